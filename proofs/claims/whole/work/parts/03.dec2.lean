theorem dX5_init_0 : decode cX5_init 0 = .ok (.aload_n 0, 1) := by decide +kernel
theorem dX5_init_1 : decode cX5_init 1 = .ok (.invokespecial 3, 3) := by decide +kernel
theorem dX5_init_4 : decode cX5_init 4 = .ok (.aload_n 0, 1) := by decide +kernel
theorem dX5_init_5 : decode cX5_init 5 = .ok (.iconst 0, 1) := by decide +kernel
theorem dX5_init_6 : decode cX5_init 6 = .ok (.putfield 9, 3) := by decide +kernel
theorem dX5_init_9 : decode cX5_init 9 = .ok (.aload_n 0, 1) := by decide +kernel
theorem dX5_init_10 : decode cX5_init 10 = .ok (.iconst 0, 1) := by decide +kernel
theorem dX5_init_11 : decode cX5_init 11 = .ok (.putfield 15, 3) := by decide +kernel
theorem dX5_init_14 : decode cX5_init 14 = .ok (.aload_n 0, 1) := by decide +kernel
theorem dX5_init_15 : decode cX5_init 15 = .ok (.iconst (-1), 1) := by decide +kernel
theorem dX5_init_16 : decode cX5_init 16 = .ok (.putfield 18, 3) := by decide +kernel
theorem dX5_init_19 : decode cX5_init 19 = .ok (.aload_n 0, 1) := by decide +kernel
theorem dX5_init_20 : decode cX5_init 20 = .ok (.sipush 600, 3) := by decide +kernel
theorem dX5_init_23 : decode cX5_init 23 = .ok (.newarray .byte, 2) := by decide +kernel
theorem dX5_init_25 : decode cX5_init 25 = .ok (.putfield 21, 3) := by decide +kernel
theorem dX5_init_28 : decode cX5_init 28 = .ok (.aload_n 0, 1) := by decide +kernel
theorem dX5_init_29 : decode cX5_init 29 = .ok (.iconst 0, 1) := by decide +kernel
theorem dX5_init_30 : decode cX5_init 30 = .ok (.putfield 25, 3) := by decide +kernel
theorem dX5_init_33 : decode cX5_init 33 = .ok (.aload_n 0, 1) := by decide +kernel
theorem dX5_init_34 : decode cX5_init 34 = .ok (.new 28, 3) := by decide +kernel
theorem dX5_init_37 : decode cX5_init 37 = .ok (.dup, 1) := by decide +kernel
theorem dX5_init_38 : decode cX5_init 38 = .ok (.invokespecial 30, 3) := by decide +kernel
theorem dX5_init_41 : decode cX5_init 41 = .ok (.putfield 31, 3) := by decide +kernel
theorem dX5_init_44 : decode cX5_init 44 = .ok (.aload_n 0, 1) := by decide +kernel
theorem dX5_init_45 : decode cX5_init 45 = .ok (.iconst 0, 1) := by decide +kernel
theorem dX5_init_46 : decode cX5_init 46 = .ok (.putfield 35, 3) := by decide +kernel
theorem dX5_init_49 : decode cX5_init 49 = .ok (.aload_n 0, 1) := by decide +kernel
theorem dX5_init_50 : decode cX5_init 50 = .ok (.iconst 0, 1) := by decide +kernel
theorem dX5_init_51 : decode cX5_init 51 = .ok (.putfield 38, 3) := by decide +kernel
theorem dX5_init_54 : decode cX5_init 54 = .ok (.aload_n 0, 1) := by decide +kernel
theorem dX5_init_55 : decode cX5_init 55 = .ok (.iconst 0, 1) := by decide +kernel
theorem dX5_init_56 : decode cX5_init 56 = .ok (.putfield 41, 3) := by decide +kernel
theorem dX5_init_59 : decode cX5_init 59 = .ok (.return_, 1) := by decide +kernel
theorem dX5_takeBytes_0 : decode cX5_takeBytes 0 = .ok (.iload_n 1, 1) := by decide +kernel
theorem dX5_takeBytes_1 : decode cX5_takeBytes 1 = .ok (.iconst 1, 1) := by decide +kernel
theorem dX5_takeBytes_2 : decode cX5_takeBytes 2 = .ok (.isub, 1) := by decide +kernel
theorem dX5_takeBytes_3 : decode cX5_takeBytes 3 = .ok (.istore 4, 2) := by decide +kernel
theorem dX5_takeBytes_5 : decode cX5_takeBytes 5 = .ok (.iload 4, 2) := by decide +kernel
theorem dX5_takeBytes_7 : decode cX5_takeBytes 7 = .ok (.ifCond .lt 49, 3) := by decide +kernel
theorem dX5_takeBytes_10 : decode cX5_takeBytes 10 = .ok (.aload_n 0, 1) := by decide +kernel
theorem dX5_takeBytes_11 : decode cX5_takeBytes 11 = .ok (.getfield 9, 3) := by decide +kernel
theorem dX5_takeBytes_14 : decode cX5_takeBytes 14 = .ok (.aload_n 0, 1) := by decide +kernel
theorem dX5_takeBytes_15 : decode cX5_takeBytes 15 = .ok (.getfield 21, 3) := by decide +kernel
theorem dX5_takeBytes_18 : decode cX5_takeBytes 18 = .ok (.arraylength, 1) := by decide +kernel
theorem dX5_takeBytes_19 : decode cX5_takeBytes 19 = .ok (.if_icmp .ge 37, 3) := by decide +kernel
theorem dX5_takeBytes_22 : decode cX5_takeBytes 22 = .ok (.aload_n 0, 1) := by decide +kernel
theorem dX5_takeBytes_23 : decode cX5_takeBytes 23 = .ok (.getfield 21, 3) := by decide +kernel
theorem dX5_takeBytes_26 : decode cX5_takeBytes 26 = .ok (.aload_n 0, 1) := by decide +kernel
theorem dX5_takeBytes_27 : decode cX5_takeBytes 27 = .ok (.getfield 9, 3) := by decide +kernel
theorem dX5_takeBytes_30 : decode cX5_takeBytes 30 = .ok (.lload_n 2, 1) := by decide +kernel
theorem dX5_takeBytes_31 : decode cX5_takeBytes 31 = .ok (.bipush 8, 2) := by decide +kernel
theorem dX5_takeBytes_33 : decode cX5_takeBytes 33 = .ok (.iload 4, 2) := by decide +kernel
theorem dX5_takeBytes_35 : decode cX5_takeBytes 35 = .ok (.imul, 1) := by decide +kernel
theorem dX5_takeBytes_36 : decode cX5_takeBytes 36 = .ok (.lushr, 1) := by decide +kernel
theorem dX5_takeBytes_37 : decode cX5_takeBytes 37 = .ok (.l2i, 1) := by decide +kernel
theorem dX5_takeBytes_38 : decode cX5_takeBytes 38 = .ok (.i2b, 1) := by decide +kernel
theorem dX5_takeBytes_39 : decode cX5_takeBytes 39 = .ok (.bastore, 1) := by decide +kernel
theorem dX5_takeBytes_40 : decode cX5_takeBytes 40 = .ok (.aload_n 0, 1) := by decide +kernel
theorem dX5_takeBytes_41 : decode cX5_takeBytes 41 = .ok (.dup, 1) := by decide +kernel
theorem dX5_takeBytes_42 : decode cX5_takeBytes 42 = .ok (.getfield 9, 3) := by decide +kernel
theorem dX5_takeBytes_45 : decode cX5_takeBytes 45 = .ok (.iconst 1, 1) := by decide +kernel
theorem dX5_takeBytes_46 : decode cX5_takeBytes 46 = .ok (.iadd, 1) := by decide +kernel
theorem dX5_takeBytes_47 : decode cX5_takeBytes 47 = .ok (.putfield 9, 3) := by decide +kernel
theorem dX5_takeBytes_50 : decode cX5_takeBytes 50 = .ok (.iinc 4 (-1), 3) := by decide +kernel
theorem dX5_takeBytes_53 : decode cX5_takeBytes 53 = .ok (.goto (-48), 3) := by decide +kernel
theorem dX5_takeBytes_56 : decode cX5_takeBytes 56 = .ok (.aload_n 0, 1) := by decide +kernel
theorem dX5_takeBytes_57 : decode cX5_takeBytes 57 = .ok (.getfield 9, 3) := by decide +kernel
theorem dX5_takeBytes_60 : decode cX5_takeBytes 60 = .ok (.ireturn, 1) := by decide +kernel
theorem dX5_changeBook_0 : decode cX5_changeBook 0 = .ok (.aload_n 0, 1) := by decide +kernel
theorem dX5_changeBook_1 : decode cX5_changeBook 1 = .ok (.getfield 31, 3) := by decide +kernel
theorem dX5_changeBook_4 : decode cX5_changeBook 4 = .ok (.astore_n 2, 1) := by decide +kernel
theorem dX5_changeBook_5 : decode cX5_changeBook 5 = .ok (.aload_n 0, 1) := by decide +kernel
theorem dX5_changeBook_6 : decode cX5_changeBook 6 = .ok (.aload_n 1, 1) := by decide +kernel
theorem dX5_changeBook_7 : decode cX5_changeBook 7 = .ok (.putfield 31, 3) := by decide +kernel
theorem dX5_changeBook_10 : decode cX5_changeBook 10 = .ok (.aload_n 2, 1) := by decide +kernel
theorem dX5_changeBook_11 : decode cX5_changeBook 11 = .ok (.areturn, 1) := by decide +kernel
theorem dX5_begin_0 : decode cX5_begin 0 = .ok (.aload_n 0, 1) := by decide +kernel
theorem dX5_begin_1 : decode cX5_begin 1 = .ok (.getfield 31, 3) := by decide +kernel
theorem dX5_begin_4 : decode cX5_begin 4 = .ok (.invokevirtual 44, 3) := by decide +kernel
theorem dX5_begin_7 : decode cX5_begin 7 = .ok (.aload_n 0, 1) := by decide +kernel
theorem dX5_begin_8 : decode cX5_begin 8 = .ok (.iconst 0, 1) := by decide +kernel
theorem dX5_begin_9 : decode cX5_begin 9 = .ok (.putfield 25, 3) := by decide +kernel
theorem dX5_begin_12 : decode cX5_begin 12 = .ok (.aload_n 0, 1) := by decide +kernel
theorem dX5_begin_13 : decode cX5_begin 13 = .ok (.iconst 0, 1) := by decide +kernel
theorem dX5_begin_14 : decode cX5_begin 14 = .ok (.putfield 15, 3) := by decide +kernel
theorem dX5_begin_17 : decode cX5_begin 17 = .ok (.aload_n 0, 1) := by decide +kernel
theorem dX5_begin_18 : decode cX5_begin 18 = .ok (.iconst (-1), 1) := by decide +kernel
theorem dX5_begin_19 : decode cX5_begin 19 = .ok (.putfield 18, 3) := by decide +kernel
theorem dX5_begin_22 : decode cX5_begin 22 = .ok (.aload_n 0, 1) := by decide +kernel
theorem dX5_begin_23 : decode cX5_begin 23 = .ok (.iconst 0, 1) := by decide +kernel
theorem dX5_begin_24 : decode cX5_begin 24 = .ok (.putfield 35, 3) := by decide +kernel
theorem dX5_begin_27 : decode cX5_begin 27 = .ok (.aload_n 0, 1) := by decide +kernel
theorem dX5_begin_28 : decode cX5_begin 28 = .ok (.iconst 0, 1) := by decide +kernel
theorem dX5_begin_29 : decode cX5_begin 29 = .ok (.putfield 38, 3) := by decide +kernel
theorem dX5_begin_32 : decode cX5_begin 32 = .ok (.aload_n 0, 1) := by decide +kernel
theorem dX5_begin_33 : decode cX5_begin 33 = .ok (.iconst 0, 1) := by decide +kernel
theorem dX5_begin_34 : decode cX5_begin 34 = .ok (.putfield 41, 3) := by decide +kernel
theorem dX5_begin_37 : decode cX5_begin 37 = .ok (.return_, 1) := by decide +kernel
theorem dX5_hasMore_0 : decode cX5_hasMore 0 = .ok (.aload_n 0, 1) := by decide +kernel
theorem dX5_hasMore_1 : decode cX5_hasMore 1 = .ok (.invokevirtual 47, 3) := by decide +kernel
theorem dX5_hasMore_4 : decode cX5_hasMore 4 = .ok (.aload_n 0, 1) := by decide +kernel
theorem dX5_hasMore_5 : decode cX5_hasMore 5 = .ok (.getfield 25, 3) := by decide +kernel
theorem dX5_hasMore_8 : decode cX5_hasMore 8 = .ok (.aload_n 0, 1) := by decide +kernel
theorem dX5_hasMore_9 : decode cX5_hasMore 9 = .ok (.getfield 9, 3) := by decide +kernel
theorem dX5_hasMore_12 : decode cX5_hasMore 12 = .ok (.if_icmp .ge 14, 3) := by decide +kernel
theorem dX5_hasMore_15 : decode cX5_hasMore 15 = .ok (.aload_n 0, 1) := by decide +kernel
theorem dX5_hasMore_16 : decode cX5_hasMore 16 = .ok (.getfield 15, 3) := by decide +kernel
theorem dX5_hasMore_19 : decode cX5_hasMore 19 = .ok (.ifCond .ne 7, 3) := by decide +kernel
theorem dX5_hasMore_22 : decode cX5_hasMore 22 = .ok (.iconst 1, 1) := by decide +kernel
theorem dX5_hasMore_23 : decode cX5_hasMore 23 = .ok (.goto 4, 3) := by decide +kernel
theorem dX5_hasMore_26 : decode cX5_hasMore 26 = .ok (.iconst 0, 1) := by decide +kernel
theorem dX5_hasMore_27 : decode cX5_hasMore 27 = .ok (.ireturn, 1) := by decide +kernel
theorem dX5_fail_0 : decode cX5_fail 0 = .ok (.aload_n 0, 1) := by decide +kernel
theorem dX5_fail_1 : decode cX5_fail 1 = .ok (.getfield 15, 3) := by decide +kernel
theorem dX5_fail_4 : decode cX5_fail 4 = .ok (.ifCond .ne 13, 3) := by decide +kernel
theorem dX5_fail_7 : decode cX5_fail 7 = .ok (.aload_n 0, 1) := by decide +kernel
theorem dX5_fail_8 : decode cX5_fail 8 = .ok (.iload_n 1, 1) := by decide +kernel
theorem dX5_fail_9 : decode cX5_fail 9 = .ok (.putfield 15, 3) := by decide +kernel
theorem dX5_fail_12 : decode cX5_fail 12 = .ok (.aload_n 0, 1) := by decide +kernel
theorem dX5_fail_13 : decode cX5_fail 13 = .ok (.iload_n 2, 1) := by decide +kernel
theorem dX5_fail_14 : decode cX5_fail 14 = .ok (.putfield 18, 3) := by decide +kernel
theorem dX5_fail_17 : decode cX5_fail 17 = .ok (.iconst (-1), 1) := by decide +kernel
theorem dX5_fail_18 : decode cX5_fail 18 = .ok (.ireturn, 1) := by decide +kernel
theorem dX5_byteHere_0 : decode cX5_byteHere 0 = .ok (.aload_n 0, 1) := by decide +kernel
theorem dX5_byteHere_1 : decode cX5_byteHere 1 = .ok (.getfield 25, 3) := by decide +kernel
theorem dX5_byteHere_4 : decode cX5_byteHere 4 = .ok (.aload_n 0, 1) := by decide +kernel
theorem dX5_byteHere_5 : decode cX5_byteHere 5 = .ok (.getfield 9, 3) := by decide +kernel
theorem dX5_byteHere_8 : decode cX5_byteHere 8 = .ok (.if_icmp .ge 15, 3) := by decide +kernel
theorem dX5_byteHere_11 : decode cX5_byteHere 11 = .ok (.aload_n 0, 1) := by decide +kernel
theorem dX5_byteHere_12 : decode cX5_byteHere 12 = .ok (.getfield 21, 3) := by decide +kernel
theorem dX5_byteHere_15 : decode cX5_byteHere 15 = .ok (.aload_n 0, 1) := by decide +kernel
theorem dX5_byteHere_16 : decode cX5_byteHere 16 = .ok (.getfield 25, 3) := by decide +kernel
theorem dX5_byteHere_19 : decode cX5_byteHere 19 = .ok (.baload, 1) := by decide +kernel
theorem dX5_byteHere_20 : decode cX5_byteHere 20 = .ok (.goto 4, 3) := by decide +kernel
theorem dX5_byteHere_23 : decode cX5_byteHere 23 = .ok (.iconst 0, 1) := by decide +kernel
theorem dX5_byteHere_24 : decode cX5_byteHere 24 = .ok (.ireturn, 1) := by decide +kernel
theorem dX5_skipBlanks_0 : decode cX5_skipBlanks 0 = .ok (.aload_n 0, 1) := by decide +kernel
theorem dX5_skipBlanks_1 : decode cX5_skipBlanks 1 = .ok (.getfield 25, 3) := by decide +kernel
theorem dX5_skipBlanks_4 : decode cX5_skipBlanks 4 = .ok (.aload_n 0, 1) := by decide +kernel
theorem dX5_skipBlanks_5 : decode cX5_skipBlanks 5 = .ok (.getfield 9, 3) := by decide +kernel
theorem dX5_skipBlanks_8 : decode cX5_skipBlanks 8 = .ok (.if_icmp .ge 30, 3) := by decide +kernel
theorem dX5_skipBlanks_11 : decode cX5_skipBlanks 11 = .ok (.aload_n 0, 1) := by decide +kernel
theorem dX5_skipBlanks_12 : decode cX5_skipBlanks 12 = .ok (.getfield 21, 3) := by decide +kernel
theorem dX5_skipBlanks_15 : decode cX5_skipBlanks 15 = .ok (.aload_n 0, 1) := by decide +kernel
theorem dX5_skipBlanks_16 : decode cX5_skipBlanks 16 = .ok (.getfield 25, 3) := by decide +kernel
theorem dX5_skipBlanks_19 : decode cX5_skipBlanks 19 = .ok (.baload, 1) := by decide +kernel
theorem dX5_skipBlanks_20 : decode cX5_skipBlanks 20 = .ok (.bipush 32, 2) := by decide +kernel
theorem dX5_skipBlanks_22 : decode cX5_skipBlanks 22 = .ok (.if_icmp .ne 16, 3) := by decide +kernel
theorem dX5_skipBlanks_25 : decode cX5_skipBlanks 25 = .ok (.aload_n 0, 1) := by decide +kernel
theorem dX5_skipBlanks_26 : decode cX5_skipBlanks 26 = .ok (.dup, 1) := by decide +kernel
theorem dX5_skipBlanks_27 : decode cX5_skipBlanks 27 = .ok (.getfield 25, 3) := by decide +kernel
theorem dX5_skipBlanks_30 : decode cX5_skipBlanks 30 = .ok (.iconst 1, 1) := by decide +kernel
theorem dX5_skipBlanks_31 : decode cX5_skipBlanks 31 = .ok (.iadd, 1) := by decide +kernel
theorem dX5_skipBlanks_32 : decode cX5_skipBlanks 32 = .ok (.putfield 25, 3) := by decide +kernel
theorem dX5_skipBlanks_35 : decode cX5_skipBlanks 35 = .ok (.goto (-35), 3) := by decide +kernel
theorem dX5_skipBlanks_38 : decode cX5_skipBlanks 38 = .ok (.return_, 1) := by decide +kernel
theorem dX5_isLetter_0 : decode cX5_isLetter 0 = .ok (.iload_n 0, 1) := by decide +kernel
theorem dX5_isLetter_1 : decode cX5_isLetter 1 = .ok (.bipush 97, 2) := by decide +kernel
theorem dX5_isLetter_3 : decode cX5_isLetter 3 = .ok (.if_icmp .lt 9, 3) := by decide +kernel
theorem dX5_isLetter_6 : decode cX5_isLetter 6 = .ok (.iload_n 0, 1) := by decide +kernel
theorem dX5_isLetter_7 : decode cX5_isLetter 7 = .ok (.bipush 122, 2) := by decide +kernel
theorem dX5_isLetter_9 : decode cX5_isLetter 9 = .ok (.if_icmp .le 9, 3) := by decide +kernel
theorem dX5_isLetter_12 : decode cX5_isLetter 12 = .ok (.iload_n 0, 1) := by decide +kernel
theorem dX5_isLetter_13 : decode cX5_isLetter 13 = .ok (.bipush 95, 2) := by decide +kernel
theorem dX5_isLetter_15 : decode cX5_isLetter 15 = .ok (.if_icmp .ne 7, 3) := by decide +kernel
theorem dX5_isLetter_18 : decode cX5_isLetter 18 = .ok (.iconst 1, 1) := by decide +kernel
theorem dX5_isLetter_19 : decode cX5_isLetter 19 = .ok (.goto 4, 3) := by decide +kernel
theorem dX5_isLetter_22 : decode cX5_isLetter 22 = .ok (.iconst 0, 1) := by decide +kernel
theorem dX5_isLetter_23 : decode cX5_isLetter 23 = .ok (.ireturn, 1) := by decide +kernel
theorem dX5_isFigure_0 : decode cX5_isFigure 0 = .ok (.iload_n 0, 1) := by decide +kernel
theorem dX5_isFigure_1 : decode cX5_isFigure 1 = .ok (.bipush 48, 2) := by decide +kernel
theorem dX5_isFigure_3 : decode cX5_isFigure 3 = .ok (.if_icmp .lt 13, 3) := by decide +kernel
theorem dX5_isFigure_6 : decode cX5_isFigure 6 = .ok (.iload_n 0, 1) := by decide +kernel
theorem dX5_isFigure_7 : decode cX5_isFigure 7 = .ok (.bipush 57, 2) := by decide +kernel
theorem dX5_isFigure_9 : decode cX5_isFigure 9 = .ok (.if_icmp .gt 7, 3) := by decide +kernel
theorem dX5_isFigure_12 : decode cX5_isFigure 12 = .ok (.iconst 1, 1) := by decide +kernel
theorem dX5_isFigure_13 : decode cX5_isFigure 13 = .ok (.goto 4, 3) := by decide +kernel
theorem dX5_isFigure_16 : decode cX5_isFigure 16 = .ok (.iconst 0, 1) := by decide +kernel
theorem dX5_isFigure_17 : decode cX5_isFigure 17 = .ok (.ireturn, 1) := by decide +kernel
theorem dX5_skipWord_0 : decode cX5_skipWord 0 = .ok (.aload_n 0, 1) := by decide +kernel
theorem dX5_skipWord_1 : decode cX5_skipWord 1 = .ok (.getfield 25, 3) := by decide +kernel
theorem dX5_skipWord_4 : decode cX5_skipWord 4 = .ok (.aload_n 0, 1) := by decide +kernel
theorem dX5_skipWord_5 : decode cX5_skipWord 5 = .ok (.getfield 9, 3) := by decide +kernel
theorem dX5_skipWord_8 : decode cX5_skipWord 8 = .ok (.if_icmp .ge 31, 3) := by decide +kernel
theorem dX5_skipWord_11 : decode cX5_skipWord 11 = .ok (.aload_n 0, 1) := by decide +kernel
theorem dX5_skipWord_12 : decode cX5_skipWord 12 = .ok (.getfield 21, 3) := by decide +kernel
theorem dX5_skipWord_15 : decode cX5_skipWord 15 = .ok (.aload_n 0, 1) := by decide +kernel
theorem dX5_skipWord_16 : decode cX5_skipWord 16 = .ok (.getfield 25, 3) := by decide +kernel
theorem dX5_skipWord_19 : decode cX5_skipWord 19 = .ok (.baload, 1) := by decide +kernel
theorem dX5_skipWord_20 : decode cX5_skipWord 20 = .ok (.invokestatic 50, 3) := by decide +kernel
theorem dX5_skipWord_23 : decode cX5_skipWord 23 = .ok (.ifCond .eq 16, 3) := by decide +kernel
theorem dX5_skipWord_26 : decode cX5_skipWord 26 = .ok (.aload_n 0, 1) := by decide +kernel
theorem dX5_skipWord_27 : decode cX5_skipWord 27 = .ok (.dup, 1) := by decide +kernel
theorem dX5_skipWord_28 : decode cX5_skipWord 28 = .ok (.getfield 25, 3) := by decide +kernel
theorem dX5_skipWord_31 : decode cX5_skipWord 31 = .ok (.iconst 1, 1) := by decide +kernel
theorem dX5_skipWord_32 : decode cX5_skipWord 32 = .ok (.iadd, 1) := by decide +kernel
theorem dX5_skipWord_33 : decode cX5_skipWord 33 = .ok (.putfield 25, 3) := by decide +kernel
theorem dX5_skipWord_36 : decode cX5_skipWord 36 = .ok (.goto (-36), 3) := by decide +kernel
theorem dX5_skipWord_39 : decode cX5_skipWord 39 = .ok (.return_, 1) := by decide +kernel
theorem dX5_skipNumber_0 : decode cX5_skipNumber 0 = .ok (.aload_n 0, 1) := by decide +kernel
theorem dX5_skipNumber_1 : decode cX5_skipNumber 1 = .ok (.getfield 25, 3) := by decide +kernel
theorem dX5_skipNumber_4 : decode cX5_skipNumber 4 = .ok (.aload_n 0, 1) := by decide +kernel
theorem dX5_skipNumber_5 : decode cX5_skipNumber 5 = .ok (.getfield 9, 3) := by decide +kernel
theorem dX5_skipNumber_8 : decode cX5_skipNumber 8 = .ok (.if_icmp .ge 31, 3) := by decide +kernel
theorem dX5_skipNumber_11 : decode cX5_skipNumber 11 = .ok (.aload_n 0, 1) := by decide +kernel
theorem dX5_skipNumber_12 : decode cX5_skipNumber 12 = .ok (.getfield 21, 3) := by decide +kernel
theorem dX5_skipNumber_15 : decode cX5_skipNumber 15 = .ok (.aload_n 0, 1) := by decide +kernel
theorem dX5_skipNumber_16 : decode cX5_skipNumber 16 = .ok (.getfield 25, 3) := by decide +kernel
theorem dX5_skipNumber_19 : decode cX5_skipNumber 19 = .ok (.baload, 1) := by decide +kernel
theorem dX5_skipNumber_20 : decode cX5_skipNumber 20 = .ok (.invokestatic 54, 3) := by decide +kernel
theorem dX5_skipNumber_23 : decode cX5_skipNumber 23 = .ok (.ifCond .eq 16, 3) := by decide +kernel
theorem dX5_skipNumber_26 : decode cX5_skipNumber 26 = .ok (.aload_n 0, 1) := by decide +kernel
theorem dX5_skipNumber_27 : decode cX5_skipNumber 27 = .ok (.dup, 1) := by decide +kernel
theorem dX5_skipNumber_28 : decode cX5_skipNumber 28 = .ok (.getfield 25, 3) := by decide +kernel
theorem dX5_skipNumber_31 : decode cX5_skipNumber 31 = .ok (.iconst 1, 1) := by decide +kernel
theorem dX5_skipNumber_32 : decode cX5_skipNumber 32 = .ok (.iadd, 1) := by decide +kernel
theorem dX5_skipNumber_33 : decode cX5_skipNumber 33 = .ok (.putfield 25, 3) := by decide +kernel
theorem dX5_skipNumber_36 : decode cX5_skipNumber 36 = .ok (.goto (-36), 3) := by decide +kernel
theorem dX5_skipNumber_39 : decode cX5_skipNumber 39 = .ok (.return_, 1) := by decide +kernel
theorem dX5_isWord_0 : decode cX5_isWord 0 = .ok (.iload_n 2, 1) := by decide +kernel
theorem dX5_isWord_1 : decode cX5_isWord 1 = .ok (.iload_n 1, 1) := by decide +kernel
theorem dX5_isWord_2 : decode cX5_isWord 2 = .ok (.isub, 1) := by decide +kernel
theorem dX5_isWord_3 : decode cX5_isWord 3 = .ok (.aload_n 3, 1) := by decide +kernel
theorem dX5_isWord_4 : decode cX5_isWord 4 = .ok (.invokevirtual 57, 3) := by decide +kernel
theorem dX5_isWord_7 : decode cX5_isWord 7 = .ok (.if_icmp .eq 5, 3) := by decide +kernel
theorem dX5_isWord_10 : decode cX5_isWord 10 = .ok (.iconst 0, 1) := by decide +kernel
theorem dX5_isWord_11 : decode cX5_isWord 11 = .ok (.ireturn, 1) := by decide +kernel
theorem dX5_isWord_12 : decode cX5_isWord 12 = .ok (.iconst 0, 1) := by decide +kernel
theorem dX5_isWord_13 : decode cX5_isWord 13 = .ok (.istore 4, 2) := by decide +kernel
theorem dX5_isWord_15 : decode cX5_isWord 15 = .ok (.iload 4, 2) := by decide +kernel
theorem dX5_isWord_17 : decode cX5_isWord 17 = .ok (.aload_n 3, 1) := by decide +kernel
theorem dX5_isWord_18 : decode cX5_isWord 18 = .ok (.invokevirtual 57, 3) := by decide +kernel
theorem dX5_isWord_21 : decode cX5_isWord 21 = .ok (.if_icmp .ge 29, 3) := by decide +kernel
theorem dX5_isWord_24 : decode cX5_isWord 24 = .ok (.aload_n 0, 1) := by decide +kernel
theorem dX5_isWord_25 : decode cX5_isWord 25 = .ok (.getfield 21, 3) := by decide +kernel
theorem dX5_isWord_28 : decode cX5_isWord 28 = .ok (.iload_n 1, 1) := by decide +kernel
theorem dX5_isWord_29 : decode cX5_isWord 29 = .ok (.iload 4, 2) := by decide +kernel
theorem dX5_isWord_31 : decode cX5_isWord 31 = .ok (.iadd, 1) := by decide +kernel
theorem dX5_isWord_32 : decode cX5_isWord 32 = .ok (.baload, 1) := by decide +kernel
theorem dX5_isWord_33 : decode cX5_isWord 33 = .ok (.aload_n 3, 1) := by decide +kernel
theorem dX5_isWord_34 : decode cX5_isWord 34 = .ok (.iload 4, 2) := by decide +kernel
theorem dX5_isWord_36 : decode cX5_isWord 36 = .ok (.invokevirtual 62, 3) := by decide +kernel
theorem dX5_isWord_39 : decode cX5_isWord 39 = .ok (.if_icmp .eq 5, 3) := by decide +kernel
theorem dX5_isWord_42 : decode cX5_isWord 42 = .ok (.iconst 0, 1) := by decide +kernel
theorem dX5_isWord_43 : decode cX5_isWord 43 = .ok (.ireturn, 1) := by decide +kernel
theorem dX5_isWord_44 : decode cX5_isWord 44 = .ok (.iinc 4 1, 3) := by decide +kernel
theorem dX5_isWord_47 : decode cX5_isWord 47 = .ok (.goto (-32), 3) := by decide +kernel
theorem dX5_isWord_50 : decode cX5_isWord 50 = .ok (.iconst 1, 1) := by decide +kernel
theorem dX5_isWord_51 : decode cX5_isWord 51 = .ok (.ireturn, 1) := by decide +kernel
theorem dX5_readClause_0 : decode cX5_readClause 0 = .ok (.aload_n 0, 1) := by decide +kernel
theorem dX5_readClause_1 : decode cX5_readClause 1 = .ok (.getfield 25, 3) := by decide +kernel
theorem dX5_readClause_4 : decode cX5_readClause 4 = .ok (.istore_n 1, 1) := by decide +kernel
theorem dX5_readClause_5 : decode cX5_readClause 5 = .ok (.aload_n 0, 1) := by decide +kernel
theorem dX5_readClause_6 : decode cX5_readClause 6 = .ok (.invokevirtual 66, 3) := by decide +kernel
theorem dX5_readClause_9 : decode cX5_readClause 9 = .ok (.aload_n 0, 1) := by decide +kernel
theorem dX5_readClause_10 : decode cX5_readClause 10 = .ok (.iload_n 1, 1) := by decide +kernel
theorem dX5_readClause_11 : decode cX5_readClause 11 = .ok (.aload_n 0, 1) := by decide +kernel
theorem dX5_readClause_12 : decode cX5_readClause 12 = .ok (.getfield 25, 3) := by decide +kernel
theorem dX5_readClause_15 : decode cX5_readClause 15 = .ok (.invokevirtual 69, 3) := by decide +kernel
theorem dX5_readClause_18 : decode cX5_readClause 18 = .ok (.istore_n 2, 1) := by decide +kernel
theorem dX5_readClause_19 : decode cX5_readClause 19 = .ok (.iload_n 2, 1) := by decide +kernel
theorem dX5_readClause_20 : decode cX5_readClause 20 = .ok (.iconst (-1), 1) := by decide +kernel
theorem dX5_readClause_21 : decode cX5_readClause 21 = .ok (.if_icmp .ne 13, 3) := by decide +kernel
theorem dX5_readClause_24 : decode cX5_readClause 24 = .ok (.aload_n 0, 1) := by decide +kernel
theorem dX5_readClause_25 : decode cX5_readClause 25 = .ok (.iconst 1, 1) := by decide +kernel
theorem dX5_readClause_26 : decode cX5_readClause 26 = .ok (.iload_n 1, 1) := by decide +kernel
theorem dX5_readClause_27 : decode cX5_readClause 27 = .ok (.invokevirtual 73, 3) := by decide +kernel
theorem dX5_readClause_30 : decode cX5_readClause 30 = .ok (.pop, 1) := by decide +kernel
theorem dX5_readClause_31 : decode cX5_readClause 31 = .ok (.goto 49, 3) := by decide +kernel
theorem dX5_readClause_34 : decode cX5_readClause 34 = .ok (.aload_n 0, 1) := by decide +kernel
theorem dX5_readClause_35 : decode cX5_readClause 35 = .ok (.iload_n 2, 1) := by decide +kernel
theorem dX5_readClause_36 : decode cX5_readClause 36 = .ok (.invokevirtual 76, 3) := by decide +kernel
theorem dX5_readClause_39 : decode cX5_readClause 39 = .ok (.ifCond .eq 13, 3) := by decide +kernel
theorem dX5_readClause_42 : decode cX5_readClause 42 = .ok (.aload_n 0, 1) := by decide +kernel
theorem dX5_readClause_43 : decode cX5_readClause 43 = .ok (.iconst 5, 1) := by decide +kernel
theorem dX5_readClause_44 : decode cX5_readClause 44 = .ok (.iload_n 1, 1) := by decide +kernel
theorem dX5_readClause_45 : decode cX5_readClause 45 = .ok (.invokevirtual 73, 3) := by decide +kernel
theorem dX5_readClause_48 : decode cX5_readClause 48 = .ok (.pop, 1) := by decide +kernel
theorem dX5_readClause_49 : decode cX5_readClause 49 = .ok (.goto 31, 3) := by decide +kernel
theorem dX5_readClause_52 : decode cX5_readClause 52 = .ok (.iload_n 2, 1) := by decide +kernel
theorem dX5_readClause_53 : decode cX5_readClause 53 = .ok (.ifCond .ne 10, 3) := by decide +kernel
theorem dX5_readClause_56 : decode cX5_readClause 56 = .ok (.aload_n 0, 1) := by decide +kernel
theorem dX5_readClause_57 : decode cX5_readClause 57 = .ok (.invokevirtual 79, 3) := by decide +kernel
theorem dX5_readClause_60 : decode cX5_readClause 60 = .ok (.goto 20, 3) := by decide +kernel
theorem dX5_readClause_63 : decode cX5_readClause 63 = .ok (.iload_n 2, 1) := by decide +kernel
theorem dX5_readClause_64 : decode cX5_readClause 64 = .ok (.iconst 3, 1) := by decide +kernel
theorem dX5_readClause_65 : decode cX5_readClause 65 = .ok (.if_icmp .ne 10, 3) := by decide +kernel
theorem dX5_readClause_68 : decode cX5_readClause 68 = .ok (.aload_n 0, 1) := by decide +kernel
theorem dX5_readClause_69 : decode cX5_readClause 69 = .ok (.invokevirtual 82, 3) := by decide +kernel
theorem dX5_readClause_72 : decode cX5_readClause 72 = .ok (.goto 8, 3) := by decide +kernel
theorem dX5_readClause_75 : decode cX5_readClause 75 = .ok (.aload_n 0, 1) := by decide +kernel
theorem dX5_readClause_76 : decode cX5_readClause 76 = .ok (.iload_n 2, 1) := by decide +kernel
theorem dX5_readClause_77 : decode cX5_readClause 77 = .ok (.invokevirtual 85, 3) := by decide +kernel
theorem dX5_readClause_80 : decode cX5_readClause 80 = .ok (.aload_n 0, 1) := by decide +kernel
theorem dX5_readClause_81 : decode cX5_readClause 81 = .ok (.getfield 15, 3) := by decide +kernel
theorem dX5_readClause_84 : decode cX5_readClause 84 = .ok (.ifCond .ne 7, 3) := by decide +kernel
theorem dX5_readClause_87 : decode cX5_readClause 87 = .ok (.aload_n 0, 1) := by decide +kernel
theorem dX5_readClause_88 : decode cX5_readClause 88 = .ok (.invokevirtual 89, 3) := by decide +kernel
theorem dX5_readClause_91 : decode cX5_readClause 91 = .ok (.return_, 1) := by decide +kernel
theorem dX5_kindOf_0 : decode cX5_kindOf 0 = .ok (.aload_n 0, 1) := by decide +kernel
theorem dX5_kindOf_1 : decode cX5_kindOf 1 = .ok (.iload_n 1, 1) := by decide +kernel
theorem dX5_kindOf_2 : decode cX5_kindOf 2 = .ok (.iload_n 2, 1) := by decide +kernel
theorem dX5_kindOf_3 : decode cX5_kindOf 3 = .ok (.ldc 92, 2) := by decide +kernel
theorem dX5_kindOf_5 : decode cX5_kindOf 5 = .ok (.invokevirtual 94, 3) := by decide +kernel
theorem dX5_kindOf_8 : decode cX5_kindOf 8 = .ok (.ifCond .eq 5, 3) := by decide +kernel
theorem dX5_kindOf_11 : decode cX5_kindOf 11 = .ok (.iconst 0, 1) := by decide +kernel
theorem dX5_kindOf_12 : decode cX5_kindOf 12 = .ok (.ireturn, 1) := by decide +kernel
theorem dX5_kindOf_13 : decode cX5_kindOf 13 = .ok (.aload_n 0, 1) := by decide +kernel
theorem dX5_kindOf_14 : decode cX5_kindOf 14 = .ok (.iload_n 1, 1) := by decide +kernel
theorem dX5_kindOf_15 : decode cX5_kindOf 15 = .ok (.iload_n 2, 1) := by decide +kernel
theorem dX5_kindOf_16 : decode cX5_kindOf 16 = .ok (.ldc 98, 2) := by decide +kernel
theorem dX5_kindOf_18 : decode cX5_kindOf 18 = .ok (.invokevirtual 94, 3) := by decide +kernel
theorem dX5_kindOf_21 : decode cX5_kindOf 21 = .ok (.ifCond .eq 5, 3) := by decide +kernel
theorem dX5_kindOf_24 : decode cX5_kindOf 24 = .ok (.iconst 1, 1) := by decide +kernel
theorem dX5_kindOf_25 : decode cX5_kindOf 25 = .ok (.ireturn, 1) := by decide +kernel
theorem dX5_kindOf_26 : decode cX5_kindOf 26 = .ok (.aload_n 0, 1) := by decide +kernel
theorem dX5_kindOf_27 : decode cX5_kindOf 27 = .ok (.iload_n 1, 1) := by decide +kernel
theorem dX5_kindOf_28 : decode cX5_kindOf 28 = .ok (.iload_n 2, 1) := by decide +kernel
theorem dX5_kindOf_29 : decode cX5_kindOf 29 = .ok (.ldc 100, 2) := by decide +kernel
theorem dX5_kindOf_31 : decode cX5_kindOf 31 = .ok (.invokevirtual 94, 3) := by decide +kernel
theorem dX5_kindOf_34 : decode cX5_kindOf 34 = .ok (.ifCond .eq 5, 3) := by decide +kernel
theorem dX5_kindOf_37 : decode cX5_kindOf 37 = .ok (.iconst 2, 1) := by decide +kernel
theorem dX5_kindOf_38 : decode cX5_kindOf 38 = .ok (.ireturn, 1) := by decide +kernel
theorem dX5_kindOf_39 : decode cX5_kindOf 39 = .ok (.aload_n 0, 1) := by decide +kernel
theorem dX5_kindOf_40 : decode cX5_kindOf 40 = .ok (.iload_n 1, 1) := by decide +kernel
theorem dX5_kindOf_41 : decode cX5_kindOf 41 = .ok (.iload_n 2, 1) := by decide +kernel
theorem dX5_kindOf_42 : decode cX5_kindOf 42 = .ok (.ldc 102, 2) := by decide +kernel
theorem dX5_kindOf_44 : decode cX5_kindOf 44 = .ok (.invokevirtual 94, 3) := by decide +kernel
theorem dX5_kindOf_47 : decode cX5_kindOf 47 = .ok (.ifCond .eq 7, 3) := by decide +kernel
theorem dX5_kindOf_50 : decode cX5_kindOf 50 = .ok (.iconst 3, 1) := by decide +kernel
theorem dX5_kindOf_51 : decode cX5_kindOf 51 = .ok (.goto 4, 3) := by decide +kernel
theorem dX5_kindOf_54 : decode cX5_kindOf 54 = .ok (.iconst (-1), 1) := by decide +kernel
theorem dX5_kindOf_55 : decode cX5_kindOf 55 = .ok (.ireturn, 1) := by decide +kernel
theorem dX5_isOneTooMany_0 : decode cX5_isOneTooMany 0 = .ok (.iload_n 1, 1) := by decide +kernel
theorem dX5_isOneTooMany_1 : decode cX5_isOneTooMany 1 = .ok (.tableswitch 75 0 2 #[27, 45, 60], 27) := by decide +kernel
theorem dX5_isOneTooMany_28 : decode cX5_isOneTooMany 28 = .ok (.aload_n 0, 1) := by decide +kernel
theorem dX5_isOneTooMany_29 : decode cX5_isOneTooMany 29 = .ok (.getfield 31, 3) := by decide +kernel
theorem dX5_isOneTooMany_32 : decode cX5_isOneTooMany 32 = .ok (.getfield 104, 3) := by decide +kernel
theorem dX5_isOneTooMany_35 : decode cX5_isOneTooMany 35 = .ok (.bipush 60, 2) := by decide +kernel
theorem dX5_isOneTooMany_37 : decode cX5_isOneTooMany 37 = .ok (.if_icmp .lt 7, 3) := by decide +kernel
theorem dX5_isOneTooMany_40 : decode cX5_isOneTooMany 40 = .ok (.iconst 1, 1) := by decide +kernel
theorem dX5_isOneTooMany_41 : decode cX5_isOneTooMany 41 = .ok (.goto 4, 3) := by decide +kernel
theorem dX5_isOneTooMany_44 : decode cX5_isOneTooMany 44 = .ok (.iconst 0, 1) := by decide +kernel
theorem dX5_isOneTooMany_45 : decode cX5_isOneTooMany 45 = .ok (.ireturn, 1) := by decide +kernel
theorem dX5_isOneTooMany_46 : decode cX5_isOneTooMany 46 = .ok (.aload_n 0, 1) := by decide +kernel
theorem dX5_isOneTooMany_47 : decode cX5_isOneTooMany 47 = .ok (.getfield 35, 3) := by decide +kernel
theorem dX5_isOneTooMany_50 : decode cX5_isOneTooMany 50 = .ok (.bipush 8, 2) := by decide +kernel
theorem dX5_isOneTooMany_52 : decode cX5_isOneTooMany 52 = .ok (.if_icmp .lt 7, 3) := by decide +kernel
theorem dX5_isOneTooMany_55 : decode cX5_isOneTooMany 55 = .ok (.iconst 1, 1) := by decide +kernel
theorem dX5_isOneTooMany_56 : decode cX5_isOneTooMany 56 = .ok (.goto 4, 3) := by decide +kernel
theorem dX5_isOneTooMany_59 : decode cX5_isOneTooMany 59 = .ok (.iconst 0, 1) := by decide +kernel
theorem dX5_isOneTooMany_60 : decode cX5_isOneTooMany 60 = .ok (.ireturn, 1) := by decide +kernel
theorem dX5_isOneTooMany_61 : decode cX5_isOneTooMany 61 = .ok (.aload_n 0, 1) := by decide +kernel
theorem dX5_isOneTooMany_62 : decode cX5_isOneTooMany 62 = .ok (.getfield 38, 3) := by decide +kernel
theorem dX5_isOneTooMany_65 : decode cX5_isOneTooMany 65 = .ok (.bipush 8, 2) := by decide +kernel
theorem dX5_isOneTooMany_67 : decode cX5_isOneTooMany 67 = .ok (.if_icmp .lt 7, 3) := by decide +kernel
theorem dX5_isOneTooMany_70 : decode cX5_isOneTooMany 70 = .ok (.iconst 1, 1) := by decide +kernel
theorem dX5_isOneTooMany_71 : decode cX5_isOneTooMany 71 = .ok (.goto 4, 3) := by decide +kernel
theorem dX5_isOneTooMany_74 : decode cX5_isOneTooMany 74 = .ok (.iconst 0, 1) := by decide +kernel
theorem dX5_isOneTooMany_75 : decode cX5_isOneTooMany 75 = .ok (.ireturn, 1) := by decide +kernel
theorem dX5_isOneTooMany_76 : decode cX5_isOneTooMany 76 = .ok (.iconst 0, 1) := by decide +kernel
theorem dX5_isOneTooMany_77 : decode cX5_isOneTooMany 77 = .ok (.ireturn, 1) := by decide +kernel
theorem dX5_readEnd_0 : decode cX5_readEnd 0 = .ok (.aload_n 0, 1) := by decide +kernel
theorem dX5_readEnd_1 : decode cX5_readEnd 1 = .ok (.invokevirtual 47, 3) := by decide +kernel
theorem dX5_readEnd_4 : decode cX5_readEnd 4 = .ok (.aload_n 0, 1) := by decide +kernel
theorem dX5_readEnd_5 : decode cX5_readEnd 5 = .ok (.invokevirtual 107, 3) := by decide +kernel
theorem dX5_readEnd_8 : decode cX5_readEnd 8 = .ok (.bipush 59, 2) := by decide +kernel
theorem dX5_readEnd_10 : decode cX5_readEnd 10 = .ok (.if_icmp .ne 16, 3) := by decide +kernel
theorem dX5_readEnd_13 : decode cX5_readEnd 13 = .ok (.aload_n 0, 1) := by decide +kernel
theorem dX5_readEnd_14 : decode cX5_readEnd 14 = .ok (.dup, 1) := by decide +kernel
theorem dX5_readEnd_15 : decode cX5_readEnd 15 = .ok (.getfield 25, 3) := by decide +kernel
theorem dX5_readEnd_18 : decode cX5_readEnd 18 = .ok (.iconst 1, 1) := by decide +kernel
theorem dX5_readEnd_19 : decode cX5_readEnd 19 = .ok (.iadd, 1) := by decide +kernel
theorem dX5_readEnd_20 : decode cX5_readEnd 20 = .ok (.putfield 25, 3) := by decide +kernel
theorem dX5_readEnd_23 : decode cX5_readEnd 23 = .ok (.goto 13, 3) := by decide +kernel
theorem dX5_readEnd_26 : decode cX5_readEnd 26 = .ok (.aload_n 0, 1) := by decide +kernel
theorem dX5_readEnd_27 : decode cX5_readEnd 27 = .ok (.iconst 1, 1) := by decide +kernel
theorem dX5_readEnd_28 : decode cX5_readEnd 28 = .ok (.aload_n 0, 1) := by decide +kernel
theorem dX5_readEnd_29 : decode cX5_readEnd 29 = .ok (.getfield 25, 3) := by decide +kernel
theorem dX5_readEnd_32 : decode cX5_readEnd 32 = .ok (.invokevirtual 73, 3) := by decide +kernel
theorem dX5_readEnd_35 : decode cX5_readEnd 35 = .ok (.pop, 1) := by decide +kernel
theorem dX5_readEnd_36 : decode cX5_readEnd 36 = .ok (.return_, 1) := by decide +kernel
theorem dX5_readMark_0 : decode cX5_readMark 0 = .ok (.aload_n 0, 1) := by decide +kernel
theorem dX5_readMark_1 : decode cX5_readMark 1 = .ok (.invokevirtual 110, 3) := by decide +kernel
theorem dX5_readMark_4 : decode cX5_readMark 4 = .ok (.istore_n 1, 1) := by decide +kernel
theorem dX5_readMark_5 : decode cX5_readMark 5 = .ok (.iconst (-1), 1) := by decide +kernel
theorem dX5_readMark_6 : decode cX5_readMark 6 = .ok (.istore_n 2, 1) := by decide +kernel
theorem dX5_readMark_7 : decode cX5_readMark 7 = .ok (.aload_n 0, 1) := by decide +kernel
theorem dX5_readMark_8 : decode cX5_readMark 8 = .ok (.invokevirtual 47, 3) := by decide +kernel
theorem dX5_readMark_11 : decode cX5_readMark 11 = .ok (.aload_n 0, 1) := by decide +kernel
theorem dX5_readMark_12 : decode cX5_readMark 12 = .ok (.getfield 15, 3) := by decide +kernel
theorem dX5_readMark_15 : decode cX5_readMark 15 = .ok (.ifCond .ne 28, 3) := by decide +kernel
theorem dX5_readMark_18 : decode cX5_readMark 18 = .ok (.aload_n 0, 1) := by decide +kernel
theorem dX5_readMark_19 : decode cX5_readMark 19 = .ok (.invokevirtual 107, 3) := by decide +kernel
theorem dX5_readMark_22 : decode cX5_readMark 22 = .ok (.bipush 47, 2) := by decide +kernel
theorem dX5_readMark_24 : decode cX5_readMark 24 = .ok (.if_icmp .ne 19, 3) := by decide +kernel
theorem dX5_readMark_27 : decode cX5_readMark 27 = .ok (.aload_n 0, 1) := by decide +kernel
theorem dX5_readMark_28 : decode cX5_readMark 28 = .ok (.dup, 1) := by decide +kernel
theorem dX5_readMark_29 : decode cX5_readMark 29 = .ok (.getfield 25, 3) := by decide +kernel
theorem dX5_readMark_32 : decode cX5_readMark 32 = .ok (.iconst 1, 1) := by decide +kernel
theorem dX5_readMark_33 : decode cX5_readMark 33 = .ok (.iadd, 1) := by decide +kernel
theorem dX5_readMark_34 : decode cX5_readMark 34 = .ok (.putfield 25, 3) := by decide +kernel
theorem dX5_readMark_37 : decode cX5_readMark 37 = .ok (.aload_n 0, 1) := by decide +kernel
theorem dX5_readMark_38 : decode cX5_readMark 38 = .ok (.iload_n 1, 1) := by decide +kernel
theorem dX5_readMark_39 : decode cX5_readMark 39 = .ok (.invokevirtual 113, 3) := by decide +kernel
theorem dX5_readMark_42 : decode cX5_readMark 42 = .ok (.istore_n 2, 1) := by decide +kernel
theorem dX5_readMark_43 : decode cX5_readMark 43 = .ok (.aload_n 0, 1) := by decide +kernel
theorem dX5_readMark_44 : decode cX5_readMark 44 = .ok (.iconst 1, 1) := by decide +kernel
theorem dX5_readMark_45 : decode cX5_readMark 45 = .ok (.bipush 99, 2) := by decide +kernel
theorem dX5_readMark_47 : decode cX5_readMark 47 = .ok (.invokevirtual 117, 3) := by decide +kernel
theorem dX5_readMark_50 : decode cX5_readMark 50 = .ok (.istore_n 3, 1) := by decide +kernel
theorem dX5_readMark_51 : decode cX5_readMark 51 = .ok (.iload_n 3, 1) := by decide +kernel
theorem dX5_readMark_52 : decode cX5_readMark 52 = .ok (.istore 4, 2) := by decide +kernel
theorem dX5_readMark_54 : decode cX5_readMark 54 = .ok (.aload_n 0, 1) := by decide +kernel
theorem dX5_readMark_55 : decode cX5_readMark 55 = .ok (.invokevirtual 47, 3) := by decide +kernel
theorem dX5_readMark_58 : decode cX5_readMark 58 = .ok (.aload_n 0, 1) := by decide +kernel
theorem dX5_readMark_59 : decode cX5_readMark 59 = .ok (.getfield 15, 3) := by decide +kernel
theorem dX5_readMark_62 : decode cX5_readMark 62 = .ok (.ifCond .ne 33, 3) := by decide +kernel
theorem dX5_readMark_65 : decode cX5_readMark 65 = .ok (.aload_n 0, 1) := by decide +kernel
theorem dX5_readMark_66 : decode cX5_readMark 66 = .ok (.invokevirtual 107, 3) := by decide +kernel
theorem dX5_readMark_69 : decode cX5_readMark 69 = .ok (.bipush 45, 2) := by decide +kernel
theorem dX5_readMark_71 : decode cX5_readMark 71 = .ok (.if_icmp .ne 24, 3) := by decide +kernel
theorem dX5_readMark_74 : decode cX5_readMark 74 = .ok (.aload_n 0, 1) := by decide +kernel
theorem dX5_readMark_75 : decode cX5_readMark 75 = .ok (.dup, 1) := by decide +kernel
theorem dX5_readMark_76 : decode cX5_readMark 76 = .ok (.getfield 25, 3) := by decide +kernel
theorem dX5_readMark_79 : decode cX5_readMark 79 = .ok (.iconst 1, 1) := by decide +kernel
theorem dX5_readMark_80 : decode cX5_readMark 80 = .ok (.iadd, 1) := by decide +kernel
theorem dX5_readMark_81 : decode cX5_readMark 81 = .ok (.putfield 25, 3) := by decide +kernel
theorem dX5_readMark_84 : decode cX5_readMark 84 = .ok (.aload_n 0, 1) := by decide +kernel
theorem dX5_readMark_85 : decode cX5_readMark 85 = .ok (.iload_n 3, 1) := by decide +kernel
theorem dX5_readMark_86 : decode cX5_readMark 86 = .ok (.iconst 1, 1) := by decide +kernel
theorem dX5_readMark_87 : decode cX5_readMark 87 = .ok (.iadd, 1) := by decide +kernel
theorem dX5_readMark_88 : decode cX5_readMark 88 = .ok (.bipush 99, 2) := by decide +kernel
theorem dX5_readMark_90 : decode cX5_readMark 90 = .ok (.invokevirtual 117, 3) := by decide +kernel
theorem dX5_readMark_93 : decode cX5_readMark 93 = .ok (.istore 4, 2) := by decide +kernel
theorem dX5_readMark_95 : decode cX5_readMark 95 = .ok (.aload_n 0, 1) := by decide +kernel
theorem dX5_readMark_96 : decode cX5_readMark 96 = .ok (.invokevirtual 120, 3) := by decide +kernel
theorem dX5_readMark_99 : decode cX5_readMark 99 = .ok (.istore 5, 2) := by decide +kernel
theorem dX5_readMark_101 : decode cX5_readMark 101 = .ok (.aload_n 0, 1) := by decide +kernel
theorem dX5_readMark_102 : decode cX5_readMark 102 = .ok (.getfield 15, 3) := by decide +kernel
theorem dX5_readMark_105 : decode cX5_readMark 105 = .ok (.ifCond .ne 18, 3) := by decide +kernel
theorem dX5_readMark_108 : decode cX5_readMark 108 = .ok (.aload_n 0, 1) := by decide +kernel
theorem dX5_readMark_109 : decode cX5_readMark 109 = .ok (.getfield 31, 3) := by decide +kernel
theorem dX5_readMark_112 : decode cX5_readMark 112 = .ok (.iload_n 1, 1) := by decide +kernel
theorem dX5_readMark_113 : decode cX5_readMark 113 = .ok (.iload_n 2, 1) := by decide +kernel
theorem dX5_readMark_114 : decode cX5_readMark 114 = .ok (.iload_n 3, 1) := by decide +kernel
theorem dX5_readMark_115 : decode cX5_readMark 115 = .ok (.iload 4, 2) := by decide +kernel
theorem dX5_readMark_117 : decode cX5_readMark 117 = .ok (.iload 5, 2) := by decide +kernel
theorem dX5_readMark_119 : decode cX5_readMark 119 = .ok (.invokevirtual 124, 3) := by decide +kernel
theorem dX5_readMark_122 : decode cX5_readMark 122 = .ok (.pop, 1) := by decide +kernel
theorem dX5_readMark_123 : decode cX5_readMark 123 = .ok (.return_, 1) := by decide +kernel
theorem dX5_readMain_0 : decode cX5_readMain 0 = .ok (.aload_n 0, 1) := by decide +kernel
theorem dX5_readMain_1 : decode cX5_readMain 1 = .ok (.invokevirtual 47, 3) := by decide +kernel
theorem dX5_readMain_4 : decode cX5_readMain 4 = .ok (.aload_n 0, 1) := by decide +kernel
theorem dX5_readMain_5 : decode cX5_readMain 5 = .ok (.getfield 15, 3) := by decide +kernel
theorem dX5_readMain_8 : decode cX5_readMain 8 = .ok (.ifCond .ne 13, 3) := by decide +kernel
theorem dX5_readMain_11 : decode cX5_readMain 11 = .ok (.aload_n 0, 1) := by decide +kernel
theorem dX5_readMain_12 : decode cX5_readMain 12 = .ok (.invokevirtual 107, 3) := by decide +kernel
theorem dX5_readMain_15 : decode cX5_readMain 15 = .ok (.invokestatic 50, 3) := by decide +kernel
theorem dX5_readMain_18 : decode cX5_readMain 18 = .ok (.ifCond .ne 5, 3) := by decide +kernel
theorem dX5_readMain_21 : decode cX5_readMain 21 = .ok (.iconst 0, 1) := by decide +kernel
theorem dX5_readMain_22 : decode cX5_readMain 22 = .ok (.ireturn, 1) := by decide +kernel
theorem dX5_readMain_23 : decode cX5_readMain 23 = .ok (.aload_n 0, 1) := by decide +kernel
theorem dX5_readMain_24 : decode cX5_readMain 24 = .ok (.getfield 25, 3) := by decide +kernel
theorem dX5_readMain_27 : decode cX5_readMain 27 = .ok (.istore_n 1, 1) := by decide +kernel
theorem dX5_readMain_28 : decode cX5_readMain 28 = .ok (.aload_n 0, 1) := by decide +kernel
theorem dX5_readMain_29 : decode cX5_readMain 29 = .ok (.invokevirtual 66, 3) := by decide +kernel
theorem dX5_readMain_32 : decode cX5_readMain 32 = .ok (.aload_n 0, 1) := by decide +kernel
theorem dX5_readMain_33 : decode cX5_readMain 33 = .ok (.iload_n 1, 1) := by decide +kernel
theorem dX5_readMain_34 : decode cX5_readMain 34 = .ok (.aload_n 0, 1) := by decide +kernel
theorem dX5_readMain_35 : decode cX5_readMain 35 = .ok (.getfield 25, 3) := by decide +kernel
theorem dX5_readMain_38 : decode cX5_readMain 38 = .ok (.ldc 128, 2) := by decide +kernel
theorem dX5_readMain_40 : decode cX5_readMain 40 = .ok (.invokevirtual 94, 3) := by decide +kernel
theorem dX5_readMain_43 : decode cX5_readMain 43 = .ok (.ifCond .ne 10, 3) := by decide +kernel
theorem dX5_readMain_46 : decode cX5_readMain 46 = .ok (.aload_n 0, 1) := by decide +kernel
theorem dX5_readMain_47 : decode cX5_readMain 47 = .ok (.iconst 1, 1) := by decide +kernel
theorem dX5_readMain_48 : decode cX5_readMain 48 = .ok (.iload_n 1, 1) := by decide +kernel
theorem dX5_readMain_49 : decode cX5_readMain 49 = .ok (.invokevirtual 73, 3) := by decide +kernel
theorem dX5_readMain_52 : decode cX5_readMain 52 = .ok (.pop, 1) := by decide +kernel
theorem dX5_readMain_53 : decode cX5_readMain 53 = .ok (.iconst 1, 1) := by decide +kernel
theorem dX5_readMain_54 : decode cX5_readMain 54 = .ok (.ireturn, 1) := by decide +kernel
theorem dX5_readLink_0 : decode cX5_readLink 0 = .ok (.aload_n 0, 1) := by decide +kernel
theorem dX5_readLink_1 : decode cX5_readLink 1 = .ok (.invokevirtual 110, 3) := by decide +kernel
theorem dX5_readLink_4 : decode cX5_readLink 4 = .ok (.istore_n 2, 1) := by decide +kernel
theorem dX5_readLink_5 : decode cX5_readLink 5 = .ok (.aload_n 0, 1) := by decide +kernel
theorem dX5_readLink_6 : decode cX5_readLink 6 = .ok (.getfield 15, 3) := by decide +kernel
theorem dX5_readLink_9 : decode cX5_readLink 9 = .ok (.ifCond .ne 33, 3) := by decide +kernel
theorem dX5_readLink_12 : decode cX5_readLink 12 = .ok (.iload_n 1, 1) := by decide +kernel
theorem dX5_readLink_13 : decode cX5_readLink 13 = .ok (.iconst 1, 1) := by decide +kernel
theorem dX5_readLink_14 : decode cX5_readLink 14 = .ok (.if_icmp .ne 28, 3) := by decide +kernel
theorem dX5_readLink_17 : decode cX5_readLink 17 = .ok (.aload_n 0, 1) := by decide +kernel
theorem dX5_readLink_18 : decode cX5_readLink 18 = .ok (.getfield 31, 3) := by decide +kernel
theorem dX5_readLink_21 : decode cX5_readLink 21 = .ok (.getfield 130, 3) := by decide +kernel
theorem dX5_readLink_24 : decode cX5_readLink 24 = .ok (.iload_n 2, 1) := by decide +kernel
theorem dX5_readLink_25 : decode cX5_readLink 25 = .ok (.iaload, 1) := by decide +kernel
theorem dX5_readLink_26 : decode cX5_readLink 26 = .ok (.iconst (-1), 1) := by decide +kernel
theorem dX5_readLink_27 : decode cX5_readLink 27 = .ok (.if_icmp .eq 15, 3) := by decide +kernel
theorem dX5_readLink_30 : decode cX5_readLink 30 = .ok (.aload_n 0, 1) := by decide +kernel
theorem dX5_readLink_31 : decode cX5_readLink 31 = .ok (.bipush 6, 2) := by decide +kernel
theorem dX5_readLink_33 : decode cX5_readLink 33 = .ok (.aload_n 0, 1) := by decide +kernel
theorem dX5_readLink_34 : decode cX5_readLink 34 = .ok (.iload_n 2, 1) := by decide +kernel
theorem dX5_readLink_35 : decode cX5_readLink 35 = .ok (.invokevirtual 133, 3) := by decide +kernel
theorem dX5_readLink_38 : decode cX5_readLink 38 = .ok (.invokevirtual 73, 3) := by decide +kernel
theorem dX5_readLink_41 : decode cX5_readLink 41 = .ok (.pop, 1) := by decide +kernel
theorem dX5_readLink_42 : decode cX5_readLink 42 = .ok (.aload_n 0, 1) := by decide +kernel
theorem dX5_readLink_43 : decode cX5_readLink 43 = .ok (.invokevirtual 110, 3) := by decide +kernel
theorem dX5_readLink_46 : decode cX5_readLink 46 = .ok (.istore_n 3, 1) := by decide +kernel
theorem dX5_readLink_47 : decode cX5_readLink 47 = .ok (.aload_n 0, 1) := by decide +kernel
theorem dX5_readLink_48 : decode cX5_readLink 48 = .ok (.getfield 15, 3) := by decide +kernel
theorem dX5_readLink_51 : decode cX5_readLink 51 = .ok (.ifCond .eq 4, 3) := by decide +kernel
theorem dX5_readLink_54 : decode cX5_readLink 54 = .ok (.return_, 1) := by decide +kernel
theorem dX5_readLink_55 : decode cX5_readLink 55 = .ok (.iload_n 3, 1) := by decide +kernel
theorem dX5_readLink_56 : decode cX5_readLink 56 = .ok (.iload_n 2, 1) := by decide +kernel
theorem dX5_readLink_57 : decode cX5_readLink 57 = .ok (.if_icmp .eq 24, 3) := by decide +kernel
theorem dX5_readLink_60 : decode cX5_readLink 60 = .ok (.iload_n 1, 1) := by decide +kernel
theorem dX5_readLink_61 : decode cX5_readLink 61 = .ok (.iconst 2, 1) := by decide +kernel
theorem dX5_readLink_62 : decode cX5_readLink 62 = .ok (.if_icmp .ne 34, 3) := by decide +kernel
theorem dX5_readLink_65 : decode cX5_readLink 65 = .ok (.aload_n 0, 1) := by decide +kernel
theorem dX5_readLink_66 : decode cX5_readLink 66 = .ok (.getfield 31, 3) := by decide +kernel
theorem dX5_readLink_69 : decode cX5_readLink 69 = .ok (.getfield 136, 3) := by decide +kernel
theorem dX5_readLink_72 : decode cX5_readLink 72 = .ok (.iload_n 2, 1) := by decide +kernel
theorem dX5_readLink_73 : decode cX5_readLink 73 = .ok (.iaload, 1) := by decide +kernel
theorem dX5_readLink_74 : decode cX5_readLink 74 = .ok (.iload_n 3, 1) := by decide +kernel
theorem dX5_readLink_75 : decode cX5_readLink 75 = .ok (.invokestatic 138, 3) := by decide +kernel
theorem dX5_readLink_78 : decode cX5_readLink 78 = .ok (.ifCond .eq 18, 3) := by decide +kernel
theorem dX5_readLink_81 : decode cX5_readLink 81 = .ok (.aload_n 0, 1) := by decide +kernel
theorem dX5_readLink_82 : decode cX5_readLink 82 = .ok (.bipush 6, 2) := by decide +kernel
theorem dX5_readLink_84 : decode cX5_readLink 84 = .ok (.aload_n 0, 1) := by decide +kernel
theorem dX5_readLink_85 : decode cX5_readLink 85 = .ok (.iload_n 3, 1) := by decide +kernel
theorem dX5_readLink_86 : decode cX5_readLink 86 = .ok (.invokevirtual 133, 3) := by decide +kernel
theorem dX5_readLink_89 : decode cX5_readLink 89 = .ok (.invokevirtual 73, 3) := by decide +kernel
theorem dX5_readLink_92 : decode cX5_readLink 92 = .ok (.pop, 1) := by decide +kernel
theorem dX5_readLink_93 : decode cX5_readLink 93 = .ok (.goto 56, 3) := by decide +kernel
theorem dX5_readLink_96 : decode cX5_readLink 96 = .ok (.iload_n 1, 1) := by decide +kernel
theorem dX5_readLink_97 : decode cX5_readLink 97 = .ok (.iconst 1, 1) := by decide +kernel
theorem dX5_readLink_98 : decode cX5_readLink 98 = .ok (.if_icmp .ne 26, 3) := by decide +kernel
theorem dX5_readLink_101 : decode cX5_readLink 101 = .ok (.aload_n 0, 1) := by decide +kernel
theorem dX5_readLink_102 : decode cX5_readLink 102 = .ok (.getfield 31, 3) := by decide +kernel
theorem dX5_readLink_105 : decode cX5_readLink 105 = .ok (.getfield 130, 3) := by decide +kernel
theorem dX5_readLink_108 : decode cX5_readLink 108 = .ok (.iload_n 2, 1) := by decide +kernel
theorem dX5_readLink_109 : decode cX5_readLink 109 = .ok (.iload_n 3, 1) := by decide +kernel
theorem dX5_readLink_110 : decode cX5_readLink 110 = .ok (.iastore, 1) := by decide +kernel
theorem dX5_readLink_111 : decode cX5_readLink 111 = .ok (.aload_n 0, 1) := by decide +kernel
theorem dX5_readLink_112 : decode cX5_readLink 112 = .ok (.dup, 1) := by decide +kernel
theorem dX5_readLink_113 : decode cX5_readLink 113 = .ok (.getfield 35, 3) := by decide +kernel
theorem dX5_readLink_116 : decode cX5_readLink 116 = .ok (.iconst 1, 1) := by decide +kernel
theorem dX5_readLink_117 : decode cX5_readLink 117 = .ok (.iadd, 1) := by decide +kernel
theorem dX5_readLink_118 : decode cX5_readLink 118 = .ok (.putfield 35, 3) := by decide +kernel
theorem dX5_readLink_121 : decode cX5_readLink 121 = .ok (.goto 28, 3) := by decide +kernel
theorem dX5_readLink_124 : decode cX5_readLink 124 = .ok (.aload_n 0, 1) := by decide +kernel
theorem dX5_readLink_125 : decode cX5_readLink 125 = .ok (.getfield 31, 3) := by decide +kernel
theorem dX5_readLink_128 : decode cX5_readLink 128 = .ok (.getfield 136, 3) := by decide +kernel
theorem dX5_readLink_131 : decode cX5_readLink 131 = .ok (.iload_n 2, 1) := by decide +kernel
theorem dX5_readLink_132 : decode cX5_readLink 132 = .ok (.dup2, 1) := by decide +kernel
theorem dX5_readLink_133 : decode cX5_readLink 133 = .ok (.iaload, 1) := by decide +kernel
theorem dX5_readLink_134 : decode cX5_readLink 134 = .ok (.iconst 1, 1) := by decide +kernel
theorem dX5_readLink_135 : decode cX5_readLink 135 = .ok (.iload_n 3, 1) := by decide +kernel
theorem dX5_readLink_136 : decode cX5_readLink 136 = .ok (.ishl, 1) := by decide +kernel
theorem dX5_readLink_137 : decode cX5_readLink 137 = .ok (.ior, 1) := by decide +kernel
theorem dX5_readLink_138 : decode cX5_readLink 138 = .ok (.iastore, 1) := by decide +kernel
theorem dX5_readLink_139 : decode cX5_readLink 139 = .ok (.aload_n 0, 1) := by decide +kernel
theorem dX5_readLink_140 : decode cX5_readLink 140 = .ok (.dup, 1) := by decide +kernel
theorem dX5_readLink_141 : decode cX5_readLink 141 = .ok (.getfield 38, 3) := by decide +kernel
theorem dX5_readLink_144 : decode cX5_readLink 144 = .ok (.iconst 1, 1) := by decide +kernel
theorem dX5_readLink_145 : decode cX5_readLink 145 = .ok (.iadd, 1) := by decide +kernel
theorem dX5_readLink_146 : decode cX5_readLink 146 = .ok (.putfield 38, 3) := by decide +kernel
theorem dX5_readLink_149 : decode cX5_readLink 149 = .ok (.return_, 1) := by decide +kernel
theorem dX5_readAsked_0 : decode cX5_readAsked 0 = .ok (.aload_n 0, 1) := by decide +kernel
theorem dX5_readAsked_1 : decode cX5_readAsked 1 = .ok (.invokevirtual 110, 3) := by decide +kernel
theorem dX5_readAsked_4 : decode cX5_readAsked 4 = .ok (.istore_n 1, 1) := by decide +kernel
theorem dX5_readAsked_5 : decode cX5_readAsked 5 = .ok (.aload_n 0, 1) := by decide +kernel
theorem dX5_readAsked_6 : decode cX5_readAsked 6 = .ok (.getfield 15, 3) := by decide +kernel
theorem dX5_readAsked_9 : decode cX5_readAsked 9 = .ok (.ifCond .ne 26, 3) := by decide +kernel
theorem dX5_readAsked_12 : decode cX5_readAsked 12 = .ok (.aload_n 0, 1) := by decide +kernel
theorem dX5_readAsked_13 : decode cX5_readAsked 13 = .ok (.getfield 41, 3) := by decide +kernel
theorem dX5_readAsked_16 : decode cX5_readAsked 16 = .ok (.iload_n 1, 1) := by decide +kernel
theorem dX5_readAsked_17 : decode cX5_readAsked 17 = .ok (.invokestatic 138, 3) := by decide +kernel
theorem dX5_readAsked_20 : decode cX5_readAsked 20 = .ok (.ifCond .eq 15, 3) := by decide +kernel
theorem dX5_readAsked_23 : decode cX5_readAsked 23 = .ok (.aload_n 0, 1) := by decide +kernel
theorem dX5_readAsked_24 : decode cX5_readAsked 24 = .ok (.bipush 6, 2) := by decide +kernel
theorem dX5_readAsked_26 : decode cX5_readAsked 26 = .ok (.aload_n 0, 1) := by decide +kernel
theorem dX5_readAsked_27 : decode cX5_readAsked 27 = .ok (.iload_n 1, 1) := by decide +kernel
theorem dX5_readAsked_28 : decode cX5_readAsked 28 = .ok (.invokevirtual 133, 3) := by decide +kernel
theorem dX5_readAsked_31 : decode cX5_readAsked 31 = .ok (.invokevirtual 73, 3) := by decide +kernel
theorem dX5_readAsked_34 : decode cX5_readAsked 34 = .ok (.pop, 1) := by decide +kernel
theorem dX5_readAsked_35 : decode cX5_readAsked 35 = .ok (.aload_n 0, 1) := by decide +kernel
theorem dX5_readAsked_36 : decode cX5_readAsked 36 = .ok (.iconst 0, 1) := by decide +kernel
theorem dX5_readAsked_37 : decode cX5_readAsked 37 = .ok (.bipush 99, 2) := by decide +kernel
theorem dX5_readAsked_39 : decode cX5_readAsked 39 = .ok (.invokevirtual 117, 3) := by decide +kernel
theorem dX5_readAsked_42 : decode cX5_readAsked 42 = .ok (.istore_n 2, 1) := by decide +kernel
theorem dX5_readAsked_43 : decode cX5_readAsked 43 = .ok (.aload_n 0, 1) := by decide +kernel
theorem dX5_readAsked_44 : decode cX5_readAsked 44 = .ok (.getfield 15, 3) := by decide +kernel
theorem dX5_readAsked_47 : decode cX5_readAsked 47 = .ok (.ifCond .ne 25, 3) := by decide +kernel
theorem dX5_readAsked_50 : decode cX5_readAsked 50 = .ok (.aload_n 0, 1) := by decide +kernel
theorem dX5_readAsked_51 : decode cX5_readAsked 51 = .ok (.dup, 1) := by decide +kernel
theorem dX5_readAsked_52 : decode cX5_readAsked 52 = .ok (.getfield 41, 3) := by decide +kernel
theorem dX5_readAsked_55 : decode cX5_readAsked 55 = .ok (.iconst 1, 1) := by decide +kernel
theorem dX5_readAsked_56 : decode cX5_readAsked 56 = .ok (.iload_n 1, 1) := by decide +kernel
theorem dX5_readAsked_57 : decode cX5_readAsked 57 = .ok (.ishl, 1) := by decide +kernel
theorem dX5_readAsked_58 : decode cX5_readAsked 58 = .ok (.ior, 1) := by decide +kernel
theorem dX5_readAsked_59 : decode cX5_readAsked 59 = .ok (.putfield 41, 3) := by decide +kernel
theorem dX5_readAsked_62 : decode cX5_readAsked 62 = .ok (.aload_n 0, 1) := by decide +kernel
theorem dX5_readAsked_63 : decode cX5_readAsked 63 = .ok (.getfield 31, 3) := by decide +kernel
theorem dX5_readAsked_66 : decode cX5_readAsked 66 = .ok (.getfield 142, 3) := by decide +kernel
theorem dX5_readAsked_69 : decode cX5_readAsked 69 = .ok (.iload_n 1, 1) := by decide +kernel
theorem dX5_readAsked_70 : decode cX5_readAsked 70 = .ok (.iload_n 2, 1) := by decide +kernel
theorem dX5_readAsked_71 : decode cX5_readAsked 71 = .ok (.iastore, 1) := by decide +kernel
theorem dX5_readAsked_72 : decode cX5_readAsked 72 = .ok (.return_, 1) := by decide +kernel
theorem dX5_wordPlace_0 : decode cX5_wordPlace 0 = .ok (.aload_n 0, 1) := by decide +kernel
theorem dX5_wordPlace_1 : decode cX5_wordPlace 1 = .ok (.getfield 25, 3) := by decide +kernel
theorem dX5_wordPlace_4 : decode cX5_wordPlace 4 = .ok (.aload_n 0, 1) := by decide +kernel
theorem dX5_wordPlace_5 : decode cX5_wordPlace 5 = .ok (.getfield 31, 3) := by decide +kernel
theorem dX5_wordPlace_8 : decode cX5_wordPlace 8 = .ok (.getfield 145, 3) := by decide +kernel
theorem dX5_wordPlace_11 : decode cX5_wordPlace 11 = .ok (.iload_n 1, 1) := by decide +kernel
theorem dX5_wordPlace_12 : decode cX5_wordPlace 12 = .ok (.laload, 1) := by decide +kernel
theorem dX5_wordPlace_13 : decode cX5_wordPlace 13 = .ok (.invokestatic 149, 3) := by decide +kernel
theorem dX5_wordPlace_16 : decode cX5_wordPlace 16 = .ok (.isub, 1) := by decide +kernel
theorem dX5_wordPlace_17 : decode cX5_wordPlace 17 = .ok (.ireturn, 1) := by decide +kernel
theorem dX5_readHead_0 : decode cX5_readHead 0 = .ok (.aload_n 0, 1) := by decide +kernel
theorem dX5_readHead_1 : decode cX5_readHead 1 = .ok (.invokevirtual 155, 3) := by decide +kernel
theorem dX5_readHead_4 : decode cX5_readHead 4 = .ok (.istore_n 1, 1) := by decide +kernel
theorem dX5_readHead_5 : decode cX5_readHead 5 = .ok (.aload_n 0, 1) := by decide +kernel
theorem dX5_readHead_6 : decode cX5_readHead 6 = .ok (.getfield 15, 3) := by decide +kernel
theorem dX5_readHead_9 : decode cX5_readHead 9 = .ok (.ifCond .eq 5, 3) := by decide +kernel
theorem dX5_readHead_12 : decode cX5_readHead 12 = .ok (.iconst (-1), 1) := by decide +kernel
theorem dX5_readHead_13 : decode cX5_readHead 13 = .ok (.ireturn, 1) := by decide +kernel
theorem dX5_readHead_14 : decode cX5_readHead 14 = .ok (.aload_n 0, 1) := by decide +kernel
theorem dX5_readHead_15 : decode cX5_readHead 15 = .ok (.iload_n 1, 1) := by decide +kernel
theorem dX5_readHead_16 : decode cX5_readHead 16 = .ok (.invokevirtual 158, 3) := by decide +kernel
theorem dX5_readHead_19 : decode cX5_readHead 19 = .ok (.lstore_n 2, 1) := by decide +kernel
theorem dX5_readHead_20 : decode cX5_readHead 20 = .ok (.aload_n 0, 1) := by decide +kernel
theorem dX5_readHead_21 : decode cX5_readHead 21 = .ok (.getfield 31, 3) := by decide +kernel
theorem dX5_readHead_24 : decode cX5_readHead 24 = .ok (.lload_n 2, 1) := by decide +kernel
theorem dX5_readHead_25 : decode cX5_readHead 25 = .ok (.invokevirtual 162, 3) := by decide +kernel
theorem dX5_readHead_28 : decode cX5_readHead 28 = .ok (.istore 4, 2) := by decide +kernel
theorem dX5_readHead_30 : decode cX5_readHead 30 = .ok (.iload 4, 2) := by decide +kernel
theorem dX5_readHead_32 : decode cX5_readHead 32 = .ok (.iconst (-1), 1) := by decide +kernel
theorem dX5_readHead_33 : decode cX5_readHead 33 = .ok (.if_icmp .ne 13, 3) := by decide +kernel
theorem dX5_readHead_36 : decode cX5_readHead 36 = .ok (.aload_n 0, 1) := by decide +kernel
theorem dX5_readHead_37 : decode cX5_readHead 37 = .ok (.getfield 31, 3) := by decide +kernel
theorem dX5_readHead_40 : decode cX5_readHead 40 = .ok (.lload_n 2, 1) := by decide +kernel
theorem dX5_readHead_41 : decode cX5_readHead 41 = .ok (.invokevirtual 165, 3) := by decide +kernel
theorem dX5_readHead_44 : decode cX5_readHead 44 = .ok (.istore 4, 2) := by decide +kernel
theorem dX5_readHead_46 : decode cX5_readHead 46 = .ok (.iload 4, 2) := by decide +kernel
theorem dX5_readHead_48 : decode cX5_readHead 48 = .ok (.iconst (-1), 1) := by decide +kernel
theorem dX5_readHead_49 : decode cX5_readHead 49 = .ok (.if_icmp .ne 12, 3) := by decide +kernel
theorem dX5_readHead_52 : decode cX5_readHead 52 = .ok (.aload_n 0, 1) := by decide +kernel
theorem dX5_readHead_53 : decode cX5_readHead 53 = .ok (.iconst 4, 1) := by decide +kernel
theorem dX5_readHead_54 : decode cX5_readHead 54 = .ok (.iload_n 1, 1) := by decide +kernel
theorem dX5_readHead_55 : decode cX5_readHead 55 = .ok (.invokevirtual 73, 3) := by decide +kernel
theorem dX5_readHead_58 : decode cX5_readHead 58 = .ok (.goto 5, 3) := by decide +kernel
theorem dX5_readHead_61 : decode cX5_readHead 61 = .ok (.iload 4, 2) := by decide +kernel
theorem dX5_readHead_63 : decode cX5_readHead 63 = .ok (.ireturn, 1) := by decide +kernel
theorem dX5_readSub_0 : decode cX5_readSub 0 = .ok (.aload_n 0, 1) := by decide +kernel
theorem dX5_readSub_1 : decode cX5_readSub 1 = .ok (.invokevirtual 155, 3) := by decide +kernel
theorem dX5_readSub_4 : decode cX5_readSub 4 = .ok (.istore_n 2, 1) := by decide +kernel
theorem dX5_readSub_5 : decode cX5_readSub 5 = .ok (.aload_n 0, 1) := by decide +kernel
theorem dX5_readSub_6 : decode cX5_readSub 6 = .ok (.getfield 15, 3) := by decide +kernel
theorem dX5_readSub_9 : decode cX5_readSub 9 = .ok (.ifCond .eq 5, 3) := by decide +kernel
theorem dX5_readSub_12 : decode cX5_readSub 12 = .ok (.iconst (-1), 1) := by decide +kernel
theorem dX5_readSub_13 : decode cX5_readSub 13 = .ok (.ireturn, 1) := by decide +kernel
theorem dX5_readSub_14 : decode cX5_readSub 14 = .ok (.aload_n 0, 1) := by decide +kernel
theorem dX5_readSub_15 : decode cX5_readSub 15 = .ok (.iload_n 2, 1) := by decide +kernel
theorem dX5_readSub_16 : decode cX5_readSub 16 = .ok (.invokevirtual 158, 3) := by decide +kernel
theorem dX5_readSub_19 : decode cX5_readSub 19 = .ok (.lstore_n 3, 1) := by decide +kernel
theorem dX5_readSub_20 : decode cX5_readSub 20 = .ok (.aload_n 0, 1) := by decide +kernel
theorem dX5_readSub_21 : decode cX5_readSub 21 = .ok (.getfield 31, 3) := by decide +kernel
theorem dX5_readSub_24 : decode cX5_readSub 24 = .ok (.iload_n 1, 1) := by decide +kernel
theorem dX5_readSub_25 : decode cX5_readSub 25 = .ok (.lload_n 3, 1) := by decide +kernel
theorem dX5_readSub_26 : decode cX5_readSub 26 = .ok (.invokevirtual 168, 3) := by decide +kernel
theorem dX5_readSub_29 : decode cX5_readSub 29 = .ok (.istore 5, 2) := by decide +kernel
theorem dX5_readSub_31 : decode cX5_readSub 31 = .ok (.iload 5, 2) := by decide +kernel
theorem dX5_readSub_33 : decode cX5_readSub 33 = .ok (.iconst (-1), 1) := by decide +kernel
theorem dX5_readSub_34 : decode cX5_readSub 34 = .ok (.if_icmp .ne 14, 3) := by decide +kernel
theorem dX5_readSub_37 : decode cX5_readSub 37 = .ok (.aload_n 0, 1) := by decide +kernel
theorem dX5_readSub_38 : decode cX5_readSub 38 = .ok (.getfield 31, 3) := by decide +kernel
theorem dX5_readSub_41 : decode cX5_readSub 41 = .ok (.iload_n 1, 1) := by decide +kernel
theorem dX5_readSub_42 : decode cX5_readSub 42 = .ok (.lload_n 3, 1) := by decide +kernel
theorem dX5_readSub_43 : decode cX5_readSub 43 = .ok (.invokevirtual 172, 3) := by decide +kernel
theorem dX5_readSub_46 : decode cX5_readSub 46 = .ok (.istore 5, 2) := by decide +kernel
theorem dX5_readSub_48 : decode cX5_readSub 48 = .ok (.iload 5, 2) := by decide +kernel
theorem dX5_readSub_50 : decode cX5_readSub 50 = .ok (.iconst (-1), 1) := by decide +kernel
theorem dX5_readSub_51 : decode cX5_readSub 51 = .ok (.if_icmp .ne 12, 3) := by decide +kernel
theorem dX5_readSub_54 : decode cX5_readSub 54 = .ok (.aload_n 0, 1) := by decide +kernel
theorem dX5_readSub_55 : decode cX5_readSub 55 = .ok (.iconst 4, 1) := by decide +kernel
theorem dX5_readSub_56 : decode cX5_readSub 56 = .ok (.iload_n 2, 1) := by decide +kernel
theorem dX5_readSub_57 : decode cX5_readSub 57 = .ok (.invokevirtual 73, 3) := by decide +kernel
theorem dX5_readSub_60 : decode cX5_readSub 60 = .ok (.goto 5, 3) := by decide +kernel
theorem dX5_readSub_63 : decode cX5_readSub 63 = .ok (.iload 5, 2) := by decide +kernel
theorem dX5_readSub_65 : decode cX5_readSub 65 = .ok (.ireturn, 1) := by decide +kernel
theorem dX5_wordStart_0 : decode cX5_wordStart 0 = .ok (.aload_n 0, 1) := by decide +kernel
theorem dX5_wordStart_1 : decode cX5_wordStart 1 = .ok (.invokevirtual 47, 3) := by decide +kernel
theorem dX5_wordStart_4 : decode cX5_wordStart 4 = .ok (.aload_n 0, 1) := by decide +kernel
theorem dX5_wordStart_5 : decode cX5_wordStart 5 = .ok (.getfield 25, 3) := by decide +kernel
theorem dX5_wordStart_8 : decode cX5_wordStart 8 = .ok (.istore_n 1, 1) := by decide +kernel
theorem dX5_wordStart_9 : decode cX5_wordStart 9 = .ok (.aload_n 0, 1) := by decide +kernel
theorem dX5_wordStart_10 : decode cX5_wordStart 10 = .ok (.getfield 15, 3) := by decide +kernel
theorem dX5_wordStart_13 : decode cX5_wordStart 13 = .ok (.ifCond .ne 13, 3) := by decide +kernel
theorem dX5_wordStart_16 : decode cX5_wordStart 16 = .ok (.aload_n 0, 1) := by decide +kernel
theorem dX5_wordStart_17 : decode cX5_wordStart 17 = .ok (.invokevirtual 107, 3) := by decide +kernel
theorem dX5_wordStart_20 : decode cX5_wordStart 20 = .ok (.invokestatic 50, 3) := by decide +kernel
theorem dX5_wordStart_23 : decode cX5_wordStart 23 = .ok (.ifCond .ne 10, 3) := by decide +kernel
theorem dX5_wordStart_26 : decode cX5_wordStart 26 = .ok (.aload_n 0, 1) := by decide +kernel
theorem dX5_wordStart_27 : decode cX5_wordStart 27 = .ok (.iconst 1, 1) := by decide +kernel
theorem dX5_wordStart_28 : decode cX5_wordStart 28 = .ok (.iload_n 1, 1) := by decide +kernel
theorem dX5_wordStart_29 : decode cX5_wordStart 29 = .ok (.invokevirtual 73, 3) := by decide +kernel
theorem dX5_wordStart_32 : decode cX5_wordStart 32 = .ok (.ireturn, 1) := by decide +kernel
theorem dX5_wordStart_33 : decode cX5_wordStart 33 = .ok (.aload_n 0, 1) := by decide +kernel
theorem dX5_wordStart_34 : decode cX5_wordStart 34 = .ok (.invokevirtual 66, 3) := by decide +kernel
theorem dX5_wordStart_37 : decode cX5_wordStart 37 = .ok (.aload_n 0, 1) := by decide +kernel
theorem dX5_wordStart_38 : decode cX5_wordStart 38 = .ok (.iload_n 1, 1) := by decide +kernel
theorem dX5_wordStart_39 : decode cX5_wordStart 39 = .ok (.aload_n 0, 1) := by decide +kernel
theorem dX5_wordStart_40 : decode cX5_wordStart 40 = .ok (.getfield 25, 3) := by decide +kernel
theorem dX5_wordStart_43 : decode cX5_wordStart 43 = .ok (.invokevirtual 175, 3) := by decide +kernel
theorem dX5_wordStart_46 : decode cX5_wordStart 46 = .ok (.ifCond .eq 7, 3) := by decide +kernel
theorem dX5_wordStart_49 : decode cX5_wordStart 49 = .ok (.iload_n 1, 1) := by decide +kernel
theorem dX5_wordStart_50 : decode cX5_wordStart 50 = .ok (.goto 9, 3) := by decide +kernel
theorem dX5_wordStart_53 : decode cX5_wordStart 53 = .ok (.aload_n 0, 1) := by decide +kernel
theorem dX5_wordStart_54 : decode cX5_wordStart 54 = .ok (.iconst 3, 1) := by decide +kernel
theorem dX5_wordStart_55 : decode cX5_wordStart 55 = .ok (.iload_n 1, 1) := by decide +kernel
theorem dX5_wordStart_56 : decode cX5_wordStart 56 = .ok (.invokevirtual 73, 3) := by decide +kernel
theorem dX5_wordStart_59 : decode cX5_wordStart 59 = .ok (.ireturn, 1) := by decide +kernel
theorem dX5_isFit_0 : decode cX5_isFit 0 = .ok (.iload_n 2, 1) := by decide +kernel
theorem dX5_isFit_1 : decode cX5_isFit 1 = .ok (.iload_n 1, 1) := by decide +kernel
theorem dX5_isFit_2 : decode cX5_isFit 2 = .ok (.isub, 1) := by decide +kernel
theorem dX5_isFit_3 : decode cX5_isFit 3 = .ok (.bipush 12, 2) := by decide +kernel
theorem dX5_isFit_5 : decode cX5_isFit 5 = .ok (.if_icmp .gt 27, 3) := by decide +kernel
theorem dX5_isFit_8 : decode cX5_isFit 8 = .ok (.aload_n 0, 1) := by decide +kernel
theorem dX5_isFit_9 : decode cX5_isFit 9 = .ok (.getfield 21, 3) := by decide +kernel
theorem dX5_isFit_12 : decode cX5_isFit 12 = .ok (.iload_n 1, 1) := by decide +kernel
theorem dX5_isFit_13 : decode cX5_isFit 13 = .ok (.baload, 1) := by decide +kernel
theorem dX5_isFit_14 : decode cX5_isFit 14 = .ok (.bipush 95, 2) := by decide +kernel
theorem dX5_isFit_16 : decode cX5_isFit 16 = .ok (.if_icmp .eq 16, 3) := by decide +kernel
theorem dX5_isFit_19 : decode cX5_isFit 19 = .ok (.aload_n 0, 1) := by decide +kernel
theorem dX5_isFit_20 : decode cX5_isFit 20 = .ok (.getfield 21, 3) := by decide +kernel
theorem dX5_isFit_23 : decode cX5_isFit 23 = .ok (.iload_n 2, 1) := by decide +kernel
theorem dX5_isFit_24 : decode cX5_isFit 24 = .ok (.iconst 1, 1) := by decide +kernel
theorem dX5_isFit_25 : decode cX5_isFit 25 = .ok (.isub, 1) := by decide +kernel
theorem dX5_isFit_26 : decode cX5_isFit 26 = .ok (.baload, 1) := by decide +kernel
theorem dX5_isFit_27 : decode cX5_isFit 27 = .ok (.bipush 95, 2) := by decide +kernel
theorem dX5_isFit_29 : decode cX5_isFit 29 = .ok (.if_icmp .ne 5, 3) := by decide +kernel
theorem dX5_isFit_32 : decode cX5_isFit 32 = .ok (.iconst 0, 1) := by decide +kernel
theorem dX5_isFit_33 : decode cX5_isFit 33 = .ok (.ireturn, 1) := by decide +kernel
theorem dX5_isFit_34 : decode cX5_isFit 34 = .ok (.iload_n 1, 1) := by decide +kernel
theorem dX5_isFit_35 : decode cX5_isFit 35 = .ok (.iconst 1, 1) := by decide +kernel
theorem dX5_isFit_36 : decode cX5_isFit 36 = .ok (.iadd, 1) := by decide +kernel
theorem dX5_isFit_37 : decode cX5_isFit 37 = .ok (.istore_n 3, 1) := by decide +kernel
theorem dX5_isFit_38 : decode cX5_isFit 38 = .ok (.iload_n 3, 1) := by decide +kernel
theorem dX5_isFit_39 : decode cX5_isFit 39 = .ok (.iload_n 2, 1) := by decide +kernel
theorem dX5_isFit_40 : decode cX5_isFit 40 = .ok (.if_icmp .ge 35, 3) := by decide +kernel
theorem dX5_isFit_43 : decode cX5_isFit 43 = .ok (.aload_n 0, 1) := by decide +kernel
theorem dX5_isFit_44 : decode cX5_isFit 44 = .ok (.getfield 21, 3) := by decide +kernel
theorem dX5_isFit_47 : decode cX5_isFit 47 = .ok (.iload_n 3, 1) := by decide +kernel
theorem dX5_isFit_48 : decode cX5_isFit 48 = .ok (.baload, 1) := by decide +kernel
theorem dX5_isFit_49 : decode cX5_isFit 49 = .ok (.bipush 95, 2) := by decide +kernel
theorem dX5_isFit_51 : decode cX5_isFit 51 = .ok (.if_icmp .ne 18, 3) := by decide +kernel
theorem dX5_isFit_54 : decode cX5_isFit 54 = .ok (.aload_n 0, 1) := by decide +kernel
theorem dX5_isFit_55 : decode cX5_isFit 55 = .ok (.getfield 21, 3) := by decide +kernel
theorem dX5_isFit_58 : decode cX5_isFit 58 = .ok (.iload_n 3, 1) := by decide +kernel
theorem dX5_isFit_59 : decode cX5_isFit 59 = .ok (.iconst 1, 1) := by decide +kernel
theorem dX5_isFit_60 : decode cX5_isFit 60 = .ok (.isub, 1) := by decide +kernel
theorem dX5_isFit_61 : decode cX5_isFit 61 = .ok (.baload, 1) := by decide +kernel
theorem dX5_isFit_62 : decode cX5_isFit 62 = .ok (.bipush 95, 2) := by decide +kernel
theorem dX5_isFit_64 : decode cX5_isFit 64 = .ok (.if_icmp .ne 5, 3) := by decide +kernel
theorem dX5_isFit_67 : decode cX5_isFit 67 = .ok (.iconst 0, 1) := by decide +kernel
theorem dX5_isFit_68 : decode cX5_isFit 68 = .ok (.ireturn, 1) := by decide +kernel
theorem dX5_isFit_69 : decode cX5_isFit 69 = .ok (.iinc 3 1, 3) := by decide +kernel
theorem dX5_isFit_72 : decode cX5_isFit 72 = .ok (.goto (-34), 3) := by decide +kernel
theorem dX5_isFit_75 : decode cX5_isFit 75 = .ok (.iconst 1, 1) := by decide +kernel
theorem dX5_isFit_76 : decode cX5_isFit 76 = .ok (.ireturn, 1) := by decide +kernel
theorem dX5_packWord_0 : decode cX5_packWord 0 = .ok (.lconst 0, 1) := by decide +kernel
theorem dX5_packWord_1 : decode cX5_packWord 1 = .ok (.lstore_n 2, 1) := by decide +kernel
theorem dX5_packWord_2 : decode cX5_packWord 2 = .ok (.iload_n 1, 1) := by decide +kernel
theorem dX5_packWord_3 : decode cX5_packWord 3 = .ok (.istore 4, 2) := by decide +kernel
theorem dX5_packWord_5 : decode cX5_packWord 5 = .ok (.iload 4, 2) := by decide +kernel
theorem dX5_packWord_7 : decode cX5_packWord 7 = .ok (.aload_n 0, 1) := by decide +kernel
theorem dX5_packWord_8 : decode cX5_packWord 8 = .ok (.getfield 25, 3) := by decide +kernel
theorem dX5_packWord_11 : decode cX5_packWord 11 = .ok (.if_icmp .ge 26, 3) := by decide +kernel
theorem dX5_packWord_14 : decode cX5_packWord 14 = .ok (.lload_n 2, 1) := by decide +kernel
theorem dX5_packWord_15 : decode cX5_packWord 15 = .ok (.aload_n 0, 1) := by decide +kernel
theorem dX5_packWord_16 : decode cX5_packWord 16 = .ok (.getfield 21, 3) := by decide +kernel
theorem dX5_packWord_19 : decode cX5_packWord 19 = .ok (.iload 4, 2) := by decide +kernel
theorem dX5_packWord_21 : decode cX5_packWord 21 = .ok (.baload, 1) := by decide +kernel
theorem dX5_packWord_22 : decode cX5_packWord 22 = .ok (.iload 4, 2) := by decide +kernel
theorem dX5_packWord_24 : decode cX5_packWord 24 = .ok (.iload_n 1, 1) := by decide +kernel
theorem dX5_packWord_25 : decode cX5_packWord 25 = .ok (.isub, 1) := by decide +kernel
theorem dX5_packWord_26 : decode cX5_packWord 26 = .ok (.invokestatic 178, 3) := by decide +kernel
theorem dX5_packWord_29 : decode cX5_packWord 29 = .ok (.lor, 1) := by decide +kernel
theorem dX5_packWord_30 : decode cX5_packWord 30 = .ok (.lstore_n 2, 1) := by decide +kernel
theorem dX5_packWord_31 : decode cX5_packWord 31 = .ok (.iinc 4 1, 3) := by decide +kernel
theorem dX5_packWord_34 : decode cX5_packWord 34 = .ok (.goto (-29), 3) := by decide +kernel
theorem dX5_packWord_37 : decode cX5_packWord 37 = .ok (.lload_n 2, 1) := by decide +kernel
theorem dX5_packWord_38 : decode cX5_packWord 38 = .ok (.lreturn, 1) := by decide +kernel
theorem dX5_readNumber_0 : decode cX5_readNumber 0 = .ok (.aload_n 0, 1) := by decide +kernel
theorem dX5_readNumber_1 : decode cX5_readNumber 1 = .ok (.invokevirtual 47, 3) := by decide +kernel
theorem dX5_readNumber_4 : decode cX5_readNumber 4 = .ok (.aload_n 0, 1) := by decide +kernel
theorem dX5_readNumber_5 : decode cX5_readNumber 5 = .ok (.getfield 25, 3) := by decide +kernel
theorem dX5_readNumber_8 : decode cX5_readNumber 8 = .ok (.istore_n 3, 1) := by decide +kernel
theorem dX5_readNumber_9 : decode cX5_readNumber 9 = .ok (.aload_n 0, 1) := by decide +kernel
theorem dX5_readNumber_10 : decode cX5_readNumber 10 = .ok (.getfield 15, 3) := by decide +kernel
theorem dX5_readNumber_13 : decode cX5_readNumber 13 = .ok (.ifCond .ne 13, 3) := by decide +kernel
theorem dX5_readNumber_16 : decode cX5_readNumber 16 = .ok (.aload_n 0, 1) := by decide +kernel
theorem dX5_readNumber_17 : decode cX5_readNumber 17 = .ok (.invokevirtual 107, 3) := by decide +kernel
theorem dX5_readNumber_20 : decode cX5_readNumber 20 = .ok (.invokestatic 54, 3) := by decide +kernel
theorem dX5_readNumber_23 : decode cX5_readNumber 23 = .ok (.ifCond .ne 10, 3) := by decide +kernel
theorem dX5_readNumber_26 : decode cX5_readNumber 26 = .ok (.aload_n 0, 1) := by decide +kernel
theorem dX5_readNumber_27 : decode cX5_readNumber 27 = .ok (.iconst 1, 1) := by decide +kernel
theorem dX5_readNumber_28 : decode cX5_readNumber 28 = .ok (.iload_n 3, 1) := by decide +kernel
theorem dX5_readNumber_29 : decode cX5_readNumber 29 = .ok (.invokevirtual 73, 3) := by decide +kernel
theorem dX5_readNumber_32 : decode cX5_readNumber 32 = .ok (.ireturn, 1) := by decide +kernel
theorem dX5_readNumber_33 : decode cX5_readNumber 33 = .ok (.aload_n 0, 1) := by decide +kernel
theorem dX5_readNumber_34 : decode cX5_readNumber 34 = .ok (.invokevirtual 182, 3) := by decide +kernel
theorem dX5_readNumber_37 : decode cX5_readNumber 37 = .ok (.aload_n 0, 1) := by decide +kernel
theorem dX5_readNumber_38 : decode cX5_readNumber 38 = .ok (.getfield 25, 3) := by decide +kernel
theorem dX5_readNumber_41 : decode cX5_readNumber 41 = .ok (.iload_n 3, 1) := by decide +kernel
theorem dX5_readNumber_42 : decode cX5_readNumber 42 = .ok (.isub, 1) := by decide +kernel
theorem dX5_readNumber_43 : decode cX5_readNumber 43 = .ok (.iconst 2, 1) := by decide +kernel
theorem dX5_readNumber_44 : decode cX5_readNumber 44 = .ok (.if_icmp .le 10, 3) := by decide +kernel
theorem dX5_readNumber_47 : decode cX5_readNumber 47 = .ok (.aload_n 0, 1) := by decide +kernel
theorem dX5_readNumber_48 : decode cX5_readNumber 48 = .ok (.iconst 2, 1) := by decide +kernel
theorem dX5_readNumber_49 : decode cX5_readNumber 49 = .ok (.iload_n 3, 1) := by decide +kernel
theorem dX5_readNumber_50 : decode cX5_readNumber 50 = .ok (.invokevirtual 73, 3) := by decide +kernel
theorem dX5_readNumber_53 : decode cX5_readNumber 53 = .ok (.ireturn, 1) := by decide +kernel
theorem dX5_readNumber_54 : decode cX5_readNumber 54 = .ok (.iconst 0, 1) := by decide +kernel
theorem dX5_readNumber_55 : decode cX5_readNumber 55 = .ok (.istore 4, 2) := by decide +kernel
theorem dX5_readNumber_57 : decode cX5_readNumber 57 = .ok (.iload_n 3, 1) := by decide +kernel
theorem dX5_readNumber_58 : decode cX5_readNumber 58 = .ok (.istore 5, 2) := by decide +kernel
theorem dX5_readNumber_60 : decode cX5_readNumber 60 = .ok (.iload 5, 2) := by decide +kernel
theorem dX5_readNumber_62 : decode cX5_readNumber 62 = .ok (.aload_n 0, 1) := by decide +kernel
theorem dX5_readNumber_63 : decode cX5_readNumber 63 = .ok (.getfield 25, 3) := by decide +kernel
theorem dX5_readNumber_66 : decode cX5_readNumber 66 = .ok (.if_icmp .ge 27, 3) := by decide +kernel
theorem dX5_readNumber_69 : decode cX5_readNumber 69 = .ok (.iload 4, 2) := by decide +kernel
theorem dX5_readNumber_71 : decode cX5_readNumber 71 = .ok (.bipush 10, 2) := by decide +kernel
theorem dX5_readNumber_73 : decode cX5_readNumber 73 = .ok (.imul, 1) := by decide +kernel
theorem dX5_readNumber_74 : decode cX5_readNumber 74 = .ok (.aload_n 0, 1) := by decide +kernel
theorem dX5_readNumber_75 : decode cX5_readNumber 75 = .ok (.getfield 21, 3) := by decide +kernel
theorem dX5_readNumber_78 : decode cX5_readNumber 78 = .ok (.iload 5, 2) := by decide +kernel
theorem dX5_readNumber_80 : decode cX5_readNumber 80 = .ok (.baload, 1) := by decide +kernel
theorem dX5_readNumber_81 : decode cX5_readNumber 81 = .ok (.iadd, 1) := by decide +kernel
theorem dX5_readNumber_82 : decode cX5_readNumber 82 = .ok (.bipush 48, 2) := by decide +kernel
theorem dX5_readNumber_84 : decode cX5_readNumber 84 = .ok (.isub, 1) := by decide +kernel
theorem dX5_readNumber_85 : decode cX5_readNumber 85 = .ok (.istore 4, 2) := by decide +kernel
theorem dX5_readNumber_87 : decode cX5_readNumber 87 = .ok (.iinc 5 1, 3) := by decide +kernel
theorem dX5_readNumber_90 : decode cX5_readNumber 90 = .ok (.goto (-30), 3) := by decide +kernel
theorem dX5_readNumber_93 : decode cX5_readNumber 93 = .ok (.iload 4, 2) := by decide +kernel
theorem dX5_readNumber_95 : decode cX5_readNumber 95 = .ok (.iload_n 1, 1) := by decide +kernel
theorem dX5_readNumber_96 : decode cX5_readNumber 96 = .ok (.if_icmp .lt 9, 3) := by decide +kernel
theorem dX5_readNumber_99 : decode cX5_readNumber 99 = .ok (.iload 4, 2) := by decide +kernel
theorem dX5_readNumber_101 : decode cX5_readNumber 101 = .ok (.iload_n 2, 1) := by decide +kernel
theorem dX5_readNumber_102 : decode cX5_readNumber 102 = .ok (.if_icmp .le 12, 3) := by decide +kernel
theorem dX5_readNumber_105 : decode cX5_readNumber 105 = .ok (.aload_n 0, 1) := by decide +kernel
theorem dX5_readNumber_106 : decode cX5_readNumber 106 = .ok (.iconst 2, 1) := by decide +kernel
theorem dX5_readNumber_107 : decode cX5_readNumber 107 = .ok (.iload_n 3, 1) := by decide +kernel
theorem dX5_readNumber_108 : decode cX5_readNumber 108 = .ok (.invokevirtual 73, 3) := by decide +kernel
theorem dX5_readNumber_111 : decode cX5_readNumber 111 = .ok (.goto 5, 3) := by decide +kernel
theorem dX5_readNumber_114 : decode cX5_readNumber 114 = .ok (.iload 4, 2) := by decide +kernel
theorem dX5_readNumber_116 : decode cX5_readNumber 116 = .ok (.ireturn, 1) := by decide +kernel
theorem dX6_init_0 : decode cX6_init 0 = .ok (.aload_n 0, 1) := by decide +kernel
theorem dX6_init_1 : decode cX6_init 1 = .ok (.invokespecial 3, 3) := by decide +kernel
theorem dX6_init_4 : decode cX6_init 4 = .ok (.aload_n 0, 1) := by decide +kernel
theorem dX6_init_5 : decode cX6_init 5 = .ok (.bipush 16, 2) := by decide +kernel
theorem dX6_init_7 : decode cX6_init 7 = .ok (.newarray .int, 2) := by decide +kernel
theorem dX6_init_9 : decode cX6_init 9 = .ok (.putfield 9, 3) := by decide +kernel
theorem dX6_init_12 : decode cX6_init 12 = .ok (.aload_n 0, 1) := by decide +kernel
theorem dX6_init_13 : decode cX6_init 13 = .ok (.bipush 16, 2) := by decide +kernel
theorem dX6_init_15 : decode cX6_init 15 = .ok (.newarray .long, 2) := by decide +kernel
theorem dX6_init_17 : decode cX6_init 17 = .ok (.putfield 15, 3) := by decide +kernel
theorem dX6_init_20 : decode cX6_init 20 = .ok (.return_, 1) := by decide +kernel
theorem dX6_sort_0 : decode cX6_sort 0 = .ok (.iconst 0, 1) := by decide +kernel
theorem dX6_sort_1 : decode cX6_sort 1 = .ok (.istore 5, 2) := by decide +kernel
theorem dX6_sort_3 : decode cX6_sort 3 = .ok (.iload 5, 2) := by decide +kernel
theorem dX6_sort_5 : decode cX6_sort 5 = .ok (.iload_n 3, 1) := by decide +kernel
theorem dX6_sort_6 : decode cX6_sort 6 = .ok (.if_icmp .ge 114, 3) := by decide +kernel
theorem dX6_sort_9 : decode cX6_sort 9 = .ok (.aload_n 1, 1) := by decide +kernel
theorem dX6_sort_10 : decode cX6_sort 10 = .ok (.iload_n 2, 1) := by decide +kernel
theorem dX6_sort_11 : decode cX6_sort 11 = .ok (.iload 5, 2) := by decide +kernel
theorem dX6_sort_13 : decode cX6_sort 13 = .ok (.iadd, 1) := by decide +kernel
theorem dX6_sort_14 : decode cX6_sort 14 = .ok (.laload, 1) := by decide +kernel
theorem dX6_sort_15 : decode cX6_sort 15 = .ok (.lstore 6, 2) := by decide +kernel
theorem dX6_sort_17 : decode cX6_sort 17 = .ok (.iload 4, 2) := by decide +kernel
theorem dX6_sort_19 : decode cX6_sort 19 = .ok (.ifCond .ne 11, 3) := by decide +kernel
theorem dX6_sort_22 : decode cX6_sort 22 = .ok (.lload 6, 2) := by decide +kernel
theorem dX6_sort_24 : decode cX6_sort 24 = .ok (.invokestatic 19, 3) := by decide +kernel
theorem dX6_sort_27 : decode cX6_sort 27 = .ok (.goto 5, 3) := by decide +kernel
theorem dX6_sort_30 : decode cX6_sort 30 = .ok (.lload 6, 2) := by decide +kernel
theorem dX6_sort_32 : decode cX6_sort 32 = .ok (.lstore 8, 2) := by decide +kernel
theorem dX6_sort_34 : decode cX6_sort 34 = .ok (.iload 5, 2) := by decide +kernel
theorem dX6_sort_36 : decode cX6_sort 36 = .ok (.istore 10, 2) := by decide +kernel
theorem dX6_sort_38 : decode cX6_sort 38 = .ok (.iload 10, 2) := by decide +kernel
theorem dX6_sort_40 : decode cX6_sort 40 = .ok (.ifCond .le 56, 3) := by decide +kernel
theorem dX6_sort_43 : decode cX6_sort 43 = .ok (.aload_n 0, 1) := by decide +kernel
theorem dX6_sort_44 : decode cX6_sort 44 = .ok (.getfield 15, 3) := by decide +kernel
theorem dX6_sort_47 : decode cX6_sort 47 = .ok (.iload 10, 2) := by decide +kernel
theorem dX6_sort_49 : decode cX6_sort 49 = .ok (.iconst 1, 1) := by decide +kernel
theorem dX6_sort_50 : decode cX6_sort 50 = .ok (.isub, 1) := by decide +kernel
theorem dX6_sort_51 : decode cX6_sort 51 = .ok (.laload, 1) := by decide +kernel
theorem dX6_sort_52 : decode cX6_sort 52 = .ok (.lload 8, 2) := by decide +kernel
theorem dX6_sort_54 : decode cX6_sort 54 = .ok (.lcmp, 1) := by decide +kernel
theorem dX6_sort_55 : decode cX6_sort 55 = .ok (.ifCond .le 41, 3) := by decide +kernel
theorem dX6_sort_58 : decode cX6_sort 58 = .ok (.aload_n 0, 1) := by decide +kernel
theorem dX6_sort_59 : decode cX6_sort 59 = .ok (.getfield 15, 3) := by decide +kernel
theorem dX6_sort_62 : decode cX6_sort 62 = .ok (.iload 10, 2) := by decide +kernel
theorem dX6_sort_64 : decode cX6_sort 64 = .ok (.aload_n 0, 1) := by decide +kernel
theorem dX6_sort_65 : decode cX6_sort 65 = .ok (.getfield 15, 3) := by decide +kernel
theorem dX6_sort_68 : decode cX6_sort 68 = .ok (.iload 10, 2) := by decide +kernel
theorem dX6_sort_70 : decode cX6_sort 70 = .ok (.iconst 1, 1) := by decide +kernel
theorem dX6_sort_71 : decode cX6_sort 71 = .ok (.isub, 1) := by decide +kernel
theorem dX6_sort_72 : decode cX6_sort 72 = .ok (.laload, 1) := by decide +kernel
theorem dX6_sort_73 : decode cX6_sort 73 = .ok (.lastore, 1) := by decide +kernel
theorem dX6_sort_74 : decode cX6_sort 74 = .ok (.aload_n 0, 1) := by decide +kernel
theorem dX6_sort_75 : decode cX6_sort 75 = .ok (.getfield 9, 3) := by decide +kernel
theorem dX6_sort_78 : decode cX6_sort 78 = .ok (.iload 10, 2) := by decide +kernel
theorem dX6_sort_80 : decode cX6_sort 80 = .ok (.aload_n 0, 1) := by decide +kernel
theorem dX6_sort_81 : decode cX6_sort 81 = .ok (.getfield 9, 3) := by decide +kernel
theorem dX6_sort_84 : decode cX6_sort 84 = .ok (.iload 10, 2) := by decide +kernel
theorem dX6_sort_86 : decode cX6_sort 86 = .ok (.iconst 1, 1) := by decide +kernel
theorem dX6_sort_87 : decode cX6_sort 87 = .ok (.isub, 1) := by decide +kernel
theorem dX6_sort_88 : decode cX6_sort 88 = .ok (.iaload, 1) := by decide +kernel
theorem dX6_sort_89 : decode cX6_sort 89 = .ok (.iastore, 1) := by decide +kernel
theorem dX6_sort_90 : decode cX6_sort 90 = .ok (.iinc 10 (-1), 3) := by decide +kernel
theorem dX6_sort_93 : decode cX6_sort 93 = .ok (.goto (-55), 3) := by decide +kernel
theorem dX6_sort_96 : decode cX6_sort 96 = .ok (.aload_n 0, 1) := by decide +kernel
theorem dX6_sort_97 : decode cX6_sort 97 = .ok (.getfield 15, 3) := by decide +kernel
theorem dX6_sort_100 : decode cX6_sort 100 = .ok (.iload 10, 2) := by decide +kernel
theorem dX6_sort_102 : decode cX6_sort 102 = .ok (.lload 8, 2) := by decide +kernel
theorem dX6_sort_104 : decode cX6_sort 104 = .ok (.lastore, 1) := by decide +kernel
theorem dX6_sort_105 : decode cX6_sort 105 = .ok (.aload_n 0, 1) := by decide +kernel
theorem dX6_sort_106 : decode cX6_sort 106 = .ok (.getfield 9, 3) := by decide +kernel
theorem dX6_sort_109 : decode cX6_sort 109 = .ok (.iload 10, 2) := by decide +kernel
theorem dX6_sort_111 : decode cX6_sort 111 = .ok (.iload 5, 2) := by decide +kernel
theorem dX6_sort_113 : decode cX6_sort 113 = .ok (.iastore, 1) := by decide +kernel
theorem dX6_sort_114 : decode cX6_sort 114 = .ok (.iinc 5 1, 3) := by decide +kernel
theorem dX6_sort_117 : decode cX6_sort 117 = .ok (.goto (-114), 3) := by decide +kernel
theorem dX6_sort_120 : decode cX6_sort 120 = .ok (.return_, 1) := by decide +kernel
theorem dX7_init_0 : decode cX7_init 0 = .ok (.aload_n 0, 1) := by decide +kernel
theorem dX7_init_1 : decode cX7_init 1 = .ok (.invokespecial 3, 3) := by decide +kernel
theorem dX7_init_4 : decode cX7_init 4 = .ok (.aload_n 0, 1) := by decide +kernel
theorem dX7_init_5 : decode cX7_init 5 = .ok (.iconst 0, 1) := by decide +kernel
theorem dX7_init_6 : decode cX7_init 6 = .ok (.putfield 9, 3) := by decide +kernel
theorem dX7_init_9 : decode cX7_init 9 = .ok (.aload_n 0, 1) := by decide +kernel
theorem dX7_init_10 : decode cX7_init 10 = .ok (.bipush 60, 2) := by decide +kernel
theorem dX7_init_12 : decode cX7_init 12 = .ok (.newarray .int, 2) := by decide +kernel
theorem dX7_init_14 : decode cX7_init 14 = .ok (.putfield 15, 3) := by decide +kernel
theorem dX7_init_17 : decode cX7_init 17 = .ok (.aload_n 0, 1) := by decide +kernel
theorem dX7_init_18 : decode cX7_init 18 = .ok (.bipush 60, 2) := by decide +kernel
theorem dX7_init_20 : decode cX7_init 20 = .ok (.newarray .int, 2) := by decide +kernel
theorem dX7_init_22 : decode cX7_init 22 = .ok (.putfield 19, 3) := by decide +kernel
theorem dX7_init_25 : decode cX7_init 25 = .ok (.aload_n 0, 1) := by decide +kernel
theorem dX7_init_26 : decode cX7_init 26 = .ok (.bipush 60, 2) := by decide +kernel
theorem dX7_init_28 : decode cX7_init 28 = .ok (.newarray .boolean, 2) := by decide +kernel
theorem dX7_init_30 : decode cX7_init 30 = .ok (.putfield 22, 3) := by decide +kernel
theorem dX7_init_33 : decode cX7_init 33 = .ok (.return_, 1) := by decide +kernel
theorem dX7_clear_0 : decode cX7_clear 0 = .ok (.aload_n 0, 1) := by decide +kernel
theorem dX7_clear_1 : decode cX7_clear 1 = .ok (.iconst 0, 1) := by decide +kernel
theorem dX7_clear_2 : decode cX7_clear 2 = .ok (.putfield 9, 3) := by decide +kernel
theorem dX7_clear_5 : decode cX7_clear 5 = .ok (.return_, 1) := by decide +kernel
theorem dX7_put_0 : decode cX7_put 0 = .ok (.iconst 0, 1) := by decide +kernel
theorem dX7_put_1 : decode cX7_put 1 = .ok (.istore 4, 2) := by decide +kernel
theorem dX7_put_3 : decode cX7_put 3 = .ok (.iload 4, 2) := by decide +kernel
theorem dX7_put_5 : decode cX7_put 5 = .ok (.aload_n 0, 1) := by decide +kernel
theorem dX7_put_6 : decode cX7_put 6 = .ok (.getfield 9, 3) := by decide +kernel
theorem dX7_put_9 : decode cX7_put 9 = .ok (.if_icmp .ge 22, 3) := by decide +kernel
theorem dX7_put_12 : decode cX7_put 12 = .ok (.aload_n 0, 1) := by decide +kernel
theorem dX7_put_13 : decode cX7_put 13 = .ok (.getfield 19, 3) := by decide +kernel
theorem dX7_put_16 : decode cX7_put 16 = .ok (.iload 4, 2) := by decide +kernel
theorem dX7_put_18 : decode cX7_put 18 = .ok (.iaload, 1) := by decide +kernel
theorem dX7_put_19 : decode cX7_put 19 = .ok (.iconst 1, 1) := by decide +kernel
theorem dX7_put_20 : decode cX7_put 20 = .ok (.iadd, 1) := by decide +kernel
theorem dX7_put_21 : decode cX7_put 21 = .ok (.iload_n 1, 1) := by decide +kernel
theorem dX7_put_22 : decode cX7_put 22 = .ok (.if_icmp .ge 9, 3) := by decide +kernel
theorem dX7_put_25 : decode cX7_put 25 = .ok (.iinc 4 1, 3) := by decide +kernel
theorem dX7_put_28 : decode cX7_put 28 = .ok (.goto (-25), 3) := by decide +kernel
theorem dX7_put_31 : decode cX7_put 31 = .ok (.iload 4, 2) := by decide +kernel
theorem dX7_put_33 : decode cX7_put 33 = .ok (.istore 5, 2) := by decide +kernel
theorem dX7_put_35 : decode cX7_put 35 = .ok (.iload_n 1, 1) := by decide +kernel
theorem dX7_put_36 : decode cX7_put 36 = .ok (.istore 6, 2) := by decide +kernel
theorem dX7_put_38 : decode cX7_put 38 = .ok (.iload_n 2, 1) := by decide +kernel
theorem dX7_put_39 : decode cX7_put 39 = .ok (.istore 7, 2) := by decide +kernel
theorem dX7_put_41 : decode cX7_put 41 = .ok (.iload_n 3, 1) := by decide +kernel
theorem dX7_put_42 : decode cX7_put 42 = .ok (.istore 8, 2) := by decide +kernel
theorem dX7_put_44 : decode cX7_put 44 = .ok (.iload 5, 2) := by decide +kernel
theorem dX7_put_46 : decode cX7_put 46 = .ok (.aload_n 0, 1) := by decide +kernel
theorem dX7_put_47 : decode cX7_put 47 = .ok (.getfield 9, 3) := by decide +kernel
theorem dX7_put_50 : decode cX7_put 50 = .ok (.if_icmp .ge 72, 3) := by decide +kernel
theorem dX7_put_53 : decode cX7_put 53 = .ok (.aload_n 0, 1) := by decide +kernel
theorem dX7_put_54 : decode cX7_put 54 = .ok (.getfield 15, 3) := by decide +kernel
theorem dX7_put_57 : decode cX7_put 57 = .ok (.iload 5, 2) := by decide +kernel
theorem dX7_put_59 : decode cX7_put 59 = .ok (.iaload, 1) := by decide +kernel
theorem dX7_put_60 : decode cX7_put 60 = .ok (.iload_n 2, 1) := by decide +kernel
theorem dX7_put_61 : decode cX7_put 61 = .ok (.iconst 1, 1) := by decide +kernel
theorem dX7_put_62 : decode cX7_put 62 = .ok (.iadd, 1) := by decide +kernel
theorem dX7_put_63 : decode cX7_put 63 = .ok (.if_icmp .gt 59, 3) := by decide +kernel
theorem dX7_put_66 : decode cX7_put 66 = .ok (.iload 6, 2) := by decide +kernel
theorem dX7_put_68 : decode cX7_put 68 = .ok (.aload_n 0, 1) := by decide +kernel
theorem dX7_put_69 : decode cX7_put 69 = .ok (.getfield 15, 3) := by decide +kernel
theorem dX7_put_72 : decode cX7_put 72 = .ok (.iload 5, 2) := by decide +kernel
theorem dX7_put_74 : decode cX7_put 74 = .ok (.iaload, 1) := by decide +kernel
theorem dX7_put_75 : decode cX7_put 75 = .ok (.invokestatic 26, 3) := by decide +kernel
theorem dX7_put_78 : decode cX7_put 78 = .ok (.istore 6, 2) := by decide +kernel
theorem dX7_put_80 : decode cX7_put 80 = .ok (.iload 7, 2) := by decide +kernel
theorem dX7_put_82 : decode cX7_put 82 = .ok (.aload_n 0, 1) := by decide +kernel
theorem dX7_put_83 : decode cX7_put 83 = .ok (.getfield 19, 3) := by decide +kernel
theorem dX7_put_86 : decode cX7_put 86 = .ok (.iload 5, 2) := by decide +kernel
theorem dX7_put_88 : decode cX7_put 88 = .ok (.iaload, 1) := by decide +kernel
theorem dX7_put_89 : decode cX7_put 89 = .ok (.invokestatic 32, 3) := by decide +kernel
theorem dX7_put_92 : decode cX7_put 92 = .ok (.istore 7, 2) := by decide +kernel
theorem dX7_put_94 : decode cX7_put 94 = .ok (.iload 8, 2) := by decide +kernel
theorem dX7_put_96 : decode cX7_put 96 = .ok (.ifCond .ne 13, 3) := by decide +kernel
theorem dX7_put_99 : decode cX7_put 99 = .ok (.aload_n 0, 1) := by decide +kernel
theorem dX7_put_100 : decode cX7_put 100 = .ok (.getfield 22, 3) := by decide +kernel
theorem dX7_put_103 : decode cX7_put 103 = .ok (.iload 5, 2) := by decide +kernel
theorem dX7_put_105 : decode cX7_put 105 = .ok (.baload, 1) := by decide +kernel
theorem dX7_put_106 : decode cX7_put 106 = .ok (.ifCond .eq 7, 3) := by decide +kernel
theorem dX7_put_109 : decode cX7_put 109 = .ok (.iconst 1, 1) := by decide +kernel
theorem dX7_put_110 : decode cX7_put 110 = .ok (.goto 4, 3) := by decide +kernel
theorem dX7_put_113 : decode cX7_put 113 = .ok (.iconst 0, 1) := by decide +kernel
theorem dX7_put_114 : decode cX7_put 114 = .ok (.istore 8, 2) := by decide +kernel
theorem dX7_put_116 : decode cX7_put 116 = .ok (.iinc 5 1, 3) := by decide +kernel
theorem dX7_put_119 : decode cX7_put 119 = .ok (.goto (-75), 3) := by decide +kernel
theorem dX7_put_122 : decode cX7_put 122 = .ok (.aload_n 0, 1) := by decide +kernel
theorem dX7_put_123 : decode cX7_put 123 = .ok (.getfield 9, 3) := by decide +kernel
theorem dX7_put_126 : decode cX7_put 126 = .ok (.iload 5, 2) := by decide +kernel
theorem dX7_put_128 : decode cX7_put 128 = .ok (.isub, 1) := by decide +kernel
theorem dX7_put_129 : decode cX7_put 129 = .ok (.istore 9, 2) := by decide +kernel
theorem dX7_put_131 : decode cX7_put 131 = .ok (.iload 4, 2) := by decide +kernel
theorem dX7_put_133 : decode cX7_put 133 = .ok (.iconst 1, 1) := by decide +kernel
theorem dX7_put_134 : decode cX7_put 134 = .ok (.iadd, 1) := by decide +kernel
theorem dX7_put_135 : decode cX7_put 135 = .ok (.iload 9, 2) := by decide +kernel
theorem dX7_put_137 : decode cX7_put 137 = .ok (.iadd, 1) := by decide +kernel
theorem dX7_put_138 : decode cX7_put 138 = .ok (.bipush 60, 2) := by decide +kernel
theorem dX7_put_140 : decode cX7_put 140 = .ok (.if_icmp .le 4, 3) := by decide +kernel
theorem dX7_put_143 : decode cX7_put 143 = .ok (.return_, 1) := by decide +kernel
theorem dX7_put_144 : decode cX7_put 144 = .ok (.aload_n 0, 1) := by decide +kernel
theorem dX7_put_145 : decode cX7_put 145 = .ok (.getfield 15, 3) := by decide +kernel
theorem dX7_put_148 : decode cX7_put 148 = .ok (.iload 5, 2) := by decide +kernel
theorem dX7_put_150 : decode cX7_put 150 = .ok (.aload_n 0, 1) := by decide +kernel
theorem dX7_put_151 : decode cX7_put 151 = .ok (.getfield 15, 3) := by decide +kernel
theorem dX7_put_154 : decode cX7_put 154 = .ok (.iload 4, 2) := by decide +kernel
theorem dX7_put_156 : decode cX7_put 156 = .ok (.iconst 1, 1) := by decide +kernel
theorem dX7_put_157 : decode cX7_put 157 = .ok (.iadd, 1) := by decide +kernel
theorem dX7_put_158 : decode cX7_put 158 = .ok (.iload 9, 2) := by decide +kernel
theorem dX7_put_160 : decode cX7_put 160 = .ok (.invokestatic 35, 3) := by decide +kernel
theorem dX7_put_163 : decode cX7_put 163 = .ok (.aload_n 0, 1) := by decide +kernel
theorem dX7_put_164 : decode cX7_put 164 = .ok (.getfield 19, 3) := by decide +kernel
theorem dX7_put_167 : decode cX7_put 167 = .ok (.iload 5, 2) := by decide +kernel
theorem dX7_put_169 : decode cX7_put 169 = .ok (.aload_n 0, 1) := by decide +kernel
theorem dX7_put_170 : decode cX7_put 170 = .ok (.getfield 19, 3) := by decide +kernel
theorem dX7_put_173 : decode cX7_put 173 = .ok (.iload 4, 2) := by decide +kernel
theorem dX7_put_175 : decode cX7_put 175 = .ok (.iconst 1, 1) := by decide +kernel
theorem dX7_put_176 : decode cX7_put 176 = .ok (.iadd, 1) := by decide +kernel
theorem dX7_put_177 : decode cX7_put 177 = .ok (.iload 9, 2) := by decide +kernel
theorem dX7_put_179 : decode cX7_put 179 = .ok (.invokestatic 35, 3) := by decide +kernel
theorem dX7_put_182 : decode cX7_put 182 = .ok (.aload_n 0, 1) := by decide +kernel
theorem dX7_put_183 : decode cX7_put 183 = .ok (.getfield 22, 3) := by decide +kernel
theorem dX7_put_186 : decode cX7_put 186 = .ok (.iload 5, 2) := by decide +kernel
theorem dX7_put_188 : decode cX7_put 188 = .ok (.aload_n 0, 1) := by decide +kernel
theorem dX7_put_189 : decode cX7_put 189 = .ok (.getfield 22, 3) := by decide +kernel
theorem dX7_put_192 : decode cX7_put 192 = .ok (.iload 4, 2) := by decide +kernel
theorem dX7_put_194 : decode cX7_put 194 = .ok (.iconst 1, 1) := by decide +kernel
theorem dX7_put_195 : decode cX7_put 195 = .ok (.iadd, 1) := by decide +kernel
theorem dX7_put_196 : decode cX7_put 196 = .ok (.iload 9, 2) := by decide +kernel
theorem dX7_put_198 : decode cX7_put 198 = .ok (.invokestatic 35, 3) := by decide +kernel
theorem dX7_put_201 : decode cX7_put 201 = .ok (.aload_n 0, 1) := by decide +kernel
theorem dX7_put_202 : decode cX7_put 202 = .ok (.getfield 15, 3) := by decide +kernel
theorem dX7_put_205 : decode cX7_put 205 = .ok (.iload 4, 2) := by decide +kernel
theorem dX7_put_207 : decode cX7_put 207 = .ok (.iload 6, 2) := by decide +kernel
theorem dX7_put_209 : decode cX7_put 209 = .ok (.iastore, 1) := by decide +kernel
theorem dX7_put_210 : decode cX7_put 210 = .ok (.aload_n 0, 1) := by decide +kernel
theorem dX7_put_211 : decode cX7_put 211 = .ok (.getfield 19, 3) := by decide +kernel
theorem dX7_put_214 : decode cX7_put 214 = .ok (.iload 4, 2) := by decide +kernel
theorem dX7_put_216 : decode cX7_put 216 = .ok (.iload 7, 2) := by decide +kernel
theorem dX7_put_218 : decode cX7_put 218 = .ok (.iastore, 1) := by decide +kernel
theorem dX7_put_219 : decode cX7_put 219 = .ok (.aload_n 0, 1) := by decide +kernel
theorem dX7_put_220 : decode cX7_put 220 = .ok (.getfield 22, 3) := by decide +kernel
theorem dX7_put_223 : decode cX7_put 223 = .ok (.iload 4, 2) := by decide +kernel
theorem dX7_put_225 : decode cX7_put 225 = .ok (.iload 8, 2) := by decide +kernel
theorem dX7_put_227 : decode cX7_put 227 = .ok (.bastore, 1) := by decide +kernel
theorem dX7_put_228 : decode cX7_put 228 = .ok (.aload_n 0, 1) := by decide +kernel
theorem dX7_put_229 : decode cX7_put 229 = .ok (.iload 4, 2) := by decide +kernel
theorem dX7_put_231 : decode cX7_put 231 = .ok (.iconst 1, 1) := by decide +kernel
theorem dX7_put_232 : decode cX7_put 232 = .ok (.iadd, 1) := by decide +kernel
theorem dX7_put_233 : decode cX7_put 233 = .ok (.iload 9, 2) := by decide +kernel
theorem dX7_put_235 : decode cX7_put 235 = .ok (.iadd, 1) := by decide +kernel
theorem dX7_put_236 : decode cX7_put 236 = .ok (.putfield 9, 3) := by decide +kernel
theorem dX7_put_239 : decode cX7_put 239 = .ok (.return_, 1) := by decide +kernel
theorem dX7_holds_0 : decode cX7_holds 0 = .ok (.iconst 0, 1) := by decide +kernel
theorem dX7_holds_1 : decode cX7_holds 1 = .ok (.istore_n 3, 1) := by decide +kernel
theorem dX7_holds_2 : decode cX7_holds 2 = .ok (.iload_n 3, 1) := by decide +kernel
theorem dX7_holds_3 : decode cX7_holds 3 = .ok (.aload_n 0, 1) := by decide +kernel
theorem dX7_holds_4 : decode cX7_holds 4 = .ok (.getfield 9, 3) := by decide +kernel
theorem dX7_holds_7 : decode cX7_holds 7 = .ok (.if_icmp .ge 31, 3) := by decide +kernel
theorem dX7_holds_10 : decode cX7_holds 10 = .ok (.aload_n 0, 1) := by decide +kernel
theorem dX7_holds_11 : decode cX7_holds 11 = .ok (.getfield 15, 3) := by decide +kernel
theorem dX7_holds_14 : decode cX7_holds 14 = .ok (.iload_n 3, 1) := by decide +kernel
theorem dX7_holds_15 : decode cX7_holds 15 = .ok (.iaload, 1) := by decide +kernel
theorem dX7_holds_16 : decode cX7_holds 16 = .ok (.iload_n 1, 1) := by decide +kernel
theorem dX7_holds_17 : decode cX7_holds 17 = .ok (.if_icmp .ne 15, 3) := by decide +kernel
theorem dX7_holds_20 : decode cX7_holds 20 = .ok (.aload_n 0, 1) := by decide +kernel
theorem dX7_holds_21 : decode cX7_holds 21 = .ok (.getfield 19, 3) := by decide +kernel
theorem dX7_holds_24 : decode cX7_holds 24 = .ok (.iload_n 3, 1) := by decide +kernel
theorem dX7_holds_25 : decode cX7_holds 25 = .ok (.iaload, 1) := by decide +kernel
theorem dX7_holds_26 : decode cX7_holds 26 = .ok (.iload_n 2, 1) := by decide +kernel
theorem dX7_holds_27 : decode cX7_holds 27 = .ok (.if_icmp .ne 5, 3) := by decide +kernel
theorem dX7_holds_30 : decode cX7_holds 30 = .ok (.iconst 1, 1) := by decide +kernel
theorem dX7_holds_31 : decode cX7_holds 31 = .ok (.ireturn, 1) := by decide +kernel
theorem dX7_holds_32 : decode cX7_holds 32 = .ok (.iinc 3 1, 3) := by decide +kernel
theorem dX7_holds_35 : decode cX7_holds 35 = .ok (.goto (-33), 3) := by decide +kernel
theorem dX7_holds_38 : decode cX7_holds 38 = .ok (.iconst 0, 1) := by decide +kernel
theorem dX7_holds_39 : decode cX7_holds 39 = .ok (.ireturn, 1) := by decide +kernel
theorem dX8_init_0 : decode cX8_init 0 = .ok (.aload_n 0, 1) := by decide +kernel
theorem dX8_init_1 : decode cX8_init 1 = .ok (.invokespecial 1, 3) := by decide +kernel
theorem dX8_init_4 : decode cX8_init 4 = .ok (.aload_n 0, 1) := by decide +kernel
theorem dX8_init_5 : decode cX8_init 5 = .ok (.iconst 0, 1) := by decide +kernel
theorem dX8_init_6 : decode cX8_init 6 = .ok (.putfield 7, 3) := by decide +kernel
theorem dX8_init_9 : decode cX8_init 9 = .ok (.aload_n 0, 1) := by decide +kernel
theorem dX8_init_10 : decode cX8_init 10 = .ok (.iconst 0, 1) := by decide +kernel
theorem dX8_init_11 : decode cX8_init 11 = .ok (.putfield 13, 3) := by decide +kernel
theorem dX8_init_14 : decode cX8_init 14 = .ok (.aload_n 0, 1) := by decide +kernel
theorem dX8_init_15 : decode cX8_init 15 = .ok (.iconst 0, 1) := by decide +kernel
theorem dX8_init_16 : decode cX8_init 16 = .ok (.putfield 16, 3) := by decide +kernel
theorem dX8_init_19 : decode cX8_init 19 = .ok (.aload_n 0, 1) := by decide +kernel
theorem dX8_init_20 : decode cX8_init 20 = .ok (.iconst 0, 1) := by decide +kernel
theorem dX8_init_21 : decode cX8_init 21 = .ok (.putfield 19, 3) := by decide +kernel
theorem dX8_init_24 : decode cX8_init 24 = .ok (.aload_n 0, 1) := by decide +kernel
theorem dX8_init_25 : decode cX8_init 25 = .ok (.bipush 40, 2) := by decide +kernel
theorem dX8_init_27 : decode cX8_init 27 = .ok (.newarray .byte, 2) := by decide +kernel
theorem dX8_init_29 : decode cX8_init 29 = .ok (.putfield 22, 3) := by decide +kernel
theorem dX8_init_32 : decode cX8_init 32 = .ok (.aload_n 0, 1) := by decide +kernel
theorem dX8_init_33 : decode cX8_init 33 = .ok (.iconst 0, 1) := by decide +kernel
theorem dX8_init_34 : decode cX8_init 34 = .ok (.putfield 26, 3) := by decide +kernel
theorem dX8_init_37 : decode cX8_init 37 = .ok (.aload_n 0, 1) := by decide +kernel
theorem dX8_init_38 : decode cX8_init 38 = .ok (.iload_n 1, 1) := by decide +kernel
theorem dX8_init_39 : decode cX8_init 39 = .ok (.iconst 0, 1) := by decide +kernel
theorem dX8_init_40 : decode cX8_init 40 = .ok (.invokestatic 29, 3) := by decide +kernel
theorem dX8_init_43 : decode cX8_init 43 = .ok (.newarray .byte, 2) := by decide +kernel
theorem dX8_init_45 : decode cX8_init 45 = .ok (.putfield 35, 3) := by decide +kernel
theorem dX8_init_48 : decode cX8_init 48 = .ok (.return_, 1) := by decide +kernel
theorem dX8_clear_0 : decode cX8_clear 0 = .ok (.aload_n 0, 1) := by decide +kernel
theorem dX8_clear_1 : decode cX8_clear 1 = .ok (.iconst 0, 1) := by decide +kernel
theorem dX8_clear_2 : decode cX8_clear 2 = .ok (.putfield 7, 3) := by decide +kernel
theorem dX8_clear_5 : decode cX8_clear 5 = .ok (.aload_n 0, 1) := by decide +kernel
theorem dX8_clear_6 : decode cX8_clear 6 = .ok (.iconst 0, 1) := by decide +kernel
theorem dX8_clear_7 : decode cX8_clear 7 = .ok (.putfield 13, 3) := by decide +kernel
theorem dX8_clear_10 : decode cX8_clear 10 = .ok (.aload_n 0, 1) := by decide +kernel
theorem dX8_clear_11 : decode cX8_clear 11 = .ok (.iconst 0, 1) := by decide +kernel
theorem dX8_clear_12 : decode cX8_clear 12 = .ok (.putfield 16, 3) := by decide +kernel
theorem dX8_clear_15 : decode cX8_clear 15 = .ok (.aload_n 0, 1) := by decide +kernel
theorem dX8_clear_16 : decode cX8_clear 16 = .ok (.iconst 0, 1) := by decide +kernel
theorem dX8_clear_17 : decode cX8_clear 17 = .ok (.putfield 26, 3) := by decide +kernel
theorem dX8_clear_20 : decode cX8_clear 20 = .ok (.aload_n 0, 1) := by decide +kernel
theorem dX8_clear_21 : decode cX8_clear 21 = .ok (.iload_n 1, 1) := by decide +kernel
theorem dX8_clear_22 : decode cX8_clear 22 = .ok (.putfield 19, 3) := by decide +kernel
theorem dX8_clear_25 : decode cX8_clear 25 = .ok (.return_, 1) := by decide +kernel
theorem dX8_putByte_0 : decode cX8_putByte 0 = .ok (.aload_n 0, 1) := by decide +kernel
theorem dX8_putByte_1 : decode cX8_putByte 1 = .ok (.getfield 26, 3) := by decide +kernel
theorem dX8_putByte_4 : decode cX8_putByte 4 = .ok (.aload_n 0, 1) := by decide +kernel
theorem dX8_putByte_5 : decode cX8_putByte 5 = .ok (.getfield 22, 3) := by decide +kernel
theorem dX8_putByte_8 : decode cX8_putByte 8 = .ok (.arraylength, 1) := by decide +kernel
theorem dX8_putByte_9 : decode cX8_putByte 9 = .ok (.if_icmp .ge 24, 3) := by decide +kernel
theorem dX8_putByte_12 : decode cX8_putByte 12 = .ok (.aload_n 0, 1) := by decide +kernel
theorem dX8_putByte_13 : decode cX8_putByte 13 = .ok (.getfield 22, 3) := by decide +kernel
theorem dX8_putByte_16 : decode cX8_putByte 16 = .ok (.aload_n 0, 1) := by decide +kernel
theorem dX8_putByte_17 : decode cX8_putByte 17 = .ok (.getfield 26, 3) := by decide +kernel
theorem dX8_putByte_20 : decode cX8_putByte 20 = .ok (.iload_n 1, 1) := by decide +kernel
theorem dX8_putByte_21 : decode cX8_putByte 21 = .ok (.i2b, 1) := by decide +kernel
theorem dX8_putByte_22 : decode cX8_putByte 22 = .ok (.bastore, 1) := by decide +kernel
theorem dX8_putByte_23 : decode cX8_putByte 23 = .ok (.aload_n 0, 1) := by decide +kernel
theorem dX8_putByte_24 : decode cX8_putByte 24 = .ok (.dup, 1) := by decide +kernel
theorem dX8_putByte_25 : decode cX8_putByte 25 = .ok (.getfield 26, 3) := by decide +kernel
theorem dX8_putByte_28 : decode cX8_putByte 28 = .ok (.iconst 1, 1) := by decide +kernel
theorem dX8_putByte_29 : decode cX8_putByte 29 = .ok (.iadd, 1) := by decide +kernel
theorem dX8_putByte_30 : decode cX8_putByte 30 = .ok (.putfield 26, 3) := by decide +kernel
theorem dX8_putByte_33 : decode cX8_putByte 33 = .ok (.return_, 1) := by decide +kernel
theorem dX8_putText_0 : decode cX8_putText 0 = .ok (.iconst 0, 1) := by decide +kernel
theorem dX8_putText_1 : decode cX8_putText 1 = .ok (.istore_n 2, 1) := by decide +kernel
theorem dX8_putText_2 : decode cX8_putText 2 = .ok (.iload_n 2, 1) := by decide +kernel
theorem dX8_putText_3 : decode cX8_putText 3 = .ok (.aload_n 1, 1) := by decide +kernel
theorem dX8_putText_4 : decode cX8_putText 4 = .ok (.invokevirtual 38, 3) := by decide +kernel
theorem dX8_putText_7 : decode cX8_putText 7 = .ok (.if_icmp .ge 18, 3) := by decide +kernel
theorem dX8_putText_10 : decode cX8_putText 10 = .ok (.aload_n 0, 1) := by decide +kernel
theorem dX8_putText_11 : decode cX8_putText 11 = .ok (.aload_n 1, 1) := by decide +kernel
theorem dX8_putText_12 : decode cX8_putText 12 = .ok (.iload_n 2, 1) := by decide +kernel
theorem dX8_putText_13 : decode cX8_putText 13 = .ok (.invokevirtual 43, 3) := by decide +kernel
theorem dX8_putText_16 : decode cX8_putText 16 = .ok (.invokevirtual 47, 3) := by decide +kernel
theorem dX8_putText_19 : decode cX8_putText 19 = .ok (.iinc 2 1, 3) := by decide +kernel
theorem dX8_putText_22 : decode cX8_putText 22 = .ok (.goto (-20), 3) := by decide +kernel
theorem dX8_putText_25 : decode cX8_putText 25 = .ok (.return_, 1) := by decide +kernel
theorem dX8_putWord_0 : decode cX8_putWord 0 = .ok (.lload_n 1, 1) := by decide +kernel
theorem dX8_putWord_1 : decode cX8_putWord 1 = .ok (.invokestatic 51, 3) := by decide +kernel
theorem dX8_putWord_4 : decode cX8_putWord 4 = .ok (.istore_n 3, 1) := by decide +kernel
theorem dX8_putWord_5 : decode cX8_putWord 5 = .ok (.iconst 0, 1) := by decide +kernel
theorem dX8_putWord_6 : decode cX8_putWord 6 = .ok (.istore 4, 2) := by decide +kernel
theorem dX8_putWord_8 : decode cX8_putWord 8 = .ok (.iload 4, 2) := by decide +kernel
theorem dX8_putWord_10 : decode cX8_putWord 10 = .ok (.iload_n 3, 1) := by decide +kernel
theorem dX8_putWord_11 : decode cX8_putWord 11 = .ok (.if_icmp .ge 19, 3) := by decide +kernel
theorem dX8_putWord_14 : decode cX8_putWord 14 = .ok (.aload_n 0, 1) := by decide +kernel
theorem dX8_putWord_15 : decode cX8_putWord 15 = .ok (.lload_n 1, 1) := by decide +kernel
theorem dX8_putWord_16 : decode cX8_putWord 16 = .ok (.iload 4, 2) := by decide +kernel
theorem dX8_putWord_18 : decode cX8_putWord 18 = .ok (.invokestatic 57, 3) := by decide +kernel
theorem dX8_putWord_21 : decode cX8_putWord 21 = .ok (.invokevirtual 47, 3) := by decide +kernel
theorem dX8_putWord_24 : decode cX8_putWord 24 = .ok (.iinc 4 1, 3) := by decide +kernel
theorem dX8_putWord_27 : decode cX8_putWord 27 = .ok (.goto (-19), 3) := by decide +kernel
theorem dX8_putWord_30 : decode cX8_putWord 30 = .ok (.return_, 1) := by decide +kernel
theorem dX8_putPage_0 : decode cX8_putPage 0 = .ok (.iload_n 1, 1) := by decide +kernel
theorem dX8_putPage_1 : decode cX8_putPage 1 = .ok (.bipush 9, 2) := by decide +kernel
theorem dX8_putPage_3 : decode cX8_putPage 3 = .ok (.if_icmp .le 14, 3) := by decide +kernel
theorem dX8_putPage_6 : decode cX8_putPage 6 = .ok (.aload_n 0, 1) := by decide +kernel
theorem dX8_putPage_7 : decode cX8_putPage 7 = .ok (.bipush 48, 2) := by decide +kernel
theorem dX8_putPage_9 : decode cX8_putPage 9 = .ok (.iload_n 1, 1) := by decide +kernel
theorem dX8_putPage_10 : decode cX8_putPage 10 = .ok (.bipush 10, 2) := by decide +kernel
theorem dX8_putPage_12 : decode cX8_putPage 12 = .ok (.idiv, 1) := by decide +kernel
theorem dX8_putPage_13 : decode cX8_putPage 13 = .ok (.iadd, 1) := by decide +kernel
theorem dX8_putPage_14 : decode cX8_putPage 14 = .ok (.invokevirtual 47, 3) := by decide +kernel
theorem dX8_putPage_17 : decode cX8_putPage 17 = .ok (.aload_n 0, 1) := by decide +kernel
theorem dX8_putPage_18 : decode cX8_putPage 18 = .ok (.bipush 48, 2) := by decide +kernel
theorem dX8_putPage_20 : decode cX8_putPage 20 = .ok (.iload_n 1, 1) := by decide +kernel
theorem dX8_putPage_21 : decode cX8_putPage 21 = .ok (.bipush 10, 2) := by decide +kernel
theorem dX8_putPage_23 : decode cX8_putPage 23 = .ok (.irem, 1) := by decide +kernel
theorem dX8_putPage_24 : decode cX8_putPage 24 = .ok (.iadd, 1) := by decide +kernel
theorem dX8_putPage_25 : decode cX8_putPage 25 = .ok (.invokevirtual 47, 3) := by decide +kernel
theorem dX8_putPage_28 : decode cX8_putPage 28 = .ok (.return_, 1) := by decide +kernel
theorem dX8_putRun_0 : decode cX8_putRun 0 = .ok (.iload_n 3, 1) := by decide +kernel
theorem dX8_putRun_1 : decode cX8_putRun 1 = .ok (.ifCond .eq 9, 3) := by decide +kernel
theorem dX8_putRun_4 : decode cX8_putRun 4 = .ok (.aload_n 0, 1) := by decide +kernel
theorem dX8_putRun_5 : decode cX8_putRun 5 = .ok (.bipush 42, 2) := by decide +kernel
theorem dX8_putRun_7 : decode cX8_putRun 7 = .ok (.invokevirtual 47, 3) := by decide +kernel
theorem dX8_putRun_10 : decode cX8_putRun 10 = .ok (.aload_n 0, 1) := by decide +kernel
theorem dX8_putRun_11 : decode cX8_putRun 11 = .ok (.iload_n 1, 1) := by decide +kernel
theorem dX8_putRun_12 : decode cX8_putRun 12 = .ok (.invokevirtual 61, 3) := by decide +kernel
theorem dX8_putRun_15 : decode cX8_putRun 15 = .ok (.iload_n 2, 1) := by decide +kernel
theorem dX8_putRun_16 : decode cX8_putRun 16 = .ok (.iload_n 1, 1) := by decide +kernel
theorem dX8_putRun_17 : decode cX8_putRun 17 = .ok (.if_icmp .le 14, 3) := by decide +kernel
theorem dX8_putRun_20 : decode cX8_putRun 20 = .ok (.aload_n 0, 1) := by decide +kernel
theorem dX8_putRun_21 : decode cX8_putRun 21 = .ok (.bipush 45, 2) := by decide +kernel
theorem dX8_putRun_23 : decode cX8_putRun 23 = .ok (.invokevirtual 47, 3) := by decide +kernel
theorem dX8_putRun_26 : decode cX8_putRun 26 = .ok (.aload_n 0, 1) := by decide +kernel
theorem dX8_putRun_27 : decode cX8_putRun 27 = .ok (.iload_n 2, 1) := by decide +kernel
theorem dX8_putRun_28 : decode cX8_putRun 28 = .ok (.invokevirtual 61, 3) := by decide +kernel
theorem dX8_putRun_31 : decode cX8_putRun 31 = .ok (.return_, 1) := by decide +kernel
theorem dX8_write_0 : decode cX8_write 0 = .ok (.aload_n 0, 1) := by decide +kernel
theorem dX8_write_1 : decode cX8_write 1 = .ok (.getfield 7, 3) := by decide +kernel
theorem dX8_write_4 : decode cX8_write 4 = .ok (.aload_n 0, 1) := by decide +kernel
theorem dX8_write_5 : decode cX8_write 5 = .ok (.getfield 35, 3) := by decide +kernel
theorem dX8_write_8 : decode cX8_write 8 = .ok (.arraylength, 1) := by decide +kernel
theorem dX8_write_9 : decode cX8_write 9 = .ok (.if_icmp .ge 14, 3) := by decide +kernel
theorem dX8_write_12 : decode cX8_write 12 = .ok (.aload_n 0, 1) := by decide +kernel
theorem dX8_write_13 : decode cX8_write 13 = .ok (.getfield 35, 3) := by decide +kernel
theorem dX8_write_16 : decode cX8_write 16 = .ok (.aload_n 0, 1) := by decide +kernel
theorem dX8_write_17 : decode cX8_write 17 = .ok (.getfield 7, 3) := by decide +kernel
theorem dX8_write_20 : decode cX8_write 20 = .ok (.iload_n 1, 1) := by decide +kernel
theorem dX8_write_21 : decode cX8_write 21 = .ok (.i2b, 1) := by decide +kernel
theorem dX8_write_22 : decode cX8_write 22 = .ok (.bastore, 1) := by decide +kernel
theorem dX8_write_23 : decode cX8_write 23 = .ok (.aload_n 0, 1) := by decide +kernel
theorem dX8_write_24 : decode cX8_write 24 = .ok (.dup, 1) := by decide +kernel
theorem dX8_write_25 : decode cX8_write 25 = .ok (.getfield 7, 3) := by decide +kernel
theorem dX8_write_28 : decode cX8_write 28 = .ok (.iconst 1, 1) := by decide +kernel
theorem dX8_write_29 : decode cX8_write 29 = .ok (.iadd, 1) := by decide +kernel
theorem dX8_write_30 : decode cX8_write 30 = .ok (.putfield 7, 3) := by decide +kernel
theorem dX8_write_33 : decode cX8_write 33 = .ok (.aload_n 0, 1) := by decide +kernel
theorem dX8_write_34 : decode cX8_write 34 = .ok (.dup, 1) := by decide +kernel
theorem dX8_write_35 : decode cX8_write 35 = .ok (.getfield 16, 3) := by decide +kernel
theorem dX8_write_38 : decode cX8_write 38 = .ok (.iconst 1, 1) := by decide +kernel
theorem dX8_write_39 : decode cX8_write 39 = .ok (.iadd, 1) := by decide +kernel
theorem dX8_write_40 : decode cX8_write 40 = .ok (.putfield 16, 3) := by decide +kernel
theorem dX8_write_43 : decode cX8_write 43 = .ok (.iload_n 1, 1) := by decide +kernel
theorem dX8_write_44 : decode cX8_write 44 = .ok (.bipush 10, 2) := by decide +kernel
theorem dX8_write_46 : decode cX8_write 46 = .ok (.if_icmp .ne 18, 3) := by decide +kernel
theorem dX8_write_49 : decode cX8_write 49 = .ok (.aload_n 0, 1) := by decide +kernel
theorem dX8_write_50 : decode cX8_write 50 = .ok (.dup, 1) := by decide +kernel
theorem dX8_write_51 : decode cX8_write 51 = .ok (.getfield 13, 3) := by decide +kernel
theorem dX8_write_54 : decode cX8_write 54 = .ok (.iconst 1, 1) := by decide +kernel
theorem dX8_write_55 : decode cX8_write 55 = .ok (.iadd, 1) := by decide +kernel
theorem dX8_write_56 : decode cX8_write 56 = .ok (.putfield 13, 3) := by decide +kernel
theorem dX8_write_59 : decode cX8_write 59 = .ok (.aload_n 0, 1) := by decide +kernel
theorem dX8_write_60 : decode cX8_write 60 = .ok (.iconst 0, 1) := by decide +kernel
theorem dX8_write_61 : decode cX8_write 61 = .ok (.putfield 16, 3) := by decide +kernel
theorem dX8_write_64 : decode cX8_write 64 = .ok (.return_, 1) := by decide +kernel
theorem dX8_placeUnit_0 : decode cX8_placeUnit 0 = .ok (.aload_n 0, 1) := by decide +kernel
theorem dX8_placeUnit_1 : decode cX8_placeUnit 1 = .ok (.getfield 26, 3) := by decide +kernel
theorem dX8_placeUnit_4 : decode cX8_placeUnit 4 = .ok (.ifCond .ne 4, 3) := by decide +kernel
theorem dX8_placeUnit_7 : decode cX8_placeUnit 7 = .ok (.return_, 1) := by decide +kernel
theorem dX8_placeUnit_8 : decode cX8_placeUnit 8 = .ok (.aload_n 0, 1) := by decide +kernel
theorem dX8_placeUnit_9 : decode cX8_placeUnit 9 = .ok (.getfield 16, 3) := by decide +kernel
theorem dX8_placeUnit_12 : decode cX8_placeUnit 12 = .ok (.ifCond .le 61, 3) := by decide +kernel
theorem dX8_placeUnit_15 : decode cX8_placeUnit 15 = .ok (.aload_n 0, 1) := by decide +kernel
theorem dX8_placeUnit_16 : decode cX8_placeUnit 16 = .ok (.bipush 44, 2) := by decide +kernel
theorem dX8_placeUnit_18 : decode cX8_placeUnit 18 = .ok (.invokevirtual 64, 3) := by decide +kernel
theorem dX8_placeUnit_21 : decode cX8_placeUnit 21 = .ok (.aload_n 0, 1) := by decide +kernel
theorem dX8_placeUnit_22 : decode cX8_placeUnit 22 = .ok (.getfield 16, 3) := by decide +kernel
theorem dX8_placeUnit_25 : decode cX8_placeUnit 25 = .ok (.iconst 1, 1) := by decide +kernel
theorem dX8_placeUnit_26 : decode cX8_placeUnit 26 = .ok (.iadd, 1) := by decide +kernel
theorem dX8_placeUnit_27 : decode cX8_placeUnit 27 = .ok (.aload_n 0, 1) := by decide +kernel
theorem dX8_placeUnit_28 : decode cX8_placeUnit 28 = .ok (.getfield 26, 3) := by decide +kernel
theorem dX8_placeUnit_31 : decode cX8_placeUnit 31 = .ok (.iadd, 1) := by decide +kernel
theorem dX8_placeUnit_32 : decode cX8_placeUnit 32 = .ok (.aload_n 0, 1) := by decide +kernel
theorem dX8_placeUnit_33 : decode cX8_placeUnit 33 = .ok (.getfield 19, 3) := by decide +kernel
theorem dX8_placeUnit_36 : decode cX8_placeUnit 36 = .ok (.if_icmp .gt 12, 3) := by decide +kernel
theorem dX8_placeUnit_39 : decode cX8_placeUnit 39 = .ok (.aload_n 0, 1) := by decide +kernel
theorem dX8_placeUnit_40 : decode cX8_placeUnit 40 = .ok (.bipush 32, 2) := by decide +kernel
theorem dX8_placeUnit_42 : decode cX8_placeUnit 42 = .ok (.invokevirtual 64, 3) := by decide +kernel
theorem dX8_placeUnit_45 : decode cX8_placeUnit 45 = .ok (.goto 28, 3) := by decide +kernel
theorem dX8_placeUnit_48 : decode cX8_placeUnit 48 = .ok (.aload_n 0, 1) := by decide +kernel
theorem dX8_placeUnit_49 : decode cX8_placeUnit 49 = .ok (.bipush 10, 2) := by decide +kernel
theorem dX8_placeUnit_51 : decode cX8_placeUnit 51 = .ok (.invokevirtual 64, 3) := by decide +kernel
theorem dX8_placeUnit_54 : decode cX8_placeUnit 54 = .ok (.iconst 0, 1) := by decide +kernel
theorem dX8_placeUnit_55 : decode cX8_placeUnit 55 = .ok (.istore_n 1, 1) := by decide +kernel
theorem dX8_placeUnit_56 : decode cX8_placeUnit 56 = .ok (.iload_n 1, 1) := by decide +kernel
theorem dX8_placeUnit_57 : decode cX8_placeUnit 57 = .ok (.iconst 4, 1) := by decide +kernel
theorem dX8_placeUnit_58 : decode cX8_placeUnit 58 = .ok (.if_icmp .ge 15, 3) := by decide +kernel
theorem dX8_placeUnit_61 : decode cX8_placeUnit 61 = .ok (.aload_n 0, 1) := by decide +kernel
theorem dX8_placeUnit_62 : decode cX8_placeUnit 62 = .ok (.bipush 32, 2) := by decide +kernel
theorem dX8_placeUnit_64 : decode cX8_placeUnit 64 = .ok (.invokevirtual 64, 3) := by decide +kernel
theorem dX8_placeUnit_67 : decode cX8_placeUnit 67 = .ok (.iinc 1 1, 3) := by decide +kernel
theorem dX8_placeUnit_70 : decode cX8_placeUnit 70 = .ok (.goto (-14), 3) := by decide +kernel
theorem dX8_placeUnit_73 : decode cX8_placeUnit 73 = .ok (.iconst 0, 1) := by decide +kernel
theorem dX8_placeUnit_74 : decode cX8_placeUnit 74 = .ok (.istore_n 1, 1) := by decide +kernel
theorem dX8_placeUnit_75 : decode cX8_placeUnit 75 = .ok (.iload_n 1, 1) := by decide +kernel
theorem dX8_placeUnit_76 : decode cX8_placeUnit 76 = .ok (.aload_n 0, 1) := by decide +kernel
theorem dX8_placeUnit_77 : decode cX8_placeUnit 77 = .ok (.getfield 26, 3) := by decide +kernel
theorem dX8_placeUnit_80 : decode cX8_placeUnit 80 = .ok (.if_icmp .ge 19, 3) := by decide +kernel
theorem dX8_placeUnit_83 : decode cX8_placeUnit 83 = .ok (.aload_n 0, 1) := by decide +kernel
theorem dX8_placeUnit_84 : decode cX8_placeUnit 84 = .ok (.aload_n 0, 1) := by decide +kernel
theorem dX8_placeUnit_85 : decode cX8_placeUnit 85 = .ok (.getfield 22, 3) := by decide +kernel
theorem dX8_placeUnit_88 : decode cX8_placeUnit 88 = .ok (.iload_n 1, 1) := by decide +kernel
theorem dX8_placeUnit_89 : decode cX8_placeUnit 89 = .ok (.baload, 1) := by decide +kernel
theorem dX8_placeUnit_90 : decode cX8_placeUnit 90 = .ok (.invokevirtual 64, 3) := by decide +kernel
theorem dX8_placeUnit_93 : decode cX8_placeUnit 93 = .ok (.iinc 1 1, 3) := by decide +kernel
theorem dX8_placeUnit_96 : decode cX8_placeUnit 96 = .ok (.goto (-21), 3) := by decide +kernel
theorem dX8_placeUnit_99 : decode cX8_placeUnit 99 = .ok (.aload_n 0, 1) := by decide +kernel
theorem dX8_placeUnit_100 : decode cX8_placeUnit 100 = .ok (.iconst 0, 1) := by decide +kernel
theorem dX8_placeUnit_101 : decode cX8_placeUnit 101 = .ok (.putfield 26, 3) := by decide +kernel
theorem dX8_placeUnit_104 : decode cX8_placeUnit 104 = .ok (.return_, 1) := by decide +kernel
theorem dX8_endRow_0 : decode cX8_endRow 0 = .ok (.aload_n 0, 1) := by decide +kernel
theorem dX8_endRow_1 : decode cX8_endRow 1 = .ok (.invokevirtual 67, 3) := by decide +kernel
theorem dX8_endRow_4 : decode cX8_endRow 4 = .ok (.aload_n 0, 1) := by decide +kernel
theorem dX8_endRow_5 : decode cX8_endRow 5 = .ok (.bipush 10, 2) := by decide +kernel
theorem dX8_endRow_7 : decode cX8_endRow 7 = .ok (.invokevirtual 64, 3) := by decide +kernel
theorem dX8_endRow_10 : decode cX8_endRow 10 = .ok (.return_, 1) := by decide +kernel
theorem dX9_init_0 : decode cX9_init 0 = .ok (.aload_n 0, 1) := by decide +kernel
theorem dX9_init_1 : decode cX9_init 1 = .ok (.invokespecial 5, 3) := by decide +kernel
theorem dX9_init_4 : decode cX9_init 4 = .ok (.aload_n 0, 1) := by decide +kernel
theorem dX9_init_5 : decode cX9_init 5 = .ok (.iconst 0, 1) := by decide +kernel
theorem dX9_init_6 : decode cX9_init 6 = .ok (.putfield 11, 3) := by decide +kernel
theorem dX9_init_9 : decode cX9_init 9 = .ok (.aload_n 0, 1) := by decide +kernel
theorem dX9_init_10 : decode cX9_init 10 = .ok (.bipush 20, 2) := by decide +kernel
theorem dX9_init_12 : decode cX9_init 12 = .ok (.newarray .int, 2) := by decide +kernel
theorem dX9_init_14 : decode cX9_init 14 = .ok (.putfield 15, 3) := by decide +kernel
theorem dX9_init_17 : decode cX9_init 17 = .ok (.aload_n 0, 1) := by decide +kernel
theorem dX9_init_18 : decode cX9_init 18 = .ok (.bipush 20, 2) := by decide +kernel
theorem dX9_init_20 : decode cX9_init 20 = .ok (.newarray .int, 2) := by decide +kernel
theorem dX9_init_22 : decode cX9_init 22 = .ok (.putfield 19, 3) := by decide +kernel
theorem dX9_init_25 : decode cX9_init 25 = .ok (.aload_n 0, 1) := by decide +kernel
theorem dX9_init_26 : decode cX9_init 26 = .ok (.sipush 441, 3) := by decide +kernel
theorem dX9_init_29 : decode cX9_init 29 = .ok (.newarray .int, 2) := by decide +kernel
theorem dX9_init_31 : decode cX9_init 31 = .ok (.putfield 22, 3) := by decide +kernel
theorem dX9_init_34 : decode cX9_init 34 = .ok (.return_, 1) := by decide +kernel
theorem dX9_lastTold_0 : decode cX9_lastTold 0 = .ok (.aload_n 0, 1) := by decide +kernel
theorem dX9_lastTold_1 : decode cX9_lastTold 1 = .ok (.getfield 11, 3) := by decide +kernel
theorem dX9_lastTold_4 : decode cX9_lastTold 4 = .ok (.ifCond .ne 7, 3) := by decide +kernel
theorem dX9_lastTold_7 : decode cX9_lastTold 7 = .ok (.iconst 0, 1) := by decide +kernel
theorem dX9_lastTold_8 : decode cX9_lastTold 8 = .ok (.goto 14, 3) := by decide +kernel
theorem dX9_lastTold_11 : decode cX9_lastTold 11 = .ok (.aload_n 0, 1) := by decide +kernel
theorem dX9_lastTold_12 : decode cX9_lastTold 12 = .ok (.getfield 15, 3) := by decide +kernel
theorem dX9_lastTold_15 : decode cX9_lastTold 15 = .ok (.aload_n 0, 1) := by decide +kernel
theorem dX9_lastTold_16 : decode cX9_lastTold 16 = .ok (.getfield 11, 3) := by decide +kernel
theorem dX9_lastTold_19 : decode cX9_lastTold 19 = .ok (.iconst 1, 1) := by decide +kernel
theorem dX9_lastTold_20 : decode cX9_lastTold 20 = .ok (.isub, 1) := by decide +kernel
theorem dX9_lastTold_21 : decode cX9_lastTold 21 = .ok (.iaload, 1) := by decide +kernel
theorem dX9_lastTold_22 : decode cX9_lastTold 22 = .ok (.ireturn, 1) := by decide +kernel
theorem dX9_put_0 : decode cX9_put 0 = .ok (.aload_n 0, 1) := by decide +kernel
theorem dX9_put_1 : decode cX9_put 1 = .ok (.getfield 11, 3) := by decide +kernel
theorem dX9_put_4 : decode cX9_put 4 = .ok (.bipush 20, 2) := by decide +kernel
theorem dX9_put_6 : decode cX9_put 6 = .ok (.if_icmp .ge 35, 3) := by decide +kernel
theorem dX9_put_9 : decode cX9_put 9 = .ok (.aload_n 0, 1) := by decide +kernel
theorem dX9_put_10 : decode cX9_put 10 = .ok (.getfield 15, 3) := by decide +kernel
theorem dX9_put_13 : decode cX9_put 13 = .ok (.aload_n 0, 1) := by decide +kernel
theorem dX9_put_14 : decode cX9_put 14 = .ok (.getfield 11, 3) := by decide +kernel
theorem dX9_put_17 : decode cX9_put 17 = .ok (.iload_n 1, 1) := by decide +kernel
theorem dX9_put_18 : decode cX9_put 18 = .ok (.iastore, 1) := by decide +kernel
theorem dX9_put_19 : decode cX9_put 19 = .ok (.aload_n 0, 1) := by decide +kernel
theorem dX9_put_20 : decode cX9_put 20 = .ok (.getfield 19, 3) := by decide +kernel
theorem dX9_put_23 : decode cX9_put 23 = .ok (.aload_n 0, 1) := by decide +kernel
theorem dX9_put_24 : decode cX9_put 24 = .ok (.getfield 11, 3) := by decide +kernel
theorem dX9_put_27 : decode cX9_put 27 = .ok (.iload_n 2, 1) := by decide +kernel
theorem dX9_put_28 : decode cX9_put 28 = .ok (.iload_n 1, 1) := by decide +kernel
theorem dX9_put_29 : decode cX9_put 29 = .ok (.isub, 1) := by decide +kernel
theorem dX9_put_30 : decode cX9_put 30 = .ok (.iastore, 1) := by decide +kernel
theorem dX9_put_31 : decode cX9_put 31 = .ok (.aload_n 0, 1) := by decide +kernel
theorem dX9_put_32 : decode cX9_put 32 = .ok (.dup, 1) := by decide +kernel
theorem dX9_put_33 : decode cX9_put 33 = .ok (.getfield 11, 3) := by decide +kernel
theorem dX9_put_36 : decode cX9_put 36 = .ok (.iconst 1, 1) := by decide +kernel
theorem dX9_put_37 : decode cX9_put 37 = .ok (.iadd, 1) := by decide +kernel
theorem dX9_put_38 : decode cX9_put 38 = .ok (.putfield 11, 3) := by decide +kernel
theorem dX9_put_41 : decode cX9_put 41 = .ok (.aload_n 0, 1) := by decide +kernel
theorem dX9_put_42 : decode cX9_put 42 = .ok (.getfield 11, 3) := by decide +kernel
theorem dX9_put_45 : decode cX9_put 45 = .ok (.ireturn, 1) := by decide +kernel
theorem dX9_weigh_0 : decode cX9_weigh 0 = .ok (.iconst (-1), 1) := by decide +kernel
theorem dX9_weigh_1 : decode cX9_weigh 1 = .ok (.istore_n 2, 1) := by decide +kernel
theorem dX9_weigh_2 : decode cX9_weigh 2 = .ok (.iload_n 2, 1) := by decide +kernel
theorem dX9_weigh_3 : decode cX9_weigh 3 = .ok (.aload_n 0, 1) := by decide +kernel
theorem dX9_weigh_4 : decode cX9_weigh 4 = .ok (.getfield 11, 3) := by decide +kernel
theorem dX9_weigh_7 : decode cX9_weigh 7 = .ok (.if_icmp .ge 26, 3) := by decide +kernel
theorem dX9_weigh_10 : decode cX9_weigh 10 = .ok (.aload_n 0, 1) := by decide +kernel
theorem dX9_weigh_11 : decode cX9_weigh 11 = .ok (.getfield 22, 3) := by decide +kernel
theorem dX9_weigh_14 : decode cX9_weigh 14 = .ok (.aload_n 0, 1) := by decide +kernel
theorem dX9_weigh_15 : decode cX9_weigh 15 = .ok (.getfield 11, 3) := by decide +kernel
theorem dX9_weigh_18 : decode cX9_weigh 18 = .ok (.bipush 21, 2) := by decide +kernel
theorem dX9_weigh_20 : decode cX9_weigh 20 = .ok (.imul, 1) := by decide +kernel
theorem dX9_weigh_21 : decode cX9_weigh 21 = .ok (.iload_n 2, 1) := by decide +kernel
theorem dX9_weigh_22 : decode cX9_weigh 22 = .ok (.iadd, 1) := by decide +kernel
theorem dX9_weigh_23 : decode cX9_weigh 23 = .ok (.iconst 1, 1) := by decide +kernel
theorem dX9_weigh_24 : decode cX9_weigh 24 = .ok (.iadd, 1) := by decide +kernel
theorem dX9_weigh_25 : decode cX9_weigh 25 = .ok (.iconst 0, 1) := by decide +kernel
theorem dX9_weigh_26 : decode cX9_weigh 26 = .ok (.iastore, 1) := by decide +kernel
theorem dX9_weigh_27 : decode cX9_weigh 27 = .ok (.iinc 2 1, 3) := by decide +kernel
theorem dX9_weigh_30 : decode cX9_weigh 30 = .ok (.goto (-28), 3) := by decide +kernel
theorem dX9_weigh_33 : decode cX9_weigh 33 = .ok (.aload_n 0, 1) := by decide +kernel
theorem dX9_weigh_34 : decode cX9_weigh 34 = .ok (.getfield 11, 3) := by decide +kernel
theorem dX9_weigh_37 : decode cX9_weigh 37 = .ok (.iconst 1, 1) := by decide +kernel
theorem dX9_weigh_38 : decode cX9_weigh 38 = .ok (.isub, 1) := by decide +kernel
theorem dX9_weigh_39 : decode cX9_weigh 39 = .ok (.istore_n 2, 1) := by decide +kernel
theorem dX9_weigh_40 : decode cX9_weigh 40 = .ok (.iload_n 2, 1) := by decide +kernel
theorem dX9_weigh_41 : decode cX9_weigh 41 = .ok (.ifCond .lt 51, 3) := by decide +kernel
theorem dX9_weigh_44 : decode cX9_weigh 44 = .ok (.iconst (-1), 1) := by decide +kernel
theorem dX9_weigh_45 : decode cX9_weigh 45 = .ok (.istore_n 3, 1) := by decide +kernel
theorem dX9_weigh_46 : decode cX9_weigh 46 = .ok (.iload_n 3, 1) := by decide +kernel
theorem dX9_weigh_47 : decode cX9_weigh 47 = .ok (.iload_n 2, 1) := by decide +kernel
theorem dX9_weigh_48 : decode cX9_weigh 48 = .ok (.if_icmp .ge 38, 3) := by decide +kernel
theorem dX9_weigh_51 : decode cX9_weigh 51 = .ok (.aload_n 0, 1) := by decide +kernel
theorem dX9_weigh_52 : decode cX9_weigh 52 = .ok (.getfield 22, 3) := by decide +kernel
theorem dX9_weigh_55 : decode cX9_weigh 55 = .ok (.iload_n 2, 1) := by decide +kernel
theorem dX9_weigh_56 : decode cX9_weigh 56 = .ok (.bipush 21, 2) := by decide +kernel
theorem dX9_weigh_58 : decode cX9_weigh 58 = .ok (.imul, 1) := by decide +kernel
theorem dX9_weigh_59 : decode cX9_weigh 59 = .ok (.iload_n 3, 1) := by decide +kernel
theorem dX9_weigh_60 : decode cX9_weigh 60 = .ok (.iadd, 1) := by decide +kernel
theorem dX9_weigh_61 : decode cX9_weigh 61 = .ok (.iconst 1, 1) := by decide +kernel
theorem dX9_weigh_62 : decode cX9_weigh 62 = .ok (.iadd, 1) := by decide +kernel
theorem dX9_weigh_63 : decode cX9_weigh 63 = .ok (.aload_n 0, 1) := by decide +kernel
theorem dX9_weigh_64 : decode cX9_weigh 64 = .ok (.iload_n 2, 1) := by decide +kernel
theorem dX9_weigh_65 : decode cX9_weigh 65 = .ok (.iload_n 3, 1) := by decide +kernel
theorem dX9_weigh_66 : decode cX9_weigh 66 = .ok (.iload_n 1, 1) := by decide +kernel
theorem dX9_weigh_67 : decode cX9_weigh 67 = .ok (.invokevirtual 25, 3) := by decide +kernel
theorem dX9_weigh_70 : decode cX9_weigh 70 = .ok (.aload_n 0, 1) := by decide +kernel
theorem dX9_weigh_71 : decode cX9_weigh 71 = .ok (.iload_n 2, 1) := by decide +kernel
theorem dX9_weigh_72 : decode cX9_weigh 72 = .ok (.iload_n 3, 1) := by decide +kernel
theorem dX9_weigh_73 : decode cX9_weigh 73 = .ok (.invokevirtual 29, 3) := by decide +kernel
theorem dX9_weigh_76 : decode cX9_weigh 76 = .ok (.invokestatic 33, 3) := by decide +kernel
theorem dX9_weigh_79 : decode cX9_weigh 79 = .ok (.iastore, 1) := by decide +kernel
theorem dX9_weigh_80 : decode cX9_weigh 80 = .ok (.iinc 3 1, 3) := by decide +kernel
theorem dX9_weigh_83 : decode cX9_weigh 83 = .ok (.goto (-37), 3) := by decide +kernel
theorem dX9_weigh_86 : decode cX9_weigh 86 = .ok (.iinc 2 (-1), 3) := by decide +kernel
theorem dX9_weigh_89 : decode cX9_weigh 89 = .ok (.goto (-49), 3) := by decide +kernel
theorem dX9_weigh_92 : decode cX9_weigh 92 = .ok (.return_, 1) := by decide +kernel
theorem dX9_ifStands_0 : decode cX9_ifStands 0 = .ok (.iload_n 2, 1) := by decide +kernel
theorem dX9_ifStands_1 : decode cX9_ifStands 1 = .ok (.iconst (-1), 1) := by decide +kernel
theorem dX9_ifStands_2 : decode cX9_ifStands 2 = .ok (.if_icmp .eq 22, 3) := by decide +kernel
theorem dX9_ifStands_5 : decode cX9_ifStands 5 = .ok (.aload_n 0, 1) := by decide +kernel
theorem dX9_ifStands_6 : decode cX9_ifStands 6 = .ok (.getfield 19, 3) := by decide +kernel
theorem dX9_ifStands_9 : decode cX9_ifStands 9 = .ok (.iload_n 2, 1) := by decide +kernel
theorem dX9_ifStands_10 : decode cX9_ifStands 10 = .ok (.iaload, 1) := by decide +kernel
theorem dX9_ifStands_11 : decode cX9_ifStands 11 = .ok (.aload_n 0, 1) := by decide +kernel
theorem dX9_ifStands_12 : decode cX9_ifStands 12 = .ok (.getfield 19, 3) := by decide +kernel
theorem dX9_ifStands_15 : decode cX9_ifStands 15 = .ok (.iload_n 1, 1) := by decide +kernel
theorem dX9_ifStands_16 : decode cX9_ifStands 16 = .ok (.iaload, 1) := by decide +kernel
theorem dX9_ifStands_17 : decode cX9_ifStands 17 = .ok (.if_icmp .eq 7, 3) := by decide +kernel
theorem dX9_ifStands_20 : decode cX9_ifStands 20 = .ok (.iconst 1, 1) := by decide +kernel
theorem dX9_ifStands_21 : decode cX9_ifStands 21 = .ok (.goto 4, 3) := by decide +kernel
theorem dX9_ifStands_24 : decode cX9_ifStands 24 = .ok (.iconst 0, 1) := by decide +kernel
theorem dX9_ifStands_25 : decode cX9_ifStands 25 = .ok (.istore 4, 2) := by decide +kernel
theorem dX9_ifStands_27 : decode cX9_ifStands 27 = .ok (.aload_n 0, 1) := by decide +kernel
theorem dX9_ifStands_28 : decode cX9_ifStands 28 = .ok (.getfield 22, 3) := by decide +kernel
theorem dX9_ifStands_31 : decode cX9_ifStands 31 = .ok (.iload_n 1, 1) := by decide +kernel
theorem dX9_ifStands_32 : decode cX9_ifStands 32 = .ok (.iconst 1, 1) := by decide +kernel
theorem dX9_ifStands_33 : decode cX9_ifStands 33 = .ok (.iadd, 1) := by decide +kernel
theorem dX9_ifStands_34 : decode cX9_ifStands 34 = .ok (.bipush 21, 2) := by decide +kernel
theorem dX9_ifStands_36 : decode cX9_ifStands 36 = .ok (.imul, 1) := by decide +kernel
theorem dX9_ifStands_37 : decode cX9_ifStands 37 = .ok (.iload_n 1, 1) := by decide +kernel
theorem dX9_ifStands_38 : decode cX9_ifStands 38 = .ok (.iadd, 1) := by decide +kernel
theorem dX9_ifStands_39 : decode cX9_ifStands 39 = .ok (.iconst 1, 1) := by decide +kernel
theorem dX9_ifStands_40 : decode cX9_ifStands 40 = .ok (.iadd, 1) := by decide +kernel
theorem dX9_ifStands_41 : decode cX9_ifStands 41 = .ok (.iaload, 1) := by decide +kernel
theorem dX9_ifStands_42 : decode cX9_ifStands 42 = .ok (.iload 4, 2) := by decide +kernel
theorem dX9_ifStands_44 : decode cX9_ifStands 44 = .ok (.ifCond .eq 10, 3) := by decide +kernel
theorem dX9_ifStands_47 : decode cX9_ifStands 47 = .ok (.iload_n 3, 1) := by decide +kernel
theorem dX9_ifStands_48 : decode cX9_ifStands 48 = .ok (.bipush 32, 2) := by decide +kernel
theorem dX9_ifStands_50 : decode cX9_ifStands 50 = .ok (.imul, 1) := by decide +kernel
theorem dX9_ifStands_51 : decode cX9_ifStands 51 = .ok (.goto 4, 3) := by decide +kernel
theorem dX9_ifStands_54 : decode cX9_ifStands 54 = .ok (.iconst 0, 1) := by decide +kernel
theorem dX9_ifStands_55 : decode cX9_ifStands 55 = .ok (.iadd, 1) := by decide +kernel
theorem dX9_ifStands_56 : decode cX9_ifStands 56 = .ok (.ireturn, 1) := by decide +kernel
theorem dX9_ifLeftOut_0 : decode cX9_ifLeftOut 0 = .ok (.aload_n 0, 1) := by decide +kernel
theorem dX9_ifLeftOut_1 : decode cX9_ifLeftOut 1 = .ok (.getfield 22, 3) := by decide +kernel
theorem dX9_ifLeftOut_4 : decode cX9_ifLeftOut 4 = .ok (.iload_n 1, 1) := by decide +kernel
theorem dX9_ifLeftOut_5 : decode cX9_ifLeftOut 5 = .ok (.iconst 1, 1) := by decide +kernel
theorem dX9_ifLeftOut_6 : decode cX9_ifLeftOut 6 = .ok (.iadd, 1) := by decide +kernel
theorem dX9_ifLeftOut_7 : decode cX9_ifLeftOut 7 = .ok (.bipush 21, 2) := by decide +kernel
theorem dX9_ifLeftOut_9 : decode cX9_ifLeftOut 9 = .ok (.imul, 1) := by decide +kernel
theorem dX9_ifLeftOut_10 : decode cX9_ifLeftOut 10 = .ok (.iload_n 2, 1) := by decide +kernel
theorem dX9_ifLeftOut_11 : decode cX9_ifLeftOut 11 = .ok (.iadd, 1) := by decide +kernel
theorem dX9_ifLeftOut_12 : decode cX9_ifLeftOut 12 = .ok (.iconst 1, 1) := by decide +kernel
theorem dX9_ifLeftOut_13 : decode cX9_ifLeftOut 13 = .ok (.iadd, 1) := by decide +kernel
theorem dX9_ifLeftOut_14 : decode cX9_ifLeftOut 14 = .ok (.iaload, 1) := by decide +kernel
theorem dX9_ifLeftOut_15 : decode cX9_ifLeftOut 15 = .ok (.bipush 33, 2) := by decide +kernel
theorem dX9_ifLeftOut_17 : decode cX9_ifLeftOut 17 = .ok (.iadd, 1) := by decide +kernel
theorem dX9_ifLeftOut_18 : decode cX9_ifLeftOut 18 = .ok (.ireturn, 1) := by decide +kernel
theorem dX9_leastCost_0 : decode cX9_leastCost 0 = .ok (.aload_n 0, 1) := by decide +kernel
theorem dX9_leastCost_1 : decode cX9_leastCost 1 = .ok (.getfield 22, 3) := by decide +kernel
theorem dX9_leastCost_4 : decode cX9_leastCost 4 = .ok (.iconst 0, 1) := by decide +kernel
theorem dX9_leastCost_5 : decode cX9_leastCost 5 = .ok (.iaload, 1) := by decide +kernel
theorem dX9_leastCost_6 : decode cX9_leastCost 6 = .ok (.bipush 32, 2) := by decide +kernel
theorem dX9_leastCost_8 : decode cX9_leastCost 8 = .ok (.idiv, 1) := by decide +kernel
theorem dX9_leastCost_9 : decode cX9_leastCost 9 = .ok (.ireturn, 1) := by decide +kernel
theorem dX9_standsAt_0 : decode cX9_standsAt 0 = .ok (.iconst (-1), 1) := by decide +kernel
theorem dX9_standsAt_1 : decode cX9_standsAt 1 = .ok (.istore_n 3, 1) := by decide +kernel
theorem dX9_standsAt_2 : decode cX9_standsAt 2 = .ok (.iconst 0, 1) := by decide +kernel
theorem dX9_standsAt_3 : decode cX9_standsAt 3 = .ok (.istore 4, 2) := by decide +kernel
theorem dX9_standsAt_5 : decode cX9_standsAt 5 = .ok (.iload 4, 2) := by decide +kernel
theorem dX9_standsAt_7 : decode cX9_standsAt 7 = .ok (.iload_n 1, 1) := by decide +kernel
theorem dX9_standsAt_8 : decode cX9_standsAt 8 = .ok (.if_icmp .gt 39, 3) := by decide +kernel
theorem dX9_standsAt_11 : decode cX9_standsAt 11 = .ok (.iload 4, 2) := by decide +kernel
theorem dX9_standsAt_13 : decode cX9_standsAt 13 = .ok (.aload_n 0, 1) := by decide +kernel
theorem dX9_standsAt_14 : decode cX9_standsAt 14 = .ok (.getfield 11, 3) := by decide +kernel
theorem dX9_standsAt_17 : decode cX9_standsAt 17 = .ok (.if_icmp .ge 30, 3) := by decide +kernel
theorem dX9_standsAt_20 : decode cX9_standsAt 20 = .ok (.aload_n 0, 1) := by decide +kernel
theorem dX9_standsAt_21 : decode cX9_standsAt 21 = .ok (.iload 4, 2) := by decide +kernel
theorem dX9_standsAt_23 : decode cX9_standsAt 23 = .ok (.iload_n 3, 1) := by decide +kernel
theorem dX9_standsAt_24 : decode cX9_standsAt 24 = .ok (.iload_n 2, 1) := by decide +kernel
theorem dX9_standsAt_25 : decode cX9_standsAt 25 = .ok (.invokevirtual 25, 3) := by decide +kernel
theorem dX9_standsAt_28 : decode cX9_standsAt 28 = .ok (.aload_n 0, 1) := by decide +kernel
theorem dX9_standsAt_29 : decode cX9_standsAt 29 = .ok (.iload 4, 2) := by decide +kernel
theorem dX9_standsAt_31 : decode cX9_standsAt 31 = .ok (.iload_n 3, 1) := by decide +kernel
theorem dX9_standsAt_32 : decode cX9_standsAt 32 = .ok (.invokevirtual 29, 3) := by decide +kernel
theorem dX9_standsAt_35 : decode cX9_standsAt 35 = .ok (.if_icmp .gt 6, 3) := by decide +kernel
theorem dX9_standsAt_38 : decode cX9_standsAt 38 = .ok (.iload 4, 2) := by decide +kernel
theorem dX9_standsAt_40 : decode cX9_standsAt 40 = .ok (.istore_n 3, 1) := by decide +kernel
theorem dX9_standsAt_41 : decode cX9_standsAt 41 = .ok (.iinc 4 1, 3) := by decide +kernel
theorem dX9_standsAt_44 : decode cX9_standsAt 44 = .ok (.goto (-39), 3) := by decide +kernel
theorem dX9_standsAt_47 : decode cX9_standsAt 47 = .ok (.iload_n 3, 1) := by decide +kernel
theorem dX9_standsAt_48 : decode cX9_standsAt 48 = .ok (.iload_n 1, 1) := by decide +kernel
theorem dX9_standsAt_49 : decode cX9_standsAt 49 = .ok (.if_icmp .ne 7, 3) := by decide +kernel
theorem dX9_standsAt_52 : decode cX9_standsAt 52 = .ok (.iconst 1, 1) := by decide +kernel
theorem dX9_standsAt_53 : decode cX9_standsAt 53 = .ok (.goto 4, 3) := by decide +kernel
theorem dX9_standsAt_56 : decode cX9_standsAt 56 = .ok (.iconst 0, 1) := by decide +kernel
theorem dX9_standsAt_57 : decode cX9_standsAt 57 = .ok (.ireturn, 1) := by decide +kernel
theorem dX10_codeAt_0 : decode cX10_codeAt 0 = .ok (.iload_n 0, 1) := by decide +kernel
theorem dX10_codeAt_1 : decode cX10_codeAt 1 = .ok (.bipush 94, 2) := by decide +kernel
theorem dX10_codeAt_3 : decode cX10_codeAt 3 = .ok (.isub, 1) := by decide +kernel
theorem dX10_codeAt_4 : decode cX10_codeAt 4 = .ok (.i2l, 1) := by decide +kernel
theorem dX10_codeAt_5 : decode cX10_codeAt 5 = .ok (.bipush 11, 2) := by decide +kernel
theorem dX10_codeAt_7 : decode cX10_codeAt 7 = .ok (.iload_n 1, 1) := by decide +kernel
theorem dX10_codeAt_8 : decode cX10_codeAt 8 = .ok (.isub, 1) := by decide +kernel
theorem dX10_codeAt_9 : decode cX10_codeAt 9 = .ok (.iconst 5, 1) := by decide +kernel
theorem dX10_codeAt_10 : decode cX10_codeAt 10 = .ok (.imul, 1) := by decide +kernel
theorem dX10_codeAt_11 : decode cX10_codeAt 11 = .ok (.lshl, 1) := by decide +kernel
theorem dX10_codeAt_12 : decode cX10_codeAt 12 = .ok (.lreturn, 1) := by decide +kernel
theorem dX10_codeOf_0 : decode cX10_codeOf 0 = .ok (.lload_n 0, 1) := by decide +kernel
theorem dX10_codeOf_1 : decode cX10_codeOf 1 = .ok (.bipush 11, 2) := by decide +kernel
theorem dX10_codeOf_3 : decode cX10_codeOf 3 = .ok (.iload_n 2, 1) := by decide +kernel
theorem dX10_codeOf_4 : decode cX10_codeOf 4 = .ok (.isub, 1) := by decide +kernel
theorem dX10_codeOf_5 : decode cX10_codeOf 5 = .ok (.iconst 5, 1) := by decide +kernel
theorem dX10_codeOf_6 : decode cX10_codeOf 6 = .ok (.imul, 1) := by decide +kernel
theorem dX10_codeOf_7 : decode cX10_codeOf 7 = .ok (.lushr, 1) := by decide +kernel
theorem dX10_codeOf_8 : decode cX10_codeOf 8 = .ok (.l2i, 1) := by decide +kernel
theorem dX10_codeOf_9 : decode cX10_codeOf 9 = .ok (.bipush 31, 2) := by decide +kernel
theorem dX10_codeOf_11 : decode cX10_codeOf 11 = .ok (.iand, 1) := by decide +kernel
theorem dX10_codeOf_12 : decode cX10_codeOf 12 = .ok (.ireturn, 1) := by decide +kernel
theorem dX10_lengthOf_0 : decode cX10_lengthOf 0 = .ok (.iconst 0, 1) := by decide +kernel
theorem dX10_lengthOf_1 : decode cX10_lengthOf 1 = .ok (.istore_n 2, 1) := by decide +kernel
theorem dX10_lengthOf_2 : decode cX10_lengthOf 2 = .ok (.iload_n 2, 1) := by decide +kernel
theorem dX10_lengthOf_3 : decode cX10_lengthOf 3 = .ok (.bipush 12, 2) := by decide +kernel
theorem dX10_lengthOf_5 : decode cX10_lengthOf 5 = .ok (.if_icmp .ge 17, 3) := by decide +kernel
theorem dX10_lengthOf_8 : decode cX10_lengthOf 8 = .ok (.lload_n 0, 1) := by decide +kernel
theorem dX10_lengthOf_9 : decode cX10_lengthOf 9 = .ok (.iload_n 2, 1) := by decide +kernel
theorem dX10_lengthOf_10 : decode cX10_lengthOf 10 = .ok (.invokestatic 11, 3) := by decide +kernel
theorem dX10_lengthOf_13 : decode cX10_lengthOf 13 = .ok (.ifCond .eq 9, 3) := by decide +kernel
theorem dX10_lengthOf_16 : decode cX10_lengthOf 16 = .ok (.iinc 2 1, 3) := by decide +kernel
theorem dX10_lengthOf_19 : decode cX10_lengthOf 19 = .ok (.goto (-17), 3) := by decide +kernel
theorem dX10_lengthOf_22 : decode cX10_lengthOf 22 = .ok (.iload_n 2, 1) := by decide +kernel
theorem dX10_lengthOf_23 : decode cX10_lengthOf 23 = .ok (.ireturn, 1) := by decide +kernel
theorem dX10_byteOf_0 : decode cX10_byteOf 0 = .ok (.iload_n 2, 1) := by decide +kernel
theorem dX10_byteOf_1 : decode cX10_byteOf 1 = .ok (.ifCond .lt 17, 3) := by decide +kernel
theorem dX10_byteOf_4 : decode cX10_byteOf 4 = .ok (.iload_n 2, 1) := by decide +kernel
theorem dX10_byteOf_5 : decode cX10_byteOf 5 = .ok (.bipush 12, 2) := by decide +kernel
theorem dX10_byteOf_7 : decode cX10_byteOf 7 = .ok (.if_icmp .ge 11, 3) := by decide +kernel
theorem dX10_byteOf_10 : decode cX10_byteOf 10 = .ok (.lload_n 0, 1) := by decide +kernel
theorem dX10_byteOf_11 : decode cX10_byteOf 11 = .ok (.iload_n 2, 1) := by decide +kernel
theorem dX10_byteOf_12 : decode cX10_byteOf 12 = .ok (.invokestatic 11, 3) := by decide +kernel
theorem dX10_byteOf_15 : decode cX10_byteOf 15 = .ok (.ifCond .ne 5, 3) := by decide +kernel
theorem dX10_byteOf_18 : decode cX10_byteOf 18 = .ok (.iconst (-1), 1) := by decide +kernel
theorem dX10_byteOf_19 : decode cX10_byteOf 19 = .ok (.ireturn, 1) := by decide +kernel
theorem dX10_byteOf_20 : decode cX10_byteOf 20 = .ok (.lload_n 0, 1) := by decide +kernel
theorem dX10_byteOf_21 : decode cX10_byteOf 21 = .ok (.iload_n 2, 1) := by decide +kernel
theorem dX10_byteOf_22 : decode cX10_byteOf 22 = .ok (.invokestatic 11, 3) := by decide +kernel
theorem dX10_byteOf_25 : decode cX10_byteOf 25 = .ok (.bipush 94, 2) := by decide +kernel
theorem dX10_byteOf_27 : decode cX10_byteOf 27 = .ok (.iadd, 1) := by decide +kernel
theorem dX10_byteOf_28 : decode cX10_byteOf 28 = .ok (.ireturn, 1) := by decide +kernel
theorem dX10_withoutLines_0 : decode cX10_withoutLines 0 = .ok (.lconst 0, 1) := by decide +kernel
theorem dX10_withoutLines_1 : decode cX10_withoutLines 1 = .ok (.lstore_n 2, 1) := by decide +kernel
theorem dX10_withoutLines_2 : decode cX10_withoutLines 2 = .ok (.iconst 0, 1) := by decide +kernel
theorem dX10_withoutLines_3 : decode cX10_withoutLines 3 = .ok (.istore 4, 2) := by decide +kernel
theorem dX10_withoutLines_5 : decode cX10_withoutLines 5 = .ok (.iconst 0, 1) := by decide +kernel
theorem dX10_withoutLines_6 : decode cX10_withoutLines 6 = .ok (.istore 5, 2) := by decide +kernel
theorem dX10_withoutLines_8 : decode cX10_withoutLines 8 = .ok (.iload 5, 2) := by decide +kernel
theorem dX10_withoutLines_10 : decode cX10_withoutLines 10 = .ok (.bipush 12, 2) := by decide +kernel
theorem dX10_withoutLines_12 : decode cX10_withoutLines 12 = .ok (.if_icmp .ge 39, 3) := by decide +kernel
theorem dX10_withoutLines_15 : decode cX10_withoutLines 15 = .ok (.lload_n 0, 1) := by decide +kernel
theorem dX10_withoutLines_16 : decode cX10_withoutLines 16 = .ok (.iload 5, 2) := by decide +kernel
theorem dX10_withoutLines_18 : decode cX10_withoutLines 18 = .ok (.invokestatic 11, 3) := by decide +kernel
theorem dX10_withoutLines_21 : decode cX10_withoutLines 21 = .ok (.istore 6, 2) := by decide +kernel
theorem dX10_withoutLines_23 : decode cX10_withoutLines 23 = .ok (.iload 6, 2) := by decide +kernel
theorem dX10_withoutLines_25 : decode cX10_withoutLines 25 = .ok (.iconst 1, 1) := by decide +kernel
theorem dX10_withoutLines_26 : decode cX10_withoutLines 26 = .ok (.if_icmp .le 19, 3) := by decide +kernel
theorem dX10_withoutLines_29 : decode cX10_withoutLines 29 = .ok (.lload_n 2, 1) := by decide +kernel
theorem dX10_withoutLines_30 : decode cX10_withoutLines 30 = .ok (.iload 6, 2) := by decide +kernel
theorem dX10_withoutLines_32 : decode cX10_withoutLines 32 = .ok (.bipush 94, 2) := by decide +kernel
theorem dX10_withoutLines_34 : decode cX10_withoutLines 34 = .ok (.iadd, 1) := by decide +kernel
theorem dX10_withoutLines_35 : decode cX10_withoutLines 35 = .ok (.iload 4, 2) := by decide +kernel
theorem dX10_withoutLines_37 : decode cX10_withoutLines 37 = .ok (.invokestatic 15, 3) := by decide +kernel
theorem dX10_withoutLines_40 : decode cX10_withoutLines 40 = .ok (.lor, 1) := by decide +kernel
theorem dX10_withoutLines_41 : decode cX10_withoutLines 41 = .ok (.lstore_n 2, 1) := by decide +kernel
theorem dX10_withoutLines_42 : decode cX10_withoutLines 42 = .ok (.iinc 4 1, 3) := by decide +kernel
theorem dX10_withoutLines_45 : decode cX10_withoutLines 45 = .ok (.iinc 5 1, 3) := by decide +kernel
theorem dX10_withoutLines_48 : decode cX10_withoutLines 48 = .ok (.goto (-40), 3) := by decide +kernel
theorem dX10_withoutLines_51 : decode cX10_withoutLines 51 = .ok (.lload_n 2, 1) := by decide +kernel
theorem dX10_withoutLines_52 : decode cX10_withoutLines 52 = .ok (.lreturn, 1) := by decide +kernel
theorem dX10_nearness_0 : decode cX10_nearness 0 = .ok (.lload_n 0, 1) := by decide +kernel
theorem dX10_nearness_1 : decode cX10_nearness 1 = .ok (.invokestatic 19, 3) := by decide +kernel
theorem dX10_nearness_4 : decode cX10_nearness 4 = .ok (.lstore 4, 2) := by decide +kernel
theorem dX10_nearness_6 : decode cX10_nearness 6 = .ok (.lload_n 2, 1) := by decide +kernel
theorem dX10_nearness_7 : decode cX10_nearness 7 = .ok (.invokestatic 19, 3) := by decide +kernel
theorem dX10_nearness_10 : decode cX10_nearness 10 = .ok (.lstore 6, 2) := by decide +kernel
theorem dX10_nearness_12 : decode cX10_nearness 12 = .ok (.lload 4, 2) := by decide +kernel
theorem dX10_nearness_14 : decode cX10_nearness 14 = .ok (.lload 6, 2) := by decide +kernel
theorem dX10_nearness_16 : decode cX10_nearness 16 = .ok (.lcmp, 1) := by decide +kernel
theorem dX10_nearness_17 : decode cX10_nearness 17 = .ok (.ifCond .ne 5, 3) := by decide +kernel
theorem dX10_nearness_20 : decode cX10_nearness 20 = .ok (.iconst 1, 1) := by decide +kernel
theorem dX10_nearness_21 : decode cX10_nearness 21 = .ok (.ireturn, 1) := by decide +kernel
theorem dX10_nearness_22 : decode cX10_nearness 22 = .ok (.lload 4, 2) := by decide +kernel
theorem dX10_nearness_24 : decode cX10_nearness 24 = .ok (.lload 6, 2) := by decide +kernel
theorem dX10_nearness_26 : decode cX10_nearness 26 = .ok (.invokestatic 23, 3) := by decide +kernel
theorem dX10_nearness_29 : decode cX10_nearness 29 = .ok (.ifCond .ne 13, 3) := by decide +kernel
theorem dX10_nearness_32 : decode cX10_nearness 32 = .ok (.lload 6, 2) := by decide +kernel
theorem dX10_nearness_34 : decode cX10_nearness 34 = .ok (.lload 4, 2) := by decide +kernel
theorem dX10_nearness_36 : decode cX10_nearness 36 = .ok (.invokestatic 23, 3) := by decide +kernel
theorem dX10_nearness_39 : decode cX10_nearness 39 = .ok (.ifCond .eq 5, 3) := by decide +kernel
theorem dX10_nearness_42 : decode cX10_nearness 42 = .ok (.iconst 2, 1) := by decide +kernel
theorem dX10_nearness_43 : decode cX10_nearness 43 = .ok (.ireturn, 1) := by decide +kernel
theorem dX10_nearness_44 : decode cX10_nearness 44 = .ok (.lload 4, 2) := by decide +kernel
theorem dX10_nearness_46 : decode cX10_nearness 46 = .ok (.lload 6, 2) := by decide +kernel
theorem dX10_nearness_48 : decode cX10_nearness 48 = .ok (.invokestatic 27, 3) := by decide +kernel
theorem dX10_nearness_51 : decode cX10_nearness 51 = .ok (.ifCond .eq 7, 3) := by decide +kernel
theorem dX10_nearness_54 : decode cX10_nearness 54 = .ok (.iconst 3, 1) := by decide +kernel
theorem dX10_nearness_55 : decode cX10_nearness 55 = .ok (.goto 4, 3) := by decide +kernel
theorem dX10_nearness_58 : decode cX10_nearness 58 = .ok (.iconst 0, 1) := by decide +kernel
theorem dX10_nearness_59 : decode cX10_nearness 59 = .ok (.ireturn, 1) := by decide +kernel
theorem dX10_isPlural_0 : decode cX10_isPlural 0 = .ok (.lload_n 2, 1) := by decide +kernel
theorem dX10_isPlural_1 : decode cX10_isPlural 1 = .ok (.invokestatic 30, 3) := by decide +kernel
theorem dX10_isPlural_4 : decode cX10_isPlural 4 = .ok (.istore 4, 2) := by decide +kernel
theorem dX10_isPlural_6 : decode cX10_isPlural 6 = .ok (.iload 4, 2) := by decide +kernel
theorem dX10_isPlural_8 : decode cX10_isPlural 8 = .ok (.bipush 12, 2) := by decide +kernel
theorem dX10_isPlural_10 : decode cX10_isPlural 10 = .ok (.if_icmp .ge 21, 3) := by decide +kernel
theorem dX10_isPlural_13 : decode cX10_isPlural 13 = .ok (.lload_n 0, 1) := by decide +kernel
theorem dX10_isPlural_14 : decode cX10_isPlural 14 = .ok (.lload_n 2, 1) := by decide +kernel
theorem dX10_isPlural_15 : decode cX10_isPlural 15 = .ok (.bipush 115, 2) := by decide +kernel
theorem dX10_isPlural_17 : decode cX10_isPlural 17 = .ok (.iload 4, 2) := by decide +kernel
theorem dX10_isPlural_19 : decode cX10_isPlural 19 = .ok (.invokestatic 15, 3) := by decide +kernel
theorem dX10_isPlural_22 : decode cX10_isPlural 22 = .ok (.lor, 1) := by decide +kernel
theorem dX10_isPlural_23 : decode cX10_isPlural 23 = .ok (.lcmp, 1) := by decide +kernel
theorem dX10_isPlural_24 : decode cX10_isPlural 24 = .ok (.ifCond .ne 7, 3) := by decide +kernel
theorem dX10_isPlural_27 : decode cX10_isPlural 27 = .ok (.iconst 1, 1) := by decide +kernel
theorem dX10_isPlural_28 : decode cX10_isPlural 28 = .ok (.goto 4, 3) := by decide +kernel
theorem dX10_isPlural_31 : decode cX10_isPlural 31 = .ok (.iconst 0, 1) := by decide +kernel
theorem dX10_isPlural_32 : decode cX10_isPlural 32 = .ok (.ireturn, 1) := by decide +kernel
theorem dX10_isOneByteOff_0 : decode cX10_isOneByteOff 0 = .ok (.iconst 0, 1) := by decide +kernel
theorem dX10_isOneByteOff_1 : decode cX10_isOneByteOff 1 = .ok (.istore 4, 2) := by decide +kernel
theorem dX10_isOneByteOff_3 : decode cX10_isOneByteOff 3 = .ok (.iload 4, 2) := by decide +kernel
theorem dX10_isOneByteOff_5 : decode cX10_isOneByteOff 5 = .ok (.bipush 11, 2) := by decide +kernel
theorem dX10_isOneByteOff_7 : decode cX10_isOneByteOff 7 = .ok (.if_icmp .ge 24, 3) := by decide +kernel
theorem dX10_isOneByteOff_10 : decode cX10_isOneByteOff 10 = .ok (.lload_n 0, 1) := by decide +kernel
theorem dX10_isOneByteOff_11 : decode cX10_isOneByteOff 11 = .ok (.iload 4, 2) := by decide +kernel
theorem dX10_isOneByteOff_13 : decode cX10_isOneByteOff 13 = .ok (.invokestatic 11, 3) := by decide +kernel
theorem dX10_isOneByteOff_16 : decode cX10_isOneByteOff 16 = .ok (.lload_n 2, 1) := by decide +kernel
theorem dX10_isOneByteOff_17 : decode cX10_isOneByteOff 17 = .ok (.iload 4, 2) := by decide +kernel
theorem dX10_isOneByteOff_19 : decode cX10_isOneByteOff 19 = .ok (.invokestatic 11, 3) := by decide +kernel
theorem dX10_isOneByteOff_22 : decode cX10_isOneByteOff 22 = .ok (.if_icmp .ne 9, 3) := by decide +kernel
theorem dX10_isOneByteOff_25 : decode cX10_isOneByteOff 25 = .ok (.iinc 4 1, 3) := by decide +kernel
theorem dX10_isOneByteOff_28 : decode cX10_isOneByteOff 28 = .ok (.goto (-25), 3) := by decide +kernel
theorem dX10_isOneByteOff_31 : decode cX10_isOneByteOff 31 = .ok (.lload_n 0, 1) := by decide +kernel
theorem dX10_isOneByteOff_32 : decode cX10_isOneByteOff 32 = .ok (.iload 4, 2) := by decide +kernel
theorem dX10_isOneByteOff_34 : decode cX10_isOneByteOff 34 = .ok (.invokestatic 34, 3) := by decide +kernel
theorem dX10_isOneByteOff_37 : decode cX10_isOneByteOff 37 = .ok (.lstore 5, 2) := by decide +kernel
theorem dX10_isOneByteOff_39 : decode cX10_isOneByteOff 39 = .ok (.lload_n 2, 1) := by decide +kernel
theorem dX10_isOneByteOff_40 : decode cX10_isOneByteOff 40 = .ok (.iload 4, 2) := by decide +kernel
theorem dX10_isOneByteOff_42 : decode cX10_isOneByteOff 42 = .ok (.invokestatic 34, 3) := by decide +kernel
theorem dX10_isOneByteOff_45 : decode cX10_isOneByteOff 45 = .ok (.lstore 7, 2) := by decide +kernel
theorem dX10_isOneByteOff_47 : decode cX10_isOneByteOff 47 = .ok (.lload 5, 2) := by decide +kernel
theorem dX10_isOneByteOff_49 : decode cX10_isOneByteOff 49 = .ok (.iconst 1, 1) := by decide +kernel
theorem dX10_isOneByteOff_50 : decode cX10_isOneByteOff 50 = .ok (.invokestatic 34, 3) := by decide +kernel
theorem dX10_isOneByteOff_53 : decode cX10_isOneByteOff 53 = .ok (.lload 7, 2) := by decide +kernel
theorem dX10_isOneByteOff_55 : decode cX10_isOneByteOff 55 = .ok (.iconst 1, 1) := by decide +kernel
theorem dX10_isOneByteOff_56 : decode cX10_isOneByteOff 56 = .ok (.invokestatic 34, 3) := by decide +kernel
theorem dX10_isOneByteOff_59 : decode cX10_isOneByteOff 59 = .ok (.lcmp, 1) := by decide +kernel
theorem dX10_isOneByteOff_60 : decode cX10_isOneByteOff 60 = .ok (.ifCond .eq 27, 3) := by decide +kernel
theorem dX10_isOneByteOff_63 : decode cX10_isOneByteOff 63 = .ok (.lload 5, 2) := by decide +kernel
theorem dX10_isOneByteOff_65 : decode cX10_isOneByteOff 65 = .ok (.iconst 1, 1) := by decide +kernel
theorem dX10_isOneByteOff_66 : decode cX10_isOneByteOff 66 = .ok (.invokestatic 34, 3) := by decide +kernel
theorem dX10_isOneByteOff_69 : decode cX10_isOneByteOff 69 = .ok (.lload 7, 2) := by decide +kernel
theorem dX10_isOneByteOff_71 : decode cX10_isOneByteOff 71 = .ok (.lcmp, 1) := by decide +kernel
theorem dX10_isOneByteOff_72 : decode cX10_isOneByteOff 72 = .ok (.ifCond .eq 15, 3) := by decide +kernel
theorem dX10_isOneByteOff_75 : decode cX10_isOneByteOff 75 = .ok (.lload 5, 2) := by decide +kernel
theorem dX10_isOneByteOff_77 : decode cX10_isOneByteOff 77 = .ok (.lload 7, 2) := by decide +kernel
theorem dX10_isOneByteOff_79 : decode cX10_isOneByteOff 79 = .ok (.iconst 1, 1) := by decide +kernel
theorem dX10_isOneByteOff_80 : decode cX10_isOneByteOff 80 = .ok (.invokestatic 34, 3) := by decide +kernel
theorem dX10_isOneByteOff_83 : decode cX10_isOneByteOff 83 = .ok (.lcmp, 1) := by decide +kernel
theorem dX10_isOneByteOff_84 : decode cX10_isOneByteOff 84 = .ok (.ifCond .ne 7, 3) := by decide +kernel
theorem dX10_isOneByteOff_87 : decode cX10_isOneByteOff 87 = .ok (.iconst 1, 1) := by decide +kernel
theorem dX10_isOneByteOff_88 : decode cX10_isOneByteOff 88 = .ok (.goto 4, 3) := by decide +kernel
theorem dX10_isOneByteOff_91 : decode cX10_isOneByteOff 91 = .ok (.iconst 0, 1) := by decide +kernel
theorem dX10_isOneByteOff_92 : decode cX10_isOneByteOff 92 = .ok (.ireturn, 1) := by decide +kernel
theorem dX10_behind_0 : decode cX10_behind 0 = .ok (.lload_n 0, 1) := by decide +kernel
theorem dX10_behind_1 : decode cX10_behind 1 = .ok (.iload_n 2, 1) := by decide +kernel
theorem dX10_behind_2 : decode cX10_behind 2 = .ok (.iconst 5, 1) := by decide +kernel
theorem dX10_behind_3 : decode cX10_behind 3 = .ok (.imul, 1) := by decide +kernel
theorem dX10_behind_4 : decode cX10_behind 4 = .ok (.lshl, 1) := by decide +kernel
theorem dX10_behind_5 : decode cX10_behind 5 = .ok (.ldc2_w 38, 3) := by decide +kernel
theorem dX10_behind_8 : decode cX10_behind 8 = .ok (.land, 1) := by decide +kernel
theorem dX10_behind_9 : decode cX10_behind 9 = .ok (.lreturn, 1) := by decide +kernel
