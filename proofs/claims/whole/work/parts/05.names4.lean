set_option maxRecDepth 20000 in
theorem ggX11_nights_X11_isRowLength : GoodIn wsX11_nights wsX11_isRowLength := goodIn_r _ [6] (by decide +kernel) (by decide +kernel)
set_option maxRecDepth 20000 in
theorem gX11_nights_X11_isRowLength : GoodIn wsX11_nights (va_wsS RX11 299 yX11_isRowLength wsX11_isRowLength) := goodIn_app (goodIn_of _ (by decide +kernel)) ggX11_nights_X11_isRowLength
set_option maxRecDepth 20000 in
theorem ggX11_nights_X5_rowsHeld : GoodIn wsX11_nights wsX5_rowsHeld := goodIn_r _ [11, 12, 42] (by decide +kernel) (by decide +kernel)
set_option maxRecDepth 20000 in
theorem gX11_nights_X5_rowsHeld : GoodIn wsX11_nights (wsV RX11 305 RX5 yX5_rowsHeld wsX5_rowsHeld) := goodIn_app (goodIn_of _ (by decide +kernel)) ggX11_nights_X5_rowsHeld
theorem dX11_nights_0 : decode cX11_nights 0 = .ok (.iload_n 1, 1) := by decide +kernel
theorem dX11_nights_1 : decode cX11_nights 1 = .ok (.invokestatic 299, 3) := by decide +kernel
theorem dX11_nights_4 : decode cX11_nights 4 = .ok (.ifCond .eq 17, 3) := by decide +kernel
theorem dX11_nights_7 : decode cX11_nights 7 = .ok (.aload_n 0, 1) := by decide +kernel
theorem dX11_nights_8 : decode cX11_nights 8 = .ok (.getfield 75, 3) := by decide +kernel
theorem dX11_nights_11 : decode cX11_nights 11 = .ok (.getfield 287, 3) := by decide +kernel
theorem dX11_nights_14 : decode cX11_nights 14 = .ok (.iload_n 1, 1) := by decide +kernel
theorem dX11_nights_15 : decode cX11_nights 15 = .ok (.invokevirtual 305, 3) := by decide +kernel
theorem dX11_nights_18 : decode cX11_nights 18 = .ok (.goto 4, 3) := by decide +kernel
theorem dX11_nights_21 : decode cX11_nights 21 = .ok (.iconst (-1), 1) := by decide +kernel
theorem dX11_nights_22 : decode cX11_nights 22 = .ok (.ireturn, 1) := by decide +kernel
set_option maxRecDepth 20000 in
theorem ggX11_longest_X11_isHalf : GoodIn wsX11_longest wsX11_isHalf := goodIn_r _ [6] (by decide +kernel) (by decide +kernel)
set_option maxRecDepth 20000 in
theorem gX11_longest_X11_isHalf : GoodIn wsX11_longest (va_wsS RX11 225 yX11_isHalf wsX11_isHalf) := goodIn_app (goodIn_of _ (by decide +kernel)) ggX11_longest_X11_isHalf
set_option maxRecDepth 20000 in
theorem ggX11_longest_X5_longestRow : GoodIn wsX11_longest wsX5_longestRow := goodIn_r _ [11, 12, 13, 14, 15, 16, 50] (by decide +kernel) (by decide +kernel)
set_option maxRecDepth 20000 in
theorem gX11_longest_X5_longestRow : GoodIn wsX11_longest (wsV RX11 308 RX5 yX5_longestRow wsX5_longestRow) := goodIn_app (goodIn_of _ (by decide +kernel)) ggX11_longest_X5_longestRow
set_option maxRecDepth 20000 in
theorem ggX11_longest_X5_firstRow : GoodIn wsX11_longest wsX5_firstRow := goodIn_r _ [20, 13, 14, 15, 16, 12, 50] (by decide +kernel) (by decide +kernel)
set_option maxRecDepth 20000 in
theorem gX11_longest_X5_firstRow : GoodIn wsX11_longest (wsV RX11 302 RX5 yX5_firstRow wsX5_firstRow) := goodIn_app (goodIn_of _ (by decide +kernel)) ggX11_longest_X5_firstRow
theorem dX11_longest_0 : decode cX11_longest 0 = .ok (.iload_n 1, 1) := by decide +kernel
theorem dX11_longest_1 : decode cX11_longest 1 = .ok (.invokestatic 225, 3) := by decide +kernel
theorem dX11_longest_4 : decode cX11_longest 4 = .ok (.ifCond .ne 5, 3) := by decide +kernel
theorem dX11_longest_7 : decode cX11_longest 7 = .ok (.iconst (-1), 1) := by decide +kernel
theorem dX11_longest_8 : decode cX11_longest 8 = .ok (.ireturn, 1) := by decide +kernel
theorem dX11_longest_9 : decode cX11_longest 9 = .ok (.aload_n 0, 1) := by decide +kernel
theorem dX11_longest_10 : decode cX11_longest 10 = .ok (.getfield 75, 3) := by decide +kernel
theorem dX11_longest_13 : decode cX11_longest 13 = .ok (.getfield 287, 3) := by decide +kernel
theorem dX11_longest_16 : decode cX11_longest 16 = .ok (.invokevirtual 308, 3) := by decide +kernel
theorem dX11_longest_19 : decode cX11_longest 19 = .ok (.istore_n 2, 1) := by decide +kernel
theorem dX11_longest_20 : decode cX11_longest 20 = .ok (.iload_n 1, 1) := by decide +kernel
theorem dX11_longest_21 : decode cX11_longest 21 = .ok (.ifCond .ne 5, 3) := by decide +kernel
theorem dX11_longest_24 : decode cX11_longest 24 = .ok (.iload_n 2, 1) := by decide +kernel
theorem dX11_longest_25 : decode cX11_longest 25 = .ok (.ireturn, 1) := by decide +kernel
theorem dX11_longest_26 : decode cX11_longest 26 = .ok (.iload_n 2, 1) := by decide +kernel
theorem dX11_longest_27 : decode cX11_longest 27 = .ok (.ifCond .ne 8, 3) := by decide +kernel
theorem dX11_longest_30 : decode cX11_longest 30 = .ok (.bipush (-4), 2) := by decide +kernel
theorem dX11_longest_32 : decode cX11_longest 32 = .ok (.goto 15, 3) := by decide +kernel
theorem dX11_longest_35 : decode cX11_longest 35 = .ok (.aload_n 0, 1) := by decide +kernel
theorem dX11_longest_36 : decode cX11_longest 36 = .ok (.getfield 75, 3) := by decide +kernel
theorem dX11_longest_39 : decode cX11_longest 39 = .ok (.getfield 287, 3) := by decide +kernel
theorem dX11_longest_42 : decode cX11_longest 42 = .ok (.iconst 0, 1) := by decide +kernel
theorem dX11_longest_43 : decode cX11_longest 43 = .ok (.iload_n 2, 1) := by decide +kernel
theorem dX11_longest_44 : decode cX11_longest 44 = .ok (.invokevirtual 302, 3) := by decide +kernel
theorem dX11_longest_47 : decode cX11_longest 47 = .ok (.ireturn, 1) := by decide +kernel
set_option maxRecDepth 20000 in
theorem ggX11_teach_X2_knocksOfName : GoodIn wsX11_teach wsX2_knocksOfName := goodIn_r _ [11, 12, 13, 14, 15, 16, 17, 18, 19, 20, 21, 22, 23, 24, 25, 26, 27, 28, 10, 29, 30, 31, 32, 33, 34, 35, 36, 37, 38, 91, 92, 93, 94, 95, 96, 97, 98, 99, 100, 101, 102] (by decide +kernel) (by decide +kernel)
set_option maxRecDepth 20000 in
theorem gX11_teach_X2_knocksOfName : GoodIn wsX11_teach (wsV RX11 165 RX2 yX2_knocksOfName wsX2_knocksOfName) := goodIn_app (goodIn_of _ (by decide +kernel)) ggX11_teach_X2_knocksOfName
set_option maxRecDepth 20000 in
theorem ggX11_teach_X4_allLetters : GoodIn wsX11_teach wsX4_allLetters := goodIn_r _ [42, 17, 43, 91, 92, 93, 94, 95, 96] (by decide +kernel) (by decide +kernel)
set_option maxRecDepth 20000 in
theorem gX11_teach_X4_allLetters : GoodIn wsX11_teach (wsV RX11 311 RX4 yX4_allLetters wsX4_allLetters) := goodIn_app (goodIn_of _ (by decide +kernel)) ggX11_teach_X4_allLetters
set_option maxRecDepth 20000 in
theorem ggX11_teach_X11_leastLesson : GoodIn wsX11_teach wsX11_leastLesson := goodIn_r _ [47, 3, 48, 49, 50, 51, 52, 53, 54, 44, 45, 46, 91, 92, 93, 94, 95, 96] (by decide +kernel) (by decide +kernel)
set_option maxRecDepth 20000 in
theorem gX11_teach_X11_leastLesson : GoodIn wsX11_teach (va_wsS RX11 314 yX11_leastLesson wsX11_leastLesson) := goodIn_app (goodIn_of _ (by decide +kernel)) ggX11_teach_X11_leastLesson
set_option maxRecDepth 20000 in
theorem ggX11_teach_J6_bitCount_0f7a4 : GoodIn wsX11_teach wsJ6_bitCount_0f7a4 := goodIn_r _ [58, 59, 60, 61] (by decide +kernel) (by decide +kernel)
set_option maxRecDepth 20000 in
theorem gX11_teach_J6_bitCount_0f7a4 : GoodIn wsX11_teach (va_wsS RX11 320 yJ6_bitCount_0f7a4 wsJ6_bitCount_0f7a4) := goodIn_app (goodIn_of _ (by decide +kernel)) ggX11_teach_J6_bitCount_0f7a4
theorem dX11_teach_0 : decode cX11_teach 0 = .ok (.iload_n 1, 1) := by decide +kernel
theorem dX11_teach_1 : decode cX11_teach 1 = .ok (.ifCond .lt 8, 3) := by decide +kernel
theorem dX11_teach_4 : decode cX11_teach 4 = .ok (.iload_n 1, 1) := by decide +kernel
theorem dX11_teach_5 : decode cX11_teach 5 = .ok (.iconst 2, 1) := by decide +kernel
theorem dX11_teach_6 : decode cX11_teach 6 = .ok (.if_icmp .le 5, 3) := by decide +kernel
theorem dX11_teach_9 : decode cX11_teach 9 = .ok (.iconst (-1), 1) := by decide +kernel
theorem dX11_teach_10 : decode cX11_teach 10 = .ok (.ireturn, 1) := by decide +kernel
theorem dX11_teach_11 : decode cX11_teach 11 = .ok (.iconst 0, 1) := by decide +kernel
theorem dX11_teach_12 : decode cX11_teach 12 = .ok (.istore_n 2, 1) := by decide +kernel
theorem dX11_teach_13 : decode cX11_teach 13 = .ok (.iload_n 2, 1) := by decide +kernel
theorem dX11_teach_14 : decode cX11_teach 14 = .ok (.aload_n 0, 1) := by decide +kernel
theorem dX11_teach_15 : decode cX11_teach 15 = .ok (.getfield 75, 3) := by decide +kernel
theorem dX11_teach_18 : decode cX11_teach 18 = .ok (.getfield 119, 3) := by decide +kernel
theorem dX11_teach_21 : decode cX11_teach 21 = .ok (.getfield 123, 3) := by decide +kernel
theorem dX11_teach_24 : decode cX11_teach 24 = .ok (.if_icmp .ge 30, 3) := by decide +kernel
theorem dX11_teach_27 : decode cX11_teach 27 = .ok (.aload_n 0, 1) := by decide +kernel
theorem dX11_teach_28 : decode cX11_teach 28 = .ok (.getfield 68, 3) := by decide +kernel
theorem dX11_teach_31 : decode cX11_teach 31 = .ok (.iload_n 2, 1) := by decide +kernel
theorem dX11_teach_32 : decode cX11_teach 32 = .ok (.aload_n 0, 1) := by decide +kernel
theorem dX11_teach_33 : decode cX11_teach 33 = .ok (.getfield 26, 3) := by decide +kernel
theorem dX11_teach_36 : decode cX11_teach 36 = .ok (.aload_n 0, 1) := by decide +kernel
theorem dX11_teach_37 : decode cX11_teach 37 = .ok (.getfield 75, 3) := by decide +kernel
theorem dX11_teach_40 : decode cX11_teach 40 = .ok (.getfield 119, 3) := by decide +kernel
theorem dX11_teach_43 : decode cX11_teach 43 = .ok (.iload_n 2, 1) := by decide +kernel
theorem dX11_teach_44 : decode cX11_teach 44 = .ok (.invokevirtual 165, 3) := by decide +kernel
theorem dX11_teach_47 : decode cX11_teach 47 = .ok (.iastore, 1) := by decide +kernel
theorem dX11_teach_48 : decode cX11_teach 48 = .ok (.iinc 2 1, 3) := by decide +kernel
theorem dX11_teach_51 : decode cX11_teach 51 = .ok (.goto (-38), 3) := by decide +kernel
theorem dX11_teach_54 : decode cX11_teach 54 = .ok (.aload_n 0, 1) := by decide +kernel
theorem dX11_teach_55 : decode cX11_teach 55 = .ok (.getfield 75, 3) := by decide +kernel
theorem dX11_teach_58 : decode cX11_teach 58 = .ok (.getfield 119, 3) := by decide +kernel
theorem dX11_teach_61 : decode cX11_teach 61 = .ok (.aload_n 0, 1) := by decide +kernel
theorem dX11_teach_62 : decode cX11_teach 62 = .ok (.getfield 68, 3) := by decide +kernel
theorem dX11_teach_65 : decode cX11_teach 65 = .ok (.iconst 0, 1) := by decide +kernel
theorem dX11_teach_66 : decode cX11_teach 66 = .ok (.aload_n 0, 1) := by decide +kernel
theorem dX11_teach_67 : decode cX11_teach 67 = .ok (.getfield 75, 3) := by decide +kernel
theorem dX11_teach_70 : decode cX11_teach 70 = .ok (.getfield 119, 3) := by decide +kernel
theorem dX11_teach_73 : decode cX11_teach 73 = .ok (.invokevirtual 311, 3) := by decide +kernel
theorem dX11_teach_76 : decode cX11_teach 76 = .ok (.lconst 0, 1) := by decide +kernel
theorem dX11_teach_77 : decode cX11_teach 77 = .ok (.invokestatic 314, 3) := by decide +kernel
theorem dX11_teach_80 : decode cX11_teach 80 = .ok (.lstore_n 2, 1) := by decide +kernel
theorem dX11_teach_81 : decode cX11_teach 81 = .ok (.lload_n 2, 1) := by decide +kernel
theorem dX11_teach_82 : decode cX11_teach 82 = .ok (.ldc2_w 318, 3) := by decide +kernel
theorem dX11_teach_85 : decode cX11_teach 85 = .ok (.land, 1) := by decide +kernel
theorem dX11_teach_86 : decode cX11_teach 86 = .ok (.l2i, 1) := by decide +kernel
theorem dX11_teach_87 : decode cX11_teach 87 = .ok (.istore 4, 2) := by decide +kernel
theorem dX11_teach_89 : decode cX11_teach 89 = .ok (.iload_n 1, 1) := by decide +kernel
theorem dX11_teach_90 : decode cX11_teach 90 = .ok (.lookupswitch 38 #[(0, 26), (1, 32)], 26) := by decide +kernel
theorem dX11_teach_116 : decode cX11_teach 116 = .ok (.lload_n 2, 1) := by decide +kernel
theorem dX11_teach_117 : decode cX11_teach 117 = .ok (.bipush 20, 2) := by decide +kernel
theorem dX11_teach_119 : decode cX11_teach 119 = .ok (.lshr, 1) := by decide +kernel
theorem dX11_teach_120 : decode cX11_teach 120 = .ok (.l2i, 1) := by decide +kernel
theorem dX11_teach_121 : decode cX11_teach 121 = .ok (.ireturn, 1) := by decide +kernel
theorem dX11_teach_122 : decode cX11_teach 122 = .ok (.iload 4, 2) := by decide +kernel
theorem dX11_teach_124 : decode cX11_teach 124 = .ok (.invokestatic 320, 3) := by decide +kernel
theorem dX11_teach_127 : decode cX11_teach 127 = .ok (.ireturn, 1) := by decide +kernel
theorem dX11_teach_128 : decode cX11_teach 128 = .ok (.iload 4, 2) := by decide +kernel
theorem dX11_teach_130 : decode cX11_teach 130 = .ok (.ireturn, 1) := by decide +kernel
set_option maxRecDepth 20000 in
theorem ggX11_said_X11_isWord : GoodIn wsX11_said wsX11_isWord := goodIn_r _ [14, 15, 16, 17, 28, 29, 30, 31, 32, 33, 34, 35, 36, 37, 38, 39, 40, 41, 48, 49, 50, 51, 52, 53, 54, 55, 56, 57, 58, 59, 60, 61, 62, 63, 64, 65, 66, 67, 68] (by decide +kernel) (by decide +kernel)
set_option maxRecDepth 20000 in
theorem gX11_said_X11_isWord : GoodIn wsX11_said (wsV RX11 156 RX11 yX11_isWord wsX11_isWord) := goodIn_app (goodIn_of _ (by decide +kernel)) ggX11_said_X11_isWord
set_option maxRecDepth 20000 in
theorem ggX11_said_X11_isCell : GoodIn wsX11_said wsX11_isCell := goodIn_r _ [20] (by decide +kernel) (by decide +kernel)
set_option maxRecDepth 20000 in
theorem gX11_said_X11_isCell : GoodIn wsX11_said (va_wsS RX11 325 yX11_isCell wsX11_isCell) := goodIn_app (goodIn_of _ (by decide +kernel)) ggX11_said_X11_isCell
set_option maxRecDepth 20000 in
theorem ggX11_said_J6_bitCount_0f7a4 : GoodIn wsX11_said wsJ6_bitCount_0f7a4 := goodIn_r _ [24, 25, 26, 27] (by decide +kernel) (by decide +kernel)
set_option maxRecDepth 20000 in
theorem gX11_said_J6_bitCount_0f7a4 : GoodIn wsX11_said (va_wsS RX11 320 yJ6_bitCount_0f7a4 wsJ6_bitCount_0f7a4) := goodIn_app (goodIn_of _ (by decide +kernel)) ggX11_said_J6_bitCount_0f7a4
theorem dX11_said_0 : decode cX11_said 0 = .ok (.aload_n 0, 1) := by decide +kernel
theorem dX11_said_1 : decode cX11_said 1 = .ok (.iload_n 1, 1) := by decide +kernel
theorem dX11_said_2 : decode cX11_said 2 = .ok (.invokevirtual 156, 3) := by decide +kernel
theorem dX11_said_5 : decode cX11_said 5 = .ok (.ifCond .eq 17, 3) := by decide +kernel
theorem dX11_said_8 : decode cX11_said 8 = .ok (.iload_n 2, 1) := by decide +kernel
theorem dX11_said_9 : decode cX11_said 9 = .ok (.invokestatic 325, 3) := by decide +kernel
theorem dX11_said_12 : decode cX11_said 12 = .ok (.ifCond .eq 10, 3) := by decide +kernel
theorem dX11_said_15 : decode cX11_said 15 = .ok (.iload_n 3, 1) := by decide +kernel
theorem dX11_said_16 : decode cX11_said 16 = .ok (.invokestatic 325, 3) := by decide +kernel
theorem dX11_said_19 : decode cX11_said 19 = .ok (.ifCond .ne 5, 3) := by decide +kernel
theorem dX11_said_22 : decode cX11_said 22 = .ok (.iconst (-1), 1) := by decide +kernel
theorem dX11_said_23 : decode cX11_said 23 = .ok (.ireturn, 1) := by decide +kernel
theorem dX11_said_24 : decode cX11_said 24 = .ok (.iload_n 2, 1) := by decide +kernel
theorem dX11_said_25 : decode cX11_said 25 = .ok (.iload_n 3, 1) := by decide +kernel
theorem dX11_said_26 : decode cX11_said 26 = .ok (.invokestatic 328, 3) := by decide +kernel
theorem dX11_said_29 : decode cX11_said 29 = .ok (.istore 4, 2) := by decide +kernel
theorem dX11_said_31 : decode cX11_said 31 = .ok (.iload 4, 2) := by decide +kernel
theorem dX11_said_33 : decode cX11_said 33 = .ok (.iload_n 2, 1) := by decide +kernel
theorem dX11_said_34 : decode cX11_said 34 = .ok (.iload_n 3, 1) := by decide +kernel
theorem dX11_said_35 : decode cX11_said 35 = .ok (.invokestatic 333, 3) := by decide +kernel
theorem dX11_said_38 : decode cX11_said 38 = .ok (.if_icmp .gt 25, 3) := by decide +kernel
theorem dX11_said_41 : decode cX11_said 41 = .ok (.aload_n 0, 1) := by decide +kernel
theorem dX11_said_42 : decode cX11_said 42 = .ok (.getfield 26, 3) := by decide +kernel
theorem dX11_said_45 : decode cX11_said 45 = .ok (.getfield 336, 3) := by decide +kernel
theorem dX11_said_48 : decode cX11_said 48 = .ok (.iload_n 1, 1) := by decide +kernel
theorem dX11_said_49 : decode cX11_said 49 = .ok (.dup2, 1) := by decide +kernel
theorem dX11_said_50 : decode cX11_said 50 = .ok (.iaload, 1) := by decide +kernel
theorem dX11_said_51 : decode cX11_said 51 = .ok (.iconst 1, 1) := by decide +kernel
theorem dX11_said_52 : decode cX11_said 52 = .ok (.iload 4, 2) := by decide +kernel
theorem dX11_said_54 : decode cX11_said 54 = .ok (.ishl, 1) := by decide +kernel
theorem dX11_said_55 : decode cX11_said 55 = .ok (.ior, 1) := by decide +kernel
theorem dX11_said_56 : decode cX11_said 56 = .ok (.iastore, 1) := by decide +kernel
theorem dX11_said_57 : decode cX11_said 57 = .ok (.iinc 4 1, 3) := by decide +kernel
theorem dX11_said_60 : decode cX11_said 60 = .ok (.goto (-29), 3) := by decide +kernel
theorem dX11_said_63 : decode cX11_said 63 = .ok (.aload_n 0, 1) := by decide +kernel
theorem dX11_said_64 : decode cX11_said 64 = .ok (.getfield 26, 3) := by decide +kernel
theorem dX11_said_67 : decode cX11_said 67 = .ok (.getfield 336, 3) := by decide +kernel
theorem dX11_said_70 : decode cX11_said 70 = .ok (.iload_n 1, 1) := by decide +kernel
theorem dX11_said_71 : decode cX11_said 71 = .ok (.iaload, 1) := by decide +kernel
theorem dX11_said_72 : decode cX11_said 72 = .ok (.invokestatic 320, 3) := by decide +kernel
theorem dX11_said_75 : decode cX11_said 75 = .ok (.ireturn, 1) := by decide +kernel
set_option maxRecDepth 20000 in
theorem ggX11_knows_X11_isWord : GoodIn wsX11_knows wsX11_isWord := goodIn_r _ [7, 8, 9, 10, 11, 12, 13, 14, 15, 16, 17, 18, 19, 20, 21, 22, 23, 24, 31, 32, 33, 34, 35, 36, 37, 38, 39, 40, 41, 42, 43, 44, 45, 46, 47, 48, 49, 50, 51] (by decide +kernel) (by decide +kernel)
set_option maxRecDepth 20000 in
theorem gX11_knows_X11_isWord : GoodIn wsX11_knows (wsV RX11 156 RX11 yX11_isWord wsX11_isWord) := goodIn_app (goodIn_of _ (by decide +kernel)) ggX11_knows_X11_isWord
theorem dX11_knows_0 : decode cX11_knows 0 = .ok (.aload_n 0, 1) := by decide +kernel
theorem dX11_knows_1 : decode cX11_knows 1 = .ok (.iload_n 1, 1) := by decide +kernel
theorem dX11_knows_2 : decode cX11_knows 2 = .ok (.invokevirtual 156, 3) := by decide +kernel
theorem dX11_knows_5 : decode cX11_knows 5 = .ok (.ifCond .eq 15, 3) := by decide +kernel
theorem dX11_knows_8 : decode cX11_knows 8 = .ok (.aload_n 0, 1) := by decide +kernel
theorem dX11_knows_9 : decode cX11_knows 9 = .ok (.getfield 26, 3) := by decide +kernel
theorem dX11_knows_12 : decode cX11_knows 12 = .ok (.getfield 336, 3) := by decide +kernel
theorem dX11_knows_15 : decode cX11_knows 15 = .ok (.iload_n 1, 1) := by decide +kernel
theorem dX11_knows_16 : decode cX11_knows 16 = .ok (.iaload, 1) := by decide +kernel
theorem dX11_knows_17 : decode cX11_knows 17 = .ok (.goto 4, 3) := by decide +kernel
theorem dX11_knows_20 : decode cX11_knows 20 = .ok (.iconst (-1), 1) := by decide +kernel
theorem dX11_knows_21 : decode cX11_knows 21 = .ok (.ireturn, 1) := by decide +kernel
set_option maxRecDepth 20000 in
theorem ggX11_ask_X11_isCell : GoodIn wsX11_ask wsX11_isCell := goodIn_r _ [9] (by decide +kernel) (by decide +kernel)
set_option maxRecDepth 20000 in
theorem gX11_ask_X11_isCell : GoodIn wsX11_ask (va_wsS RX11 325 yX11_isCell wsX11_isCell) := goodIn_app (goodIn_of _ (by decide +kernel)) ggX11_ask_X11_isCell
set_option maxRecDepth 20000 in
theorem ggX11_ask_X2_knocksOfName : GoodIn wsX11_ask wsX2_knocksOfName := goodIn_r _ [14, 15, 16, 17, 18, 19, 20, 21, 22, 23, 24, 25, 26, 27, 28, 29, 30, 31, 13, 32, 33, 34, 35, 36, 37, 38, 39, 40, 41, 71, 72, 73, 74, 75, 76, 77, 78, 79, 80, 81, 82] (by decide +kernel) (by decide +kernel)
set_option maxRecDepth 20000 in
theorem gX11_ask_X2_knocksOfName : GoodIn wsX11_ask (wsV RX11 165 RX2 yX2_knocksOfName wsX2_knocksOfName) := goodIn_app (goodIn_of _ (by decide +kernel)) ggX11_ask_X2_knocksOfName
theorem dX11_ask_0 : decode cX11_ask 0 = .ok (.iload_n 1, 1) := by decide +kernel
theorem dX11_ask_1 : decode cX11_ask 1 = .ok (.invokestatic 325, 3) := by decide +kernel
theorem dX11_ask_4 : decode cX11_ask 4 = .ok (.ifCond .eq 21, 3) := by decide +kernel
theorem dX11_ask_7 : decode cX11_ask 7 = .ok (.iload_n 2, 1) := by decide +kernel
theorem dX11_ask_8 : decode cX11_ask 8 = .ok (.invokestatic 325, 3) := by decide +kernel
theorem dX11_ask_11 : decode cX11_ask 11 = .ok (.ifCond .eq 14, 3) := by decide +kernel
theorem dX11_ask_14 : decode cX11_ask 14 = .ok (.iload_n 3, 1) := by decide +kernel
theorem dX11_ask_15 : decode cX11_ask 15 = .ok (.ifCond .lt 10, 3) := by decide +kernel
theorem dX11_ask_18 : decode cX11_ask 18 = .ok (.iload_n 3, 1) := by decide +kernel
theorem dX11_ask_19 : decode cX11_ask 19 = .ok (.sipush 2048, 3) := by decide +kernel
theorem dX11_ask_22 : decode cX11_ask 22 = .ok (.if_icmp .lt 5, 3) := by decide +kernel
theorem dX11_ask_25 : decode cX11_ask 25 = .ok (.iconst (-1), 1) := by decide +kernel
theorem dX11_ask_26 : decode cX11_ask 26 = .ok (.ireturn, 1) := by decide +kernel
theorem dX11_ask_27 : decode cX11_ask 27 = .ok (.iconst 1, 1) := by decide +kernel
theorem dX11_ask_28 : decode cX11_ask 28 = .ok (.iload_n 1, 1) := by decide +kernel
theorem dX11_ask_29 : decode cX11_ask 29 = .ok (.ishl, 1) := by decide +kernel
theorem dX11_ask_30 : decode cX11_ask 30 = .ok (.iconst 1, 1) := by decide +kernel
theorem dX11_ask_31 : decode cX11_ask 31 = .ok (.iload_n 2, 1) := by decide +kernel
theorem dX11_ask_32 : decode cX11_ask 32 = .ok (.ishl, 1) := by decide +kernel
theorem dX11_ask_33 : decode cX11_ask 33 = .ok (.ior, 1) := by decide +kernel
theorem dX11_ask_34 : decode cX11_ask 34 = .ok (.istore 4, 2) := by decide +kernel
theorem dX11_ask_36 : decode cX11_ask 36 = .ok (.bipush (-4), 2) := by decide +kernel
theorem dX11_ask_38 : decode cX11_ask 38 = .ok (.istore 5, 2) := by decide +kernel
theorem dX11_ask_40 : decode cX11_ask 40 = .ok (.iconst 0, 1) := by decide +kernel
theorem dX11_ask_41 : decode cX11_ask 41 = .ok (.istore 6, 2) := by decide +kernel
theorem dX11_ask_43 : decode cX11_ask 43 = .ok (.iconst 0, 1) := by decide +kernel
theorem dX11_ask_44 : decode cX11_ask 44 = .ok (.istore 7, 2) := by decide +kernel
theorem dX11_ask_46 : decode cX11_ask 46 = .ok (.iload 7, 2) := by decide +kernel
theorem dX11_ask_48 : decode cX11_ask 48 = .ok (.aload_n 0, 1) := by decide +kernel
theorem dX11_ask_49 : decode cX11_ask 49 = .ok (.getfield 75, 3) := by decide +kernel
theorem dX11_ask_52 : decode cX11_ask 52 = .ok (.getfield 119, 3) := by decide +kernel
theorem dX11_ask_55 : decode cX11_ask 55 = .ok (.getfield 123, 3) := by decide +kernel
theorem dX11_ask_58 : decode cX11_ask 58 = .ok (.if_icmp .ge 81, 3) := by decide +kernel
theorem dX11_ask_61 : decode cX11_ask 61 = .ok (.aload_n 0, 1) := by decide +kernel
theorem dX11_ask_62 : decode cX11_ask 62 = .ok (.getfield 26, 3) := by decide +kernel
theorem dX11_ask_65 : decode cX11_ask 65 = .ok (.getfield 336, 3) := by decide +kernel
theorem dX11_ask_68 : decode cX11_ask 68 = .ok (.iload 7, 2) := by decide +kernel
theorem dX11_ask_70 : decode cX11_ask 70 = .ok (.iaload, 1) := by decide +kernel
theorem dX11_ask_71 : decode cX11_ask 71 = .ok (.istore 8, 2) := by decide +kernel
theorem dX11_ask_73 : decode cX11_ask 73 = .ok (.iload 8, 2) := by decide +kernel
theorem dX11_ask_75 : decode cX11_ask 75 = .ok (.iload 4, 2) := by decide +kernel
theorem dX11_ask_77 : decode cX11_ask 77 = .ok (.iand, 1) := by decide +kernel
theorem dX11_ask_78 : decode cX11_ask 78 = .ok (.iload 4, 2) := by decide +kernel
theorem dX11_ask_80 : decode cX11_ask 80 = .ok (.if_icmp .ne 53, 3) := by decide +kernel
theorem dX11_ask_83 : decode cX11_ask 83 = .ok (.iload 8, 2) := by decide +kernel
theorem dX11_ask_85 : decode cX11_ask 85 = .ok (.iload_n 3, 1) := by decide +kernel
theorem dX11_ask_86 : decode cX11_ask 86 = .ok (.iand, 1) := by decide +kernel
theorem dX11_ask_87 : decode cX11_ask 87 = .ok (.ifCond .eq 6, 3) := by decide +kernel
theorem dX11_ask_90 : decode cX11_ask 90 = .ok (.goto 43, 3) := by decide +kernel
theorem dX11_ask_93 : decode cX11_ask 93 = .ok (.aload_n 0, 1) := by decide +kernel
theorem dX11_ask_94 : decode cX11_ask 94 = .ok (.getfield 26, 3) := by decide +kernel
theorem dX11_ask_97 : decode cX11_ask 97 = .ok (.aload_n 0, 1) := by decide +kernel
theorem dX11_ask_98 : decode cX11_ask 98 = .ok (.getfield 75, 3) := by decide +kernel
theorem dX11_ask_101 : decode cX11_ask 101 = .ok (.getfield 119, 3) := by decide +kernel
theorem dX11_ask_104 : decode cX11_ask 104 = .ok (.iload 7, 2) := by decide +kernel
theorem dX11_ask_106 : decode cX11_ask 106 = .ok (.invokevirtual 165, 3) := by decide +kernel
theorem dX11_ask_109 : decode cX11_ask 109 = .ok (.istore 9, 2) := by decide +kernel
theorem dX11_ask_111 : decode cX11_ask 111 = .ok (.iload 5, 2) := by decide +kernel
theorem dX11_ask_113 : decode cX11_ask 113 = .ok (.bipush (-4), 2) := by decide +kernel
theorem dX11_ask_115 : decode cX11_ask 115 = .ok (.if_icmp .eq 10, 3) := by decide +kernel
theorem dX11_ask_118 : decode cX11_ask 118 = .ok (.iload 9, 2) := by decide +kernel
theorem dX11_ask_120 : decode cX11_ask 120 = .ok (.iload 6, 2) := by decide +kernel
theorem dX11_ask_122 : decode cX11_ask 122 = .ok (.if_icmp .ge 11, 3) := by decide +kernel
theorem dX11_ask_125 : decode cX11_ask 125 = .ok (.iload 7, 2) := by decide +kernel
theorem dX11_ask_127 : decode cX11_ask 127 = .ok (.istore 5, 2) := by decide +kernel
theorem dX11_ask_129 : decode cX11_ask 129 = .ok (.iload 9, 2) := by decide +kernel
theorem dX11_ask_131 : decode cX11_ask 131 = .ok (.istore 6, 2) := by decide +kernel
theorem dX11_ask_133 : decode cX11_ask 133 = .ok (.iinc 7 1, 3) := by decide +kernel
theorem dX11_ask_136 : decode cX11_ask 136 = .ok (.goto (-90), 3) := by decide +kernel
theorem dX11_ask_139 : decode cX11_ask 139 = .ok (.iload 5, 2) := by decide +kernel
theorem dX11_ask_141 : decode cX11_ask 141 = .ok (.ireturn, 1) := by decide +kernel
set_option maxRecDepth 20000 in
theorem ggX11_heardBy_J6_bitCount_0f7a4 : GoodIn wsX11_heardBy wsJ6_bitCount_0f7a4 := goodIn_r _ [9, 10, 11, 12] (by decide +kernel) (by decide +kernel)
set_option maxRecDepth 20000 in
theorem gX11_heardBy_J6_bitCount_0f7a4 : GoodIn wsX11_heardBy (va_wsS RX11 320 yJ6_bitCount_0f7a4 wsJ6_bitCount_0f7a4) := goodIn_app (goodIn_of _ (by decide +kernel)) ggX11_heardBy_J6_bitCount_0f7a4
theorem dX11_heardBy_0 : decode cX11_heardBy 0 = .ok (.iload_n 1, 1) := by decide +kernel
theorem dX11_heardBy_1 : decode cX11_heardBy 1 = .ok (.ifCond .lt 8, 3) := by decide +kernel
theorem dX11_heardBy_4 : decode cX11_heardBy 4 = .ok (.iload_n 1, 1) := by decide +kernel
theorem dX11_heardBy_5 : decode cX11_heardBy 5 = .ok (.iconst 2, 1) := by decide +kernel
theorem dX11_heardBy_6 : decode cX11_heardBy 6 = .ok (.if_icmp .le 5, 3) := by decide +kernel
theorem dX11_heardBy_9 : decode cX11_heardBy 9 = .ok (.iconst (-1), 1) := by decide +kernel
theorem dX11_heardBy_10 : decode cX11_heardBy 10 = .ok (.ireturn, 1) := by decide +kernel
theorem dX11_heardBy_11 : decode cX11_heardBy 11 = .ok (.iconst 0, 1) := by decide +kernel
theorem dX11_heardBy_12 : decode cX11_heardBy 12 = .ok (.istore_n 2, 1) := by decide +kernel
theorem dX11_heardBy_13 : decode cX11_heardBy 13 = .ok (.bipush (-4), 2) := by decide +kernel
theorem dX11_heardBy_15 : decode cX11_heardBy 15 = .ok (.istore_n 3, 1) := by decide +kernel
theorem dX11_heardBy_16 : decode cX11_heardBy 16 = .ok (.iconst 0, 1) := by decide +kernel
theorem dX11_heardBy_17 : decode cX11_heardBy 17 = .ok (.istore 4, 2) := by decide +kernel
theorem dX11_heardBy_19 : decode cX11_heardBy 19 = .ok (.iconst 0, 1) := by decide +kernel
theorem dX11_heardBy_20 : decode cX11_heardBy 20 = .ok (.istore 5, 2) := by decide +kernel
theorem dX11_heardBy_22 : decode cX11_heardBy 22 = .ok (.iload 5, 2) := by decide +kernel
theorem dX11_heardBy_24 : decode cX11_heardBy 24 = .ok (.aload_n 0, 1) := by decide +kernel
theorem dX11_heardBy_25 : decode cX11_heardBy 25 = .ok (.getfield 75, 3) := by decide +kernel
theorem dX11_heardBy_28 : decode cX11_heardBy 28 = .ok (.getfield 119, 3) := by decide +kernel
theorem dX11_heardBy_31 : decode cX11_heardBy 31 = .ok (.getfield 123, 3) := by decide +kernel
theorem dX11_heardBy_34 : decode cX11_heardBy 34 = .ok (.if_icmp .ge 57, 3) := by decide +kernel
theorem dX11_heardBy_37 : decode cX11_heardBy 37 = .ok (.iload_n 2, 1) := by decide +kernel
theorem dX11_heardBy_38 : decode cX11_heardBy 38 = .ok (.aload_n 0, 1) := by decide +kernel
theorem dX11_heardBy_39 : decode cX11_heardBy 39 = .ok (.getfield 26, 3) := by decide +kernel
theorem dX11_heardBy_42 : decode cX11_heardBy 42 = .ok (.getfield 336, 3) := by decide +kernel
theorem dX11_heardBy_45 : decode cX11_heardBy 45 = .ok (.iload 5, 2) := by decide +kernel
theorem dX11_heardBy_47 : decode cX11_heardBy 47 = .ok (.iaload, 1) := by decide +kernel
theorem dX11_heardBy_48 : decode cX11_heardBy 48 = .ok (.ior, 1) := by decide +kernel
theorem dX11_heardBy_49 : decode cX11_heardBy 49 = .ok (.istore_n 2, 1) := by decide +kernel
theorem dX11_heardBy_50 : decode cX11_heardBy 50 = .ok (.aload_n 0, 1) := by decide +kernel
theorem dX11_heardBy_51 : decode cX11_heardBy 51 = .ok (.getfield 26, 3) := by decide +kernel
theorem dX11_heardBy_54 : decode cX11_heardBy 54 = .ok (.getfield 336, 3) := by decide +kernel
theorem dX11_heardBy_57 : decode cX11_heardBy 57 = .ok (.iload 5, 2) := by decide +kernel
theorem dX11_heardBy_59 : decode cX11_heardBy 59 = .ok (.iaload, 1) := by decide +kernel
theorem dX11_heardBy_60 : decode cX11_heardBy 60 = .ok (.invokestatic 320, 3) := by decide +kernel
theorem dX11_heardBy_63 : decode cX11_heardBy 63 = .ok (.istore 6, 2) := by decide +kernel
theorem dX11_heardBy_65 : decode cX11_heardBy 65 = .ok (.iload_n 3, 1) := by decide +kernel
theorem dX11_heardBy_66 : decode cX11_heardBy 66 = .ok (.bipush (-4), 2) := by decide +kernel
theorem dX11_heardBy_68 : decode cX11_heardBy 68 = .ok (.if_icmp .eq 10, 3) := by decide +kernel
theorem dX11_heardBy_71 : decode cX11_heardBy 71 = .ok (.iload 6, 2) := by decide +kernel
theorem dX11_heardBy_73 : decode cX11_heardBy 73 = .ok (.iload 4, 2) := by decide +kernel
theorem dX11_heardBy_75 : decode cX11_heardBy 75 = .ok (.if_icmp .le 10, 3) := by decide +kernel
theorem dX11_heardBy_78 : decode cX11_heardBy 78 = .ok (.iload 5, 2) := by decide +kernel
theorem dX11_heardBy_80 : decode cX11_heardBy 80 = .ok (.istore_n 3, 1) := by decide +kernel
theorem dX11_heardBy_81 : decode cX11_heardBy 81 = .ok (.iload 6, 2) := by decide +kernel
theorem dX11_heardBy_83 : decode cX11_heardBy 83 = .ok (.istore 4, 2) := by decide +kernel
theorem dX11_heardBy_85 : decode cX11_heardBy 85 = .ok (.iinc 5 1, 3) := by decide +kernel
theorem dX11_heardBy_88 : decode cX11_heardBy 88 = .ok (.goto (-66), 3) := by decide +kernel
theorem dX11_heardBy_91 : decode cX11_heardBy 91 = .ok (.iload_n 1, 1) := by decide +kernel
theorem dX11_heardBy_92 : decode cX11_heardBy 92 = .ok (.lookupswitch 38 #[(0, 28), (1, 36)], 28) := by decide +kernel
theorem dX11_heardBy_120 : decode cX11_heardBy 120 = .ok (.bipush 11, 2) := by decide +kernel
theorem dX11_heardBy_122 : decode cX11_heardBy 122 = .ok (.iload_n 2, 1) := by decide +kernel
theorem dX11_heardBy_123 : decode cX11_heardBy 123 = .ok (.invokestatic 320, 3) := by decide +kernel
theorem dX11_heardBy_126 : decode cX11_heardBy 126 = .ok (.isub, 1) := by decide +kernel
theorem dX11_heardBy_127 : decode cX11_heardBy 127 = .ok (.ireturn, 1) := by decide +kernel
theorem dX11_heardBy_128 : decode cX11_heardBy 128 = .ok (.iload_n 3, 1) := by decide +kernel
theorem dX11_heardBy_129 : decode cX11_heardBy 129 = .ok (.ireturn, 1) := by decide +kernel
theorem dX11_heardBy_130 : decode cX11_heardBy 130 = .ok (.iload 4, 2) := by decide +kernel
theorem dX11_heardBy_132 : decode cX11_heardBy 132 = .ok (.ireturn, 1) := by decide +kernel
set_option maxRecDepth 20000 in
theorem ggX11_keep_X11_isImage : GoodIn wsX11_keep wsX11_isImage := goodIn_r _ [7] (by decide +kernel) (by decide +kernel)
set_option maxRecDepth 20000 in
theorem gX11_keep_X11_isImage : GoodIn wsX11_keep (va_wsS RX11 339 yX11_isImage wsX11_isImage) := goodIn_app (goodIn_of _ (by decide +kernel)) ggX11_keep_X11_isImage
set_option maxRecDepth 20000 in
theorem ggX11_keep_X2_copyFrom : GoodIn wsX11_keep wsX2_copyFrom := goodIn_r _ [12, 13, 14, 15, 16, 17, 18, 19, 20, 21, 36, 37, 38, 39, 40, 41] (by decide +kernel) (by decide +kernel)
set_option maxRecDepth 20000 in
theorem gX11_keep_X2_copyFrom : GoodIn wsX11_keep (wsV RX11 342 RX2 yX2_copyFrom wsX2_copyFrom) := goodIn_app (goodIn_of _ (by decide +kernel)) ggX11_keep_X2_copyFrom
theorem dX11_keep_0 : decode cX11_keep 0 = .ok (.iload_n 1, 1) := by decide +kernel
theorem dX11_keep_1 : decode cX11_keep 1 = .ok (.invokestatic 339, 3) := by decide +kernel
theorem dX11_keep_4 : decode cX11_keep 4 = .ok (.ifCond .ne 5, 3) := by decide +kernel
theorem dX11_keep_7 : decode cX11_keep 7 = .ok (.iconst (-1), 1) := by decide +kernel
theorem dX11_keep_8 : decode cX11_keep 8 = .ok (.ireturn, 1) := by decide +kernel
theorem dX11_keep_9 : decode cX11_keep 9 = .ok (.aload_n 0, 1) := by decide +kernel
theorem dX11_keep_10 : decode cX11_keep 10 = .ok (.getfield 30, 3) := by decide +kernel
theorem dX11_keep_13 : decode cX11_keep 13 = .ok (.iload_n 1, 1) := by decide +kernel
theorem dX11_keep_14 : decode cX11_keep 14 = .ok (.aaload, 1) := by decide +kernel
theorem dX11_keep_15 : decode cX11_keep 15 = .ok (.getfield 115, 3) := by decide +kernel
theorem dX11_keep_18 : decode cX11_keep 18 = .ok (.ifCond .eq 7, 3) := by decide +kernel
theorem dX11_keep_21 : decode cX11_keep 21 = .ok (.iconst 1, 1) := by decide +kernel
theorem dX11_keep_22 : decode cX11_keep 22 = .ok (.goto 4, 3) := by decide +kernel
theorem dX11_keep_25 : decode cX11_keep 25 = .ok (.iconst 0, 1) := by decide +kernel
theorem dX11_keep_26 : decode cX11_keep 26 = .ok (.istore_n 2, 1) := by decide +kernel
theorem dX11_keep_27 : decode cX11_keep 27 = .ok (.aload_n 0, 1) := by decide +kernel
theorem dX11_keep_28 : decode cX11_keep 28 = .ok (.getfield 30, 3) := by decide +kernel
theorem dX11_keep_31 : decode cX11_keep 31 = .ok (.iload_n 1, 1) := by decide +kernel
theorem dX11_keep_32 : decode cX11_keep 32 = .ok (.aaload, 1) := by decide +kernel
theorem dX11_keep_33 : decode cX11_keep 33 = .ok (.aload_n 0, 1) := by decide +kernel
theorem dX11_keep_34 : decode cX11_keep 34 = .ok (.getfield 26, 3) := by decide +kernel
theorem dX11_keep_37 : decode cX11_keep 37 = .ok (.invokevirtual 342, 3) := by decide +kernel
theorem dX11_keep_40 : decode cX11_keep 40 = .ok (.aload_n 0, 1) := by decide +kernel
theorem dX11_keep_41 : decode cX11_keep 41 = .ok (.getfield 30, 3) := by decide +kernel
theorem dX11_keep_44 : decode cX11_keep 44 = .ok (.iload_n 1, 1) := by decide +kernel
theorem dX11_keep_45 : decode cX11_keep 45 = .ok (.aaload, 1) := by decide +kernel
theorem dX11_keep_46 : decode cX11_keep 46 = .ok (.iconst 1, 1) := by decide +kernel
theorem dX11_keep_47 : decode cX11_keep 47 = .ok (.putfield 115, 3) := by decide +kernel
theorem dX11_keep_50 : decode cX11_keep 50 = .ok (.iload_n 2, 1) := by decide +kernel
theorem dX11_keep_51 : decode cX11_keep 51 = .ok (.ireturn, 1) := by decide +kernel
set_option maxRecDepth 20000 in
theorem ggX11_back_X11_isImage : GoodIn wsX11_back wsX11_isImage := goodIn_r _ [8] (by decide +kernel) (by decide +kernel)
set_option maxRecDepth 20000 in
theorem gX11_back_X11_isImage : GoodIn wsX11_back (va_wsS RX11 339 yX11_isImage wsX11_isImage) := goodIn_app (goodIn_of _ (by decide +kernel)) ggX11_back_X11_isImage
set_option maxRecDepth 20000 in
theorem ggX11_back_X2_copyFrom : GoodIn wsX11_back wsX2_copyFrom := goodIn_r _ [13, 14, 15, 16, 17, 18, 19, 20, 21, 22, 37, 38, 39, 40, 41, 42] (by decide +kernel) (by decide +kernel)
set_option maxRecDepth 20000 in
theorem gX11_back_X2_copyFrom : GoodIn wsX11_back (wsV RX11 342 RX2 yX2_copyFrom wsX2_copyFrom) := goodIn_app (goodIn_of _ (by decide +kernel)) ggX11_back_X2_copyFrom
theorem dX11_back_0 : decode cX11_back 0 = .ok (.iload_n 1, 1) := by decide +kernel
theorem dX11_back_1 : decode cX11_back 1 = .ok (.invokestatic 339, 3) := by decide +kernel
theorem dX11_back_4 : decode cX11_back 4 = .ok (.ifCond .ne 5, 3) := by decide +kernel
theorem dX11_back_7 : decode cX11_back 7 = .ok (.iconst (-1), 1) := by decide +kernel
theorem dX11_back_8 : decode cX11_back 8 = .ok (.ireturn, 1) := by decide +kernel
theorem dX11_back_9 : decode cX11_back 9 = .ok (.aload_n 0, 1) := by decide +kernel
theorem dX11_back_10 : decode cX11_back 10 = .ok (.getfield 30, 3) := by decide +kernel
theorem dX11_back_13 : decode cX11_back 13 = .ok (.iload_n 1, 1) := by decide +kernel
theorem dX11_back_14 : decode cX11_back 14 = .ok (.aaload, 1) := by decide +kernel
theorem dX11_back_15 : decode cX11_back 15 = .ok (.getfield 115, 3) := by decide +kernel
theorem dX11_back_18 : decode cX11_back 18 = .ok (.ifCond .ne 6, 3) := by decide +kernel
theorem dX11_back_21 : decode cX11_back 21 = .ok (.bipush (-2), 2) := by decide +kernel
theorem dX11_back_23 : decode cX11_back 23 = .ok (.ireturn, 1) := by decide +kernel
theorem dX11_back_24 : decode cX11_back 24 = .ok (.aload_n 0, 1) := by decide +kernel
theorem dX11_back_25 : decode cX11_back 25 = .ok (.getfield 26, 3) := by decide +kernel
theorem dX11_back_28 : decode cX11_back 28 = .ok (.aload_n 0, 1) := by decide +kernel
theorem dX11_back_29 : decode cX11_back 29 = .ok (.getfield 30, 3) := by decide +kernel
theorem dX11_back_32 : decode cX11_back 32 = .ok (.iload_n 1, 1) := by decide +kernel
theorem dX11_back_33 : decode cX11_back 33 = .ok (.aaload, 1) := by decide +kernel
theorem dX11_back_34 : decode cX11_back 34 = .ok (.invokevirtual 342, 3) := by decide +kernel
theorem dX11_back_37 : decode cX11_back 37 = .ok (.aload_n 0, 1) := by decide +kernel
theorem dX11_back_38 : decode cX11_back 38 = .ok (.getfield 26, 3) := by decide +kernel
theorem dX11_back_41 : decode cX11_back 41 = .ok (.getfield 219, 3) := by decide +kernel
theorem dX11_back_44 : decode cX11_back 44 = .ok (.ireturn, 1) := by decide +kernel
set_option maxRecDepth 20000 in
theorem ggX11_sheet_X11_isSheet : GoodIn wsX11_sheet wsX11_isSheet := goodIn_r _ [5] (by decide +kernel) (by decide +kernel)
set_option maxRecDepth 20000 in
theorem gX11_sheet_X11_isSheet : GoodIn wsX11_sheet (va_wsS RX11 346 yX11_isSheet wsX11_isSheet) := goodIn_app (goodIn_of _ (by decide +kernel)) ggX11_sheet_X11_isSheet
set_option maxRecDepth 20000 in
theorem ggX11_sheet_X11_isLane : GoodIn wsX11_sheet wsX11_isLane := goodIn_r _ [8] (by decide +kernel) (by decide +kernel)
set_option maxRecDepth 20000 in
theorem gX11_sheet_X11_isLane : GoodIn wsX11_sheet (va_wsS RX11 349 yX11_isLane wsX11_isLane) := goodIn_app (goodIn_of _ (by decide +kernel)) ggX11_sheet_X11_isLane
set_option maxRecDepth 20000 in
theorem ggX11_sheet_X8_renew : GoodIn wsX11_sheet wsX8_renew := goodIn_r _ [13, 14, 15, 16, 17, 18, 19, 20, 21, 22, 23, 24, 25, 26, 27, 42, 43, 44] (by decide +kernel) (by decide +kernel)
set_option maxRecDepth 20000 in
theorem gX11_sheet_X8_renew : GoodIn wsX11_sheet (wsV RX11 352 RX8 yX8_renew wsX8_renew) := goodIn_app (goodIn_of _ (by decide +kernel)) ggX11_sheet_X8_renew
theorem dX11_sheet_0 : decode cX11_sheet 0 = .ok (.iload_n 1, 1) := by decide +kernel
theorem dX11_sheet_1 : decode cX11_sheet 1 = .ok (.invokestatic 346, 3) := by decide +kernel
theorem dX11_sheet_4 : decode cX11_sheet 4 = .ok (.ifCond .eq 16, 3) := by decide +kernel
theorem dX11_sheet_7 : decode cX11_sheet 7 = .ok (.iload_n 2, 1) := by decide +kernel
theorem dX11_sheet_8 : decode cX11_sheet 8 = .ok (.invokestatic 349, 3) := by decide +kernel
theorem dX11_sheet_11 : decode cX11_sheet 11 = .ok (.ifCond .eq 9, 3) := by decide +kernel
theorem dX11_sheet_14 : decode cX11_sheet 14 = .ok (.iload_n 3, 1) := by decide +kernel
theorem dX11_sheet_15 : decode cX11_sheet 15 = .ok (.bipush 40, 2) := by decide +kernel
theorem dX11_sheet_17 : decode cX11_sheet 17 = .ok (.if_icmp .le 5, 3) := by decide +kernel
theorem dX11_sheet_20 : decode cX11_sheet 20 = .ok (.iconst (-1), 1) := by decide +kernel
theorem dX11_sheet_21 : decode cX11_sheet 21 = .ok (.ireturn, 1) := by decide +kernel
theorem dX11_sheet_22 : decode cX11_sheet 22 = .ok (.iload_n 3, 1) := by decide +kernel
theorem dX11_sheet_23 : decode cX11_sheet 23 = .ok (.ifCond .ge 6, 3) := by decide +kernel
theorem dX11_sheet_26 : decode cX11_sheet 26 = .ok (.bipush (-14), 2) := by decide +kernel
theorem dX11_sheet_28 : decode cX11_sheet 28 = .ok (.ireturn, 1) := by decide +kernel
theorem dX11_sheet_29 : decode cX11_sheet 29 = .ok (.aload_n 0, 1) := by decide +kernel
theorem dX11_sheet_30 : decode cX11_sheet 30 = .ok (.getfield 36, 3) := by decide +kernel
theorem dX11_sheet_33 : decode cX11_sheet 33 = .ok (.iload_n 1, 1) := by decide +kernel
theorem dX11_sheet_34 : decode cX11_sheet 34 = .ok (.aaload, 1) := by decide +kernel
theorem dX11_sheet_35 : decode cX11_sheet 35 = .ok (.iload_n 2, 1) := by decide +kernel
theorem dX11_sheet_36 : decode cX11_sheet 36 = .ok (.iload_n 3, 1) := by decide +kernel
theorem dX11_sheet_37 : decode cX11_sheet 37 = .ok (.invokevirtual 352, 3) := by decide +kernel
theorem dX11_sheet_40 : decode cX11_sheet 40 = .ok (.iconst 1, 1) := by decide +kernel
theorem dX11_sheet_41 : decode cX11_sheet 41 = .ok (.ireturn, 1) := by decide +kernel
set_option maxRecDepth 20000 in
theorem ggX11_lay_X11_isSheet : GoodIn wsX11_lay wsX11_isSheet := goodIn_r _ [5] (by decide +kernel) (by decide +kernel)
set_option maxRecDepth 20000 in
theorem gX11_lay_X11_isSheet : GoodIn wsX11_lay (va_wsS RX11 346 yX11_isSheet wsX11_isSheet) := goodIn_app (goodIn_of _ (by decide +kernel)) ggX11_lay_X11_isSheet
set_option maxRecDepth 20000 in
theorem ggX11_lay_X8_faultAt : GoodIn wsX11_lay wsX8_faultAt := goodIn_r _ [10, 11, 12, 33, 34, 35] (by decide +kernel) (by decide +kernel)
set_option maxRecDepth 20000 in
theorem gX11_lay_X8_faultAt : GoodIn wsX11_lay (wsV RX11 356 RX8 yX8_faultAt wsX8_faultAt) := goodIn_app (goodIn_of _ (by decide +kernel)) ggX11_lay_X8_faultAt
set_option maxRecDepth 20000 in
theorem ggX11_lay_X8_put : GoodIn wsX11_lay wsX8_put := goodIn_r _ [16, 11, 17, 18, 7, 8, 9, 10, 12, 33, 34, 35] (by decide +kernel) (by decide +kernel)
set_option maxRecDepth 20000 in
theorem gX11_lay_X8_put : GoodIn wsX11_lay (wsV RX11 359 RX8 yX8_put wsX8_put) := goodIn_app (goodIn_of _ (by decide +kernel)) ggX11_lay_X8_put
theorem dX11_lay_0 : decode cX11_lay 0 = .ok (.iload_n 1, 1) := by decide +kernel
theorem dX11_lay_1 : decode cX11_lay 1 = .ok (.invokestatic 346, 3) := by decide +kernel
theorem dX11_lay_4 : decode cX11_lay 4 = .ok (.ifCond .ne 5, 3) := by decide +kernel
theorem dX11_lay_7 : decode cX11_lay 7 = .ok (.iconst (-1), 1) := by decide +kernel
theorem dX11_lay_8 : decode cX11_lay 8 = .ok (.ireturn, 1) := by decide +kernel
theorem dX11_lay_9 : decode cX11_lay 9 = .ok (.aload_n 0, 1) := by decide +kernel
theorem dX11_lay_10 : decode cX11_lay 10 = .ok (.getfield 36, 3) := by decide +kernel
theorem dX11_lay_13 : decode cX11_lay 13 = .ok (.iload_n 1, 1) := by decide +kernel
theorem dX11_lay_14 : decode cX11_lay 14 = .ok (.aaload, 1) := by decide +kernel
theorem dX11_lay_15 : decode cX11_lay 15 = .ok (.iload_n 2, 1) := by decide +kernel
theorem dX11_lay_16 : decode cX11_lay 16 = .ok (.invokevirtual 356, 3) := by decide +kernel
theorem dX11_lay_19 : decode cX11_lay 19 = .ok (.istore 4, 2) := by decide +kernel
theorem dX11_lay_21 : decode cX11_lay 21 = .ok (.iload 4, 2) := by decide +kernel
theorem dX11_lay_23 : decode cX11_lay 23 = .ok (.ifCond .eq 9, 3) := by decide +kernel
theorem dX11_lay_26 : decode cX11_lay 26 = .ok (.bipush (-10), 2) := by decide +kernel
theorem dX11_lay_28 : decode cX11_lay 28 = .ok (.iload 4, 2) := by decide +kernel
theorem dX11_lay_30 : decode cX11_lay 30 = .ok (.isub, 1) := by decide +kernel
theorem dX11_lay_31 : decode cX11_lay 31 = .ok (.ireturn, 1) := by decide +kernel
theorem dX11_lay_32 : decode cX11_lay 32 = .ok (.aload_n 0, 1) := by decide +kernel
theorem dX11_lay_33 : decode cX11_lay 33 = .ok (.getfield 36, 3) := by decide +kernel
theorem dX11_lay_36 : decode cX11_lay 36 = .ok (.iload_n 1, 1) := by decide +kernel
theorem dX11_lay_37 : decode cX11_lay 37 = .ok (.aaload, 1) := by decide +kernel
theorem dX11_lay_38 : decode cX11_lay 38 = .ok (.iload_n 2, 1) := by decide +kernel
theorem dX11_lay_39 : decode cX11_lay 39 = .ok (.iload_n 3, 1) := by decide +kernel
theorem dX11_lay_40 : decode cX11_lay 40 = .ok (.invokevirtual 359, 3) := by decide +kernel
theorem dX11_lay_43 : decode cX11_lay 43 = .ok (.iconst 1, 1) := by decide +kernel
theorem dX11_lay_44 : decode cX11_lay 44 = .ok (.ireturn, 1) := by decide +kernel
set_option maxRecDepth 20000 in
theorem ggX11_read_X11_isSheet : GoodIn wsX11_read wsX11_isSheet := goodIn_r _ [9] (by decide +kernel) (by decide +kernel)
set_option maxRecDepth 20000 in
theorem gX11_read_X11_isSheet : GoodIn wsX11_read (va_wsS RX11 346 yX11_isSheet wsX11_isSheet) := goodIn_app (goodIn_of _ (by decide +kernel)) ggX11_read_X11_isSheet
set_option maxRecDepth 20000 in
theorem ggX11_read_X11_isLane : GoodIn wsX11_read wsX11_isLane := goodIn_r _ [12] (by decide +kernel) (by decide +kernel)
set_option maxRecDepth 20000 in
theorem gX11_read_X11_isLane : GoodIn wsX11_read (va_wsS RX11 349 yX11_isLane wsX11_isLane) := goodIn_app (goodIn_of _ (by decide +kernel)) ggX11_read_X11_isLane
set_option maxRecDepth 20000 in
theorem ggX11_read_X8_faultOf : GoodIn wsX11_read wsX8_faultOf := goodIn_r _ [17, 18, 19, 20, 21, 16, 22, 23, 52, 53, 54] (by decide +kernel) (by decide +kernel)
set_option maxRecDepth 20000 in
theorem gX11_read_X8_faultOf : GoodIn wsX11_read (wsV RX11 361 RX8 yX8_faultOf wsX8_faultOf) := goodIn_app (goodIn_of _ (by decide +kernel)) ggX11_read_X8_faultOf
set_option maxRecDepth 20000 in
theorem ggX11_read_X8_cellAt : GoodIn wsX11_read wsX8_cellAt := goodIn_r _ [27, 28, 19, 20, 21, 16, 22, 18, 23, 52, 53, 54] (by decide +kernel) (by decide +kernel)
set_option maxRecDepth 20000 in
theorem gX11_read_X8_cellAt : GoodIn wsX11_read (wsV RX11 364 RX8 yX8_cellAt wsX8_cellAt) := goodIn_app (goodIn_of _ (by decide +kernel)) ggX11_read_X8_cellAt
set_option maxRecDepth 20000 in
theorem ggX11_read_X11_isHearable : GoodIn wsX11_read wsX11_isHearable := goodIn_r _ [31] (by decide +kernel) (by decide +kernel)
set_option maxRecDepth 20000 in
theorem gX11_read_X11_isHearable : GoodIn wsX11_read (va_wsS RX11 216 yX11_isHearable wsX11_isHearable) := goodIn_app (goodIn_of _ (by decide +kernel)) ggX11_read_X11_isHearable
theorem dX11_read_0 : decode cX11_read 0 = .ok (.iload_n 1, 1) := by decide +kernel
theorem dX11_read_1 : decode cX11_read 1 = .ok (.invokestatic 346, 3) := by decide +kernel
theorem dX11_read_4 : decode cX11_read 4 = .ok (.ifCond .eq 22, 3) := by decide +kernel
theorem dX11_read_7 : decode cX11_read 7 = .ok (.iload_n 2, 1) := by decide +kernel
theorem dX11_read_8 : decode cX11_read 8 = .ok (.invokestatic 349, 3) := by decide +kernel
theorem dX11_read_11 : decode cX11_read 11 = .ok (.ifCond .eq 15, 3) := by decide +kernel
theorem dX11_read_14 : decode cX11_read 14 = .ok (.iload 4, 2) := by decide +kernel
theorem dX11_read_16 : decode cX11_read 16 = .ok (.ifCond .lt 10, 3) := by decide +kernel
theorem dX11_read_19 : decode cX11_read 19 = .ok (.iload 4, 2) := by decide +kernel
theorem dX11_read_21 : decode cX11_read 21 = .ok (.bipush 24, 2) := by decide +kernel
theorem dX11_read_23 : decode cX11_read 23 = .ok (.if_icmp .le 5, 3) := by decide +kernel
theorem dX11_read_26 : decode cX11_read 26 = .ok (.iconst (-1), 1) := by decide +kernel
theorem dX11_read_27 : decode cX11_read 27 = .ok (.ireturn, 1) := by decide +kernel
theorem dX11_read_28 : decode cX11_read 28 = .ok (.aload_n 0, 1) := by decide +kernel
theorem dX11_read_29 : decode cX11_read 29 = .ok (.getfield 36, 3) := by decide +kernel
theorem dX11_read_32 : decode cX11_read 32 = .ok (.iload_n 1, 1) := by decide +kernel
theorem dX11_read_33 : decode cX11_read 33 = .ok (.aaload, 1) := by decide +kernel
theorem dX11_read_34 : decode cX11_read 34 = .ok (.astore 5, 2) := by decide +kernel
theorem dX11_read_36 : decode cX11_read 36 = .ok (.iconst 0, 1) := by decide +kernel
theorem dX11_read_37 : decode cX11_read 37 = .ok (.istore 6, 2) := by decide +kernel
theorem dX11_read_39 : decode cX11_read 39 = .ok (.iconst 0, 1) := by decide +kernel
theorem dX11_read_40 : decode cX11_read 40 = .ok (.istore 7, 2) := by decide +kernel
theorem dX11_read_42 : decode cX11_read 42 = .ok (.iconst 0, 1) := by decide +kernel
theorem dX11_read_43 : decode cX11_read 43 = .ok (.istore 8, 2) := by decide +kernel
theorem dX11_read_45 : decode cX11_read 45 = .ok (.iload 8, 2) := by decide +kernel
theorem dX11_read_47 : decode cX11_read 47 = .ok (.iload 4, 2) := by decide +kernel
theorem dX11_read_49 : decode cX11_read 49 = .ok (.if_icmp .ge 95, 3) := by decide +kernel
theorem dX11_read_52 : decode cX11_read 52 = .ok (.aload 5, 2) := by decide +kernel
theorem dX11_read_54 : decode cX11_read 54 = .ok (.iload_n 2, 1) := by decide +kernel
theorem dX11_read_55 : decode cX11_read 55 = .ok (.iload_n 3, 1) := by decide +kernel
theorem dX11_read_56 : decode cX11_read 56 = .ok (.iload 8, 2) := by decide +kernel
theorem dX11_read_58 : decode cX11_read 58 = .ok (.iadd, 1) := by decide +kernel
theorem dX11_read_59 : decode cX11_read 59 = .ok (.invokevirtual 361, 3) := by decide +kernel
theorem dX11_read_62 : decode cX11_read 62 = .ok (.istore 6, 2) := by decide +kernel
theorem dX11_read_64 : decode cX11_read 64 = .ok (.iload 6, 2) := by decide +kernel
theorem dX11_read_66 : decode cX11_read 66 = .ok (.ifCond .eq 6, 3) := by decide +kernel
theorem dX11_read_69 : decode cX11_read 69 = .ok (.goto 75, 3) := by decide +kernel
theorem dX11_read_72 : decode cX11_read 72 = .ok (.aload 5, 2) := by decide +kernel
theorem dX11_read_74 : decode cX11_read 74 = .ok (.iload_n 3, 1) := by decide +kernel
theorem dX11_read_75 : decode cX11_read 75 = .ok (.iload 8, 2) := by decide +kernel
theorem dX11_read_77 : decode cX11_read 77 = .ok (.iadd, 1) := by decide +kernel
theorem dX11_read_78 : decode cX11_read 78 = .ok (.invokevirtual 364, 3) := by decide +kernel
theorem dX11_read_81 : decode cX11_read 81 = .ok (.istore 9, 2) := by decide +kernel
theorem dX11_read_83 : decode cX11_read 83 = .ok (.iload 9, 2) := by decide +kernel
theorem dX11_read_85 : decode cX11_read 85 = .ok (.invokestatic 216, 3) := by decide +kernel
theorem dX11_read_88 : decode cX11_read 88 = .ok (.ifCond .ne 9, 3) := by decide +kernel
theorem dX11_read_91 : decode cX11_read 91 = .ok (.bipush (-20), 2) := by decide +kernel
theorem dX11_read_93 : decode cX11_read 93 = .ok (.iload 8, 2) := by decide +kernel
theorem dX11_read_95 : decode cX11_read 95 = .ok (.isub, 1) := by decide +kernel
theorem dX11_read_96 : decode cX11_read 96 = .ok (.ireturn, 1) := by decide +kernel
theorem dX11_read_97 : decode cX11_read 97 = .ok (.aload_n 0, 1) := by decide +kernel
theorem dX11_read_98 : decode cX11_read 98 = .ok (.getfield 26, 3) := by decide +kernel
theorem dX11_read_101 : decode cX11_read 101 = .ok (.getfield 219, 3) := by decide +kernel
theorem dX11_read_104 : decode cX11_read 104 = .ok (.iload 8, 2) := by decide +kernel
theorem dX11_read_106 : decode cX11_read 106 = .ok (.iadd, 1) := by decide +kernel
theorem dX11_read_107 : decode cX11_read 107 = .ok (.bipush 24, 2) := by decide +kernel
theorem dX11_read_109 : decode cX11_read 109 = .ok (.if_icmp .lt 6, 3) := by decide +kernel
theorem dX11_read_112 : decode cX11_read 112 = .ok (.bipush (-3), 2) := by decide +kernel
theorem dX11_read_114 : decode cX11_read 114 = .ok (.ireturn, 1) := by decide +kernel
theorem dX11_read_115 : decode cX11_read 115 = .ok (.aload_n 0, 1) := by decide +kernel
theorem dX11_read_116 : decode cX11_read 116 = .ok (.getfield 26, 3) := by decide +kernel
theorem dX11_read_119 : decode cX11_read 119 = .ok (.getfield 222, 3) := by decide +kernel
theorem dX11_read_122 : decode cX11_read 122 = .ok (.aload_n 0, 1) := by decide +kernel
theorem dX11_read_123 : decode cX11_read 123 = .ok (.getfield 26, 3) := by decide +kernel
theorem dX11_read_126 : decode cX11_read 126 = .ok (.getfield 219, 3) := by decide +kernel
theorem dX11_read_129 : decode cX11_read 129 = .ok (.iload 8, 2) := by decide +kernel
theorem dX11_read_131 : decode cX11_read 131 = .ok (.iadd, 1) := by decide +kernel
theorem dX11_read_132 : decode cX11_read 132 = .ok (.iload 9, 2) := by decide +kernel
theorem dX11_read_134 : decode cX11_read 134 = .ok (.iastore, 1) := by decide +kernel
theorem dX11_read_135 : decode cX11_read 135 = .ok (.iinc 7 1, 3) := by decide +kernel
theorem dX11_read_138 : decode cX11_read 138 = .ok (.iinc 8 1, 3) := by decide +kernel
theorem dX11_read_141 : decode cX11_read 141 = .ok (.goto (-96), 3) := by decide +kernel
theorem dX11_read_144 : decode cX11_read 144 = .ok (.aload_n 0, 1) := by decide +kernel
theorem dX11_read_145 : decode cX11_read 145 = .ok (.getfield 26, 3) := by decide +kernel
theorem dX11_read_148 : decode cX11_read 148 = .ok (.dup, 1) := by decide +kernel
theorem dX11_read_149 : decode cX11_read 149 = .ok (.getfield 219, 3) := by decide +kernel
theorem dX11_read_152 : decode cX11_read 152 = .ok (.iload 7, 2) := by decide +kernel
theorem dX11_read_154 : decode cX11_read 154 = .ok (.iadd, 1) := by decide +kernel
theorem dX11_read_155 : decode cX11_read 155 = .ok (.putfield 219, 3) := by decide +kernel
theorem dX11_read_158 : decode cX11_read 158 = .ok (.aload_n 0, 1) := by decide +kernel
theorem dX11_read_159 : decode cX11_read 159 = .ok (.iload 6, 2) := by decide +kernel
theorem dX11_read_161 : decode cX11_read 161 = .ok (.putfield 367, 3) := by decide +kernel
theorem dX11_read_164 : decode cX11_read 164 = .ok (.iload 7, 2) := by decide +kernel
theorem dX11_read_166 : decode cX11_read 166 = .ok (.ireturn, 1) := by decide +kernel
theorem dX11_torn_0 : decode cX11_torn 0 = .ok (.aload_n 0, 1) := by decide +kernel
theorem dX11_torn_1 : decode cX11_torn 1 = .ok (.getfield 367, 3) := by decide +kernel
theorem dX11_torn_4 : decode cX11_torn 4 = .ok (.ireturn, 1) := by decide +kernel
set_option maxRecDepth 20000 in
theorem ggX11_count_X4_allLetters : GoodIn wsX11_count wsX4_allLetters := goodIn_r _ [15, 16, 17, 82, 83, 84, 85, 86, 87] (by decide +kernel) (by decide +kernel)
set_option maxRecDepth 20000 in
theorem gX11_count_X4_allLetters : GoodIn wsX11_count (wsV RX11 311 RX4 yX4_allLetters wsX4_allLetters) := goodIn_app (goodIn_of _ (by decide +kernel)) ggX11_count_X4_allLetters
set_option maxRecDepth 20000 in
theorem ggX11_count_J6_bitCount_0f7a4 : GoodIn wsX11_count wsJ6_bitCount_0f7a4 := goodIn_r _ [21, 22, 23, 24] (by decide +kernel) (by decide +kernel)
set_option maxRecDepth 20000 in
theorem gX11_count_J6_bitCount_0f7a4 : GoodIn wsX11_count (va_wsS RX11 320 yJ6_bitCount_0f7a4 wsJ6_bitCount_0f7a4) := goodIn_app (goodIn_of _ (by decide +kernel)) ggX11_count_J6_bitCount_0f7a4
set_option maxRecDepth 20000 in
theorem ggX11_count_X5_watchedMinutes : GoodIn wsX11_count wsX5_watchedMinutes := goodIn_r _ [29, 30, 88] (by decide +kernel) (by decide +kernel)
set_option maxRecDepth 20000 in
theorem gX11_count_X5_watchedMinutes : GoodIn wsX11_count (wsV RX11 370 RX5 yX5_watchedMinutes wsX5_watchedMinutes) := goodIn_app (goodIn_of _ (by decide +kernel)) ggX11_count_X5_watchedMinutes
set_option maxRecDepth 20000 in
theorem ggX11_count_X11_imagesKept : GoodIn wsX11_count wsX11_imagesKept := goodIn_r _ [35, 36, 37, 38, 39, 40, 41, 42, 43, 44, 45, 46, 47, 48, 49, 50, 51, 52, 53, 54, 55, 56, 57] (by decide +kernel) (by decide +kernel)
set_option maxRecDepth 20000 in
theorem gX11_count_X11_imagesKept : GoodIn wsX11_count (wsV RX11 373 RX11 yX11_imagesKept wsX11_imagesKept) := goodIn_app (goodIn_of _ (by decide +kernel)) ggX11_count_X11_imagesKept
theorem dX11_count_0 : decode cX11_count 0 = .ok (.iload_n 1, 1) := by decide +kernel
theorem dX11_count_1 : decode cX11_count 1 = .ok (.tableswitch 112 0 5 #[39, 47, 61, 72, 77, 85], 39) := by decide +kernel
theorem dX11_count_40 : decode cX11_count 40 = .ok (.aload_n 0, 1) := by decide +kernel
theorem dX11_count_41 : decode cX11_count 41 = .ok (.getfield 26, 3) := by decide +kernel
theorem dX11_count_44 : decode cX11_count 44 = .ok (.getfield 219, 3) := by decide +kernel
theorem dX11_count_47 : decode cX11_count 47 = .ok (.ireturn, 1) := by decide +kernel
theorem dX11_count_48 : decode cX11_count 48 = .ok (.aload_n 0, 1) := by decide +kernel
theorem dX11_count_49 : decode cX11_count 49 = .ok (.getfield 75, 3) := by decide +kernel
theorem dX11_count_52 : decode cX11_count 52 = .ok (.getfield 119, 3) := by decide +kernel
theorem dX11_count_55 : decode cX11_count 55 = .ok (.invokevirtual 311, 3) := by decide +kernel
theorem dX11_count_58 : decode cX11_count 58 = .ok (.invokestatic 320, 3) := by decide +kernel
theorem dX11_count_61 : decode cX11_count 61 = .ok (.ireturn, 1) := by decide +kernel
theorem dX11_count_62 : decode cX11_count 62 = .ok (.aload_n 0, 1) := by decide +kernel
theorem dX11_count_63 : decode cX11_count 63 = .ok (.getfield 75, 3) := by decide +kernel
theorem dX11_count_66 : decode cX11_count 66 = .ok (.getfield 287, 3) := by decide +kernel
theorem dX11_count_69 : decode cX11_count 69 = .ok (.invokevirtual 370, 3) := by decide +kernel
theorem dX11_count_72 : decode cX11_count 72 = .ok (.ireturn, 1) := by decide +kernel
theorem dX11_count_73 : decode cX11_count 73 = .ok (.aload_n 0, 1) := by decide +kernel
theorem dX11_count_74 : decode cX11_count 74 = .ok (.invokevirtual 373, 3) := by decide +kernel
theorem dX11_count_77 : decode cX11_count 77 = .ok (.ireturn, 1) := by decide +kernel
theorem dX11_count_78 : decode cX11_count 78 = .ok (.aload_n 0, 1) := by decide +kernel
theorem dX11_count_79 : decode cX11_count 79 = .ok (.getfield 10, 3) := by decide +kernel
theorem dX11_count_82 : decode cX11_count 82 = .ok (.getfield 98, 3) := by decide +kernel
theorem dX11_count_85 : decode cX11_count 85 = .ok (.ireturn, 1) := by decide +kernel
theorem dX11_count_86 : decode cX11_count 86 = .ok (.aload_n 0, 1) := by decide +kernel
theorem dX11_count_87 : decode cX11_count 87 = .ok (.getfield 36, 3) := by decide +kernel
theorem dX11_count_90 : decode cX11_count 90 = .ok (.iconst 0, 1) := by decide +kernel
theorem dX11_count_91 : decode cX11_count 91 = .ok (.aaload, 1) := by decide +kernel
theorem dX11_count_92 : decode cX11_count 92 = .ok (.getfield 376, 3) := by decide +kernel
theorem dX11_count_95 : decode cX11_count 95 = .ok (.ifCond .ge 8, 3) := by decide +kernel
theorem dX11_count_98 : decode cX11_count 98 = .ok (.bipush (-4), 2) := by decide +kernel
theorem dX11_count_100 : decode cX11_count 100 = .ok (.goto 12, 3) := by decide +kernel
theorem dX11_count_103 : decode cX11_count 103 = .ok (.aload_n 0, 1) := by decide +kernel
theorem dX11_count_104 : decode cX11_count 104 = .ok (.getfield 36, 3) := by decide +kernel
theorem dX11_count_107 : decode cX11_count 107 = .ok (.iconst 0, 1) := by decide +kernel
theorem dX11_count_108 : decode cX11_count 108 = .ok (.aaload, 1) := by decide +kernel
theorem dX11_count_109 : decode cX11_count 109 = .ok (.getfield 379, 3) := by decide +kernel
theorem dX11_count_112 : decode cX11_count 112 = .ok (.ireturn, 1) := by decide +kernel
theorem dX11_count_113 : decode cX11_count 113 = .ok (.iconst (-1), 1) := by decide +kernel
theorem dX11_count_114 : decode cX11_count 114 = .ok (.ireturn, 1) := by decide +kernel
theorem dX11_isWord_0 : decode cX11_isWord 0 = .ok (.iload_n 1, 1) := by decide +kernel
theorem dX11_isWord_1 : decode cX11_isWord 1 = .ok (.ifCond .lt 21, 3) := by decide +kernel
theorem dX11_isWord_4 : decode cX11_isWord 4 = .ok (.iload_n 1, 1) := by decide +kernel
theorem dX11_isWord_5 : decode cX11_isWord 5 = .ok (.aload_n 0, 1) := by decide +kernel
theorem dX11_isWord_6 : decode cX11_isWord 6 = .ok (.getfield 75, 3) := by decide +kernel
theorem dX11_isWord_9 : decode cX11_isWord 9 = .ok (.getfield 119, 3) := by decide +kernel
theorem dX11_isWord_12 : decode cX11_isWord 12 = .ok (.getfield 123, 3) := by decide +kernel
theorem dX11_isWord_15 : decode cX11_isWord 15 = .ok (.if_icmp .ge 7, 3) := by decide +kernel
theorem dX11_isWord_18 : decode cX11_isWord 18 = .ok (.iconst 1, 1) := by decide +kernel
theorem dX11_isWord_19 : decode cX11_isWord 19 = .ok (.goto 4, 3) := by decide +kernel
theorem dX11_isWord_22 : decode cX11_isWord 22 = .ok (.iconst 0, 1) := by decide +kernel
theorem dX11_isWord_23 : decode cX11_isWord 23 = .ok (.ireturn, 1) := by decide +kernel
theorem dX11_canWeigh_0 : decode cX11_canWeigh 0 = .ok (.aload_n 0, 1) := by decide +kernel
theorem dX11_canWeigh_1 : decode cX11_canWeigh 1 = .ok (.getfield 26, 3) := by decide +kernel
theorem dX11_canWeigh_4 : decode cX11_canWeigh 4 = .ok (.getfield 219, 3) := by decide +kernel
theorem dX11_canWeigh_7 : decode cX11_canWeigh 7 = .ok (.istore_n 1, 1) := by decide +kernel
theorem dX11_canWeigh_8 : decode cX11_canWeigh 8 = .ok (.iload_n 1, 1) := by decide +kernel
theorem dX11_canWeigh_9 : decode cX11_canWeigh 9 = .ok (.ifCond .le 19, 3) := by decide +kernel
theorem dX11_canWeigh_12 : decode cX11_canWeigh 12 = .ok (.iload_n 1, 1) := by decide +kernel
theorem dX11_canWeigh_13 : decode cX11_canWeigh 13 = .ok (.iconst 2, 1) := by decide +kernel
theorem dX11_canWeigh_14 : decode cX11_canWeigh 14 = .ok (.irem, 1) := by decide +kernel
theorem dX11_canWeigh_15 : decode cX11_canWeigh 15 = .ok (.ifCond .ne 13, 3) := by decide +kernel
theorem dX11_canWeigh_18 : decode cX11_canWeigh 18 = .ok (.iload_n 1, 1) := by decide +kernel
theorem dX11_canWeigh_19 : decode cX11_canWeigh 19 = .ok (.bipush 12, 2) := by decide +kernel
theorem dX11_canWeigh_21 : decode cX11_canWeigh 21 = .ok (.if_icmp .gt 7, 3) := by decide +kernel
theorem dX11_canWeigh_24 : decode cX11_canWeigh 24 = .ok (.iconst 1, 1) := by decide +kernel
theorem dX11_canWeigh_25 : decode cX11_canWeigh 25 = .ok (.goto 4, 3) := by decide +kernel
theorem dX11_canWeigh_28 : decode cX11_canWeigh 28 = .ok (.iconst 0, 1) := by decide +kernel
theorem dX11_canWeigh_29 : decode cX11_canWeigh 29 = .ok (.ireturn, 1) := by decide +kernel
theorem dX11_isPlace_0 : decode cX11_isPlace 0 = .ok (.iload_n 0, 1) := by decide +kernel
theorem dX11_isPlace_1 : decode cX11_isPlace 1 = .ok (.ifCond .lt 13, 3) := by decide +kernel
theorem dX11_isPlace_4 : decode cX11_isPlace 4 = .ok (.iload_n 0, 1) := by decide +kernel
theorem dX11_isPlace_5 : decode cX11_isPlace 5 = .ok (.bipush 25, 2) := by decide +kernel
theorem dX11_isPlace_7 : decode cX11_isPlace 7 = .ok (.if_icmp .ge 7, 3) := by decide +kernel
theorem dX11_isPlace_10 : decode cX11_isPlace 10 = .ok (.iconst 1, 1) := by decide +kernel
theorem dX11_isPlace_11 : decode cX11_isPlace 11 = .ok (.goto 4, 3) := by decide +kernel
theorem dX11_isPlace_14 : decode cX11_isPlace 14 = .ok (.iconst 0, 1) := by decide +kernel
theorem dX11_isPlace_15 : decode cX11_isPlace 15 = .ok (.ireturn, 1) := by decide +kernel
theorem dX11_isHalf_0 : decode cX11_isHalf 0 = .ok (.iload_n 0, 1) := by decide +kernel
theorem dX11_isHalf_1 : decode cX11_isHalf 1 = .ok (.ifCond .eq 8, 3) := by decide +kernel
theorem dX11_isHalf_4 : decode cX11_isHalf 4 = .ok (.iload_n 0, 1) := by decide +kernel
theorem dX11_isHalf_5 : decode cX11_isHalf 5 = .ok (.iconst 1, 1) := by decide +kernel
theorem dX11_isHalf_6 : decode cX11_isHalf 6 = .ok (.if_icmp .ne 7, 3) := by decide +kernel
theorem dX11_isHalf_9 : decode cX11_isHalf 9 = .ok (.iconst 1, 1) := by decide +kernel
theorem dX11_isHalf_10 : decode cX11_isHalf 10 = .ok (.goto 4, 3) := by decide +kernel
theorem dX11_isHalf_13 : decode cX11_isHalf 13 = .ok (.iconst 0, 1) := by decide +kernel
theorem dX11_isHalf_14 : decode cX11_isHalf 14 = .ok (.ireturn, 1) := by decide +kernel
theorem dX11_isHearable_0 : decode cX11_isHearable 0 = .ok (.iload_n 0, 1) := by decide +kernel
theorem dX11_isHearable_1 : decode cX11_isHearable 1 = .ok (.ifCond .lt 13, 3) := by decide +kernel
theorem dX11_isHearable_4 : decode cX11_isHearable 4 = .ok (.iload_n 0, 1) := by decide +kernel
theorem dX11_isHearable_5 : decode cX11_isHearable 5 = .ok (.bipush 6, 2) := by decide +kernel
theorem dX11_isHearable_7 : decode cX11_isHearable 7 = .ok (.if_icmp .gt 7, 3) := by decide +kernel
theorem dX11_isHearable_10 : decode cX11_isHearable 10 = .ok (.iconst 1, 1) := by decide +kernel
theorem dX11_isHearable_11 : decode cX11_isHearable 11 = .ok (.goto 4, 3) := by decide +kernel
theorem dX11_isHearable_14 : decode cX11_isHearable 14 = .ok (.iconst 0, 1) := by decide +kernel
theorem dX11_isHearable_15 : decode cX11_isHearable 15 = .ok (.ireturn, 1) := by decide +kernel
theorem dX11_isKnockable_0 : decode cX11_isKnockable 0 = .ok (.iload_n 0, 1) := by decide +kernel
theorem dX11_isKnockable_1 : decode cX11_isKnockable 1 = .ok (.iconst 1, 1) := by decide +kernel
theorem dX11_isKnockable_2 : decode cX11_isKnockable 2 = .ok (.if_icmp .lt 12, 3) := by decide +kernel
theorem dX11_isKnockable_5 : decode cX11_isKnockable 5 = .ok (.iload_n 0, 1) := by decide +kernel
theorem dX11_isKnockable_6 : decode cX11_isKnockable 6 = .ok (.iconst 5, 1) := by decide +kernel
theorem dX11_isKnockable_7 : decode cX11_isKnockable 7 = .ok (.if_icmp .gt 7, 3) := by decide +kernel
theorem dX11_isKnockable_10 : decode cX11_isKnockable 10 = .ok (.iconst 1, 1) := by decide +kernel
theorem dX11_isKnockable_11 : decode cX11_isKnockable 11 = .ok (.goto 4, 3) := by decide +kernel
theorem dX11_isKnockable_14 : decode cX11_isKnockable 14 = .ok (.iconst 0, 1) := by decide +kernel
theorem dX11_isKnockable_15 : decode cX11_isKnockable 15 = .ok (.ireturn, 1) := by decide +kernel
theorem dX11_isMinute_0 : decode cX11_isMinute 0 = .ok (.iload_n 0, 1) := by decide +kernel
theorem dX11_isMinute_1 : decode cX11_isMinute 1 = .ok (.ifCond .lt 14, 3) := by decide +kernel
theorem dX11_isMinute_4 : decode cX11_isMinute 4 = .ok (.iload_n 0, 1) := by decide +kernel
theorem dX11_isMinute_5 : decode cX11_isMinute 5 = .ok (.sipush 600, 3) := by decide +kernel
theorem dX11_isMinute_8 : decode cX11_isMinute 8 = .ok (.if_icmp .ge 7, 3) := by decide +kernel
theorem dX11_isMinute_11 : decode cX11_isMinute 11 = .ok (.iconst 1, 1) := by decide +kernel
theorem dX11_isMinute_12 : decode cX11_isMinute 12 = .ok (.goto 4, 3) := by decide +kernel
theorem dX11_isMinute_15 : decode cX11_isMinute 15 = .ok (.iconst 0, 1) := by decide +kernel
theorem dX11_isMinute_16 : decode cX11_isMinute 16 = .ok (.ireturn, 1) := by decide +kernel
theorem dX11_isRowLength_0 : decode cX11_isRowLength 0 = .ok (.iload_n 0, 1) := by decide +kernel
theorem dX11_isRowLength_1 : decode cX11_isRowLength 1 = .ok (.iconst 1, 1) := by decide +kernel
theorem dX11_isRowLength_2 : decode cX11_isRowLength 2 = .ok (.if_icmp .lt 14, 3) := by decide +kernel
theorem dX11_isRowLength_5 : decode cX11_isRowLength 5 = .ok (.iload_n 0, 1) := by decide +kernel
theorem dX11_isRowLength_6 : decode cX11_isRowLength 6 = .ok (.sipush 600, 3) := by decide +kernel
theorem dX11_isRowLength_9 : decode cX11_isRowLength 9 = .ok (.if_icmp .gt 7, 3) := by decide +kernel
theorem dX11_isRowLength_12 : decode cX11_isRowLength 12 = .ok (.iconst 1, 1) := by decide +kernel
theorem dX11_isRowLength_13 : decode cX11_isRowLength 13 = .ok (.goto 4, 3) := by decide +kernel
theorem dX11_isRowLength_16 : decode cX11_isRowLength 16 = .ok (.iconst 0, 1) := by decide +kernel
theorem dX11_isRowLength_17 : decode cX11_isRowLength 17 = .ok (.ireturn, 1) := by decide +kernel
theorem dX11_isCell_0 : decode cX11_isCell 0 = .ok (.iload_n 0, 1) := by decide +kernel
theorem dX11_isCell_1 : decode cX11_isCell 1 = .ok (.ifCond .lt 13, 3) := by decide +kernel
theorem dX11_isCell_4 : decode cX11_isCell 4 = .ok (.iload_n 0, 1) := by decide +kernel
theorem dX11_isCell_5 : decode cX11_isCell 5 = .ok (.bipush 11, 2) := by decide +kernel
theorem dX11_isCell_7 : decode cX11_isCell 7 = .ok (.if_icmp .ge 7, 3) := by decide +kernel
theorem dX11_isCell_10 : decode cX11_isCell 10 = .ok (.iconst 1, 1) := by decide +kernel
theorem dX11_isCell_11 : decode cX11_isCell 11 = .ok (.goto 4, 3) := by decide +kernel
theorem dX11_isCell_14 : decode cX11_isCell 14 = .ok (.iconst 0, 1) := by decide +kernel
theorem dX11_isCell_15 : decode cX11_isCell 15 = .ok (.ireturn, 1) := by decide +kernel
theorem dX11_isImage_0 : decode cX11_isImage 0 = .ok (.iload_n 0, 1) := by decide +kernel
theorem dX11_isImage_1 : decode cX11_isImage 1 = .ok (.ifCond .lt 12, 3) := by decide +kernel
theorem dX11_isImage_4 : decode cX11_isImage 4 = .ok (.iload_n 0, 1) := by decide +kernel
theorem dX11_isImage_5 : decode cX11_isImage 5 = .ok (.iconst 2, 1) := by decide +kernel
theorem dX11_isImage_6 : decode cX11_isImage 6 = .ok (.if_icmp .ge 7, 3) := by decide +kernel
theorem dX11_isImage_9 : decode cX11_isImage 9 = .ok (.iconst 1, 1) := by decide +kernel
theorem dX11_isImage_10 : decode cX11_isImage 10 = .ok (.goto 4, 3) := by decide +kernel
theorem dX11_isImage_13 : decode cX11_isImage 13 = .ok (.iconst 0, 1) := by decide +kernel
theorem dX11_isImage_14 : decode cX11_isImage 14 = .ok (.ireturn, 1) := by decide +kernel
theorem dX11_isSheet_0 : decode cX11_isSheet 0 = .ok (.iload_n 0, 1) := by decide +kernel
theorem dX11_isSheet_1 : decode cX11_isSheet 1 = .ok (.ifCond .lt 12, 3) := by decide +kernel
theorem dX11_isSheet_4 : decode cX11_isSheet 4 = .ok (.iload_n 0, 1) := by decide +kernel
theorem dX11_isSheet_5 : decode cX11_isSheet 5 = .ok (.iconst 4, 1) := by decide +kernel
theorem dX11_isSheet_6 : decode cX11_isSheet 6 = .ok (.if_icmp .ge 7, 3) := by decide +kernel
theorem dX11_isSheet_9 : decode cX11_isSheet 9 = .ok (.iconst 1, 1) := by decide +kernel
theorem dX11_isSheet_10 : decode cX11_isSheet 10 = .ok (.goto 4, 3) := by decide +kernel
theorem dX11_isSheet_13 : decode cX11_isSheet 13 = .ok (.iconst 0, 1) := by decide +kernel
theorem dX11_isSheet_14 : decode cX11_isSheet 14 = .ok (.ireturn, 1) := by decide +kernel
theorem dX11_isLane_0 : decode cX11_isLane 0 = .ok (.iload_n 0, 1) := by decide +kernel
theorem dX11_isLane_1 : decode cX11_isLane 1 = .ok (.ifCond .lt 12, 3) := by decide +kernel
theorem dX11_isLane_4 : decode cX11_isLane 4 = .ok (.iload_n 0, 1) := by decide +kernel
theorem dX11_isLane_5 : decode cX11_isLane 5 = .ok (.iconst 3, 1) := by decide +kernel
theorem dX11_isLane_6 : decode cX11_isLane 6 = .ok (.if_icmp .ge 7, 3) := by decide +kernel
theorem dX11_isLane_9 : decode cX11_isLane 9 = .ok (.iconst 1, 1) := by decide +kernel
theorem dX11_isLane_10 : decode cX11_isLane 10 = .ok (.goto 4, 3) := by decide +kernel
theorem dX11_isLane_13 : decode cX11_isLane 13 = .ok (.iconst 0, 1) := by decide +kernel
theorem dX11_isLane_14 : decode cX11_isLane 14 = .ok (.ireturn, 1) := by decide +kernel
theorem dX11_imagesKept_0 : decode cX11_imagesKept 0 = .ok (.iconst 0, 1) := by decide +kernel
theorem dX11_imagesKept_1 : decode cX11_imagesKept 1 = .ok (.istore_n 1, 1) := by decide +kernel
theorem dX11_imagesKept_2 : decode cX11_imagesKept 2 = .ok (.iconst 0, 1) := by decide +kernel
theorem dX11_imagesKept_3 : decode cX11_imagesKept 3 = .ok (.istore_n 2, 1) := by decide +kernel
theorem dX11_imagesKept_4 : decode cX11_imagesKept 4 = .ok (.iload_n 2, 1) := by decide +kernel
theorem dX11_imagesKept_5 : decode cX11_imagesKept 5 = .ok (.iconst 2, 1) := by decide +kernel
theorem dX11_imagesKept_6 : decode cX11_imagesKept 6 = .ok (.if_icmp .ge 24, 3) := by decide +kernel
theorem dX11_imagesKept_9 : decode cX11_imagesKept 9 = .ok (.aload_n 0, 1) := by decide +kernel
theorem dX11_imagesKept_10 : decode cX11_imagesKept 10 = .ok (.getfield 30, 3) := by decide +kernel
theorem dX11_imagesKept_13 : decode cX11_imagesKept 13 = .ok (.iload_n 2, 1) := by decide +kernel
theorem dX11_imagesKept_14 : decode cX11_imagesKept 14 = .ok (.aaload, 1) := by decide +kernel
theorem dX11_imagesKept_15 : decode cX11_imagesKept 15 = .ok (.getfield 115, 3) := by decide +kernel
theorem dX11_imagesKept_18 : decode cX11_imagesKept 18 = .ok (.ifCond .eq 6, 3) := by decide +kernel
theorem dX11_imagesKept_21 : decode cX11_imagesKept 21 = .ok (.iinc 1 1, 3) := by decide +kernel
theorem dX11_imagesKept_24 : decode cX11_imagesKept 24 = .ok (.iinc 2 1, 3) := by decide +kernel
theorem dX11_imagesKept_27 : decode cX11_imagesKept 27 = .ok (.goto (-23), 3) := by decide +kernel
theorem dX11_imagesKept_30 : decode cX11_imagesKept 30 = .ok (.iload_n 1, 1) := by decide +kernel
theorem dX11_imagesKept_31 : decode cX11_imagesKept 31 = .ok (.ireturn, 1) := by decide +kernel
set_option maxRecDepth 20000 in
theorem ggX11_justOne_X11_power : GoodIn wsX11_justOne wsX11_power := goodIn_r _ [4] (by decide +kernel) (by decide +kernel)
set_option maxRecDepth 20000 in
theorem gX11_justOne_X11_power : GoodIn wsX11_justOne (va_wsS RX11 262 yX11_power wsX11_power) := goodIn_app (goodIn_of _ (by decide +kernel)) ggX11_justOne_X11_power
theorem dX11_justOne_0 : decode cX11_justOne 0 = .ok (.iload_n 0, 1) := by decide +kernel
theorem dX11_justOne_1 : decode cX11_justOne 1 = .ok (.iload_n 1, 1) := by decide +kernel
theorem dX11_justOne_2 : decode cX11_justOne 2 = .ok (.imul, 1) := by decide +kernel
theorem dX11_justOne_3 : decode cX11_justOne 3 = .ok (.i2l, 1) := by decide +kernel
theorem dX11_justOne_4 : decode cX11_justOne 4 = .ok (.bipush 20, 2) := by decide +kernel
theorem dX11_justOne_6 : decode cX11_justOne 6 = .ok (.iload_n 1, 1) := by decide +kernel
theorem dX11_justOne_7 : decode cX11_justOne 7 = .ok (.isub, 1) := by decide +kernel
theorem dX11_justOne_8 : decode cX11_justOne 8 = .ok (.i2l, 1) := by decide +kernel
theorem dX11_justOne_9 : decode cX11_justOne 9 = .ok (.iload_n 0, 1) := by decide +kernel
theorem dX11_justOne_10 : decode cX11_justOne 10 = .ok (.iconst 1, 1) := by decide +kernel
theorem dX11_justOne_11 : decode cX11_justOne 11 = .ok (.isub, 1) := by decide +kernel
theorem dX11_justOne_12 : decode cX11_justOne 12 = .ok (.invokestatic 262, 3) := by decide +kernel
theorem dX11_justOne_15 : decode cX11_justOne 15 = .ok (.lmul, 1) := by decide +kernel
theorem dX11_justOne_16 : decode cX11_justOne 16 = .ok (.lreturn, 1) := by decide +kernel
theorem dX11_power_0 : decode cX11_power 0 = .ok (.lconst 1, 1) := by decide +kernel
theorem dX11_power_1 : decode cX11_power 1 = .ok (.lstore_n 3, 1) := by decide +kernel
theorem dX11_power_2 : decode cX11_power 2 = .ok (.iconst 0, 1) := by decide +kernel
theorem dX11_power_3 : decode cX11_power 3 = .ok (.istore 5, 2) := by decide +kernel
theorem dX11_power_5 : decode cX11_power 5 = .ok (.iload 5, 2) := by decide +kernel
theorem dX11_power_7 : decode cX11_power 7 = .ok (.iload_n 2, 1) := by decide +kernel
theorem dX11_power_8 : decode cX11_power 8 = .ok (.if_icmp .ge 13, 3) := by decide +kernel
theorem dX11_power_11 : decode cX11_power 11 = .ok (.lload_n 3, 1) := by decide +kernel
theorem dX11_power_12 : decode cX11_power 12 = .ok (.lload_n 0, 1) := by decide +kernel
theorem dX11_power_13 : decode cX11_power 13 = .ok (.lmul, 1) := by decide +kernel
theorem dX11_power_14 : decode cX11_power 14 = .ok (.lstore_n 3, 1) := by decide +kernel
theorem dX11_power_15 : decode cX11_power 15 = .ok (.iinc 5 1, 3) := by decide +kernel
theorem dX11_power_18 : decode cX11_power 18 = .ok (.goto (-13), 3) := by decide +kernel
theorem dX11_power_21 : decode cX11_power 21 = .ok (.lload_n 3, 1) := by decide +kernel
theorem dX11_power_22 : decode cX11_power 22 = .ok (.lreturn, 1) := by decide +kernel
theorem dX11_lowest_0 : decode cX11_lowest 0 = .ok (.lload_n 2, 1) := by decide +kernel
theorem dX11_lowest_1 : decode cX11_lowest 1 = .ok (.lstore 5, 2) := by decide +kernel
theorem dX11_lowest_3 : decode cX11_lowest 3 = .ok (.lload_n 0, 1) := by decide +kernel
theorem dX11_lowest_4 : decode cX11_lowest 4 = .ok (.lstore 7, 2) := by decide +kernel
theorem dX11_lowest_6 : decode cX11_lowest 6 = .ok (.iconst 0, 1) := by decide +kernel
theorem dX11_lowest_7 : decode cX11_lowest 7 = .ok (.istore 9, 2) := by decide +kernel
theorem dX11_lowest_9 : decode cX11_lowest 9 = .ok (.iload 9, 2) := by decide +kernel
theorem dX11_lowest_11 : decode cX11_lowest 11 = .ok (.bipush 100, 2) := by decide +kernel
theorem dX11_lowest_13 : decode cX11_lowest 13 = .ok (.if_icmp .ge 31, 3) := by decide +kernel
theorem dX11_lowest_16 : decode cX11_lowest 16 = .ok (.lload 7, 2) := by decide +kernel
theorem dX11_lowest_18 : decode cX11_lowest 18 = .ok (.lconst 0, 1) := by decide +kernel
theorem dX11_lowest_19 : decode cX11_lowest 19 = .ok (.lcmp, 1) := by decide +kernel
theorem dX11_lowest_20 : decode cX11_lowest 20 = .ok (.ifCond .eq 24, 3) := by decide +kernel
theorem dX11_lowest_23 : decode cX11_lowest 23 = .ok (.lload 5, 2) := by decide +kernel
theorem dX11_lowest_25 : decode cX11_lowest 25 = .ok (.lload 7, 2) := by decide +kernel
theorem dX11_lowest_27 : decode cX11_lowest 27 = .ok (.lrem, 1) := by decide +kernel
theorem dX11_lowest_28 : decode cX11_lowest 28 = .ok (.lstore 10, 2) := by decide +kernel
theorem dX11_lowest_30 : decode cX11_lowest 30 = .ok (.lload 7, 2) := by decide +kernel
theorem dX11_lowest_32 : decode cX11_lowest 32 = .ok (.lstore 5, 2) := by decide +kernel
theorem dX11_lowest_34 : decode cX11_lowest 34 = .ok (.lload 10, 2) := by decide +kernel
theorem dX11_lowest_36 : decode cX11_lowest 36 = .ok (.lstore 7, 2) := by decide +kernel
theorem dX11_lowest_38 : decode cX11_lowest 38 = .ok (.iinc 9 1, 3) := by decide +kernel
theorem dX11_lowest_41 : decode cX11_lowest 41 = .ok (.goto (-32), 3) := by decide +kernel
theorem dX11_lowest_44 : decode cX11_lowest 44 = .ok (.lload 5, 2) := by decide +kernel
theorem dX11_lowest_46 : decode cX11_lowest 46 = .ok (.lconst 0, 1) := by decide +kernel
theorem dX11_lowest_47 : decode cX11_lowest 47 = .ok (.lcmp, 1) := by decide +kernel
theorem dX11_lowest_48 : decode cX11_lowest 48 = .ok (.ifCond .gt 14, 3) := by decide +kernel
theorem dX11_lowest_51 : decode cX11_lowest 51 = .ok (.iload 4, 2) := by decide +kernel
theorem dX11_lowest_53 : decode cX11_lowest 53 = .ok (.ifCond .ne 7, 3) := by decide +kernel
theorem dX11_lowest_56 : decode cX11_lowest 56 = .ok (.lload_n 0, 1) := by decide +kernel
theorem dX11_lowest_57 : decode cX11_lowest 57 = .ok (.goto 4, 3) := by decide +kernel
theorem dX11_lowest_60 : decode cX11_lowest 60 = .ok (.lload_n 2, 1) := by decide +kernel
theorem dX11_lowest_61 : decode cX11_lowest 61 = .ok (.lreturn, 1) := by decide +kernel
theorem dX11_lowest_62 : decode cX11_lowest 62 = .ok (.iload 4, 2) := by decide +kernel
theorem dX11_lowest_64 : decode cX11_lowest 64 = .ok (.ifCond .ne 10, 3) := by decide +kernel
theorem dX11_lowest_67 : decode cX11_lowest 67 = .ok (.lload_n 0, 1) := by decide +kernel
theorem dX11_lowest_68 : decode cX11_lowest 68 = .ok (.lload 5, 2) := by decide +kernel
theorem dX11_lowest_70 : decode cX11_lowest 70 = .ok (.ldiv, 1) := by decide +kernel
theorem dX11_lowest_71 : decode cX11_lowest 71 = .ok (.goto 7, 3) := by decide +kernel
theorem dX11_lowest_74 : decode cX11_lowest 74 = .ok (.lload_n 2, 1) := by decide +kernel
theorem dX11_lowest_75 : decode cX11_lowest 75 = .ok (.lload 5, 2) := by decide +kernel
theorem dX11_lowest_77 : decode cX11_lowest 77 = .ok (.ldiv, 1) := by decide +kernel
theorem dX11_lowest_78 : decode cX11_lowest 78 = .ok (.lreturn, 1) := by decide +kernel
set_option maxRecDepth 20000 in
theorem ggX11_leastLesson_X11_leastLesson : GoodIn wsX11_leastLesson wsX11_leastLesson := goodIn_r _ [0, 1, 2, 3, 4, 5, 6, 7, 8, 9, 10, 11, 12, 13, 14, 15, 16, 17] (by decide +kernel) (by decide +kernel)
set_option maxRecDepth 20000 in
theorem gX11_leastLesson_X11_leastLesson : GoodIn wsX11_leastLesson (va_wsS RX11 314 yX11_leastLesson wsX11_leastLesson) := goodIn_app (goodIn_of _ (by decide +kernel)) ggX11_leastLesson_X11_leastLesson
theorem dX11_leastLesson_0 : decode cX11_leastLesson 0 = .ok (.iload_n 3, 1) := by decide +kernel
theorem dX11_leastLesson_1 : decode cX11_leastLesson 1 = .ok (.ifCond .ne 6, 3) := by decide +kernel
theorem dX11_leastLesson_4 : decode cX11_leastLesson 4 = .ok (.lload 4, 2) := by decide +kernel
theorem dX11_leastLesson_6 : decode cX11_leastLesson 6 = .ok (.lreturn, 1) := by decide +kernel
theorem dX11_leastLesson_7 : decode cX11_leastLesson 7 = .ok (.iload_n 2, 1) := by decide +kernel
theorem dX11_leastLesson_8 : decode cX11_leastLesson 8 = .ok (.aload_n 0, 1) := by decide +kernel
theorem dX11_leastLesson_9 : decode cX11_leastLesson 9 = .ok (.getfield 123, 3) := by decide +kernel
theorem dX11_leastLesson_12 : decode cX11_leastLesson 12 = .ok (.if_icmp .ge 9, 3) := by decide +kernel
theorem dX11_leastLesson_15 : decode cX11_leastLesson 15 = .ok (.iload_n 2, 1) := by decide +kernel
theorem dX11_leastLesson_16 : decode cX11_leastLesson 16 = .ok (.bipush 10, 2) := by decide +kernel
theorem dX11_leastLesson_18 : decode cX11_leastLesson 18 = .ok (.if_icmp .lt 7, 3) := by decide +kernel
theorem dX11_leastLesson_21 : decode cX11_leastLesson 21 = .ok (.ldc2_w 380, 3) := by decide +kernel
theorem dX11_leastLesson_24 : decode cX11_leastLesson 24 = .ok (.lreturn, 1) := by decide +kernel
theorem dX11_leastLesson_25 : decode cX11_leastLesson 25 = .ok (.aload_n 0, 1) := by decide +kernel
theorem dX11_leastLesson_26 : decode cX11_leastLesson 26 = .ok (.aload_n 1, 1) := by decide +kernel
theorem dX11_leastLesson_27 : decode cX11_leastLesson 27 = .ok (.iload_n 2, 1) := by decide +kernel
theorem dX11_leastLesson_28 : decode cX11_leastLesson 28 = .ok (.iconst 1, 1) := by decide +kernel
theorem dX11_leastLesson_29 : decode cX11_leastLesson 29 = .ok (.iadd, 1) := by decide +kernel
theorem dX11_leastLesson_30 : decode cX11_leastLesson 30 = .ok (.iload_n 3, 1) := by decide +kernel
theorem dX11_leastLesson_31 : decode cX11_leastLesson 31 = .ok (.lload 4, 2) := by decide +kernel
theorem dX11_leastLesson_33 : decode cX11_leastLesson 33 = .ok (.invokestatic 314, 3) := by decide +kernel
theorem dX11_leastLesson_36 : decode cX11_leastLesson 36 = .ok (.lstore 6, 2) := by decide +kernel
theorem dX11_leastLesson_38 : decode cX11_leastLesson 38 = .ok (.aload_n 0, 1) := by decide +kernel
theorem dX11_leastLesson_39 : decode cX11_leastLesson 39 = .ok (.getfield 382, 3) := by decide +kernel
theorem dX11_leastLesson_42 : decode cX11_leastLesson 42 = .ok (.iload_n 2, 1) := by decide +kernel
theorem dX11_leastLesson_43 : decode cX11_leastLesson 43 = .ok (.iaload, 1) := by decide +kernel
theorem dX11_leastLesson_44 : decode cX11_leastLesson 44 = .ok (.istore 8, 2) := by decide +kernel
theorem dX11_leastLesson_46 : decode cX11_leastLesson 46 = .ok (.iload 8, 2) := by decide +kernel
theorem dX11_leastLesson_48 : decode cX11_leastLesson 48 = .ok (.iload_n 3, 1) := by decide +kernel
theorem dX11_leastLesson_49 : decode cX11_leastLesson 49 = .ok (.iand, 1) := by decide +kernel
theorem dX11_leastLesson_50 : decode cX11_leastLesson 50 = .ok (.ifCond .ne 6, 3) := by decide +kernel
theorem dX11_leastLesson_53 : decode cX11_leastLesson 53 = .ok (.lload 6, 2) := by decide +kernel
theorem dX11_leastLesson_55 : decode cX11_leastLesson 55 = .ok (.lreturn, 1) := by decide +kernel
theorem dX11_leastLesson_56 : decode cX11_leastLesson 56 = .ok (.aload_n 1, 1) := by decide +kernel
theorem dX11_leastLesson_57 : decode cX11_leastLesson 57 = .ok (.iload_n 2, 1) := by decide +kernel
theorem dX11_leastLesson_58 : decode cX11_leastLesson 58 = .ok (.iaload, 1) := by decide +kernel
theorem dX11_leastLesson_59 : decode cX11_leastLesson 59 = .ok (.i2l, 1) := by decide +kernel
theorem dX11_leastLesson_60 : decode cX11_leastLesson 60 = .ok (.bipush 20, 2) := by decide +kernel
theorem dX11_leastLesson_62 : decode cX11_leastLesson 62 = .ok (.lshl, 1) := by decide +kernel
theorem dX11_leastLesson_63 : decode cX11_leastLesson 63 = .ok (.ldc2_w 385, 3) := by decide +kernel
theorem dX11_leastLesson_66 : decode cX11_leastLesson 66 = .ok (.ladd, 1) := by decide +kernel
theorem dX11_leastLesson_67 : decode cX11_leastLesson 67 = .ok (.iconst 1, 1) := by decide +kernel
theorem dX11_leastLesson_68 : decode cX11_leastLesson 68 = .ok (.iload_n 2, 1) := by decide +kernel
theorem dX11_leastLesson_69 : decode cX11_leastLesson 69 = .ok (.ishl, 1) := by decide +kernel
theorem dX11_leastLesson_70 : decode cX11_leastLesson 70 = .ok (.i2l, 1) := by decide +kernel
theorem dX11_leastLesson_71 : decode cX11_leastLesson 71 = .ok (.ladd, 1) := by decide +kernel
theorem dX11_leastLesson_72 : decode cX11_leastLesson 72 = .ok (.lstore 9, 2) := by decide +kernel
theorem dX11_leastLesson_74 : decode cX11_leastLesson 74 = .ok (.lload 6, 2) := by decide +kernel
theorem dX11_leastLesson_76 : decode cX11_leastLesson 76 = .ok (.aload_n 0, 1) := by decide +kernel
theorem dX11_leastLesson_77 : decode cX11_leastLesson 77 = .ok (.aload_n 1, 1) := by decide +kernel
theorem dX11_leastLesson_78 : decode cX11_leastLesson 78 = .ok (.iload_n 2, 1) := by decide +kernel
theorem dX11_leastLesson_79 : decode cX11_leastLesson 79 = .ok (.iconst 1, 1) := by decide +kernel
theorem dX11_leastLesson_80 : decode cX11_leastLesson 80 = .ok (.iadd, 1) := by decide +kernel
theorem dX11_leastLesson_81 : decode cX11_leastLesson 81 = .ok (.iload_n 3, 1) := by decide +kernel
theorem dX11_leastLesson_82 : decode cX11_leastLesson 82 = .ok (.iload 8, 2) := by decide +kernel
theorem dX11_leastLesson_84 : decode cX11_leastLesson 84 = .ok (.iconst (-1), 1) := by decide +kernel
theorem dX11_leastLesson_85 : decode cX11_leastLesson 85 = .ok (.ixor, 1) := by decide +kernel
theorem dX11_leastLesson_86 : decode cX11_leastLesson 86 = .ok (.iand, 1) := by decide +kernel
theorem dX11_leastLesson_87 : decode cX11_leastLesson 87 = .ok (.lload 4, 2) := by decide +kernel
theorem dX11_leastLesson_89 : decode cX11_leastLesson 89 = .ok (.lload 9, 2) := by decide +kernel
theorem dX11_leastLesson_91 : decode cX11_leastLesson 91 = .ok (.ladd, 1) := by decide +kernel
theorem dX11_leastLesson_92 : decode cX11_leastLesson 92 = .ok (.invokestatic 314, 3) := by decide +kernel
theorem dX11_leastLesson_95 : decode cX11_leastLesson 95 = .ok (.invokestatic 387, 3) := by decide +kernel
theorem dX11_leastLesson_98 : decode cX11_leastLesson 98 = .ok (.lreturn, 1) := by decide +kernel
theorem dX12_init_0 : decode cX12_init 0 = .ok (.aload_n 0, 1) := by decide +kernel
theorem dX12_init_1 : decode cX12_init 1 = .ok (.invokespecial 1, 3) := by decide +kernel
theorem dX12_init_4 : decode cX12_init 4 = .ok (.aload_n 0, 1) := by decide +kernel
theorem dX12_init_5 : decode cX12_init 5 = .ok (.sipush 320, 3) := by decide +kernel
theorem dX12_init_8 : decode cX12_init 8 = .ok (.newarray .int, 2) := by decide +kernel
theorem dX12_init_10 : decode cX12_init 10 = .ok (.putfield 7, 3) := by decide +kernel
theorem dX12_init_13 : decode cX12_init 13 = .ok (.aload_n 0, 1) := by decide +kernel
theorem dX12_init_14 : decode cX12_init 14 = .ok (.bipush 7, 2) := by decide +kernel
theorem dX12_init_16 : decode cX12_init 16 = .ok (.newarray .int, 2) := by decide +kernel
theorem dX12_init_18 : decode cX12_init 18 = .ok (.dup, 1) := by decide +kernel
theorem dX12_init_19 : decode cX12_init 19 = .ok (.iconst 0, 1) := by decide +kernel
theorem dX12_init_20 : decode cX12_init 20 = .ok (.iconst 0, 1) := by decide +kernel
theorem dX12_init_21 : decode cX12_init 21 = .ok (.iastore, 1) := by decide +kernel
theorem dX12_init_22 : decode cX12_init 22 = .ok (.dup, 1) := by decide +kernel
theorem dX12_init_23 : decode cX12_init 23 = .ok (.iconst 1, 1) := by decide +kernel
theorem dX12_init_24 : decode cX12_init 24 = .ok (.iconst 5, 1) := by decide +kernel
theorem dX12_init_25 : decode cX12_init 25 = .ok (.iastore, 1) := by decide +kernel
theorem dX12_init_26 : decode cX12_init 26 = .ok (.dup, 1) := by decide +kernel
theorem dX12_init_27 : decode cX12_init 27 = .ok (.iconst 2, 1) := by decide +kernel
theorem dX12_init_28 : decode cX12_init 28 = .ok (.bipush 9, 2) := by decide +kernel
theorem dX12_init_30 : decode cX12_init 30 = .ok (.iastore, 1) := by decide +kernel
theorem dX12_init_31 : decode cX12_init 31 = .ok (.dup, 1) := by decide +kernel
theorem dX12_init_32 : decode cX12_init 32 = .ok (.iconst 3, 1) := by decide +kernel
theorem dX12_init_33 : decode cX12_init 33 = .ok (.bipush 14, 2) := by decide +kernel
theorem dX12_init_35 : decode cX12_init 35 = .ok (.iastore, 1) := by decide +kernel
theorem dX12_init_36 : decode cX12_init 36 = .ok (.dup, 1) := by decide +kernel
theorem dX12_init_37 : decode cX12_init 37 = .ok (.iconst 4, 1) := by decide +kernel
theorem dX12_init_38 : decode cX12_init 38 = .ok (.bipush 18, 2) := by decide +kernel
theorem dX12_init_40 : decode cX12_init 40 = .ok (.iastore, 1) := by decide +kernel
theorem dX12_init_41 : decode cX12_init 41 = .ok (.dup, 1) := by decide +kernel
theorem dX12_init_42 : decode cX12_init 42 = .ok (.iconst 5, 1) := by decide +kernel
theorem dX12_init_43 : decode cX12_init 43 = .ok (.bipush 22, 2) := by decide +kernel
theorem dX12_init_45 : decode cX12_init 45 = .ok (.iastore, 1) := by decide +kernel
theorem dX12_init_46 : decode cX12_init 46 = .ok (.dup, 1) := by decide +kernel
theorem dX12_init_47 : decode cX12_init 47 = .ok (.bipush 6, 2) := by decide +kernel
theorem dX12_init_49 : decode cX12_init 49 = .ok (.bipush 27, 2) := by decide +kernel
theorem dX12_init_51 : decode cX12_init 51 = .ok (.iastore, 1) := by decide +kernel
theorem dX12_init_52 : decode cX12_init 52 = .ok (.putfield 13, 3) := by decide +kernel
theorem dX12_init_55 : decode cX12_init 55 = .ok (.aload_n 0, 1) := by decide +kernel
theorem dX12_init_56 : decode cX12_init 56 = .ok (.bipush 27, 2) := by decide +kernel
theorem dX12_init_58 : decode cX12_init 58 = .ok (.newarray .int, 2) := by decide +kernel
theorem dX12_init_60 : decode cX12_init 60 = .ok (.dup, 1) := by decide +kernel
theorem dX12_init_61 : decode cX12_init 61 = .ok (.iconst 0, 1) := by decide +kernel
theorem dX12_init_62 : decode cX12_init 62 = .ok (.bipush 116, 2) := by decide +kernel
theorem dX12_init_64 : decode cX12_init 64 = .ok (.iastore, 1) := by decide +kernel
theorem dX12_init_65 : decode cX12_init 65 = .ok (.dup, 1) := by decide +kernel
theorem dX12_init_66 : decode cX12_init 66 = .ok (.iconst 1, 1) := by decide +kernel
theorem dX12_init_67 : decode cX12_init 67 = .ok (.bipush 97, 2) := by decide +kernel
theorem dX12_init_69 : decode cX12_init 69 = .ok (.iastore, 1) := by decide +kernel
theorem dX12_init_70 : decode cX12_init 70 = .ok (.dup, 1) := by decide +kernel
theorem dX12_init_71 : decode cX12_init 71 = .ok (.iconst 2, 1) := by decide +kernel
theorem dX12_init_72 : decode cX12_init 72 = .ok (.bipush 98, 2) := by decide +kernel
theorem dX12_init_74 : decode cX12_init 74 = .ok (.iastore, 1) := by decide +kernel
theorem dX12_init_75 : decode cX12_init 75 = .ok (.dup, 1) := by decide +kernel
theorem dX12_init_76 : decode cX12_init 76 = .ok (.iconst 3, 1) := by decide +kernel
theorem dX12_init_77 : decode cX12_init 77 = .ok (.bipush 108, 2) := by decide +kernel
theorem dX12_init_79 : decode cX12_init 79 = .ok (.iastore, 1) := by decide +kernel
theorem dX12_init_80 : decode cX12_init 80 = .ok (.dup, 1) := by decide +kernel
theorem dX12_init_81 : decode cX12_init 81 = .ok (.iconst 4, 1) := by decide +kernel
theorem dX12_init_82 : decode cX12_init 82 = .ok (.bipush 101, 2) := by decide +kernel
theorem dX12_init_84 : decode cX12_init 84 = .ok (.iastore, 1) := by decide +kernel
theorem dX12_init_85 : decode cX12_init 85 = .ok (.dup, 1) := by decide +kernel
theorem dX12_init_86 : decode cX12_init 86 = .ok (.iconst 5, 1) := by decide +kernel
theorem dX12_init_87 : decode cX12_init 87 = .ok (.bipush 119, 2) := by decide +kernel
theorem dX12_init_89 : decode cX12_init 89 = .ok (.iastore, 1) := by decide +kernel
theorem dX12_init_90 : decode cX12_init 90 = .ok (.dup, 1) := by decide +kernel
theorem dX12_init_91 : decode cX12_init 91 = .ok (.bipush 6, 2) := by decide +kernel
theorem dX12_init_93 : decode cX12_init 93 = .ok (.bipush 111, 2) := by decide +kernel
theorem dX12_init_95 : decode cX12_init 95 = .ok (.iastore, 1) := by decide +kernel
theorem dX12_init_96 : decode cX12_init 96 = .ok (.dup, 1) := by decide +kernel
theorem dX12_init_97 : decode cX12_init 97 = .ok (.bipush 7, 2) := by decide +kernel
theorem dX12_init_99 : decode cX12_init 99 = .ok (.bipush 114, 2) := by decide +kernel
theorem dX12_init_101 : decode cX12_init 101 = .ok (.iastore, 1) := by decide +kernel
theorem dX12_init_102 : decode cX12_init 102 = .ok (.dup, 1) := by decide +kernel
theorem dX12_init_103 : decode cX12_init 103 = .ok (.bipush 8, 2) := by decide +kernel
theorem dX12_init_105 : decode cX12_init 105 = .ok (.bipush 100, 2) := by decide +kernel
theorem dX12_init_107 : decode cX12_init 107 = .ok (.iastore, 1) := by decide +kernel
theorem dX12_init_108 : decode cX12_init 108 = .ok (.dup, 1) := by decide +kernel
theorem dX12_init_109 : decode cX12_init 109 = .ok (.bipush 9, 2) := by decide +kernel
theorem dX12_init_111 : decode cX12_init 111 = .ok (.bipush 115, 2) := by decide +kernel
theorem dX12_init_113 : decode cX12_init 113 = .ok (.iastore, 1) := by decide +kernel
theorem dX12_init_114 : decode cX12_init 114 = .ok (.dup, 1) := by decide +kernel
theorem dX12_init_115 : decode cX12_init 115 = .ok (.bipush 10, 2) := by decide +kernel
theorem dX12_init_117 : decode cX12_init 117 = .ok (.bipush 104, 2) := by decide +kernel
theorem dX12_init_119 : decode cX12_init 119 = .ok (.iastore, 1) := by decide +kernel
theorem dX12_init_120 : decode cX12_init 120 = .ok (.dup, 1) := by decide +kernel
theorem dX12_init_121 : decode cX12_init 121 = .ok (.bipush 11, 2) := by decide +kernel
theorem dX12_init_123 : decode cX12_init 123 = .ok (.bipush 111, 2) := by decide +kernel
theorem dX12_init_125 : decode cX12_init 125 = .ok (.iastore, 1) := by decide +kernel
theorem dX12_init_126 : decode cX12_init 126 = .ok (.dup, 1) := by decide +kernel
theorem dX12_init_127 : decode cX12_init 127 = .ok (.bipush 12, 2) := by decide +kernel
theorem dX12_init_129 : decode cX12_init 129 = .ok (.bipush 114, 2) := by decide +kernel
theorem dX12_init_131 : decode cX12_init 131 = .ok (.iastore, 1) := by decide +kernel
theorem dX12_init_132 : decode cX12_init 132 = .ok (.dup, 1) := by decide +kernel
theorem dX12_init_133 : decode cX12_init 133 = .ok (.bipush 13, 2) := by decide +kernel
theorem dX12_init_135 : decode cX12_init 135 = .ok (.bipush 116, 2) := by decide +kernel
theorem dX12_init_137 : decode cX12_init 137 = .ok (.iastore, 1) := by decide +kernel
theorem dX12_init_138 : decode cX12_init 138 = .ok (.dup, 1) := by decide +kernel
theorem dX12_init_139 : decode cX12_init 139 = .ok (.bipush 14, 2) := by decide +kernel
theorem dX12_init_141 : decode cX12_init 141 = .ok (.bipush 115, 2) := by decide +kernel
theorem dX12_init_143 : decode cX12_init 143 = .ok (.iastore, 1) := by decide +kernel
theorem dX12_init_144 : decode cX12_init 144 = .ok (.dup, 1) := by decide +kernel
theorem dX12_init_145 : decode cX12_init 145 = .ok (.bipush 15, 2) := by decide +kernel
theorem dX12_init_147 : decode cX12_init 147 = .ok (.bipush 108, 2) := by decide +kernel
theorem dX12_init_149 : decode cX12_init 149 = .ok (.iastore, 1) := by decide +kernel
theorem dX12_init_150 : decode cX12_init 150 = .ok (.dup, 1) := by decide +kernel
theorem dX12_init_151 : decode cX12_init 151 = .ok (.bipush 16, 2) := by decide +kernel
theorem dX12_init_153 : decode cX12_init 153 = .ok (.bipush 105, 2) := by decide +kernel
theorem dX12_init_155 : decode cX12_init 155 = .ok (.iastore, 1) := by decide +kernel
theorem dX12_init_156 : decode cX12_init 156 = .ok (.dup, 1) := by decide +kernel
theorem dX12_init_157 : decode cX12_init 157 = .ok (.bipush 17, 2) := by decide +kernel
theorem dX12_init_159 : decode cX12_init 159 = .ok (.bipush 112, 2) := by decide +kernel
theorem dX12_init_161 : decode cX12_init 161 = .ok (.iastore, 1) := by decide +kernel
theorem dX12_init_162 : decode cX12_init 162 = .ok (.dup, 1) := by decide +kernel
theorem dX12_init_163 : decode cX12_init 163 = .ok (.bipush 18, 2) := by decide +kernel
theorem dX12_init_165 : decode cX12_init 165 = .ok (.bipush 116, 2) := by decide +kernel
theorem dX12_init_167 : decode cX12_init 167 = .ok (.iastore, 1) := by decide +kernel
theorem dX12_init_168 : decode cX12_init 168 = .ok (.dup, 1) := by decide +kernel
theorem dX12_init_169 : decode cX12_init 169 = .ok (.bipush 19, 2) := by decide +kernel
theorem dX12_init_171 : decode cX12_init 171 = .ok (.bipush 105, 2) := by decide +kernel
theorem dX12_init_173 : decode cX12_init 173 = .ok (.iastore, 1) := by decide +kernel
theorem dX12_init_174 : decode cX12_init 174 = .ok (.dup, 1) := by decide +kernel
theorem dX12_init_175 : decode cX12_init 175 = .ok (.bipush 20, 2) := by decide +kernel
theorem dX12_init_177 : decode cX12_init 177 = .ok (.bipush 109, 2) := by decide +kernel
theorem dX12_init_179 : decode cX12_init 179 = .ok (.iastore, 1) := by decide +kernel
theorem dX12_init_180 : decode cX12_init 180 = .ok (.dup, 1) := by decide +kernel
theorem dX12_init_181 : decode cX12_init 181 = .ok (.bipush 21, 2) := by decide +kernel
theorem dX12_init_183 : decode cX12_init 183 = .ok (.bipush 101, 2) := by decide +kernel
theorem dX12_init_185 : decode cX12_init 185 = .ok (.iastore, 1) := by decide +kernel
theorem dX12_init_186 : decode cX12_init 186 = .ok (.dup, 1) := by decide +kernel
theorem dX12_init_187 : decode cX12_init 187 = .ok (.bipush 22, 2) := by decide +kernel
theorem dX12_init_189 : decode cX12_init 189 = .ok (.bipush 103, 2) := by decide +kernel
theorem dX12_init_191 : decode cX12_init 191 = .ok (.iastore, 1) := by decide +kernel
theorem dX12_init_192 : decode cX12_init 192 = .ok (.dup, 1) := by decide +kernel
theorem dX12_init_193 : decode cX12_init 193 = .ok (.bipush 23, 2) := by decide +kernel
theorem dX12_init_195 : decode cX12_init 195 = .ok (.bipush 117, 2) := by decide +kernel
theorem dX12_init_197 : decode cX12_init 197 = .ok (.iastore, 1) := by decide +kernel
theorem dX12_init_198 : decode cX12_init 198 = .ok (.dup, 1) := by decide +kernel
theorem dX12_init_199 : decode cX12_init 199 = .ok (.bipush 24, 2) := by decide +kernel
theorem dX12_init_201 : decode cX12_init 201 = .ok (.bipush 97, 2) := by decide +kernel
theorem dX12_init_203 : decode cX12_init 203 = .ok (.iastore, 1) := by decide +kernel
theorem dX12_init_204 : decode cX12_init 204 = .ok (.dup, 1) := by decide +kernel
theorem dX12_init_205 : decode cX12_init 205 = .ok (.bipush 25, 2) := by decide +kernel
theorem dX12_init_207 : decode cX12_init 207 = .ok (.bipush 114, 2) := by decide +kernel
theorem dX12_init_209 : decode cX12_init 209 = .ok (.iastore, 1) := by decide +kernel
theorem dX12_init_210 : decode cX12_init 210 = .ok (.dup, 1) := by decide +kernel
theorem dX12_init_211 : decode cX12_init 211 = .ok (.bipush 26, 2) := by decide +kernel
theorem dX12_init_213 : decode cX12_init 213 = .ok (.bipush 100, 2) := by decide +kernel
theorem dX12_init_215 : decode cX12_init 215 = .ok (.iastore, 1) := by decide +kernel
theorem dX12_init_216 : decode cX12_init 216 = .ok (.putfield 16, 3) := by decide +kernel
theorem dX12_init_219 : decode cX12_init 219 = .ok (.aload_n 0, 1) := by decide +kernel
theorem dX12_init_220 : decode cX12_init 220 = .ok (.bipush 8, 2) := by decide +kernel
theorem dX12_init_222 : decode cX12_init 222 = .ok (.newarray .int, 2) := by decide +kernel
theorem dX12_init_224 : decode cX12_init 224 = .ok (.dup, 1) := by decide +kernel
theorem dX12_init_225 : decode cX12_init 225 = .ok (.iconst 0, 1) := by decide +kernel
theorem dX12_init_226 : decode cX12_init 226 = .ok (.iconst 1, 1) := by decide +kernel
theorem dX12_init_227 : decode cX12_init 227 = .ok (.iastore, 1) := by decide +kernel
theorem dX12_init_228 : decode cX12_init 228 = .ok (.dup, 1) := by decide +kernel
theorem dX12_init_229 : decode cX12_init 229 = .ok (.iconst 1, 1) := by decide +kernel
theorem dX12_init_230 : decode cX12_init 230 = .ok (.iconst 1, 1) := by decide +kernel
theorem dX12_init_231 : decode cX12_init 231 = .ok (.iastore, 1) := by decide +kernel
theorem dX12_init_232 : decode cX12_init 232 = .ok (.dup, 1) := by decide +kernel
theorem dX12_init_233 : decode cX12_init 233 = .ok (.iconst 2, 1) := by decide +kernel
theorem dX12_init_234 : decode cX12_init 234 = .ok (.iconst 3, 1) := by decide +kernel
theorem dX12_init_235 : decode cX12_init 235 = .ok (.iastore, 1) := by decide +kernel
theorem dX12_init_236 : decode cX12_init 236 = .ok (.dup, 1) := by decide +kernel
theorem dX12_init_237 : decode cX12_init 237 = .ok (.iconst 3, 1) := by decide +kernel
theorem dX12_init_238 : decode cX12_init 238 = .ok (.bipush 6, 2) := by decide +kernel
theorem dX12_init_240 : decode cX12_init 240 = .ok (.iastore, 1) := by decide +kernel
theorem dX12_init_241 : decode cX12_init 241 = .ok (.dup, 1) := by decide +kernel
theorem dX12_init_242 : decode cX12_init 242 = .ok (.iconst 4, 1) := by decide +kernel
theorem dX12_init_243 : decode cX12_init 243 = .ok (.bipush 12, 2) := by decide +kernel
theorem dX12_init_245 : decode cX12_init 245 = .ok (.iastore, 1) := by decide +kernel
theorem dX12_init_246 : decode cX12_init 246 = .ok (.dup, 1) := by decide +kernel
theorem dX12_init_247 : decode cX12_init 247 = .ok (.iconst 5, 1) := by decide +kernel
theorem dX12_init_248 : decode cX12_init 248 = .ok (.iconst 0, 1) := by decide +kernel
theorem dX12_init_249 : decode cX12_init 249 = .ok (.iastore, 1) := by decide +kernel
theorem dX12_init_250 : decode cX12_init 250 = .ok (.dup, 1) := by decide +kernel
theorem dX12_init_251 : decode cX12_init 251 = .ok (.bipush 6, 2) := by decide +kernel
theorem dX12_init_253 : decode cX12_init 253 = .ok (.iconst 0, 1) := by decide +kernel
theorem dX12_init_254 : decode cX12_init 254 = .ok (.iastore, 1) := by decide +kernel
theorem dX12_init_255 : decode cX12_init 255 = .ok (.dup, 1) := by decide +kernel
theorem dX12_init_256 : decode cX12_init 256 = .ok (.bipush 7, 2) := by decide +kernel
theorem dX12_init_258 : decode cX12_init 258 = .ok (.iconst 0, 1) := by decide +kernel
theorem dX12_init_259 : decode cX12_init 259 = .ok (.iastore, 1) := by decide +kernel
theorem dX12_init_260 : decode cX12_init 260 = .ok (.putfield 19, 3) := by decide +kernel
theorem dX12_init_263 : decode cX12_init 263 = .ok (.aload_n 0, 1) := by decide +kernel
theorem dX12_init_264 : decode cX12_init 264 = .ok (.bipush 8, 2) := by decide +kernel
theorem dX12_init_266 : decode cX12_init 266 = .ok (.newarray .int, 2) := by decide +kernel
theorem dX12_init_268 : decode cX12_init 268 = .ok (.dup, 1) := by decide +kernel
theorem dX12_init_269 : decode cX12_init 269 = .ok (.iconst 0, 1) := by decide +kernel
theorem dX12_init_270 : decode cX12_init 270 = .ok (.iconst 1, 1) := by decide +kernel
theorem dX12_init_271 : decode cX12_init 271 = .ok (.iastore, 1) := by decide +kernel
theorem dX12_init_272 : decode cX12_init 272 = .ok (.dup, 1) := by decide +kernel
theorem dX12_init_273 : decode cX12_init 273 = .ok (.iconst 1, 1) := by decide +kernel
theorem dX12_init_274 : decode cX12_init 274 = .ok (.iconst 1, 1) := by decide +kernel
theorem dX12_init_275 : decode cX12_init 275 = .ok (.iastore, 1) := by decide +kernel
theorem dX12_init_276 : decode cX12_init 276 = .ok (.dup, 1) := by decide +kernel
theorem dX12_init_277 : decode cX12_init 277 = .ok (.iconst 2, 1) := by decide +kernel
theorem dX12_init_278 : decode cX12_init 278 = .ok (.iconst 3, 1) := by decide +kernel
theorem dX12_init_279 : decode cX12_init 279 = .ok (.iastore, 1) := by decide +kernel
theorem dX12_init_280 : decode cX12_init 280 = .ok (.dup, 1) := by decide +kernel
theorem dX12_init_281 : decode cX12_init 281 = .ok (.iconst 3, 1) := by decide +kernel
theorem dX12_init_282 : decode cX12_init 282 = .ok (.bipush 6, 2) := by decide +kernel
theorem dX12_init_284 : decode cX12_init 284 = .ok (.iastore, 1) := by decide +kernel
theorem dX12_init_285 : decode cX12_init 285 = .ok (.dup, 1) := by decide +kernel
theorem dX12_init_286 : decode cX12_init 286 = .ok (.iconst 4, 1) := by decide +kernel
theorem dX12_init_287 : decode cX12_init 287 = .ok (.bipush 12, 2) := by decide +kernel
theorem dX12_init_289 : decode cX12_init 289 = .ok (.iastore, 1) := by decide +kernel
theorem dX12_init_290 : decode cX12_init 290 = .ok (.dup, 1) := by decide +kernel
theorem dX12_init_291 : decode cX12_init 291 = .ok (.iconst 5, 1) := by decide +kernel
theorem dX12_init_292 : decode cX12_init 292 = .ok (.iconst 0, 1) := by decide +kernel
theorem dX12_init_293 : decode cX12_init 293 = .ok (.iastore, 1) := by decide +kernel
theorem dX12_init_294 : decode cX12_init 294 = .ok (.dup, 1) := by decide +kernel
theorem dX12_init_295 : decode cX12_init 295 = .ok (.bipush 6, 2) := by decide +kernel
theorem dX12_init_297 : decode cX12_init 297 = .ok (.iconst 0, 1) := by decide +kernel
theorem dX12_init_298 : decode cX12_init 298 = .ok (.iastore, 1) := by decide +kernel
theorem dX12_init_299 : decode cX12_init 299 = .ok (.dup, 1) := by decide +kernel
theorem dX12_init_300 : decode cX12_init 300 = .ok (.bipush 7, 2) := by decide +kernel
theorem dX12_init_302 : decode cX12_init 302 = .ok (.iconst 0, 1) := by decide +kernel
theorem dX12_init_303 : decode cX12_init 303 = .ok (.iastore, 1) := by decide +kernel
theorem dX12_init_304 : decode cX12_init 304 = .ok (.putfield 22, 3) := by decide +kernel
theorem dX12_init_307 : decode cX12_init 307 = .ok (.aload_n 0, 1) := by decide +kernel
theorem dX12_init_308 : decode cX12_init 308 = .ok (.bipush 100, 2) := by decide +kernel
theorem dX12_init_310 : decode cX12_init 310 = .ok (.newarray .int, 2) := by decide +kernel
theorem dX12_init_312 : decode cX12_init 312 = .ok (.putfield 25, 3) := by decide +kernel
theorem dX12_init_315 : decode cX12_init 315 = .ok (.aload_n 0, 1) := by decide +kernel
theorem dX12_init_316 : decode cX12_init 316 = .ok (.bipush 78, 2) := by decide +kernel
theorem dX12_init_318 : decode cX12_init 318 = .ok (.newarray .int, 2) := by decide +kernel
theorem dX12_init_320 : decode cX12_init 320 = .ok (.putfield 28, 3) := by decide +kernel
theorem dX12_init_323 : decode cX12_init 323 = .ok (.aload_n 0, 1) := by decide +kernel
theorem dX12_init_324 : decode cX12_init 324 = .ok (.bipush 12, 2) := by decide +kernel
theorem dX12_init_326 : decode cX12_init 326 = .ok (.newarray .int, 2) := by decide +kernel
theorem dX12_init_328 : decode cX12_init 328 = .ok (.putfield 31, 3) := by decide +kernel
theorem dX12_init_331 : decode cX12_init 331 = .ok (.aload_n 0, 1) := by decide +kernel
theorem dX12_init_332 : decode cX12_init 332 = .ok (.bipush 8, 2) := by decide +kernel
theorem dX12_init_334 : decode cX12_init 334 = .ok (.newarray .int, 2) := by decide +kernel
theorem dX12_init_336 : decode cX12_init 336 = .ok (.putfield 34, 3) := by decide +kernel
theorem dX12_init_339 : decode cX12_init 339 = .ok (.aload_n 0, 1) := by decide +kernel
theorem dX12_init_340 : decode cX12_init 340 = .ok (.bipush 25, 2) := by decide +kernel
theorem dX12_init_342 : decode cX12_init 342 = .ok (.newarray .int, 2) := by decide +kernel
theorem dX12_init_344 : decode cX12_init 344 = .ok (.putfield 37, 3) := by decide +kernel
theorem dX12_init_347 : decode cX12_init 347 = .ok (.aload_n 0, 1) := by decide +kernel
theorem dX12_init_348 : decode cX12_init 348 = .ok (.bipush 100, 2) := by decide +kernel
theorem dX12_init_350 : decode cX12_init 350 = .ok (.newarray .int, 2) := by decide +kernel
theorem dX12_init_352 : decode cX12_init 352 = .ok (.putfield 40, 3) := by decide +kernel
theorem dX12_init_355 : decode cX12_init 355 = .ok (.aload_n 0, 1) := by decide +kernel
theorem dX12_init_356 : decode cX12_init 356 = .ok (.bipush 78, 2) := by decide +kernel
theorem dX12_init_358 : decode cX12_init 358 = .ok (.newarray .int, 2) := by decide +kernel
theorem dX12_init_360 : decode cX12_init 360 = .ok (.putfield 43, 3) := by decide +kernel
theorem dX12_init_363 : decode cX12_init 363 = .ok (.aload_n 0, 1) := by decide +kernel
theorem dX12_init_364 : decode cX12_init 364 = .ok (.bipush 12, 2) := by decide +kernel
theorem dX12_init_366 : decode cX12_init 366 = .ok (.newarray .int, 2) := by decide +kernel
theorem dX12_init_368 : decode cX12_init 368 = .ok (.putfield 46, 3) := by decide +kernel
theorem dX12_init_371 : decode cX12_init 371 = .ok (.aload_n 0, 1) := by decide +kernel
theorem dX12_init_372 : decode cX12_init 372 = .ok (.sipush 192, 3) := by decide +kernel
theorem dX12_init_375 : decode cX12_init 375 = .ok (.newarray .int, 2) := by decide +kernel
theorem dX12_init_377 : decode cX12_init 377 = .ok (.putfield 49, 3) := by decide +kernel
theorem dX12_init_380 : decode cX12_init 380 = .ok (.aload_n 0, 1) := by decide +kernel
theorem dX12_init_381 : decode cX12_init 381 = .ok (.bipush 7, 2) := by decide +kernel
theorem dX12_init_383 : decode cX12_init 383 = .ok (.newarray .int, 2) := by decide +kernel
theorem dX12_init_385 : decode cX12_init 385 = .ok (.putfield 52, 3) := by decide +kernel
theorem dX12_init_388 : decode cX12_init 388 = .ok (.aload_n 0, 1) := by decide +kernel
theorem dX12_init_389 : decode cX12_init 389 = .ok (.bipush 26, 2) := by decide +kernel
theorem dX12_init_391 : decode cX12_init 391 = .ok (.newarray .int, 2) := by decide +kernel
theorem dX12_init_393 : decode cX12_init 393 = .ok (.putfield 55, 3) := by decide +kernel
theorem dX12_init_396 : decode cX12_init 396 = .ok (.aload_n 0, 1) := by decide +kernel
theorem dX12_init_397 : decode cX12_init 397 = .ok (.bipush 25, 2) := by decide +kernel
theorem dX12_init_399 : decode cX12_init 399 = .ok (.newarray .int, 2) := by decide +kernel
theorem dX12_init_401 : decode cX12_init 401 = .ok (.putfield 58, 3) := by decide +kernel
theorem dX12_init_404 : decode cX12_init 404 = .ok (.aload_n 0, 1) := by decide +kernel
theorem dX12_init_405 : decode cX12_init 405 = .ok (.bipush 6, 2) := by decide +kernel
theorem dX12_init_407 : decode cX12_init 407 = .ok (.newarray .int, 2) := by decide +kernel
theorem dX12_init_409 : decode cX12_init 409 = .ok (.putfield 61, 3) := by decide +kernel
theorem dX12_init_412 : decode cX12_init 412 = .ok (.aload_n 0, 1) := by decide +kernel
theorem dX12_init_413 : decode cX12_init 413 = .ok (.bipush 7, 2) := by decide +kernel
theorem dX12_init_415 : decode cX12_init 415 = .ok (.newarray .long, 2) := by decide +kernel
theorem dX12_init_417 : decode cX12_init 417 = .ok (.putfield 64, 3) := by decide +kernel
theorem dX12_init_420 : decode cX12_init 420 = .ok (.aload_n 0, 1) := by decide +kernel
theorem dX12_init_421 : decode cX12_init 421 = .ok (.bipush 7, 2) := by decide +kernel
theorem dX12_init_423 : decode cX12_init 423 = .ok (.newarray .long, 2) := by decide +kernel
theorem dX12_init_425 : decode cX12_init 425 = .ok (.putfield 68, 3) := by decide +kernel
theorem dX12_init_428 : decode cX12_init 428 = .ok (.aload_n 0, 1) := by decide +kernel
theorem dX12_init_429 : decode cX12_init 429 = .ok (.iconst 2, 1) := by decide +kernel
theorem dX12_init_430 : decode cX12_init 430 = .ok (.newarray .boolean, 2) := by decide +kernel
theorem dX12_init_432 : decode cX12_init 432 = .ok (.putfield 71, 3) := by decide +kernel
theorem dX12_init_435 : decode cX12_init 435 = .ok (.aload_n 0, 1) := by decide +kernel
theorem dX12_init_436 : decode cX12_init 436 = .ok (.iconst 4, 1) := by decide +kernel
theorem dX12_init_437 : decode cX12_init 437 = .ok (.newarray .int, 2) := by decide +kernel
theorem dX12_init_439 : decode cX12_init 439 = .ok (.dup, 1) := by decide +kernel
theorem dX12_init_440 : decode cX12_init 440 = .ok (.iconst 0, 1) := by decide +kernel
theorem dX12_init_441 : decode cX12_init 441 = .ok (.bipush (-4), 2) := by decide +kernel
theorem dX12_init_443 : decode cX12_init 443 = .ok (.iastore, 1) := by decide +kernel
theorem dX12_init_444 : decode cX12_init 444 = .ok (.dup, 1) := by decide +kernel
theorem dX12_init_445 : decode cX12_init 445 = .ok (.iconst 1, 1) := by decide +kernel
theorem dX12_init_446 : decode cX12_init 446 = .ok (.bipush (-4), 2) := by decide +kernel
theorem dX12_init_448 : decode cX12_init 448 = .ok (.iastore, 1) := by decide +kernel
theorem dX12_init_449 : decode cX12_init 449 = .ok (.dup, 1) := by decide +kernel
theorem dX12_init_450 : decode cX12_init 450 = .ok (.iconst 2, 1) := by decide +kernel
theorem dX12_init_451 : decode cX12_init 451 = .ok (.bipush (-4), 2) := by decide +kernel
theorem dX12_init_453 : decode cX12_init 453 = .ok (.iastore, 1) := by decide +kernel
theorem dX12_init_454 : decode cX12_init 454 = .ok (.dup, 1) := by decide +kernel
theorem dX12_init_455 : decode cX12_init 455 = .ok (.iconst 3, 1) := by decide +kernel
theorem dX12_init_456 : decode cX12_init 456 = .ok (.bipush (-4), 2) := by decide +kernel
theorem dX12_init_458 : decode cX12_init 458 = .ok (.iastore, 1) := by decide +kernel
theorem dX12_init_459 : decode cX12_init 459 = .ok (.putfield 75, 3) := by decide +kernel
theorem dX12_init_462 : decode cX12_init 462 = .ok (.aload_n 0, 1) := by decide +kernel
theorem dX12_init_463 : decode cX12_init 463 = .ok (.iconst 4, 1) := by decide +kernel
theorem dX12_init_464 : decode cX12_init 464 = .ok (.newarray .int, 2) := by decide +kernel
theorem dX12_init_466 : decode cX12_init 466 = .ok (.putfield 78, 3) := by decide +kernel
theorem dX12_init_469 : decode cX12_init 469 = .ok (.aload_n 0, 1) := by decide +kernel
theorem dX12_init_470 : decode cX12_init 470 = .ok (.sipush 160, 3) := by decide +kernel
theorem dX12_init_473 : decode cX12_init 473 = .ok (.newarray .int, 2) := by decide +kernel
theorem dX12_init_475 : decode cX12_init 475 = .ok (.putfield 81, 3) := by decide +kernel
theorem dX12_init_478 : decode cX12_init 478 = .ok (.return_, 1) := by decide +kernel
theorem dX12_in_0 : decode cX12_in 0 = .ok (.lload_n 0, 1) := by decide +kernel
theorem dX12_in_1 : decode cX12_in 1 = .ok (.lload_n 2, 1) := by decide +kernel
theorem dX12_in_2 : decode cX12_in 2 = .ok (.lcmp, 1) := by decide +kernel
theorem dX12_in_3 : decode cX12_in 3 = .ok (.ifCond .lt 14, 3) := by decide +kernel
theorem dX12_in_6 : decode cX12_in 6 = .ok (.lload_n 0, 1) := by decide +kernel
theorem dX12_in_7 : decode cX12_in 7 = .ok (.lload 4, 2) := by decide +kernel
theorem dX12_in_9 : decode cX12_in 9 = .ok (.lcmp, 1) := by decide +kernel
theorem dX12_in_10 : decode cX12_in 10 = .ok (.ifCond .gt 7, 3) := by decide +kernel
theorem dX12_in_13 : decode cX12_in 13 = .ok (.iconst 1, 1) := by decide +kernel
theorem dX12_in_14 : decode cX12_in 14 = .ok (.goto 4, 3) := by decide +kernel
theorem dX12_in_17 : decode cX12_in 17 = .ok (.iconst 0, 1) := by decide +kernel
theorem dX12_in_18 : decode cX12_in 18 = .ok (.ireturn, 1) := by decide +kernel
theorem dX12_feed_0 : decode cX12_feed 0 = .ok (.aload_n 0, 1) := by decide +kernel
theorem dX12_feed_1 : decode cX12_feed 1 = .ok (.getfield 84, 3) := by decide +kernel
theorem dX12_feed_4 : decode cX12_feed 4 = .ok (.bipush 8, 2) := by decide +kernel
theorem dX12_feed_6 : decode cX12_feed 6 = .ok (.iadd, 1) := by decide +kernel
theorem dX12_feed_7 : decode cX12_feed 7 = .ok (.sipush 320, 3) := by decide +kernel
theorem dX12_feed_10 : decode cX12_feed 10 = .ok (.if_icmp .le 6, 3) := by decide +kernel
theorem dX12_feed_13 : decode cX12_feed 13 = .ok (.bipush (-3), 2) := by decide +kernel
theorem dX12_feed_15 : decode cX12_feed 15 = .ok (.ireturn, 1) := by decide +kernel
theorem dX12_feed_16 : decode cX12_feed 16 = .ok (.bipush 56, 2) := by decide +kernel
theorem dX12_feed_18 : decode cX12_feed 18 = .ok (.istore_n 3, 1) := by decide +kernel
theorem dX12_feed_19 : decode cX12_feed 19 = .ok (.iload_n 3, 1) := by decide +kernel
theorem dX12_feed_20 : decode cX12_feed 20 = .ok (.ifCond .lt 36, 3) := by decide +kernel
theorem dX12_feed_23 : decode cX12_feed 23 = .ok (.aload_n 0, 1) := by decide +kernel
theorem dX12_feed_24 : decode cX12_feed 24 = .ok (.getfield 7, 3) := by decide +kernel
theorem dX12_feed_27 : decode cX12_feed 27 = .ok (.aload_n 0, 1) := by decide +kernel
theorem dX12_feed_28 : decode cX12_feed 28 = .ok (.getfield 84, 3) := by decide +kernel
theorem dX12_feed_31 : decode cX12_feed 31 = .ok (.lload_n 1, 1) := by decide +kernel
theorem dX12_feed_32 : decode cX12_feed 32 = .ok (.iload_n 3, 1) := by decide +kernel
theorem dX12_feed_33 : decode cX12_feed 33 = .ok (.lshr, 1) := by decide +kernel
theorem dX12_feed_34 : decode cX12_feed 34 = .ok (.l2i, 1) := by decide +kernel
theorem dX12_feed_35 : decode cX12_feed 35 = .ok (.sipush 255, 3) := by decide +kernel
theorem dX12_feed_38 : decode cX12_feed 38 = .ok (.iand, 1) := by decide +kernel
theorem dX12_feed_39 : decode cX12_feed 39 = .ok (.iastore, 1) := by decide +kernel
theorem dX12_feed_40 : decode cX12_feed 40 = .ok (.aload_n 0, 1) := by decide +kernel
theorem dX12_feed_41 : decode cX12_feed 41 = .ok (.dup, 1) := by decide +kernel
theorem dX12_feed_42 : decode cX12_feed 42 = .ok (.getfield 84, 3) := by decide +kernel
theorem dX12_feed_45 : decode cX12_feed 45 = .ok (.iconst 1, 1) := by decide +kernel
theorem dX12_feed_46 : decode cX12_feed 46 = .ok (.iadd, 1) := by decide +kernel
theorem dX12_feed_47 : decode cX12_feed 47 = .ok (.putfield 84, 3) := by decide +kernel
theorem dX12_feed_50 : decode cX12_feed 50 = .ok (.iinc 3 (-8), 3) := by decide +kernel
theorem dX12_feed_53 : decode cX12_feed 53 = .ok (.goto (-34), 3) := by decide +kernel
theorem dX12_feed_56 : decode cX12_feed 56 = .ok (.aload_n 0, 1) := by decide +kernel
theorem dX12_feed_57 : decode cX12_feed 57 = .ok (.getfield 84, 3) := by decide +kernel
theorem dX12_feed_60 : decode cX12_feed 60 = .ok (.ireturn, 1) := by decide +kernel
set_option maxRecDepth 20000 in
theorem ggX12_end_X12_in : GoodIn wsX12_end wsX12_in := goodIn_r _ [5] (by decide +kernel) (by decide +kernel)
set_option maxRecDepth 20000 in
theorem gX12_end_X12_in : GoodIn wsX12_end (va_wsS RX12 88 yX12_in wsX12_in) := goodIn_app (goodIn_of _ (by decide +kernel)) ggX12_end_X12_in
theorem dX12_end_0 : decode cX12_end 0 = .ok (.iload_n 1, 1) := by decide +kernel
theorem dX12_end_1 : decode cX12_end 1 = .ok (.i2l, 1) := by decide +kernel
theorem dX12_end_2 : decode cX12_end 2 = .ok (.lconst 0, 1) := by decide +kernel
theorem dX12_end_3 : decode cX12_end 3 = .ok (.aload_n 0, 1) := by decide +kernel
theorem dX12_end_4 : decode cX12_end 4 = .ok (.getfield 84, 3) := by decide +kernel
theorem dX12_end_7 : decode cX12_end 7 = .ok (.i2l, 1) := by decide +kernel
theorem dX12_end_8 : decode cX12_end 8 = .ok (.invokestatic 88, 3) := by decide +kernel
theorem dX12_end_11 : decode cX12_end 11 = .ok (.ifCond .ne 5, 3) := by decide +kernel
theorem dX12_end_14 : decode cX12_end 14 = .ok (.iconst (-1), 1) := by decide +kernel
theorem dX12_end_15 : decode cX12_end 15 = .ok (.ireturn, 1) := by decide +kernel
theorem dX12_end_16 : decode cX12_end 16 = .ok (.aload_n 0, 1) := by decide +kernel
theorem dX12_end_17 : decode cX12_end 17 = .ok (.getfield 84, 3) := by decide +kernel
theorem dX12_end_20 : decode cX12_end 20 = .ok (.istore_n 2, 1) := by decide +kernel
theorem dX12_end_21 : decode cX12_end 21 = .ok (.aload_n 0, 1) := by decide +kernel
theorem dX12_end_22 : decode cX12_end 22 = .ok (.iload_n 1, 1) := by decide +kernel
theorem dX12_end_23 : decode cX12_end 23 = .ok (.putfield 84, 3) := by decide +kernel
theorem dX12_end_26 : decode cX12_end 26 = .ok (.iload_n 2, 1) := by decide +kernel
theorem dX12_end_27 : decode cX12_end 27 = .ok (.ireturn, 1) := by decide +kernel
theorem dX12_byteAt_0 : decode cX12_byteAt 0 = .ok (.iload_n 1, 1) := by decide +kernel
theorem dX12_byteAt_1 : decode cX12_byteAt 1 = .ok (.aload_n 0, 1) := by decide +kernel
theorem dX12_byteAt_2 : decode cX12_byteAt 2 = .ok (.getfield 84, 3) := by decide +kernel
theorem dX12_byteAt_5 : decode cX12_byteAt 5 = .ok (.if_icmp .ge 12, 3) := by decide +kernel
theorem dX12_byteAt_8 : decode cX12_byteAt 8 = .ok (.aload_n 0, 1) := by decide +kernel
theorem dX12_byteAt_9 : decode cX12_byteAt 9 = .ok (.getfield 7, 3) := by decide +kernel
theorem dX12_byteAt_12 : decode cX12_byteAt 12 = .ok (.iload_n 1, 1) := by decide +kernel
theorem dX12_byteAt_13 : decode cX12_byteAt 13 = .ok (.iaload, 1) := by decide +kernel
theorem dX12_byteAt_14 : decode cX12_byteAt 14 = .ok (.goto 5, 3) := by decide +kernel
theorem dX12_byteAt_17 : decode cX12_byteAt 17 = .ok (.bipush (-4), 2) := by decide +kernel
theorem dX12_byteAt_19 : decode cX12_byteAt 19 = .ok (.ireturn, 1) := by decide +kernel
theorem dX12_fails_0 : decode cX12_fails 0 = .ok (.aload_n 0, 1) := by decide +kernel
theorem dX12_fails_1 : decode cX12_fails 1 = .ok (.getfield 92, 3) := by decide +kernel
theorem dX12_fails_4 : decode cX12_fails 4 = .ok (.ifCond .ne 16, 3) := by decide +kernel
theorem dX12_fails_7 : decode cX12_fails 7 = .ok (.aload_n 0, 1) := by decide +kernel
theorem dX12_fails_8 : decode cX12_fails 8 = .ok (.iload_n 1, 1) := by decide +kernel
theorem dX12_fails_9 : decode cX12_fails 9 = .ok (.putfield 92, 3) := by decide +kernel
theorem dX12_fails_12 : decode cX12_fails 12 = .ok (.aload_n 0, 1) := by decide +kernel
theorem dX12_fails_13 : decode cX12_fails 13 = .ok (.aload_n 0, 1) := by decide +kernel
theorem dX12_fails_14 : decode cX12_fails 14 = .ok (.getfield 95, 3) := by decide +kernel
theorem dX12_fails_17 : decode cX12_fails 17 = .ok (.putfield 98, 3) := by decide +kernel
theorem dX12_fails_20 : decode cX12_fails 20 = .ok (.return_, 1) := by decide +kernel
