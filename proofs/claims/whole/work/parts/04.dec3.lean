theorem dX11_isMinute_8 : decode cX11_isMinute 8 = .ok (.if_icmp .ge 7, 3) := by decide +kernel
theorem dX11_isMinute_11 : decode cX11_isMinute 11 = .ok (.iconst 1, 1) := by decide +kernel
theorem dX11_isMinute_12 : decode cX11_isMinute 12 = .ok (.goto 4, 3) := by decide +kernel
theorem dX11_isMinute_15 : decode cX11_isMinute 15 = .ok (.iconst 0, 1) := by decide +kernel
theorem dX11_isMinute_16 : decode cX11_isMinute 16 = .ok (.ireturn, 1) := by decide +kernel
theorem dX11_isRowLength_0 : decode cX11_isRowLength 0 = .ok (.iload_n 0, 1) := by decide +kernel
theorem dX11_isRowLength_1 : decode cX11_isRowLength 1 = .ok (.iconst 1, 1) := by decide +kernel
theorem dX11_isRowLength_2 : decode cX11_isRowLength 2 = .ok (.if_icmp .lt 14, 3) := by decide +kernel
theorem dX11_isRowLength_5 : decode cX11_isRowLength 5 = .ok (.iload_n 0, 1) := by decide +kernel
theorem dX11_isRowLength_6 : decode cX11_isRowLength 6 = .ok (.sipush 600, 3) := by decide +kernel
theorem dX11_isRowLength_9 : decode cX11_isRowLength 9 = .ok (.if_icmp .gt 7, 3) := by decide +kernel
theorem dX11_isRowLength_12 : decode cX11_isRowLength 12 = .ok (.iconst 1, 1) := by decide +kernel
theorem dX11_isRowLength_13 : decode cX11_isRowLength 13 = .ok (.goto 4, 3) := by decide +kernel
theorem dX11_isRowLength_16 : decode cX11_isRowLength 16 = .ok (.iconst 0, 1) := by decide +kernel
theorem dX11_isRowLength_17 : decode cX11_isRowLength 17 = .ok (.ireturn, 1) := by decide +kernel
theorem dX11_isCell_0 : decode cX11_isCell 0 = .ok (.iload_n 0, 1) := by decide +kernel
theorem dX11_isCell_1 : decode cX11_isCell 1 = .ok (.ifCond .lt 13, 3) := by decide +kernel
theorem dX11_isCell_4 : decode cX11_isCell 4 = .ok (.iload_n 0, 1) := by decide +kernel
theorem dX11_isCell_5 : decode cX11_isCell 5 = .ok (.bipush 11, 2) := by decide +kernel
theorem dX11_isCell_7 : decode cX11_isCell 7 = .ok (.if_icmp .ge 7, 3) := by decide +kernel
theorem dX11_isCell_10 : decode cX11_isCell 10 = .ok (.iconst 1, 1) := by decide +kernel
theorem dX11_isCell_11 : decode cX11_isCell 11 = .ok (.goto 4, 3) := by decide +kernel
theorem dX11_isCell_14 : decode cX11_isCell 14 = .ok (.iconst 0, 1) := by decide +kernel
theorem dX11_isCell_15 : decode cX11_isCell 15 = .ok (.ireturn, 1) := by decide +kernel
theorem dX11_isImage_0 : decode cX11_isImage 0 = .ok (.iload_n 0, 1) := by decide +kernel
theorem dX11_isImage_1 : decode cX11_isImage 1 = .ok (.ifCond .lt 12, 3) := by decide +kernel
theorem dX11_isImage_4 : decode cX11_isImage 4 = .ok (.iload_n 0, 1) := by decide +kernel
theorem dX11_isImage_5 : decode cX11_isImage 5 = .ok (.iconst 2, 1) := by decide +kernel
theorem dX11_isImage_6 : decode cX11_isImage 6 = .ok (.if_icmp .ge 7, 3) := by decide +kernel
theorem dX11_isImage_9 : decode cX11_isImage 9 = .ok (.iconst 1, 1) := by decide +kernel
theorem dX11_isImage_10 : decode cX11_isImage 10 = .ok (.goto 4, 3) := by decide +kernel
theorem dX11_isImage_13 : decode cX11_isImage 13 = .ok (.iconst 0, 1) := by decide +kernel
theorem dX11_isImage_14 : decode cX11_isImage 14 = .ok (.ireturn, 1) := by decide +kernel
theorem dX11_isSheet_0 : decode cX11_isSheet 0 = .ok (.iload_n 0, 1) := by decide +kernel
theorem dX11_isSheet_1 : decode cX11_isSheet 1 = .ok (.ifCond .lt 12, 3) := by decide +kernel
theorem dX11_isSheet_4 : decode cX11_isSheet 4 = .ok (.iload_n 0, 1) := by decide +kernel
theorem dX11_isSheet_5 : decode cX11_isSheet 5 = .ok (.iconst 4, 1) := by decide +kernel
theorem dX11_isSheet_6 : decode cX11_isSheet 6 = .ok (.if_icmp .ge 7, 3) := by decide +kernel
theorem dX11_isSheet_9 : decode cX11_isSheet 9 = .ok (.iconst 1, 1) := by decide +kernel
theorem dX11_isSheet_10 : decode cX11_isSheet 10 = .ok (.goto 4, 3) := by decide +kernel
theorem dX11_isSheet_13 : decode cX11_isSheet 13 = .ok (.iconst 0, 1) := by decide +kernel
theorem dX11_isSheet_14 : decode cX11_isSheet 14 = .ok (.ireturn, 1) := by decide +kernel
theorem dX11_isLane_0 : decode cX11_isLane 0 = .ok (.iload_n 0, 1) := by decide +kernel
theorem dX11_isLane_1 : decode cX11_isLane 1 = .ok (.ifCond .lt 12, 3) := by decide +kernel
theorem dX11_isLane_4 : decode cX11_isLane 4 = .ok (.iload_n 0, 1) := by decide +kernel
theorem dX11_isLane_5 : decode cX11_isLane 5 = .ok (.iconst 3, 1) := by decide +kernel
theorem dX11_isLane_6 : decode cX11_isLane 6 = .ok (.if_icmp .ge 7, 3) := by decide +kernel
theorem dX11_isLane_9 : decode cX11_isLane 9 = .ok (.iconst 1, 1) := by decide +kernel
theorem dX11_isLane_10 : decode cX11_isLane 10 = .ok (.goto 4, 3) := by decide +kernel
theorem dX11_isLane_13 : decode cX11_isLane 13 = .ok (.iconst 0, 1) := by decide +kernel
theorem dX11_isLane_14 : decode cX11_isLane 14 = .ok (.ireturn, 1) := by decide +kernel
theorem dX11_imagesKept_0 : decode cX11_imagesKept 0 = .ok (.iconst 0, 1) := by decide +kernel
theorem dX11_imagesKept_1 : decode cX11_imagesKept 1 = .ok (.istore_n 1, 1) := by decide +kernel
theorem dX11_imagesKept_2 : decode cX11_imagesKept 2 = .ok (.iconst 0, 1) := by decide +kernel
theorem dX11_imagesKept_3 : decode cX11_imagesKept 3 = .ok (.istore_n 2, 1) := by decide +kernel
theorem dX11_imagesKept_4 : decode cX11_imagesKept 4 = .ok (.iload_n 2, 1) := by decide +kernel
theorem dX11_imagesKept_5 : decode cX11_imagesKept 5 = .ok (.iconst 2, 1) := by decide +kernel
theorem dX11_imagesKept_6 : decode cX11_imagesKept 6 = .ok (.if_icmp .ge 24, 3) := by decide +kernel
theorem dX11_imagesKept_9 : decode cX11_imagesKept 9 = .ok (.aload_n 0, 1) := by decide +kernel
theorem dX11_imagesKept_10 : decode cX11_imagesKept 10 = .ok (.getfield 30, 3) := by decide +kernel
theorem dX11_imagesKept_13 : decode cX11_imagesKept 13 = .ok (.iload_n 2, 1) := by decide +kernel
theorem dX11_imagesKept_14 : decode cX11_imagesKept 14 = .ok (.aaload, 1) := by decide +kernel
theorem dX11_imagesKept_15 : decode cX11_imagesKept 15 = .ok (.getfield 115, 3) := by decide +kernel
theorem dX11_imagesKept_18 : decode cX11_imagesKept 18 = .ok (.ifCond .eq 6, 3) := by decide +kernel
theorem dX11_imagesKept_21 : decode cX11_imagesKept 21 = .ok (.iinc 1 1, 3) := by decide +kernel
theorem dX11_imagesKept_24 : decode cX11_imagesKept 24 = .ok (.iinc 2 1, 3) := by decide +kernel
theorem dX11_imagesKept_27 : decode cX11_imagesKept 27 = .ok (.goto (-23), 3) := by decide +kernel
theorem dX11_imagesKept_30 : decode cX11_imagesKept 30 = .ok (.iload_n 1, 1) := by decide +kernel
theorem dX11_imagesKept_31 : decode cX11_imagesKept 31 = .ok (.ireturn, 1) := by decide +kernel
theorem dX11_justOne_0 : decode cX11_justOne 0 = .ok (.iload_n 0, 1) := by decide +kernel
theorem dX11_justOne_1 : decode cX11_justOne 1 = .ok (.iload_n 1, 1) := by decide +kernel
theorem dX11_justOne_2 : decode cX11_justOne 2 = .ok (.imul, 1) := by decide +kernel
theorem dX11_justOne_3 : decode cX11_justOne 3 = .ok (.i2l, 1) := by decide +kernel
theorem dX11_justOne_4 : decode cX11_justOne 4 = .ok (.bipush 20, 2) := by decide +kernel
theorem dX11_justOne_6 : decode cX11_justOne 6 = .ok (.iload_n 1, 1) := by decide +kernel
theorem dX11_justOne_7 : decode cX11_justOne 7 = .ok (.isub, 1) := by decide +kernel
theorem dX11_justOne_8 : decode cX11_justOne 8 = .ok (.i2l, 1) := by decide +kernel
theorem dX11_justOne_9 : decode cX11_justOne 9 = .ok (.iload_n 0, 1) := by decide +kernel
theorem dX11_justOne_10 : decode cX11_justOne 10 = .ok (.iconst 1, 1) := by decide +kernel
theorem dX11_justOne_11 : decode cX11_justOne 11 = .ok (.isub, 1) := by decide +kernel
theorem dX11_justOne_12 : decode cX11_justOne 12 = .ok (.invokestatic 262, 3) := by decide +kernel
theorem dX11_justOne_15 : decode cX11_justOne 15 = .ok (.lmul, 1) := by decide +kernel
theorem dX11_justOne_16 : decode cX11_justOne 16 = .ok (.lreturn, 1) := by decide +kernel
theorem dX11_power_0 : decode cX11_power 0 = .ok (.lconst 1, 1) := by decide +kernel
theorem dX11_power_1 : decode cX11_power 1 = .ok (.lstore_n 3, 1) := by decide +kernel
theorem dX11_power_2 : decode cX11_power 2 = .ok (.iconst 0, 1) := by decide +kernel
theorem dX11_power_3 : decode cX11_power 3 = .ok (.istore 5, 2) := by decide +kernel
theorem dX11_power_5 : decode cX11_power 5 = .ok (.iload 5, 2) := by decide +kernel
theorem dX11_power_7 : decode cX11_power 7 = .ok (.iload_n 2, 1) := by decide +kernel
theorem dX11_power_8 : decode cX11_power 8 = .ok (.if_icmp .ge 13, 3) := by decide +kernel
theorem dX11_power_11 : decode cX11_power 11 = .ok (.lload_n 3, 1) := by decide +kernel
theorem dX11_power_12 : decode cX11_power 12 = .ok (.lload_n 0, 1) := by decide +kernel
theorem dX11_power_13 : decode cX11_power 13 = .ok (.lmul, 1) := by decide +kernel
theorem dX11_power_14 : decode cX11_power 14 = .ok (.lstore_n 3, 1) := by decide +kernel
theorem dX11_power_15 : decode cX11_power 15 = .ok (.iinc 5 1, 3) := by decide +kernel
theorem dX11_power_18 : decode cX11_power 18 = .ok (.goto (-13), 3) := by decide +kernel
theorem dX11_power_21 : decode cX11_power 21 = .ok (.lload_n 3, 1) := by decide +kernel
theorem dX11_power_22 : decode cX11_power 22 = .ok (.lreturn, 1) := by decide +kernel
theorem dX11_lowest_0 : decode cX11_lowest 0 = .ok (.lload_n 2, 1) := by decide +kernel
theorem dX11_lowest_1 : decode cX11_lowest 1 = .ok (.lstore 5, 2) := by decide +kernel
theorem dX11_lowest_3 : decode cX11_lowest 3 = .ok (.lload_n 0, 1) := by decide +kernel
theorem dX11_lowest_4 : decode cX11_lowest 4 = .ok (.lstore 7, 2) := by decide +kernel
theorem dX11_lowest_6 : decode cX11_lowest 6 = .ok (.iconst 0, 1) := by decide +kernel
theorem dX11_lowest_7 : decode cX11_lowest 7 = .ok (.istore 9, 2) := by decide +kernel
theorem dX11_lowest_9 : decode cX11_lowest 9 = .ok (.iload 9, 2) := by decide +kernel
theorem dX11_lowest_11 : decode cX11_lowest 11 = .ok (.bipush 100, 2) := by decide +kernel
theorem dX11_lowest_13 : decode cX11_lowest 13 = .ok (.if_icmp .ge 31, 3) := by decide +kernel
theorem dX11_lowest_16 : decode cX11_lowest 16 = .ok (.lload 7, 2) := by decide +kernel
theorem dX11_lowest_18 : decode cX11_lowest 18 = .ok (.lconst 0, 1) := by decide +kernel
theorem dX11_lowest_19 : decode cX11_lowest 19 = .ok (.lcmp, 1) := by decide +kernel
theorem dX11_lowest_20 : decode cX11_lowest 20 = .ok (.ifCond .eq 24, 3) := by decide +kernel
theorem dX11_lowest_23 : decode cX11_lowest 23 = .ok (.lload 5, 2) := by decide +kernel
theorem dX11_lowest_25 : decode cX11_lowest 25 = .ok (.lload 7, 2) := by decide +kernel
theorem dX11_lowest_27 : decode cX11_lowest 27 = .ok (.lrem, 1) := by decide +kernel
theorem dX11_lowest_28 : decode cX11_lowest 28 = .ok (.lstore 10, 2) := by decide +kernel
theorem dX11_lowest_30 : decode cX11_lowest 30 = .ok (.lload 7, 2) := by decide +kernel
theorem dX11_lowest_32 : decode cX11_lowest 32 = .ok (.lstore 5, 2) := by decide +kernel
theorem dX11_lowest_34 : decode cX11_lowest 34 = .ok (.lload 10, 2) := by decide +kernel
theorem dX11_lowest_36 : decode cX11_lowest 36 = .ok (.lstore 7, 2) := by decide +kernel
theorem dX11_lowest_38 : decode cX11_lowest 38 = .ok (.iinc 9 1, 3) := by decide +kernel
theorem dX11_lowest_41 : decode cX11_lowest 41 = .ok (.goto (-32), 3) := by decide +kernel
theorem dX11_lowest_44 : decode cX11_lowest 44 = .ok (.lload 5, 2) := by decide +kernel
theorem dX11_lowest_46 : decode cX11_lowest 46 = .ok (.lconst 0, 1) := by decide +kernel
theorem dX11_lowest_47 : decode cX11_lowest 47 = .ok (.lcmp, 1) := by decide +kernel
theorem dX11_lowest_48 : decode cX11_lowest 48 = .ok (.ifCond .gt 14, 3) := by decide +kernel
theorem dX11_lowest_51 : decode cX11_lowest 51 = .ok (.iload 4, 2) := by decide +kernel
theorem dX11_lowest_53 : decode cX11_lowest 53 = .ok (.ifCond .ne 7, 3) := by decide +kernel
theorem dX11_lowest_56 : decode cX11_lowest 56 = .ok (.lload_n 0, 1) := by decide +kernel
theorem dX11_lowest_57 : decode cX11_lowest 57 = .ok (.goto 4, 3) := by decide +kernel
theorem dX11_lowest_60 : decode cX11_lowest 60 = .ok (.lload_n 2, 1) := by decide +kernel
theorem dX11_lowest_61 : decode cX11_lowest 61 = .ok (.lreturn, 1) := by decide +kernel
theorem dX11_lowest_62 : decode cX11_lowest 62 = .ok (.iload 4, 2) := by decide +kernel
theorem dX11_lowest_64 : decode cX11_lowest 64 = .ok (.ifCond .ne 10, 3) := by decide +kernel
theorem dX11_lowest_67 : decode cX11_lowest 67 = .ok (.lload_n 0, 1) := by decide +kernel
theorem dX11_lowest_68 : decode cX11_lowest 68 = .ok (.lload 5, 2) := by decide +kernel
theorem dX11_lowest_70 : decode cX11_lowest 70 = .ok (.ldiv, 1) := by decide +kernel
theorem dX11_lowest_71 : decode cX11_lowest 71 = .ok (.goto 7, 3) := by decide +kernel
theorem dX11_lowest_74 : decode cX11_lowest 74 = .ok (.lload_n 2, 1) := by decide +kernel
theorem dX11_lowest_75 : decode cX11_lowest 75 = .ok (.lload 5, 2) := by decide +kernel
theorem dX11_lowest_77 : decode cX11_lowest 77 = .ok (.ldiv, 1) := by decide +kernel
theorem dX11_lowest_78 : decode cX11_lowest 78 = .ok (.lreturn, 1) := by decide +kernel
theorem dX11_leastLesson_0 : decode cX11_leastLesson 0 = .ok (.iload_n 3, 1) := by decide +kernel
theorem dX11_leastLesson_1 : decode cX11_leastLesson 1 = .ok (.ifCond .ne 6, 3) := by decide +kernel
theorem dX11_leastLesson_4 : decode cX11_leastLesson 4 = .ok (.lload 4, 2) := by decide +kernel
theorem dX11_leastLesson_6 : decode cX11_leastLesson 6 = .ok (.lreturn, 1) := by decide +kernel
theorem dX11_leastLesson_7 : decode cX11_leastLesson 7 = .ok (.iload_n 2, 1) := by decide +kernel
theorem dX11_leastLesson_8 : decode cX11_leastLesson 8 = .ok (.aload_n 0, 1) := by decide +kernel
theorem dX11_leastLesson_9 : decode cX11_leastLesson 9 = .ok (.getfield 123, 3) := by decide +kernel
theorem dX11_leastLesson_12 : decode cX11_leastLesson 12 = .ok (.if_icmp .ge 9, 3) := by decide +kernel
theorem dX11_leastLesson_15 : decode cX11_leastLesson 15 = .ok (.iload_n 2, 1) := by decide +kernel
theorem dX11_leastLesson_16 : decode cX11_leastLesson 16 = .ok (.bipush 10, 2) := by decide +kernel
theorem dX11_leastLesson_18 : decode cX11_leastLesson 18 = .ok (.if_icmp .lt 7, 3) := by decide +kernel
theorem dX11_leastLesson_21 : decode cX11_leastLesson 21 = .ok (.ldc2_w 380, 3) := by decide +kernel
theorem dX11_leastLesson_24 : decode cX11_leastLesson 24 = .ok (.lreturn, 1) := by decide +kernel
theorem dX11_leastLesson_25 : decode cX11_leastLesson 25 = .ok (.aload_n 0, 1) := by decide +kernel
theorem dX11_leastLesson_26 : decode cX11_leastLesson 26 = .ok (.aload_n 1, 1) := by decide +kernel
theorem dX11_leastLesson_27 : decode cX11_leastLesson 27 = .ok (.iload_n 2, 1) := by decide +kernel
theorem dX11_leastLesson_28 : decode cX11_leastLesson 28 = .ok (.iconst 1, 1) := by decide +kernel
theorem dX11_leastLesson_29 : decode cX11_leastLesson 29 = .ok (.iadd, 1) := by decide +kernel
theorem dX11_leastLesson_30 : decode cX11_leastLesson 30 = .ok (.iload_n 3, 1) := by decide +kernel
theorem dX11_leastLesson_31 : decode cX11_leastLesson 31 = .ok (.lload 4, 2) := by decide +kernel
theorem dX11_leastLesson_33 : decode cX11_leastLesson 33 = .ok (.invokestatic 314, 3) := by decide +kernel
theorem dX11_leastLesson_36 : decode cX11_leastLesson 36 = .ok (.lstore 6, 2) := by decide +kernel
theorem dX11_leastLesson_38 : decode cX11_leastLesson 38 = .ok (.aload_n 0, 1) := by decide +kernel
theorem dX11_leastLesson_39 : decode cX11_leastLesson 39 = .ok (.getfield 382, 3) := by decide +kernel
theorem dX11_leastLesson_42 : decode cX11_leastLesson 42 = .ok (.iload_n 2, 1) := by decide +kernel
theorem dX11_leastLesson_43 : decode cX11_leastLesson 43 = .ok (.iaload, 1) := by decide +kernel
theorem dX11_leastLesson_44 : decode cX11_leastLesson 44 = .ok (.istore 8, 2) := by decide +kernel
theorem dX11_leastLesson_46 : decode cX11_leastLesson 46 = .ok (.iload 8, 2) := by decide +kernel
theorem dX11_leastLesson_48 : decode cX11_leastLesson 48 = .ok (.iload_n 3, 1) := by decide +kernel
theorem dX11_leastLesson_49 : decode cX11_leastLesson 49 = .ok (.iand, 1) := by decide +kernel
theorem dX11_leastLesson_50 : decode cX11_leastLesson 50 = .ok (.ifCond .ne 6, 3) := by decide +kernel
theorem dX11_leastLesson_53 : decode cX11_leastLesson 53 = .ok (.lload 6, 2) := by decide +kernel
theorem dX11_leastLesson_55 : decode cX11_leastLesson 55 = .ok (.lreturn, 1) := by decide +kernel
theorem dX11_leastLesson_56 : decode cX11_leastLesson 56 = .ok (.aload_n 1, 1) := by decide +kernel
theorem dX11_leastLesson_57 : decode cX11_leastLesson 57 = .ok (.iload_n 2, 1) := by decide +kernel
theorem dX11_leastLesson_58 : decode cX11_leastLesson 58 = .ok (.iaload, 1) := by decide +kernel
theorem dX11_leastLesson_59 : decode cX11_leastLesson 59 = .ok (.i2l, 1) := by decide +kernel
theorem dX11_leastLesson_60 : decode cX11_leastLesson 60 = .ok (.bipush 20, 2) := by decide +kernel
theorem dX11_leastLesson_62 : decode cX11_leastLesson 62 = .ok (.lshl, 1) := by decide +kernel
theorem dX11_leastLesson_63 : decode cX11_leastLesson 63 = .ok (.ldc2_w 385, 3) := by decide +kernel
theorem dX11_leastLesson_66 : decode cX11_leastLesson 66 = .ok (.ladd, 1) := by decide +kernel
theorem dX11_leastLesson_67 : decode cX11_leastLesson 67 = .ok (.iconst 1, 1) := by decide +kernel
theorem dX11_leastLesson_68 : decode cX11_leastLesson 68 = .ok (.iload_n 2, 1) := by decide +kernel
theorem dX11_leastLesson_69 : decode cX11_leastLesson 69 = .ok (.ishl, 1) := by decide +kernel
theorem dX11_leastLesson_70 : decode cX11_leastLesson 70 = .ok (.i2l, 1) := by decide +kernel
theorem dX11_leastLesson_71 : decode cX11_leastLesson 71 = .ok (.ladd, 1) := by decide +kernel
theorem dX11_leastLesson_72 : decode cX11_leastLesson 72 = .ok (.lstore 9, 2) := by decide +kernel
theorem dX11_leastLesson_74 : decode cX11_leastLesson 74 = .ok (.lload 6, 2) := by decide +kernel
theorem dX11_leastLesson_76 : decode cX11_leastLesson 76 = .ok (.aload_n 0, 1) := by decide +kernel
theorem dX11_leastLesson_77 : decode cX11_leastLesson 77 = .ok (.aload_n 1, 1) := by decide +kernel
theorem dX11_leastLesson_78 : decode cX11_leastLesson 78 = .ok (.iload_n 2, 1) := by decide +kernel
theorem dX11_leastLesson_79 : decode cX11_leastLesson 79 = .ok (.iconst 1, 1) := by decide +kernel
theorem dX11_leastLesson_80 : decode cX11_leastLesson 80 = .ok (.iadd, 1) := by decide +kernel
theorem dX11_leastLesson_81 : decode cX11_leastLesson 81 = .ok (.iload_n 3, 1) := by decide +kernel
theorem dX11_leastLesson_82 : decode cX11_leastLesson 82 = .ok (.iload 8, 2) := by decide +kernel
theorem dX11_leastLesson_84 : decode cX11_leastLesson 84 = .ok (.iconst (-1), 1) := by decide +kernel
theorem dX11_leastLesson_85 : decode cX11_leastLesson 85 = .ok (.ixor, 1) := by decide +kernel
theorem dX11_leastLesson_86 : decode cX11_leastLesson 86 = .ok (.iand, 1) := by decide +kernel
theorem dX11_leastLesson_87 : decode cX11_leastLesson 87 = .ok (.lload 4, 2) := by decide +kernel
theorem dX11_leastLesson_89 : decode cX11_leastLesson 89 = .ok (.lload 9, 2) := by decide +kernel
theorem dX11_leastLesson_91 : decode cX11_leastLesson 91 = .ok (.ladd, 1) := by decide +kernel
theorem dX11_leastLesson_92 : decode cX11_leastLesson 92 = .ok (.invokestatic 314, 3) := by decide +kernel
theorem dX11_leastLesson_95 : decode cX11_leastLesson 95 = .ok (.invokestatic 387, 3) := by decide +kernel
theorem dX11_leastLesson_98 : decode cX11_leastLesson 98 = .ok (.lreturn, 1) := by decide +kernel
theorem dX12_init_0 : decode cX12_init 0 = .ok (.aload_n 0, 1) := by decide +kernel
theorem dX12_init_1 : decode cX12_init 1 = .ok (.invokespecial 1, 3) := by decide +kernel
theorem dX12_init_4 : decode cX12_init 4 = .ok (.aload_n 0, 1) := by decide +kernel
theorem dX12_init_5 : decode cX12_init 5 = .ok (.sipush 320, 3) := by decide +kernel
theorem dX12_init_8 : decode cX12_init 8 = .ok (.newarray .int, 2) := by decide +kernel
theorem dX12_init_10 : decode cX12_init 10 = .ok (.putfield 7, 3) := by decide +kernel
theorem dX12_init_13 : decode cX12_init 13 = .ok (.aload_n 0, 1) := by decide +kernel
theorem dX12_init_14 : decode cX12_init 14 = .ok (.bipush 7, 2) := by decide +kernel
theorem dX12_init_16 : decode cX12_init 16 = .ok (.newarray .int, 2) := by decide +kernel
theorem dX12_init_18 : decode cX12_init 18 = .ok (.dup, 1) := by decide +kernel
theorem dX12_init_19 : decode cX12_init 19 = .ok (.iconst 0, 1) := by decide +kernel
theorem dX12_init_20 : decode cX12_init 20 = .ok (.iconst 0, 1) := by decide +kernel
theorem dX12_init_21 : decode cX12_init 21 = .ok (.iastore, 1) := by decide +kernel
theorem dX12_init_22 : decode cX12_init 22 = .ok (.dup, 1) := by decide +kernel
theorem dX12_init_23 : decode cX12_init 23 = .ok (.iconst 1, 1) := by decide +kernel
theorem dX12_init_24 : decode cX12_init 24 = .ok (.iconst 5, 1) := by decide +kernel
theorem dX12_init_25 : decode cX12_init 25 = .ok (.iastore, 1) := by decide +kernel
theorem dX12_init_26 : decode cX12_init 26 = .ok (.dup, 1) := by decide +kernel
theorem dX12_init_27 : decode cX12_init 27 = .ok (.iconst 2, 1) := by decide +kernel
theorem dX12_init_28 : decode cX12_init 28 = .ok (.bipush 9, 2) := by decide +kernel
theorem dX12_init_30 : decode cX12_init 30 = .ok (.iastore, 1) := by decide +kernel
theorem dX12_init_31 : decode cX12_init 31 = .ok (.dup, 1) := by decide +kernel
theorem dX12_init_32 : decode cX12_init 32 = .ok (.iconst 3, 1) := by decide +kernel
theorem dX12_init_33 : decode cX12_init 33 = .ok (.bipush 14, 2) := by decide +kernel
theorem dX12_init_35 : decode cX12_init 35 = .ok (.iastore, 1) := by decide +kernel
theorem dX12_init_36 : decode cX12_init 36 = .ok (.dup, 1) := by decide +kernel
theorem dX12_init_37 : decode cX12_init 37 = .ok (.iconst 4, 1) := by decide +kernel
theorem dX12_init_38 : decode cX12_init 38 = .ok (.bipush 18, 2) := by decide +kernel
theorem dX12_init_40 : decode cX12_init 40 = .ok (.iastore, 1) := by decide +kernel
theorem dX12_init_41 : decode cX12_init 41 = .ok (.dup, 1) := by decide +kernel
theorem dX12_init_42 : decode cX12_init 42 = .ok (.iconst 5, 1) := by decide +kernel
theorem dX12_init_43 : decode cX12_init 43 = .ok (.bipush 22, 2) := by decide +kernel
theorem dX12_init_45 : decode cX12_init 45 = .ok (.iastore, 1) := by decide +kernel
theorem dX12_init_46 : decode cX12_init 46 = .ok (.dup, 1) := by decide +kernel
theorem dX12_init_47 : decode cX12_init 47 = .ok (.bipush 6, 2) := by decide +kernel
theorem dX12_init_49 : decode cX12_init 49 = .ok (.bipush 27, 2) := by decide +kernel
theorem dX12_init_51 : decode cX12_init 51 = .ok (.iastore, 1) := by decide +kernel
theorem dX12_init_52 : decode cX12_init 52 = .ok (.putfield 13, 3) := by decide +kernel
theorem dX12_init_55 : decode cX12_init 55 = .ok (.aload_n 0, 1) := by decide +kernel
theorem dX12_init_56 : decode cX12_init 56 = .ok (.bipush 27, 2) := by decide +kernel
theorem dX12_init_58 : decode cX12_init 58 = .ok (.newarray .int, 2) := by decide +kernel
theorem dX12_init_60 : decode cX12_init 60 = .ok (.dup, 1) := by decide +kernel
theorem dX12_init_61 : decode cX12_init 61 = .ok (.iconst 0, 1) := by decide +kernel
theorem dX12_init_62 : decode cX12_init 62 = .ok (.bipush 116, 2) := by decide +kernel
theorem dX12_init_64 : decode cX12_init 64 = .ok (.iastore, 1) := by decide +kernel
theorem dX12_init_65 : decode cX12_init 65 = .ok (.dup, 1) := by decide +kernel
theorem dX12_init_66 : decode cX12_init 66 = .ok (.iconst 1, 1) := by decide +kernel
theorem dX12_init_67 : decode cX12_init 67 = .ok (.bipush 97, 2) := by decide +kernel
theorem dX12_init_69 : decode cX12_init 69 = .ok (.iastore, 1) := by decide +kernel
theorem dX12_init_70 : decode cX12_init 70 = .ok (.dup, 1) := by decide +kernel
theorem dX12_init_71 : decode cX12_init 71 = .ok (.iconst 2, 1) := by decide +kernel
theorem dX12_init_72 : decode cX12_init 72 = .ok (.bipush 98, 2) := by decide +kernel
theorem dX12_init_74 : decode cX12_init 74 = .ok (.iastore, 1) := by decide +kernel
theorem dX12_init_75 : decode cX12_init 75 = .ok (.dup, 1) := by decide +kernel
theorem dX12_init_76 : decode cX12_init 76 = .ok (.iconst 3, 1) := by decide +kernel
theorem dX12_init_77 : decode cX12_init 77 = .ok (.bipush 108, 2) := by decide +kernel
theorem dX12_init_79 : decode cX12_init 79 = .ok (.iastore, 1) := by decide +kernel
theorem dX12_init_80 : decode cX12_init 80 = .ok (.dup, 1) := by decide +kernel
theorem dX12_init_81 : decode cX12_init 81 = .ok (.iconst 4, 1) := by decide +kernel
theorem dX12_init_82 : decode cX12_init 82 = .ok (.bipush 101, 2) := by decide +kernel
theorem dX12_init_84 : decode cX12_init 84 = .ok (.iastore, 1) := by decide +kernel
theorem dX12_init_85 : decode cX12_init 85 = .ok (.dup, 1) := by decide +kernel
theorem dX12_init_86 : decode cX12_init 86 = .ok (.iconst 5, 1) := by decide +kernel
theorem dX12_init_87 : decode cX12_init 87 = .ok (.bipush 119, 2) := by decide +kernel
theorem dX12_init_89 : decode cX12_init 89 = .ok (.iastore, 1) := by decide +kernel
theorem dX12_init_90 : decode cX12_init 90 = .ok (.dup, 1) := by decide +kernel
theorem dX12_init_91 : decode cX12_init 91 = .ok (.bipush 6, 2) := by decide +kernel
theorem dX12_init_93 : decode cX12_init 93 = .ok (.bipush 111, 2) := by decide +kernel
theorem dX12_init_95 : decode cX12_init 95 = .ok (.iastore, 1) := by decide +kernel
theorem dX12_init_96 : decode cX12_init 96 = .ok (.dup, 1) := by decide +kernel
theorem dX12_init_97 : decode cX12_init 97 = .ok (.bipush 7, 2) := by decide +kernel
theorem dX12_init_99 : decode cX12_init 99 = .ok (.bipush 114, 2) := by decide +kernel
theorem dX12_init_101 : decode cX12_init 101 = .ok (.iastore, 1) := by decide +kernel
theorem dX12_init_102 : decode cX12_init 102 = .ok (.dup, 1) := by decide +kernel
theorem dX12_init_103 : decode cX12_init 103 = .ok (.bipush 8, 2) := by decide +kernel
theorem dX12_init_105 : decode cX12_init 105 = .ok (.bipush 100, 2) := by decide +kernel
theorem dX12_init_107 : decode cX12_init 107 = .ok (.iastore, 1) := by decide +kernel
theorem dX12_init_108 : decode cX12_init 108 = .ok (.dup, 1) := by decide +kernel
theorem dX12_init_109 : decode cX12_init 109 = .ok (.bipush 9, 2) := by decide +kernel
theorem dX12_init_111 : decode cX12_init 111 = .ok (.bipush 115, 2) := by decide +kernel
theorem dX12_init_113 : decode cX12_init 113 = .ok (.iastore, 1) := by decide +kernel
theorem dX12_init_114 : decode cX12_init 114 = .ok (.dup, 1) := by decide +kernel
theorem dX12_init_115 : decode cX12_init 115 = .ok (.bipush 10, 2) := by decide +kernel
theorem dX12_init_117 : decode cX12_init 117 = .ok (.bipush 104, 2) := by decide +kernel
theorem dX12_init_119 : decode cX12_init 119 = .ok (.iastore, 1) := by decide +kernel
theorem dX12_init_120 : decode cX12_init 120 = .ok (.dup, 1) := by decide +kernel
theorem dX12_init_121 : decode cX12_init 121 = .ok (.bipush 11, 2) := by decide +kernel
theorem dX12_init_123 : decode cX12_init 123 = .ok (.bipush 111, 2) := by decide +kernel
theorem dX12_init_125 : decode cX12_init 125 = .ok (.iastore, 1) := by decide +kernel
theorem dX12_init_126 : decode cX12_init 126 = .ok (.dup, 1) := by decide +kernel
theorem dX12_init_127 : decode cX12_init 127 = .ok (.bipush 12, 2) := by decide +kernel
theorem dX12_init_129 : decode cX12_init 129 = .ok (.bipush 114, 2) := by decide +kernel
theorem dX12_init_131 : decode cX12_init 131 = .ok (.iastore, 1) := by decide +kernel
theorem dX12_init_132 : decode cX12_init 132 = .ok (.dup, 1) := by decide +kernel
theorem dX12_init_133 : decode cX12_init 133 = .ok (.bipush 13, 2) := by decide +kernel
theorem dX12_init_135 : decode cX12_init 135 = .ok (.bipush 116, 2) := by decide +kernel
theorem dX12_init_137 : decode cX12_init 137 = .ok (.iastore, 1) := by decide +kernel
theorem dX12_init_138 : decode cX12_init 138 = .ok (.dup, 1) := by decide +kernel
theorem dX12_init_139 : decode cX12_init 139 = .ok (.bipush 14, 2) := by decide +kernel
theorem dX12_init_141 : decode cX12_init 141 = .ok (.bipush 115, 2) := by decide +kernel
theorem dX12_init_143 : decode cX12_init 143 = .ok (.iastore, 1) := by decide +kernel
theorem dX12_init_144 : decode cX12_init 144 = .ok (.dup, 1) := by decide +kernel
theorem dX12_init_145 : decode cX12_init 145 = .ok (.bipush 15, 2) := by decide +kernel
theorem dX12_init_147 : decode cX12_init 147 = .ok (.bipush 108, 2) := by decide +kernel
theorem dX12_init_149 : decode cX12_init 149 = .ok (.iastore, 1) := by decide +kernel
theorem dX12_init_150 : decode cX12_init 150 = .ok (.dup, 1) := by decide +kernel
theorem dX12_init_151 : decode cX12_init 151 = .ok (.bipush 16, 2) := by decide +kernel
theorem dX12_init_153 : decode cX12_init 153 = .ok (.bipush 105, 2) := by decide +kernel
theorem dX12_init_155 : decode cX12_init 155 = .ok (.iastore, 1) := by decide +kernel
theorem dX12_init_156 : decode cX12_init 156 = .ok (.dup, 1) := by decide +kernel
theorem dX12_init_157 : decode cX12_init 157 = .ok (.bipush 17, 2) := by decide +kernel
theorem dX12_init_159 : decode cX12_init 159 = .ok (.bipush 112, 2) := by decide +kernel
theorem dX12_init_161 : decode cX12_init 161 = .ok (.iastore, 1) := by decide +kernel
theorem dX12_init_162 : decode cX12_init 162 = .ok (.dup, 1) := by decide +kernel
theorem dX12_init_163 : decode cX12_init 163 = .ok (.bipush 18, 2) := by decide +kernel
theorem dX12_init_165 : decode cX12_init 165 = .ok (.bipush 116, 2) := by decide +kernel
theorem dX12_init_167 : decode cX12_init 167 = .ok (.iastore, 1) := by decide +kernel
theorem dX12_init_168 : decode cX12_init 168 = .ok (.dup, 1) := by decide +kernel
theorem dX12_init_169 : decode cX12_init 169 = .ok (.bipush 19, 2) := by decide +kernel
theorem dX12_init_171 : decode cX12_init 171 = .ok (.bipush 105, 2) := by decide +kernel
theorem dX12_init_173 : decode cX12_init 173 = .ok (.iastore, 1) := by decide +kernel
theorem dX12_init_174 : decode cX12_init 174 = .ok (.dup, 1) := by decide +kernel
theorem dX12_init_175 : decode cX12_init 175 = .ok (.bipush 20, 2) := by decide +kernel
theorem dX12_init_177 : decode cX12_init 177 = .ok (.bipush 109, 2) := by decide +kernel
theorem dX12_init_179 : decode cX12_init 179 = .ok (.iastore, 1) := by decide +kernel
theorem dX12_init_180 : decode cX12_init 180 = .ok (.dup, 1) := by decide +kernel
theorem dX12_init_181 : decode cX12_init 181 = .ok (.bipush 21, 2) := by decide +kernel
theorem dX12_init_183 : decode cX12_init 183 = .ok (.bipush 101, 2) := by decide +kernel
theorem dX12_init_185 : decode cX12_init 185 = .ok (.iastore, 1) := by decide +kernel
theorem dX12_init_186 : decode cX12_init 186 = .ok (.dup, 1) := by decide +kernel
theorem dX12_init_187 : decode cX12_init 187 = .ok (.bipush 22, 2) := by decide +kernel
theorem dX12_init_189 : decode cX12_init 189 = .ok (.bipush 103, 2) := by decide +kernel
theorem dX12_init_191 : decode cX12_init 191 = .ok (.iastore, 1) := by decide +kernel
theorem dX12_init_192 : decode cX12_init 192 = .ok (.dup, 1) := by decide +kernel
theorem dX12_init_193 : decode cX12_init 193 = .ok (.bipush 23, 2) := by decide +kernel
theorem dX12_init_195 : decode cX12_init 195 = .ok (.bipush 117, 2) := by decide +kernel
theorem dX12_init_197 : decode cX12_init 197 = .ok (.iastore, 1) := by decide +kernel
theorem dX12_init_198 : decode cX12_init 198 = .ok (.dup, 1) := by decide +kernel
theorem dX12_init_199 : decode cX12_init 199 = .ok (.bipush 24, 2) := by decide +kernel
theorem dX12_init_201 : decode cX12_init 201 = .ok (.bipush 97, 2) := by decide +kernel
theorem dX12_init_203 : decode cX12_init 203 = .ok (.iastore, 1) := by decide +kernel
theorem dX12_init_204 : decode cX12_init 204 = .ok (.dup, 1) := by decide +kernel
theorem dX12_init_205 : decode cX12_init 205 = .ok (.bipush 25, 2) := by decide +kernel
theorem dX12_init_207 : decode cX12_init 207 = .ok (.bipush 114, 2) := by decide +kernel
theorem dX12_init_209 : decode cX12_init 209 = .ok (.iastore, 1) := by decide +kernel
theorem dX12_init_210 : decode cX12_init 210 = .ok (.dup, 1) := by decide +kernel
theorem dX12_init_211 : decode cX12_init 211 = .ok (.bipush 26, 2) := by decide +kernel
theorem dX12_init_213 : decode cX12_init 213 = .ok (.bipush 100, 2) := by decide +kernel
theorem dX12_init_215 : decode cX12_init 215 = .ok (.iastore, 1) := by decide +kernel
theorem dX12_init_216 : decode cX12_init 216 = .ok (.putfield 16, 3) := by decide +kernel
theorem dX12_init_219 : decode cX12_init 219 = .ok (.aload_n 0, 1) := by decide +kernel
theorem dX12_init_220 : decode cX12_init 220 = .ok (.bipush 8, 2) := by decide +kernel
theorem dX12_init_222 : decode cX12_init 222 = .ok (.newarray .int, 2) := by decide +kernel
theorem dX12_init_224 : decode cX12_init 224 = .ok (.dup, 1) := by decide +kernel
theorem dX12_init_225 : decode cX12_init 225 = .ok (.iconst 0, 1) := by decide +kernel
theorem dX12_init_226 : decode cX12_init 226 = .ok (.iconst 1, 1) := by decide +kernel
theorem dX12_init_227 : decode cX12_init 227 = .ok (.iastore, 1) := by decide +kernel
theorem dX12_init_228 : decode cX12_init 228 = .ok (.dup, 1) := by decide +kernel
theorem dX12_init_229 : decode cX12_init 229 = .ok (.iconst 1, 1) := by decide +kernel
theorem dX12_init_230 : decode cX12_init 230 = .ok (.iconst 1, 1) := by decide +kernel
theorem dX12_init_231 : decode cX12_init 231 = .ok (.iastore, 1) := by decide +kernel
theorem dX12_init_232 : decode cX12_init 232 = .ok (.dup, 1) := by decide +kernel
theorem dX12_init_233 : decode cX12_init 233 = .ok (.iconst 2, 1) := by decide +kernel
theorem dX12_init_234 : decode cX12_init 234 = .ok (.iconst 3, 1) := by decide +kernel
theorem dX12_init_235 : decode cX12_init 235 = .ok (.iastore, 1) := by decide +kernel
theorem dX12_init_236 : decode cX12_init 236 = .ok (.dup, 1) := by decide +kernel
theorem dX12_init_237 : decode cX12_init 237 = .ok (.iconst 3, 1) := by decide +kernel
theorem dX12_init_238 : decode cX12_init 238 = .ok (.bipush 6, 2) := by decide +kernel
theorem dX12_init_240 : decode cX12_init 240 = .ok (.iastore, 1) := by decide +kernel
theorem dX12_init_241 : decode cX12_init 241 = .ok (.dup, 1) := by decide +kernel
theorem dX12_init_242 : decode cX12_init 242 = .ok (.iconst 4, 1) := by decide +kernel
theorem dX12_init_243 : decode cX12_init 243 = .ok (.bipush 12, 2) := by decide +kernel
theorem dX12_init_245 : decode cX12_init 245 = .ok (.iastore, 1) := by decide +kernel
theorem dX12_init_246 : decode cX12_init 246 = .ok (.dup, 1) := by decide +kernel
theorem dX12_init_247 : decode cX12_init 247 = .ok (.iconst 5, 1) := by decide +kernel
theorem dX12_init_248 : decode cX12_init 248 = .ok (.iconst 0, 1) := by decide +kernel
theorem dX12_init_249 : decode cX12_init 249 = .ok (.iastore, 1) := by decide +kernel
theorem dX12_init_250 : decode cX12_init 250 = .ok (.dup, 1) := by decide +kernel
theorem dX12_init_251 : decode cX12_init 251 = .ok (.bipush 6, 2) := by decide +kernel
theorem dX12_init_253 : decode cX12_init 253 = .ok (.iconst 0, 1) := by decide +kernel
theorem dX12_init_254 : decode cX12_init 254 = .ok (.iastore, 1) := by decide +kernel
theorem dX12_init_255 : decode cX12_init 255 = .ok (.dup, 1) := by decide +kernel
theorem dX12_init_256 : decode cX12_init 256 = .ok (.bipush 7, 2) := by decide +kernel
theorem dX12_init_258 : decode cX12_init 258 = .ok (.iconst 0, 1) := by decide +kernel
theorem dX12_init_259 : decode cX12_init 259 = .ok (.iastore, 1) := by decide +kernel
theorem dX12_init_260 : decode cX12_init 260 = .ok (.putfield 19, 3) := by decide +kernel
theorem dX12_init_263 : decode cX12_init 263 = .ok (.aload_n 0, 1) := by decide +kernel
theorem dX12_init_264 : decode cX12_init 264 = .ok (.bipush 8, 2) := by decide +kernel
theorem dX12_init_266 : decode cX12_init 266 = .ok (.newarray .int, 2) := by decide +kernel
theorem dX12_init_268 : decode cX12_init 268 = .ok (.dup, 1) := by decide +kernel
theorem dX12_init_269 : decode cX12_init 269 = .ok (.iconst 0, 1) := by decide +kernel
theorem dX12_init_270 : decode cX12_init 270 = .ok (.iconst 1, 1) := by decide +kernel
theorem dX12_init_271 : decode cX12_init 271 = .ok (.iastore, 1) := by decide +kernel
theorem dX12_init_272 : decode cX12_init 272 = .ok (.dup, 1) := by decide +kernel
theorem dX12_init_273 : decode cX12_init 273 = .ok (.iconst 1, 1) := by decide +kernel
theorem dX12_init_274 : decode cX12_init 274 = .ok (.iconst 1, 1) := by decide +kernel
theorem dX12_init_275 : decode cX12_init 275 = .ok (.iastore, 1) := by decide +kernel
theorem dX12_init_276 : decode cX12_init 276 = .ok (.dup, 1) := by decide +kernel
theorem dX12_init_277 : decode cX12_init 277 = .ok (.iconst 2, 1) := by decide +kernel
theorem dX12_init_278 : decode cX12_init 278 = .ok (.iconst 3, 1) := by decide +kernel
theorem dX12_init_279 : decode cX12_init 279 = .ok (.iastore, 1) := by decide +kernel
theorem dX12_init_280 : decode cX12_init 280 = .ok (.dup, 1) := by decide +kernel
theorem dX12_init_281 : decode cX12_init 281 = .ok (.iconst 3, 1) := by decide +kernel
theorem dX12_init_282 : decode cX12_init 282 = .ok (.bipush 6, 2) := by decide +kernel
theorem dX12_init_284 : decode cX12_init 284 = .ok (.iastore, 1) := by decide +kernel
theorem dX12_init_285 : decode cX12_init 285 = .ok (.dup, 1) := by decide +kernel
theorem dX12_init_286 : decode cX12_init 286 = .ok (.iconst 4, 1) := by decide +kernel
theorem dX12_init_287 : decode cX12_init 287 = .ok (.bipush 12, 2) := by decide +kernel
theorem dX12_init_289 : decode cX12_init 289 = .ok (.iastore, 1) := by decide +kernel
theorem dX12_init_290 : decode cX12_init 290 = .ok (.dup, 1) := by decide +kernel
theorem dX12_init_291 : decode cX12_init 291 = .ok (.iconst 5, 1) := by decide +kernel
theorem dX12_init_292 : decode cX12_init 292 = .ok (.iconst 0, 1) := by decide +kernel
theorem dX12_init_293 : decode cX12_init 293 = .ok (.iastore, 1) := by decide +kernel
theorem dX12_init_294 : decode cX12_init 294 = .ok (.dup, 1) := by decide +kernel
theorem dX12_init_295 : decode cX12_init 295 = .ok (.bipush 6, 2) := by decide +kernel
theorem dX12_init_297 : decode cX12_init 297 = .ok (.iconst 0, 1) := by decide +kernel
theorem dX12_init_298 : decode cX12_init 298 = .ok (.iastore, 1) := by decide +kernel
theorem dX12_init_299 : decode cX12_init 299 = .ok (.dup, 1) := by decide +kernel
theorem dX12_init_300 : decode cX12_init 300 = .ok (.bipush 7, 2) := by decide +kernel
theorem dX12_init_302 : decode cX12_init 302 = .ok (.iconst 0, 1) := by decide +kernel
theorem dX12_init_303 : decode cX12_init 303 = .ok (.iastore, 1) := by decide +kernel
theorem dX12_init_304 : decode cX12_init 304 = .ok (.putfield 22, 3) := by decide +kernel
theorem dX12_init_307 : decode cX12_init 307 = .ok (.aload_n 0, 1) := by decide +kernel
theorem dX12_init_308 : decode cX12_init 308 = .ok (.bipush 100, 2) := by decide +kernel
theorem dX12_init_310 : decode cX12_init 310 = .ok (.newarray .int, 2) := by decide +kernel
theorem dX12_init_312 : decode cX12_init 312 = .ok (.putfield 25, 3) := by decide +kernel
theorem dX12_init_315 : decode cX12_init 315 = .ok (.aload_n 0, 1) := by decide +kernel
theorem dX12_init_316 : decode cX12_init 316 = .ok (.bipush 78, 2) := by decide +kernel
theorem dX12_init_318 : decode cX12_init 318 = .ok (.newarray .int, 2) := by decide +kernel
theorem dX12_init_320 : decode cX12_init 320 = .ok (.putfield 28, 3) := by decide +kernel
theorem dX12_init_323 : decode cX12_init 323 = .ok (.aload_n 0, 1) := by decide +kernel
theorem dX12_init_324 : decode cX12_init 324 = .ok (.bipush 12, 2) := by decide +kernel
theorem dX12_init_326 : decode cX12_init 326 = .ok (.newarray .int, 2) := by decide +kernel
theorem dX12_init_328 : decode cX12_init 328 = .ok (.putfield 31, 3) := by decide +kernel
theorem dX12_init_331 : decode cX12_init 331 = .ok (.aload_n 0, 1) := by decide +kernel
theorem dX12_init_332 : decode cX12_init 332 = .ok (.bipush 8, 2) := by decide +kernel
theorem dX12_init_334 : decode cX12_init 334 = .ok (.newarray .int, 2) := by decide +kernel
theorem dX12_init_336 : decode cX12_init 336 = .ok (.putfield 34, 3) := by decide +kernel
theorem dX12_init_339 : decode cX12_init 339 = .ok (.aload_n 0, 1) := by decide +kernel
theorem dX12_init_340 : decode cX12_init 340 = .ok (.bipush 25, 2) := by decide +kernel
theorem dX12_init_342 : decode cX12_init 342 = .ok (.newarray .int, 2) := by decide +kernel
theorem dX12_init_344 : decode cX12_init 344 = .ok (.putfield 37, 3) := by decide +kernel
theorem dX12_init_347 : decode cX12_init 347 = .ok (.aload_n 0, 1) := by decide +kernel
theorem dX12_init_348 : decode cX12_init 348 = .ok (.bipush 100, 2) := by decide +kernel
theorem dX12_init_350 : decode cX12_init 350 = .ok (.newarray .int, 2) := by decide +kernel
theorem dX12_init_352 : decode cX12_init 352 = .ok (.putfield 40, 3) := by decide +kernel
theorem dX12_init_355 : decode cX12_init 355 = .ok (.aload_n 0, 1) := by decide +kernel
theorem dX12_init_356 : decode cX12_init 356 = .ok (.bipush 78, 2) := by decide +kernel
theorem dX12_init_358 : decode cX12_init 358 = .ok (.newarray .int, 2) := by decide +kernel
theorem dX12_init_360 : decode cX12_init 360 = .ok (.putfield 43, 3) := by decide +kernel
theorem dX12_init_363 : decode cX12_init 363 = .ok (.aload_n 0, 1) := by decide +kernel
theorem dX12_init_364 : decode cX12_init 364 = .ok (.bipush 12, 2) := by decide +kernel
theorem dX12_init_366 : decode cX12_init 366 = .ok (.newarray .int, 2) := by decide +kernel
theorem dX12_init_368 : decode cX12_init 368 = .ok (.putfield 46, 3) := by decide +kernel
theorem dX12_init_371 : decode cX12_init 371 = .ok (.aload_n 0, 1) := by decide +kernel
theorem dX12_init_372 : decode cX12_init 372 = .ok (.sipush 192, 3) := by decide +kernel
theorem dX12_init_375 : decode cX12_init 375 = .ok (.newarray .int, 2) := by decide +kernel
theorem dX12_init_377 : decode cX12_init 377 = .ok (.putfield 49, 3) := by decide +kernel
theorem dX12_init_380 : decode cX12_init 380 = .ok (.aload_n 0, 1) := by decide +kernel
theorem dX12_init_381 : decode cX12_init 381 = .ok (.bipush 7, 2) := by decide +kernel
theorem dX12_init_383 : decode cX12_init 383 = .ok (.newarray .int, 2) := by decide +kernel
theorem dX12_init_385 : decode cX12_init 385 = .ok (.putfield 52, 3) := by decide +kernel
theorem dX12_init_388 : decode cX12_init 388 = .ok (.aload_n 0, 1) := by decide +kernel
theorem dX12_init_389 : decode cX12_init 389 = .ok (.bipush 26, 2) := by decide +kernel
theorem dX12_init_391 : decode cX12_init 391 = .ok (.newarray .int, 2) := by decide +kernel
theorem dX12_init_393 : decode cX12_init 393 = .ok (.putfield 55, 3) := by decide +kernel
theorem dX12_init_396 : decode cX12_init 396 = .ok (.aload_n 0, 1) := by decide +kernel
theorem dX12_init_397 : decode cX12_init 397 = .ok (.bipush 25, 2) := by decide +kernel
theorem dX12_init_399 : decode cX12_init 399 = .ok (.newarray .int, 2) := by decide +kernel
theorem dX12_init_401 : decode cX12_init 401 = .ok (.putfield 58, 3) := by decide +kernel
theorem dX12_init_404 : decode cX12_init 404 = .ok (.aload_n 0, 1) := by decide +kernel
theorem dX12_init_405 : decode cX12_init 405 = .ok (.bipush 6, 2) := by decide +kernel
theorem dX12_init_407 : decode cX12_init 407 = .ok (.newarray .int, 2) := by decide +kernel
theorem dX12_init_409 : decode cX12_init 409 = .ok (.putfield 61, 3) := by decide +kernel
theorem dX12_init_412 : decode cX12_init 412 = .ok (.aload_n 0, 1) := by decide +kernel
theorem dX12_init_413 : decode cX12_init 413 = .ok (.bipush 7, 2) := by decide +kernel
theorem dX12_init_415 : decode cX12_init 415 = .ok (.newarray .long, 2) := by decide +kernel
theorem dX12_init_417 : decode cX12_init 417 = .ok (.putfield 64, 3) := by decide +kernel
theorem dX12_init_420 : decode cX12_init 420 = .ok (.aload_n 0, 1) := by decide +kernel
theorem dX12_init_421 : decode cX12_init 421 = .ok (.bipush 7, 2) := by decide +kernel
theorem dX12_init_423 : decode cX12_init 423 = .ok (.newarray .long, 2) := by decide +kernel
theorem dX12_init_425 : decode cX12_init 425 = .ok (.putfield 68, 3) := by decide +kernel
theorem dX12_init_428 : decode cX12_init 428 = .ok (.aload_n 0, 1) := by decide +kernel
theorem dX12_init_429 : decode cX12_init 429 = .ok (.iconst 2, 1) := by decide +kernel
theorem dX12_init_430 : decode cX12_init 430 = .ok (.newarray .boolean, 2) := by decide +kernel
theorem dX12_init_432 : decode cX12_init 432 = .ok (.putfield 71, 3) := by decide +kernel
theorem dX12_init_435 : decode cX12_init 435 = .ok (.aload_n 0, 1) := by decide +kernel
theorem dX12_init_436 : decode cX12_init 436 = .ok (.iconst 4, 1) := by decide +kernel
theorem dX12_init_437 : decode cX12_init 437 = .ok (.newarray .int, 2) := by decide +kernel
theorem dX12_init_439 : decode cX12_init 439 = .ok (.dup, 1) := by decide +kernel
theorem dX12_init_440 : decode cX12_init 440 = .ok (.iconst 0, 1) := by decide +kernel
theorem dX12_init_441 : decode cX12_init 441 = .ok (.bipush (-4), 2) := by decide +kernel
theorem dX12_init_443 : decode cX12_init 443 = .ok (.iastore, 1) := by decide +kernel
theorem dX12_init_444 : decode cX12_init 444 = .ok (.dup, 1) := by decide +kernel
theorem dX12_init_445 : decode cX12_init 445 = .ok (.iconst 1, 1) := by decide +kernel
theorem dX12_init_446 : decode cX12_init 446 = .ok (.bipush (-4), 2) := by decide +kernel
theorem dX12_init_448 : decode cX12_init 448 = .ok (.iastore, 1) := by decide +kernel
theorem dX12_init_449 : decode cX12_init 449 = .ok (.dup, 1) := by decide +kernel
theorem dX12_init_450 : decode cX12_init 450 = .ok (.iconst 2, 1) := by decide +kernel
theorem dX12_init_451 : decode cX12_init 451 = .ok (.bipush (-4), 2) := by decide +kernel
theorem dX12_init_453 : decode cX12_init 453 = .ok (.iastore, 1) := by decide +kernel
theorem dX12_init_454 : decode cX12_init 454 = .ok (.dup, 1) := by decide +kernel
theorem dX12_init_455 : decode cX12_init 455 = .ok (.iconst 3, 1) := by decide +kernel
theorem dX12_init_456 : decode cX12_init 456 = .ok (.bipush (-4), 2) := by decide +kernel
theorem dX12_init_458 : decode cX12_init 458 = .ok (.iastore, 1) := by decide +kernel
theorem dX12_init_459 : decode cX12_init 459 = .ok (.putfield 75, 3) := by decide +kernel
theorem dX12_init_462 : decode cX12_init 462 = .ok (.aload_n 0, 1) := by decide +kernel
theorem dX12_init_463 : decode cX12_init 463 = .ok (.iconst 4, 1) := by decide +kernel
theorem dX12_init_464 : decode cX12_init 464 = .ok (.newarray .int, 2) := by decide +kernel
theorem dX12_init_466 : decode cX12_init 466 = .ok (.putfield 78, 3) := by decide +kernel
theorem dX12_init_469 : decode cX12_init 469 = .ok (.aload_n 0, 1) := by decide +kernel
theorem dX12_init_470 : decode cX12_init 470 = .ok (.sipush 160, 3) := by decide +kernel
theorem dX12_init_473 : decode cX12_init 473 = .ok (.newarray .int, 2) := by decide +kernel
theorem dX12_init_475 : decode cX12_init 475 = .ok (.putfield 81, 3) := by decide +kernel
theorem dX12_init_478 : decode cX12_init 478 = .ok (.return_, 1) := by decide +kernel
theorem dX12_in_0 : decode cX12_in 0 = .ok (.lload_n 0, 1) := by decide +kernel
theorem dX12_in_1 : decode cX12_in 1 = .ok (.lload_n 2, 1) := by decide +kernel
theorem dX12_in_2 : decode cX12_in 2 = .ok (.lcmp, 1) := by decide +kernel
theorem dX12_in_3 : decode cX12_in 3 = .ok (.ifCond .lt 14, 3) := by decide +kernel
theorem dX12_in_6 : decode cX12_in 6 = .ok (.lload_n 0, 1) := by decide +kernel
theorem dX12_in_7 : decode cX12_in 7 = .ok (.lload 4, 2) := by decide +kernel
theorem dX12_in_9 : decode cX12_in 9 = .ok (.lcmp, 1) := by decide +kernel
theorem dX12_in_10 : decode cX12_in 10 = .ok (.ifCond .gt 7, 3) := by decide +kernel
theorem dX12_in_13 : decode cX12_in 13 = .ok (.iconst 1, 1) := by decide +kernel
theorem dX12_in_14 : decode cX12_in 14 = .ok (.goto 4, 3) := by decide +kernel
theorem dX12_in_17 : decode cX12_in 17 = .ok (.iconst 0, 1) := by decide +kernel
theorem dX12_in_18 : decode cX12_in 18 = .ok (.ireturn, 1) := by decide +kernel
theorem dX12_feed_0 : decode cX12_feed 0 = .ok (.aload_n 0, 1) := by decide +kernel
theorem dX12_feed_1 : decode cX12_feed 1 = .ok (.getfield 84, 3) := by decide +kernel
theorem dX12_feed_4 : decode cX12_feed 4 = .ok (.bipush 8, 2) := by decide +kernel
theorem dX12_feed_6 : decode cX12_feed 6 = .ok (.iadd, 1) := by decide +kernel
theorem dX12_feed_7 : decode cX12_feed 7 = .ok (.sipush 320, 3) := by decide +kernel
theorem dX12_feed_10 : decode cX12_feed 10 = .ok (.if_icmp .le 6, 3) := by decide +kernel
theorem dX12_feed_13 : decode cX12_feed 13 = .ok (.bipush (-3), 2) := by decide +kernel
theorem dX12_feed_15 : decode cX12_feed 15 = .ok (.ireturn, 1) := by decide +kernel
theorem dX12_feed_16 : decode cX12_feed 16 = .ok (.bipush 56, 2) := by decide +kernel
theorem dX12_feed_18 : decode cX12_feed 18 = .ok (.istore_n 3, 1) := by decide +kernel
theorem dX12_feed_19 : decode cX12_feed 19 = .ok (.iload_n 3, 1) := by decide +kernel
theorem dX12_feed_20 : decode cX12_feed 20 = .ok (.ifCond .lt 36, 3) := by decide +kernel
theorem dX12_feed_23 : decode cX12_feed 23 = .ok (.aload_n 0, 1) := by decide +kernel
theorem dX12_feed_24 : decode cX12_feed 24 = .ok (.getfield 7, 3) := by decide +kernel
theorem dX12_feed_27 : decode cX12_feed 27 = .ok (.aload_n 0, 1) := by decide +kernel
theorem dX12_feed_28 : decode cX12_feed 28 = .ok (.getfield 84, 3) := by decide +kernel
theorem dX12_feed_31 : decode cX12_feed 31 = .ok (.lload_n 1, 1) := by decide +kernel
theorem dX12_feed_32 : decode cX12_feed 32 = .ok (.iload_n 3, 1) := by decide +kernel
theorem dX12_feed_33 : decode cX12_feed 33 = .ok (.lshr, 1) := by decide +kernel
theorem dX12_feed_34 : decode cX12_feed 34 = .ok (.l2i, 1) := by decide +kernel
theorem dX12_feed_35 : decode cX12_feed 35 = .ok (.sipush 255, 3) := by decide +kernel
theorem dX12_feed_38 : decode cX12_feed 38 = .ok (.iand, 1) := by decide +kernel
theorem dX12_feed_39 : decode cX12_feed 39 = .ok (.iastore, 1) := by decide +kernel
theorem dX12_feed_40 : decode cX12_feed 40 = .ok (.aload_n 0, 1) := by decide +kernel
theorem dX12_feed_41 : decode cX12_feed 41 = .ok (.dup, 1) := by decide +kernel
theorem dX12_feed_42 : decode cX12_feed 42 = .ok (.getfield 84, 3) := by decide +kernel
theorem dX12_feed_45 : decode cX12_feed 45 = .ok (.iconst 1, 1) := by decide +kernel
theorem dX12_feed_46 : decode cX12_feed 46 = .ok (.iadd, 1) := by decide +kernel
theorem dX12_feed_47 : decode cX12_feed 47 = .ok (.putfield 84, 3) := by decide +kernel
theorem dX12_feed_50 : decode cX12_feed 50 = .ok (.iinc 3 (-8), 3) := by decide +kernel
theorem dX12_feed_53 : decode cX12_feed 53 = .ok (.goto (-34), 3) := by decide +kernel
theorem dX12_feed_56 : decode cX12_feed 56 = .ok (.aload_n 0, 1) := by decide +kernel
theorem dX12_feed_57 : decode cX12_feed 57 = .ok (.getfield 84, 3) := by decide +kernel
theorem dX12_feed_60 : decode cX12_feed 60 = .ok (.ireturn, 1) := by decide +kernel
theorem dX12_end_0 : decode cX12_end 0 = .ok (.iload_n 1, 1) := by decide +kernel
theorem dX12_end_1 : decode cX12_end 1 = .ok (.i2l, 1) := by decide +kernel
theorem dX12_end_2 : decode cX12_end 2 = .ok (.lconst 0, 1) := by decide +kernel
theorem dX12_end_3 : decode cX12_end 3 = .ok (.aload_n 0, 1) := by decide +kernel
theorem dX12_end_4 : decode cX12_end 4 = .ok (.getfield 84, 3) := by decide +kernel
theorem dX12_end_7 : decode cX12_end 7 = .ok (.i2l, 1) := by decide +kernel
theorem dX12_end_8 : decode cX12_end 8 = .ok (.invokestatic 88, 3) := by decide +kernel
theorem dX12_end_11 : decode cX12_end 11 = .ok (.ifCond .ne 5, 3) := by decide +kernel
theorem dX12_end_14 : decode cX12_end 14 = .ok (.iconst (-1), 1) := by decide +kernel
theorem dX12_end_15 : decode cX12_end 15 = .ok (.ireturn, 1) := by decide +kernel
theorem dX12_end_16 : decode cX12_end 16 = .ok (.aload_n 0, 1) := by decide +kernel
theorem dX12_end_17 : decode cX12_end 17 = .ok (.getfield 84, 3) := by decide +kernel
theorem dX12_end_20 : decode cX12_end 20 = .ok (.istore_n 2, 1) := by decide +kernel
theorem dX12_end_21 : decode cX12_end 21 = .ok (.aload_n 0, 1) := by decide +kernel
theorem dX12_end_22 : decode cX12_end 22 = .ok (.iload_n 1, 1) := by decide +kernel
theorem dX12_end_23 : decode cX12_end 23 = .ok (.putfield 84, 3) := by decide +kernel
theorem dX12_end_26 : decode cX12_end 26 = .ok (.iload_n 2, 1) := by decide +kernel
theorem dX12_end_27 : decode cX12_end 27 = .ok (.ireturn, 1) := by decide +kernel
theorem dX12_byteAt_0 : decode cX12_byteAt 0 = .ok (.iload_n 1, 1) := by decide +kernel
theorem dX12_byteAt_1 : decode cX12_byteAt 1 = .ok (.aload_n 0, 1) := by decide +kernel
theorem dX12_byteAt_2 : decode cX12_byteAt 2 = .ok (.getfield 84, 3) := by decide +kernel
theorem dX12_byteAt_5 : decode cX12_byteAt 5 = .ok (.if_icmp .ge 12, 3) := by decide +kernel
theorem dX12_byteAt_8 : decode cX12_byteAt 8 = .ok (.aload_n 0, 1) := by decide +kernel
theorem dX12_byteAt_9 : decode cX12_byteAt 9 = .ok (.getfield 7, 3) := by decide +kernel
theorem dX12_byteAt_12 : decode cX12_byteAt 12 = .ok (.iload_n 1, 1) := by decide +kernel
theorem dX12_byteAt_13 : decode cX12_byteAt 13 = .ok (.iaload, 1) := by decide +kernel
theorem dX12_byteAt_14 : decode cX12_byteAt 14 = .ok (.goto 5, 3) := by decide +kernel
theorem dX12_byteAt_17 : decode cX12_byteAt 17 = .ok (.bipush (-4), 2) := by decide +kernel
theorem dX12_byteAt_19 : decode cX12_byteAt 19 = .ok (.ireturn, 1) := by decide +kernel
theorem dX12_fails_0 : decode cX12_fails 0 = .ok (.aload_n 0, 1) := by decide +kernel
theorem dX12_fails_1 : decode cX12_fails 1 = .ok (.getfield 92, 3) := by decide +kernel
theorem dX12_fails_4 : decode cX12_fails 4 = .ok (.ifCond .ne 16, 3) := by decide +kernel
theorem dX12_fails_7 : decode cX12_fails 7 = .ok (.aload_n 0, 1) := by decide +kernel
theorem dX12_fails_8 : decode cX12_fails 8 = .ok (.iload_n 1, 1) := by decide +kernel
theorem dX12_fails_9 : decode cX12_fails 9 = .ok (.putfield 92, 3) := by decide +kernel
theorem dX12_fails_12 : decode cX12_fails 12 = .ok (.aload_n 0, 1) := by decide +kernel
theorem dX12_fails_13 : decode cX12_fails 13 = .ok (.aload_n 0, 1) := by decide +kernel
theorem dX12_fails_14 : decode cX12_fails 14 = .ok (.getfield 95, 3) := by decide +kernel
theorem dX12_fails_17 : decode cX12_fails 17 = .ok (.putfield 98, 3) := by decide +kernel
theorem dX12_fails_20 : decode cX12_fails 20 = .ok (.return_, 1) := by decide +kernel
theorem dX12_nameHere_0 : decode cX12_nameHere 0 = .ok (.iconst 0, 1) := by decide +kernel
theorem dX12_nameHere_1 : decode cX12_nameHere 1 = .ok (.istore_n 1, 1) := by decide +kernel
theorem dX12_nameHere_2 : decode cX12_nameHere 2 = .ok (.iload_n 1, 1) := by decide +kernel
theorem dX12_nameHere_3 : decode cX12_nameHere 3 = .ok (.bipush 6, 2) := by decide +kernel
theorem dX12_nameHere_5 : decode cX12_nameHere 5 = .ok (.if_icmp .ge 113, 3) := by decide +kernel
theorem dX12_nameHere_8 : decode cX12_nameHere 8 = .ok (.aload_n 0, 1) := by decide +kernel
theorem dX12_nameHere_9 : decode cX12_nameHere 9 = .ok (.getfield 101, 3) := by decide +kernel
theorem dX12_nameHere_12 : decode cX12_nameHere 12 = .ok (.iconst 1, 1) := by decide +kernel
theorem dX12_nameHere_13 : decode cX12_nameHere 13 = .ok (.if_icmp .ne 105, 3) := by decide +kernel
theorem dX12_nameHere_16 : decode cX12_nameHere 16 = .ok (.aload_n 0, 1) := by decide +kernel
theorem dX12_nameHere_17 : decode cX12_nameHere 17 = .ok (.getfield 104, 3) := by decide +kernel
theorem dX12_nameHere_20 : decode cX12_nameHere 20 = .ok (.aload_n 0, 1) := by decide +kernel
theorem dX12_nameHere_21 : decode cX12_nameHere 21 = .ok (.getfield 95, 3) := by decide +kernel
theorem dX12_nameHere_24 : decode cX12_nameHere 24 = .ok (.isub, 1) := by decide +kernel
theorem dX12_nameHere_25 : decode cX12_nameHere 25 = .ok (.aload_n 0, 1) := by decide +kernel
theorem dX12_nameHere_26 : decode cX12_nameHere 26 = .ok (.getfield 13, 3) := by decide +kernel
theorem dX12_nameHere_29 : decode cX12_nameHere 29 = .ok (.iload_n 1, 1) := by decide +kernel
theorem dX12_nameHere_30 : decode cX12_nameHere 30 = .ok (.iconst 1, 1) := by decide +kernel
theorem dX12_nameHere_31 : decode cX12_nameHere 31 = .ok (.iadd, 1) := by decide +kernel
theorem dX12_nameHere_32 : decode cX12_nameHere 32 = .ok (.iaload, 1) := by decide +kernel
theorem dX12_nameHere_33 : decode cX12_nameHere 33 = .ok (.aload_n 0, 1) := by decide +kernel
theorem dX12_nameHere_34 : decode cX12_nameHere 34 = .ok (.getfield 13, 3) := by decide +kernel
theorem dX12_nameHere_37 : decode cX12_nameHere 37 = .ok (.iload_n 1, 1) := by decide +kernel
theorem dX12_nameHere_38 : decode cX12_nameHere 38 = .ok (.iaload, 1) := by decide +kernel
theorem dX12_nameHere_39 : decode cX12_nameHere 39 = .ok (.isub, 1) := by decide +kernel
theorem dX12_nameHere_40 : decode cX12_nameHere 40 = .ok (.if_icmp .ne 7, 3) := by decide +kernel
theorem dX12_nameHere_43 : decode cX12_nameHere 43 = .ok (.iconst 1, 1) := by decide +kernel
theorem dX12_nameHere_44 : decode cX12_nameHere 44 = .ok (.goto 4, 3) := by decide +kernel
theorem dX12_nameHere_47 : decode cX12_nameHere 47 = .ok (.iconst 0, 1) := by decide +kernel
theorem dX12_nameHere_48 : decode cX12_nameHere 48 = .ok (.istore_n 2, 1) := by decide +kernel
theorem dX12_nameHere_49 : decode cX12_nameHere 49 = .ok (.iconst 0, 1) := by decide +kernel
theorem dX12_nameHere_50 : decode cX12_nameHere 50 = .ok (.istore_n 3, 1) := by decide +kernel
theorem dX12_nameHere_51 : decode cX12_nameHere 51 = .ok (.iload_n 2, 1) := by decide +kernel
theorem dX12_nameHere_52 : decode cX12_nameHere 52 = .ok (.ifCond .eq 54, 3) := by decide +kernel
theorem dX12_nameHere_55 : decode cX12_nameHere 55 = .ok (.iload_n 3, 1) := by decide +kernel
theorem dX12_nameHere_56 : decode cX12_nameHere 56 = .ok (.aload_n 0, 1) := by decide +kernel
theorem dX12_nameHere_57 : decode cX12_nameHere 57 = .ok (.getfield 104, 3) := by decide +kernel
theorem dX12_nameHere_60 : decode cX12_nameHere 60 = .ok (.aload_n 0, 1) := by decide +kernel
theorem dX12_nameHere_61 : decode cX12_nameHere 61 = .ok (.getfield 95, 3) := by decide +kernel
theorem dX12_nameHere_64 : decode cX12_nameHere 64 = .ok (.isub, 1) := by decide +kernel
theorem dX12_nameHere_65 : decode cX12_nameHere 65 = .ok (.if_icmp .ge 41, 3) := by decide +kernel
theorem dX12_nameHere_68 : decode cX12_nameHere 68 = .ok (.aload_n 0, 1) := by decide +kernel
theorem dX12_nameHere_69 : decode cX12_nameHere 69 = .ok (.aload_n 0, 1) := by decide +kernel
theorem dX12_nameHere_70 : decode cX12_nameHere 70 = .ok (.getfield 95, 3) := by decide +kernel
theorem dX12_nameHere_73 : decode cX12_nameHere 73 = .ok (.iload_n 3, 1) := by decide +kernel
theorem dX12_nameHere_74 : decode cX12_nameHere 74 = .ok (.iadd, 1) := by decide +kernel
theorem dX12_nameHere_75 : decode cX12_nameHere 75 = .ok (.invokevirtual 107, 3) := by decide +kernel
theorem dX12_nameHere_78 : decode cX12_nameHere 78 = .ok (.aload_n 0, 1) := by decide +kernel
theorem dX12_nameHere_79 : decode cX12_nameHere 79 = .ok (.getfield 16, 3) := by decide +kernel
theorem dX12_nameHere_82 : decode cX12_nameHere 82 = .ok (.aload_n 0, 1) := by decide +kernel
theorem dX12_nameHere_83 : decode cX12_nameHere 83 = .ok (.getfield 13, 3) := by decide +kernel
theorem dX12_nameHere_86 : decode cX12_nameHere 86 = .ok (.iload_n 1, 1) := by decide +kernel
theorem dX12_nameHere_87 : decode cX12_nameHere 87 = .ok (.iaload, 1) := by decide +kernel
theorem dX12_nameHere_88 : decode cX12_nameHere 88 = .ok (.iload_n 3, 1) := by decide +kernel
theorem dX12_nameHere_89 : decode cX12_nameHere 89 = .ok (.iadd, 1) := by decide +kernel
theorem dX12_nameHere_90 : decode cX12_nameHere 90 = .ok (.iaload, 1) := by decide +kernel
theorem dX12_nameHere_91 : decode cX12_nameHere 91 = .ok (.if_icmp .ne 7, 3) := by decide +kernel
theorem dX12_nameHere_94 : decode cX12_nameHere 94 = .ok (.iconst 1, 1) := by decide +kernel
theorem dX12_nameHere_95 : decode cX12_nameHere 95 = .ok (.goto 4, 3) := by decide +kernel
theorem dX12_nameHere_98 : decode cX12_nameHere 98 = .ok (.iconst 0, 1) := by decide +kernel
theorem dX12_nameHere_99 : decode cX12_nameHere 99 = .ok (.istore_n 2, 1) := by decide +kernel
theorem dX12_nameHere_100 : decode cX12_nameHere 100 = .ok (.iinc 3 1, 3) := by decide +kernel
theorem dX12_nameHere_103 : decode cX12_nameHere 103 = .ok (.goto (-52), 3) := by decide +kernel
theorem dX12_nameHere_106 : decode cX12_nameHere 106 = .ok (.iload_n 2, 1) := by decide +kernel
theorem dX12_nameHere_107 : decode cX12_nameHere 107 = .ok (.ifCond .eq 5, 3) := by decide +kernel
theorem dX12_nameHere_110 : decode cX12_nameHere 110 = .ok (.iload_n 1, 1) := by decide +kernel
theorem dX12_nameHere_111 : decode cX12_nameHere 111 = .ok (.ireturn, 1) := by decide +kernel
theorem dX12_nameHere_112 : decode cX12_nameHere 112 = .ok (.iinc 1 1, 3) := by decide +kernel
theorem dX12_nameHere_115 : decode cX12_nameHere 115 = .ok (.goto (-113), 3) := by decide +kernel
theorem dX12_nameHere_118 : decode cX12_nameHere 118 = .ok (.bipush (-4), 2) := by decide +kernel
theorem dX12_nameHere_120 : decode cX12_nameHere 120 = .ok (.ireturn, 1) := by decide +kernel
theorem dX12_next_0 : decode cX12_next 0 = .ok (.aload_n 0, 1) := by decide +kernel
theorem dX12_next_1 : decode cX12_next 1 = .ok (.getfield 92, 3) := by decide +kernel
theorem dX12_next_4 : decode cX12_next 4 = .ok (.ifCond .le 4, 3) := by decide +kernel
theorem dX12_next_7 : decode cX12_next 7 = .ok (.return_, 1) := by decide +kernel
theorem dX12_next_8 : decode cX12_next 8 = .ok (.aload_n 0, 1) := by decide +kernel
theorem dX12_next_9 : decode cX12_next 9 = .ok (.aload_n 0, 1) := by decide +kernel
theorem dX12_next_10 : decode cX12_next 10 = .ok (.getfield 104, 3) := by decide +kernel
theorem dX12_next_13 : decode cX12_next 13 = .ok (.invokevirtual 107, 3) := by decide +kernel
theorem dX12_next_16 : decode cX12_next 16 = .ok (.bipush 32, 2) := by decide +kernel
theorem dX12_next_18 : decode cX12_next 18 = .ok (.if_icmp .ne 16, 3) := by decide +kernel
theorem dX12_next_21 : decode cX12_next 21 = .ok (.aload_n 0, 1) := by decide +kernel
theorem dX12_next_22 : decode cX12_next 22 = .ok (.dup, 1) := by decide +kernel
theorem dX12_next_23 : decode cX12_next 23 = .ok (.getfield 104, 3) := by decide +kernel
theorem dX12_next_26 : decode cX12_next 26 = .ok (.iconst 1, 1) := by decide +kernel
theorem dX12_next_27 : decode cX12_next 27 = .ok (.iadd, 1) := by decide +kernel
theorem dX12_next_28 : decode cX12_next 28 = .ok (.putfield 104, 3) := by decide +kernel
theorem dX12_next_31 : decode cX12_next 31 = .ok (.goto (-23), 3) := by decide +kernel
theorem dX12_next_34 : decode cX12_next 34 = .ok (.aload_n 0, 1) := by decide +kernel
theorem dX12_next_35 : decode cX12_next 35 = .ok (.aload_n 0, 1) := by decide +kernel
theorem dX12_next_36 : decode cX12_next 36 = .ok (.getfield 104, 3) := by decide +kernel
theorem dX12_next_39 : decode cX12_next 39 = .ok (.putfield 95, 3) := by decide +kernel
theorem dX12_next_42 : decode cX12_next 42 = .ok (.aload_n 0, 1) := by decide +kernel
theorem dX12_next_43 : decode cX12_next 43 = .ok (.aload_n 0, 1) := by decide +kernel
theorem dX12_next_44 : decode cX12_next 44 = .ok (.getfield 104, 3) := by decide +kernel
theorem dX12_next_47 : decode cX12_next 47 = .ok (.invokevirtual 107, 3) := by decide +kernel
theorem dX12_next_50 : decode cX12_next 50 = .ok (.istore_n 1, 1) := by decide +kernel
theorem dX12_next_51 : decode cX12_next 51 = .ok (.aload_n 0, 1) := by decide +kernel
theorem dX12_next_52 : decode cX12_next 52 = .ok (.iconst 0, 1) := by decide +kernel
theorem dX12_next_53 : decode cX12_next 53 = .ok (.putfield 111, 3) := by decide +kernel
theorem dX12_next_56 : decode cX12_next 56 = .ok (.iload_n 1, 1) := by decide +kernel
theorem dX12_next_57 : decode cX12_next 57 = .ok (.bipush (-4), 2) := by decide +kernel
theorem dX12_next_59 : decode cX12_next 59 = .ok (.if_icmp .ne 11, 3) := by decide +kernel
theorem dX12_next_62 : decode cX12_next 62 = .ok (.aload_n 0, 1) := by decide +kernel
theorem dX12_next_63 : decode cX12_next 63 = .ok (.iconst 0, 1) := by decide +kernel
theorem dX12_next_64 : decode cX12_next 64 = .ok (.putfield 101, 3) := by decide +kernel
theorem dX12_next_67 : decode cX12_next 67 = .ok (.goto 202, 3) := by decide +kernel
theorem dX12_next_70 : decode cX12_next 70 = .ok (.iload_n 1, 1) := by decide +kernel
theorem dX12_next_71 : decode cX12_next 71 = .ok (.i2l, 1) := by decide +kernel
theorem dX12_next_72 : decode cX12_next 72 = .ok (.ldc2_w 114, 3) := by decide +kernel
theorem dX12_next_75 : decode cX12_next 75 = .ok (.ldc2_w 116, 3) := by decide +kernel
theorem dX12_next_78 : decode cX12_next 78 = .ok (.invokestatic 88, 3) := by decide +kernel
theorem dX12_next_81 : decode cX12_next 81 = .ok (.ifCond .eq 45, 3) := by decide +kernel
theorem dX12_next_84 : decode cX12_next 84 = .ok (.aload_n 0, 1) := by decide +kernel
theorem dX12_next_85 : decode cX12_next 85 = .ok (.aload_n 0, 1) := by decide +kernel
theorem dX12_next_86 : decode cX12_next 86 = .ok (.getfield 104, 3) := by decide +kernel
theorem dX12_next_89 : decode cX12_next 89 = .ok (.invokevirtual 107, 3) := by decide +kernel
theorem dX12_next_92 : decode cX12_next 92 = .ok (.i2l, 1) := by decide +kernel
theorem dX12_next_93 : decode cX12_next 93 = .ok (.ldc2_w 114, 3) := by decide +kernel
theorem dX12_next_96 : decode cX12_next 96 = .ok (.ldc2_w 116, 3) := by decide +kernel
theorem dX12_next_99 : decode cX12_next 99 = .ok (.invokestatic 88, 3) := by decide +kernel
theorem dX12_next_102 : decode cX12_next 102 = .ok (.ifCond .eq 16, 3) := by decide +kernel
theorem dX12_next_105 : decode cX12_next 105 = .ok (.aload_n 0, 1) := by decide +kernel
theorem dX12_next_106 : decode cX12_next 106 = .ok (.dup, 1) := by decide +kernel
theorem dX12_next_107 : decode cX12_next 107 = .ok (.getfield 104, 3) := by decide +kernel
theorem dX12_next_110 : decode cX12_next 110 = .ok (.iconst 1, 1) := by decide +kernel
theorem dX12_next_111 : decode cX12_next 111 = .ok (.iadd, 1) := by decide +kernel
theorem dX12_next_112 : decode cX12_next 112 = .ok (.putfield 104, 3) := by decide +kernel
theorem dX12_next_115 : decode cX12_next 115 = .ok (.goto (-31), 3) := by decide +kernel
theorem dX12_next_118 : decode cX12_next 118 = .ok (.aload_n 0, 1) := by decide +kernel
theorem dX12_next_119 : decode cX12_next 119 = .ok (.iconst 1, 1) := by decide +kernel
theorem dX12_next_120 : decode cX12_next 120 = .ok (.putfield 101, 3) := by decide +kernel
theorem dX12_next_123 : decode cX12_next 123 = .ok (.goto 146, 3) := by decide +kernel
theorem dX12_next_126 : decode cX12_next 126 = .ok (.iload_n 1, 1) := by decide +kernel
theorem dX12_next_127 : decode cX12_next 127 = .ok (.i2l, 1) := by decide +kernel
theorem dX12_next_128 : decode cX12_next 128 = .ok (.ldc2_w 118, 3) := by decide +kernel
theorem dX12_next_131 : decode cX12_next 131 = .ok (.ldc2_w 120, 3) := by decide +kernel
theorem dX12_next_134 : decode cX12_next 134 = .ok (.invokestatic 88, 3) := by decide +kernel
theorem dX12_next_137 : decode cX12_next 137 = .ok (.ifCond .eq 106, 3) := by decide +kernel
theorem dX12_next_140 : decode cX12_next 140 = .ok (.aload_n 0, 1) := by decide +kernel
theorem dX12_next_141 : decode cX12_next 141 = .ok (.aload_n 0, 1) := by decide +kernel
theorem dX12_next_142 : decode cX12_next 142 = .ok (.getfield 104, 3) := by decide +kernel
theorem dX12_next_145 : decode cX12_next 145 = .ok (.invokevirtual 107, 3) := by decide +kernel
theorem dX12_next_148 : decode cX12_next 148 = .ok (.i2l, 1) := by decide +kernel
theorem dX12_next_149 : decode cX12_next 149 = .ok (.ldc2_w 118, 3) := by decide +kernel
theorem dX12_next_152 : decode cX12_next 152 = .ok (.ldc2_w 120, 3) := by decide +kernel
theorem dX12_next_155 : decode cX12_next 155 = .ok (.invokestatic 88, 3) := by decide +kernel
theorem dX12_next_158 : decode cX12_next 158 = .ok (.ifCond .eq 59, 3) := by decide +kernel
theorem dX12_next_161 : decode cX12_next 161 = .ok (.aload_n 0, 1) := by decide +kernel
theorem dX12_next_162 : decode cX12_next 162 = .ok (.aload_n 0, 1) := by decide +kernel
theorem dX12_next_163 : decode cX12_next 163 = .ok (.getfield 104, 3) := by decide +kernel
theorem dX12_next_166 : decode cX12_next 166 = .ok (.aload_n 0, 1) := by decide +kernel
theorem dX12_next_167 : decode cX12_next 167 = .ok (.getfield 95, 3) := by decide +kernel
theorem dX12_next_170 : decode cX12_next 170 = .ok (.isub, 1) := by decide +kernel
theorem dX12_next_171 : decode cX12_next 171 = .ok (.iconst 3, 1) := by decide +kernel
theorem dX12_next_172 : decode cX12_next 172 = .ok (.if_icmp .ge 25, 3) := by decide +kernel
theorem dX12_next_175 : decode cX12_next 175 = .ok (.bipush 10, 2) := by decide +kernel
theorem dX12_next_177 : decode cX12_next 177 = .ok (.aload_n 0, 1) := by decide +kernel
theorem dX12_next_178 : decode cX12_next 178 = .ok (.getfield 111, 3) := by decide +kernel
theorem dX12_next_181 : decode cX12_next 181 = .ok (.imul, 1) := by decide +kernel
theorem dX12_next_182 : decode cX12_next 182 = .ok (.aload_n 0, 1) := by decide +kernel
theorem dX12_next_183 : decode cX12_next 183 = .ok (.aload_n 0, 1) := by decide +kernel
theorem dX12_next_184 : decode cX12_next 184 = .ok (.getfield 104, 3) := by decide +kernel
theorem dX12_next_187 : decode cX12_next 187 = .ok (.invokevirtual 107, 3) := by decide +kernel
theorem dX12_next_190 : decode cX12_next 190 = .ok (.iadd, 1) := by decide +kernel
theorem dX12_next_191 : decode cX12_next 191 = .ok (.bipush 48, 2) := by decide +kernel
theorem dX12_next_193 : decode cX12_next 193 = .ok (.isub, 1) := by decide +kernel
theorem dX12_next_194 : decode cX12_next 194 = .ok (.goto 7, 3) := by decide +kernel
theorem dX12_next_197 : decode cX12_next 197 = .ok (.aload_n 0, 1) := by decide +kernel
theorem dX12_next_198 : decode cX12_next 198 = .ok (.getfield 111, 3) := by decide +kernel
theorem dX12_next_201 : decode cX12_next 201 = .ok (.putfield 111, 3) := by decide +kernel
theorem dX12_next_204 : decode cX12_next 204 = .ok (.aload_n 0, 1) := by decide +kernel
theorem dX12_next_205 : decode cX12_next 205 = .ok (.dup, 1) := by decide +kernel
theorem dX12_next_206 : decode cX12_next 206 = .ok (.getfield 104, 3) := by decide +kernel
theorem dX12_next_209 : decode cX12_next 209 = .ok (.iconst 1, 1) := by decide +kernel
theorem dX12_next_210 : decode cX12_next 210 = .ok (.iadd, 1) := by decide +kernel
theorem dX12_next_211 : decode cX12_next 211 = .ok (.putfield 104, 3) := by decide +kernel
theorem dX12_next_214 : decode cX12_next 214 = .ok (.goto (-74), 3) := by decide +kernel
theorem dX12_next_217 : decode cX12_next 217 = .ok (.aload_n 0, 1) := by decide +kernel
theorem dX12_next_218 : decode cX12_next 218 = .ok (.iconst 2, 1) := by decide +kernel
theorem dX12_next_219 : decode cX12_next 219 = .ok (.putfield 101, 3) := by decide +kernel
theorem dX12_next_222 : decode cX12_next 222 = .ok (.aload_n 0, 1) := by decide +kernel
theorem dX12_next_223 : decode cX12_next 223 = .ok (.getfield 104, 3) := by decide +kernel
theorem dX12_next_226 : decode cX12_next 226 = .ok (.aload_n 0, 1) := by decide +kernel
theorem dX12_next_227 : decode cX12_next 227 = .ok (.getfield 95, 3) := by decide +kernel
theorem dX12_next_230 : decode cX12_next 230 = .ok (.isub, 1) := by decide +kernel
theorem dX12_next_231 : decode cX12_next 231 = .ok (.iconst 3, 1) := by decide +kernel
theorem dX12_next_232 : decode cX12_next 232 = .ok (.if_icmp .le 37, 3) := by decide +kernel
theorem dX12_next_235 : decode cX12_next 235 = .ok (.aload_n 0, 1) := by decide +kernel
theorem dX12_next_236 : decode cX12_next 236 = .ok (.iconst 1, 1) := by decide +kernel
theorem dX12_next_237 : decode cX12_next 237 = .ok (.invokevirtual 122, 3) := by decide +kernel
theorem dX12_next_240 : decode cX12_next 240 = .ok (.goto 29, 3) := by decide +kernel
theorem dX12_next_243 : decode cX12_next 243 = .ok (.aload_n 0, 1) := by decide +kernel
theorem dX12_next_244 : decode cX12_next 244 = .ok (.iconst 3, 1) := by decide +kernel
theorem dX12_next_245 : decode cX12_next 245 = .ok (.putfield 101, 3) := by decide +kernel
theorem dX12_next_248 : decode cX12_next 248 = .ok (.aload_n 0, 1) := by decide +kernel
theorem dX12_next_249 : decode cX12_next 249 = .ok (.dup, 1) := by decide +kernel
theorem dX12_next_250 : decode cX12_next 250 = .ok (.getfield 104, 3) := by decide +kernel
theorem dX12_next_253 : decode cX12_next 253 = .ok (.iconst 1, 1) := by decide +kernel
theorem dX12_next_254 : decode cX12_next 254 = .ok (.iadd, 1) := by decide +kernel
theorem dX12_next_255 : decode cX12_next 255 = .ok (.putfield 104, 3) := by decide +kernel
theorem dX12_next_258 : decode cX12_next 258 = .ok (.iload_n 1, 1) := by decide +kernel
theorem dX12_next_259 : decode cX12_next 259 = .ok (.bipush 59, 2) := by decide +kernel
theorem dX12_next_261 : decode cX12_next 261 = .ok (.if_icmp .eq 8, 3) := by decide +kernel
theorem dX12_next_264 : decode cX12_next 264 = .ok (.aload_n 0, 1) := by decide +kernel
theorem dX12_next_265 : decode cX12_next 265 = .ok (.iconst 1, 1) := by decide +kernel
theorem dX12_next_266 : decode cX12_next 266 = .ok (.invokevirtual 122, 3) := by decide +kernel
theorem dX12_next_269 : decode cX12_next 269 = .ok (.return_, 1) := by decide +kernel
theorem dX12_number_0 : decode cX12_number 0 = .ok (.aload_n 0, 1) := by decide +kernel
theorem dX12_number_1 : decode cX12_number 1 = .ok (.getfield 92, 3) := by decide +kernel
theorem dX12_number_4 : decode cX12_number 4 = .ok (.ifCond .ne 16, 3) := by decide +kernel
theorem dX12_number_7 : decode cX12_number 7 = .ok (.aload_n 0, 1) := by decide +kernel
theorem dX12_number_8 : decode cX12_number 8 = .ok (.getfield 101, 3) := by decide +kernel
theorem dX12_number_11 : decode cX12_number 11 = .ok (.iconst 2, 1) := by decide +kernel
theorem dX12_number_12 : decode cX12_number 12 = .ok (.if_icmp .eq 8, 3) := by decide +kernel
theorem dX12_number_15 : decode cX12_number 15 = .ok (.aload_n 0, 1) := by decide +kernel
theorem dX12_number_16 : decode cX12_number 16 = .ok (.iconst 2, 1) := by decide +kernel
theorem dX12_number_17 : decode cX12_number 17 = .ok (.invokevirtual 122, 3) := by decide +kernel
theorem dX12_number_20 : decode cX12_number 20 = .ok (.aload_n 0, 1) := by decide +kernel
theorem dX12_number_21 : decode cX12_number 21 = .ok (.getfield 92, 3) := by decide +kernel
theorem dX12_number_24 : decode cX12_number 24 = .ok (.ifCond .ne 23, 3) := by decide +kernel
theorem dX12_number_27 : decode cX12_number 27 = .ok (.aload_n 0, 1) := by decide +kernel
theorem dX12_number_28 : decode cX12_number 28 = .ok (.getfield 111, 3) := by decide +kernel
theorem dX12_number_31 : decode cX12_number 31 = .ok (.i2l, 1) := by decide +kernel
theorem dX12_number_32 : decode cX12_number 32 = .ok (.iload_n 1, 1) := by decide +kernel
theorem dX12_number_33 : decode cX12_number 33 = .ok (.i2l, 1) := by decide +kernel
theorem dX12_number_34 : decode cX12_number 34 = .ok (.iload_n 2, 1) := by decide +kernel
theorem dX12_number_35 : decode cX12_number 35 = .ok (.i2l, 1) := by decide +kernel
theorem dX12_number_36 : decode cX12_number 36 = .ok (.invokestatic 88, 3) := by decide +kernel
theorem dX12_number_39 : decode cX12_number 39 = .ok (.ifCond .ne 8, 3) := by decide +kernel
theorem dX12_number_42 : decode cX12_number 42 = .ok (.aload_n 0, 1) := by decide +kernel
theorem dX12_number_43 : decode cX12_number 43 = .ok (.iconst 3, 1) := by decide +kernel
theorem dX12_number_44 : decode cX12_number 44 = .ok (.invokevirtual 122, 3) := by decide +kernel
theorem dX12_number_47 : decode cX12_number 47 = .ok (.aload_n 0, 1) := by decide +kernel
theorem dX12_number_48 : decode cX12_number 48 = .ok (.getfield 92, 3) := by decide +kernel
theorem dX12_number_51 : decode cX12_number 51 = .ok (.ifCond .ne 10, 3) := by decide +kernel
theorem dX12_number_54 : decode cX12_number 54 = .ok (.aload_n 0, 1) := by decide +kernel
theorem dX12_number_55 : decode cX12_number 55 = .ok (.getfield 111, 3) := by decide +kernel
theorem dX12_number_58 : decode cX12_number 58 = .ok (.goto 4, 3) := by decide +kernel
theorem dX12_number_61 : decode cX12_number 61 = .ok (.iload_n 1, 1) := by decide +kernel
theorem dX12_number_62 : decode cX12_number 62 = .ok (.istore_n 3, 1) := by decide +kernel
theorem dX12_number_63 : decode cX12_number 63 = .ok (.aload_n 0, 1) := by decide +kernel
theorem dX12_number_64 : decode cX12_number 64 = .ok (.invokevirtual 126, 3) := by decide +kernel
theorem dX12_number_67 : decode cX12_number 67 = .ok (.iload_n 3, 1) := by decide +kernel
theorem dX12_number_68 : decode cX12_number 68 = .ok (.ireturn, 1) := by decide +kernel
theorem dX12_takeName_0 : decode cX12_takeName 0 = .ok (.aload_n 0, 1) := by decide +kernel
theorem dX12_takeName_1 : decode cX12_takeName 1 = .ok (.getfield 92, 3) := by decide +kernel
theorem dX12_takeName_4 : decode cX12_takeName 4 = .ok (.ifCond .ne 16, 3) := by decide +kernel
theorem dX12_takeName_7 : decode cX12_takeName 7 = .ok (.aload_n 0, 1) := by decide +kernel
theorem dX12_takeName_8 : decode cX12_takeName 8 = .ok (.getfield 101, 3) := by decide +kernel
theorem dX12_takeName_11 : decode cX12_takeName 11 = .ok (.iconst 1, 1) := by decide +kernel
theorem dX12_takeName_12 : decode cX12_takeName 12 = .ok (.if_icmp .eq 8, 3) := by decide +kernel
theorem dX12_takeName_15 : decode cX12_takeName 15 = .ok (.aload_n 0, 1) := by decide +kernel
theorem dX12_takeName_16 : decode cX12_takeName 16 = .ok (.iconst 2, 1) := by decide +kernel
theorem dX12_takeName_17 : decode cX12_takeName 17 = .ok (.invokevirtual 122, 3) := by decide +kernel
theorem dX12_takeName_20 : decode cX12_takeName 20 = .ok (.aload_n 0, 1) := by decide +kernel
theorem dX12_takeName_21 : decode cX12_takeName 21 = .ok (.getfield 104, 3) := by decide +kernel
theorem dX12_takeName_24 : decode cX12_takeName 24 = .ok (.aload_n 0, 1) := by decide +kernel
theorem dX12_takeName_25 : decode cX12_takeName 25 = .ok (.getfield 95, 3) := by decide +kernel
theorem dX12_takeName_28 : decode cX12_takeName 28 = .ok (.isub, 1) := by decide +kernel
theorem dX12_takeName_29 : decode cX12_takeName 29 = .ok (.istore 5, 2) := by decide +kernel
theorem dX12_takeName_31 : decode cX12_takeName 31 = .ok (.aload_n 0, 1) := by decide +kernel
theorem dX12_takeName_32 : decode cX12_takeName 32 = .ok (.getfield 92, 3) := by decide +kernel
theorem dX12_takeName_35 : decode cX12_takeName 35 = .ok (.ifCond .ne 22, 3) := by decide +kernel
theorem dX12_takeName_38 : decode cX12_takeName 38 = .ok (.iload 5, 2) := by decide +kernel
theorem dX12_takeName_40 : decode cX12_takeName 40 = .ok (.i2l, 1) := by decide +kernel
theorem dX12_takeName_41 : decode cX12_takeName 41 = .ok (.iload_n 3, 1) := by decide +kernel
theorem dX12_takeName_42 : decode cX12_takeName 42 = .ok (.i2l, 1) := by decide +kernel
theorem dX12_takeName_43 : decode cX12_takeName 43 = .ok (.iload 4, 2) := by decide +kernel
theorem dX12_takeName_45 : decode cX12_takeName 45 = .ok (.i2l, 1) := by decide +kernel
theorem dX12_takeName_46 : decode cX12_takeName 46 = .ok (.invokestatic 88, 3) := by decide +kernel
theorem dX12_takeName_49 : decode cX12_takeName 49 = .ok (.ifCond .ne 8, 3) := by decide +kernel
theorem dX12_takeName_52 : decode cX12_takeName 52 = .ok (.aload_n 0, 1) := by decide +kernel
theorem dX12_takeName_53 : decode cX12_takeName 53 = .ok (.iconst 3, 1) := by decide +kernel
theorem dX12_takeName_54 : decode cX12_takeName 54 = .ok (.invokevirtual 122, 3) := by decide +kernel
theorem dX12_takeName_57 : decode cX12_takeName 57 = .ok (.iconst 0, 1) := by decide +kernel
theorem dX12_takeName_58 : decode cX12_takeName 58 = .ok (.istore 6, 2) := by decide +kernel
theorem dX12_takeName_60 : decode cX12_takeName 60 = .ok (.iload 6, 2) := by decide +kernel
theorem dX12_takeName_62 : decode cX12_takeName 62 = .ok (.iload 5, 2) := by decide +kernel
theorem dX12_takeName_64 : decode cX12_takeName 64 = .ok (.if_icmp .ge 36, 3) := by decide +kernel
theorem dX12_takeName_67 : decode cX12_takeName 67 = .ok (.aload_n 0, 1) := by decide +kernel
theorem dX12_takeName_68 : decode cX12_takeName 68 = .ok (.getfield 92, 3) := by decide +kernel
theorem dX12_takeName_71 : decode cX12_takeName 71 = .ok (.ifCond .ne 29, 3) := by decide +kernel
theorem dX12_takeName_74 : decode cX12_takeName 74 = .ok (.aload_n 1, 1) := by decide +kernel
theorem dX12_takeName_75 : decode cX12_takeName 75 = .ok (.iload_n 2, 1) := by decide +kernel
theorem dX12_takeName_76 : decode cX12_takeName 76 = .ok (.iload 6, 2) := by decide +kernel
theorem dX12_takeName_78 : decode cX12_takeName 78 = .ok (.iadd, 1) := by decide +kernel
theorem dX12_takeName_79 : decode cX12_takeName 79 = .ok (.aload_n 0, 1) := by decide +kernel
theorem dX12_takeName_80 : decode cX12_takeName 80 = .ok (.aload_n 0, 1) := by decide +kernel
theorem dX12_takeName_81 : decode cX12_takeName 81 = .ok (.getfield 95, 3) := by decide +kernel
theorem dX12_takeName_84 : decode cX12_takeName 84 = .ok (.iload 6, 2) := by decide +kernel
theorem dX12_takeName_86 : decode cX12_takeName 86 = .ok (.iadd, 1) := by decide +kernel
theorem dX12_takeName_87 : decode cX12_takeName 87 = .ok (.invokevirtual 107, 3) := by decide +kernel
theorem dX12_takeName_90 : decode cX12_takeName 90 = .ok (.bipush 97, 2) := by decide +kernel
theorem dX12_takeName_92 : decode cX12_takeName 92 = .ok (.isub, 1) := by decide +kernel
theorem dX12_takeName_93 : decode cX12_takeName 93 = .ok (.iastore, 1) := by decide +kernel
theorem dX12_takeName_94 : decode cX12_takeName 94 = .ok (.iinc 6 1, 3) := by decide +kernel
theorem dX12_takeName_97 : decode cX12_takeName 97 = .ok (.goto (-37), 3) := by decide +kernel
theorem dX12_takeName_100 : decode cX12_takeName 100 = .ok (.iload 5, 2) := by decide +kernel
theorem dX12_takeName_102 : decode cX12_takeName 102 = .ok (.ireturn, 1) := by decide +kernel
theorem dX12_takeTable_0 : decode cX12_takeTable 0 = .ok (.aload_n 0, 1) := by decide +kernel
theorem dX12_takeTable_1 : decode cX12_takeTable 1 = .ok (.aload_n 0, 1) := by decide +kernel
theorem dX12_takeTable_2 : decode cX12_takeTable 2 = .ok (.getfield 37, 3) := by decide +kernel
theorem dX12_takeTable_5 : decode cX12_takeTable 5 = .ok (.iconst 0, 1) := by decide +kernel
theorem dX12_takeTable_6 : decode cX12_takeTable 6 = .ok (.bipush 25, 2) := by decide +kernel
theorem dX12_takeTable_8 : decode cX12_takeTable 8 = .ok (.bipush 25, 2) := by decide +kernel
theorem dX12_takeTable_10 : decode cX12_takeTable 10 = .ok (.invokevirtual 129, 3) := by decide +kernel
theorem dX12_takeTable_13 : decode cX12_takeTable 13 = .ok (.pop, 1) := by decide +kernel
theorem dX12_takeTable_14 : decode cX12_takeTable 14 = .ok (.iconst 0, 1) := by decide +kernel
theorem dX12_takeTable_15 : decode cX12_takeTable 15 = .ok (.istore_n 1, 1) := by decide +kernel
theorem dX12_takeTable_16 : decode cX12_takeTable 16 = .ok (.iconst 0, 1) := by decide +kernel
theorem dX12_takeTable_17 : decode cX12_takeTable 17 = .ok (.istore_n 2, 1) := by decide +kernel
theorem dX12_takeTable_18 : decode cX12_takeTable 18 = .ok (.iload_n 2, 1) := by decide +kernel
theorem dX12_takeTable_19 : decode cX12_takeTable 19 = .ok (.bipush 25, 2) := by decide +kernel
theorem dX12_takeTable_21 : decode cX12_takeTable 21 = .ok (.if_icmp .ge 46, 3) := by decide +kernel
theorem dX12_takeTable_24 : decode cX12_takeTable 24 = .ok (.aload_n 0, 1) := by decide +kernel
theorem dX12_takeTable_25 : decode cX12_takeTable 25 = .ok (.getfield 92, 3) := by decide +kernel
theorem dX12_takeTable_28 : decode cX12_takeTable 28 = .ok (.ifCond .ne 39, 3) := by decide +kernel
theorem dX12_takeTable_31 : decode cX12_takeTable 31 = .ok (.iload_n 1, 1) := by decide +kernel
theorem dX12_takeTable_32 : decode cX12_takeTable 32 = .ok (.aload_n 0, 1) := by decide +kernel
theorem dX12_takeTable_33 : decode cX12_takeTable 33 = .ok (.getfield 37, 3) := by decide +kernel
theorem dX12_takeTable_36 : decode cX12_takeTable 36 = .ok (.iload_n 2, 1) := by decide +kernel
theorem dX12_takeTable_37 : decode cX12_takeTable 37 = .ok (.iaload, 1) := by decide +kernel
theorem dX12_takeTable_38 : decode cX12_takeTable 38 = .ok (.ishr, 1) := by decide +kernel
theorem dX12_takeTable_39 : decode cX12_takeTable 39 = .ok (.iconst 1, 1) := by decide +kernel
theorem dX12_takeTable_40 : decode cX12_takeTable 40 = .ok (.iand, 1) := by decide +kernel
theorem dX12_takeTable_41 : decode cX12_takeTable 41 = .ok (.iconst 1, 1) := by decide +kernel
theorem dX12_takeTable_42 : decode cX12_takeTable 42 = .ok (.if_icmp .ne 8, 3) := by decide +kernel
theorem dX12_takeTable_45 : decode cX12_takeTable 45 = .ok (.aload_n 0, 1) := by decide +kernel
theorem dX12_takeTable_46 : decode cX12_takeTable 46 = .ok (.iconst 3, 1) := by decide +kernel
theorem dX12_takeTable_47 : decode cX12_takeTable 47 = .ok (.invokevirtual 122, 3) := by decide +kernel
theorem dX12_takeTable_50 : decode cX12_takeTable 50 = .ok (.iload_n 1, 1) := by decide +kernel
theorem dX12_takeTable_51 : decode cX12_takeTable 51 = .ok (.iconst 1, 1) := by decide +kernel
theorem dX12_takeTable_52 : decode cX12_takeTable 52 = .ok (.aload_n 0, 1) := by decide +kernel
theorem dX12_takeTable_53 : decode cX12_takeTable 53 = .ok (.getfield 37, 3) := by decide +kernel
theorem dX12_takeTable_56 : decode cX12_takeTable 56 = .ok (.iload_n 2, 1) := by decide +kernel
theorem dX12_takeTable_57 : decode cX12_takeTable 57 = .ok (.iaload, 1) := by decide +kernel
theorem dX12_takeTable_58 : decode cX12_takeTable 58 = .ok (.ishl, 1) := by decide +kernel
theorem dX12_takeTable_59 : decode cX12_takeTable 59 = .ok (.ior, 1) := by decide +kernel
theorem dX12_takeTable_60 : decode cX12_takeTable 60 = .ok (.istore_n 1, 1) := by decide +kernel
theorem dX12_takeTable_61 : decode cX12_takeTable 61 = .ok (.iinc 2 1, 3) := by decide +kernel
theorem dX12_takeTable_64 : decode cX12_takeTable 64 = .ok (.goto (-46), 3) := by decide +kernel
theorem dX12_takeTable_67 : decode cX12_takeTable 67 = .ok (.aload_n 0, 1) := by decide +kernel
theorem dX12_takeTable_68 : decode cX12_takeTable 68 = .ok (.invokevirtual 126, 3) := by decide +kernel
theorem dX12_takeTable_71 : decode cX12_takeTable 71 = .ok (.return_, 1) := by decide +kernel
theorem dX12_readWord_0 : decode cX12_readWord 0 = .ok (.aload_n 0, 1) := by decide +kernel
theorem dX12_readWord_1 : decode cX12_readWord 1 = .ok (.getfield 34, 3) := by decide +kernel
theorem dX12_readWord_4 : decode cX12_readWord 4 = .ok (.iconst 5, 1) := by decide +kernel
theorem dX12_readWord_5 : decode cX12_readWord 5 = .ok (.iaload, 1) := by decide +kernel
theorem dX12_readWord_6 : decode cX12_readWord 6 = .ok (.bipush 10, 2) := by decide +kernel
theorem dX12_readWord_8 : decode cX12_readWord 8 = .ok (.if_icmp .ne 9, 3) := by decide +kernel
theorem dX12_readWord_11 : decode cX12_readWord 11 = .ok (.aload_n 0, 1) := by decide +kernel
theorem dX12_readWord_12 : decode cX12_readWord 12 = .ok (.iconst 5, 1) := by decide +kernel
theorem dX12_readWord_13 : decode cX12_readWord 13 = .ok (.invokevirtual 122, 3) := by decide +kernel
theorem dX12_readWord_16 : decode cX12_readWord 16 = .ok (.return_, 1) := by decide +kernel
theorem dX12_readWord_17 : decode cX12_readWord 17 = .ok (.aload_n 0, 1) := by decide +kernel
theorem dX12_readWord_18 : decode cX12_readWord 18 = .ok (.invokevirtual 126, 3) := by decide +kernel
theorem dX12_readWord_21 : decode cX12_readWord 21 = .ok (.bipush 10, 2) := by decide +kernel
theorem dX12_readWord_23 : decode cX12_readWord 23 = .ok (.aload_n 0, 1) := by decide +kernel
theorem dX12_readWord_24 : decode cX12_readWord 24 = .ok (.getfield 34, 3) := by decide +kernel
theorem dX12_readWord_27 : decode cX12_readWord 27 = .ok (.iconst 5, 1) := by decide +kernel
theorem dX12_readWord_28 : decode cX12_readWord 28 = .ok (.iaload, 1) := by decide +kernel
theorem dX12_readWord_29 : decode cX12_readWord 29 = .ok (.imul, 1) := by decide +kernel
theorem dX12_readWord_30 : decode cX12_readWord 30 = .ok (.istore_n 1, 1) := by decide +kernel
theorem dX12_readWord_31 : decode cX12_readWord 31 = .ok (.aload_n 0, 1) := by decide +kernel
theorem dX12_readWord_32 : decode cX12_readWord 32 = .ok (.getfield 40, 3) := by decide +kernel
theorem dX12_readWord_35 : decode cX12_readWord 35 = .ok (.iload_n 1, 1) := by decide +kernel
theorem dX12_readWord_36 : decode cX12_readWord 36 = .ok (.bipush 8, 2) := by decide +kernel
theorem dX12_readWord_38 : decode cX12_readWord 38 = .ok (.iadd, 1) := by decide +kernel
theorem dX12_readWord_39 : decode cX12_readWord 39 = .ok (.aload_n 0, 1) := by decide +kernel
theorem dX12_readWord_40 : decode cX12_readWord 40 = .ok (.aload_n 0, 1) := by decide +kernel
theorem dX12_readWord_41 : decode cX12_readWord 41 = .ok (.getfield 40, 3) := by decide +kernel
theorem dX12_readWord_44 : decode cX12_readWord 44 = .ok (.iload_n 1, 1) := by decide +kernel
theorem dX12_readWord_45 : decode cX12_readWord 45 = .ok (.iconst 1, 1) := by decide +kernel
theorem dX12_readWord_46 : decode cX12_readWord 46 = .ok (.bipush 8, 2) := by decide +kernel
theorem dX12_readWord_48 : decode cX12_readWord 48 = .ok (.invokevirtual 129, 3) := by decide +kernel
theorem dX12_readWord_51 : decode cX12_readWord 51 = .ok (.iastore, 1) := by decide +kernel
theorem dX12_readWord_52 : decode cX12_readWord 52 = .ok (.aload_n 0, 1) := by decide +kernel
theorem dX12_readWord_53 : decode cX12_readWord 53 = .ok (.invokevirtual 126, 3) := by decide +kernel
theorem dX12_readWord_56 : decode cX12_readWord 56 = .ok (.aload_n 0, 1) := by decide +kernel
theorem dX12_readWord_57 : decode cX12_readWord 57 = .ok (.getfield 40, 3) := by decide +kernel
theorem dX12_readWord_60 : decode cX12_readWord 60 = .ok (.iload_n 1, 1) := by decide +kernel
theorem dX12_readWord_61 : decode cX12_readWord 61 = .ok (.bipush 9, 2) := by decide +kernel
theorem dX12_readWord_63 : decode cX12_readWord 63 = .ok (.iadd, 1) := by decide +kernel
theorem dX12_readWord_64 : decode cX12_readWord 64 = .ok (.aload_n 0, 1) := by decide +kernel
theorem dX12_readWord_65 : decode cX12_readWord 65 = .ok (.iconst 1, 1) := by decide +kernel
theorem dX12_readWord_66 : decode cX12_readWord 66 = .ok (.bipush 99, 2) := by decide +kernel
theorem dX12_readWord_68 : decode cX12_readWord 68 = .ok (.invokevirtual 133, 3) := by decide +kernel
theorem dX12_readWord_71 : decode cX12_readWord 71 = .ok (.iastore, 1) := by decide +kernel
theorem dX12_readWord_72 : decode cX12_readWord 72 = .ok (.aload_n 0, 1) := by decide +kernel
theorem dX12_readWord_73 : decode cX12_readWord 73 = .ok (.getfield 34, 3) := by decide +kernel
theorem dX12_readWord_76 : decode cX12_readWord 76 = .ok (.iconst 5, 1) := by decide +kernel
theorem dX12_readWord_77 : decode cX12_readWord 77 = .ok (.dup2, 1) := by decide +kernel
theorem dX12_readWord_78 : decode cX12_readWord 78 = .ok (.iaload, 1) := by decide +kernel
theorem dX12_readWord_79 : decode cX12_readWord 79 = .ok (.iconst 1, 1) := by decide +kernel
theorem dX12_readWord_80 : decode cX12_readWord 80 = .ok (.iadd, 1) := by decide +kernel
theorem dX12_readWord_81 : decode cX12_readWord 81 = .ok (.iastore, 1) := by decide +kernel
theorem dX12_readWord_82 : decode cX12_readWord 82 = .ok (.return_, 1) := by decide +kernel
theorem dX12_readShort_0 : decode cX12_readShort 0 = .ok (.aload_n 0, 1) := by decide +kernel
theorem dX12_readShort_1 : decode cX12_readShort 1 = .ok (.getfield 34, 3) := by decide +kernel
theorem dX12_readShort_4 : decode cX12_readShort 4 = .ok (.bipush 6, 2) := by decide +kernel
theorem dX12_readShort_6 : decode cX12_readShort 6 = .ok (.iaload, 1) := by decide +kernel
theorem dX12_readShort_7 : decode cX12_readShort 7 = .ok (.bipush 6, 2) := by decide +kernel
theorem dX12_readShort_9 : decode cX12_readShort 9 = .ok (.if_icmp .ne 9, 3) := by decide +kernel
theorem dX12_readShort_12 : decode cX12_readShort 12 = .ok (.aload_n 0, 1) := by decide +kernel
theorem dX12_readShort_13 : decode cX12_readShort 13 = .ok (.iconst 5, 1) := by decide +kernel
theorem dX12_readShort_14 : decode cX12_readShort 14 = .ok (.invokevirtual 122, 3) := by decide +kernel
theorem dX12_readShort_17 : decode cX12_readShort 17 = .ok (.return_, 1) := by decide +kernel
theorem dX12_readShort_18 : decode cX12_readShort 18 = .ok (.aload_n 0, 1) := by decide +kernel
theorem dX12_readShort_19 : decode cX12_readShort 19 = .ok (.invokevirtual 126, 3) := by decide +kernel
theorem dX12_readShort_22 : decode cX12_readShort 22 = .ok (.bipush 13, 2) := by decide +kernel
theorem dX12_readShort_24 : decode cX12_readShort 24 = .ok (.aload_n 0, 1) := by decide +kernel
theorem dX12_readShort_25 : decode cX12_readShort 25 = .ok (.getfield 34, 3) := by decide +kernel
theorem dX12_readShort_28 : decode cX12_readShort 28 = .ok (.bipush 6, 2) := by decide +kernel
theorem dX12_readShort_30 : decode cX12_readShort 30 = .ok (.iaload, 1) := by decide +kernel
theorem dX12_readShort_31 : decode cX12_readShort 31 = .ok (.imul, 1) := by decide +kernel
theorem dX12_readShort_32 : decode cX12_readShort 32 = .ok (.istore_n 1, 1) := by decide +kernel
theorem dX12_readShort_33 : decode cX12_readShort 33 = .ok (.aload_n 0, 1) := by decide +kernel
theorem dX12_readShort_34 : decode cX12_readShort 34 = .ok (.getfield 43, 3) := by decide +kernel
theorem dX12_readShort_37 : decode cX12_readShort 37 = .ok (.iload_n 1, 1) := by decide +kernel
theorem dX12_readShort_38 : decode cX12_readShort 38 = .ok (.iconst 3, 1) := by decide +kernel
theorem dX12_readShort_39 : decode cX12_readShort 39 = .ok (.iadd, 1) := by decide +kernel
theorem dX12_readShort_40 : decode cX12_readShort 40 = .ok (.aload_n 0, 1) := by decide +kernel
theorem dX12_readShort_41 : decode cX12_readShort 41 = .ok (.aload_n 0, 1) := by decide +kernel
theorem dX12_readShort_42 : decode cX12_readShort 42 = .ok (.getfield 43, 3) := by decide +kernel
theorem dX12_readShort_45 : decode cX12_readShort 45 = .ok (.iload_n 1, 1) := by decide +kernel
theorem dX12_readShort_46 : decode cX12_readShort 46 = .ok (.iconst 1, 1) := by decide +kernel
theorem dX12_readShort_47 : decode cX12_readShort 47 = .ok (.iconst 3, 1) := by decide +kernel
theorem dX12_readShort_48 : decode cX12_readShort 48 = .ok (.invokevirtual 129, 3) := by decide +kernel
theorem dX12_readShort_51 : decode cX12_readShort 51 = .ok (.iastore, 1) := by decide +kernel
theorem dX12_readShort_52 : decode cX12_readShort 52 = .ok (.aload_n 0, 1) := by decide +kernel
theorem dX12_readShort_53 : decode cX12_readShort 53 = .ok (.invokevirtual 126, 3) := by decide +kernel
theorem dX12_readShort_56 : decode cX12_readShort 56 = .ok (.aload_n 0, 1) := by decide +kernel
theorem dX12_readShort_57 : decode cX12_readShort 57 = .ok (.getfield 43, 3) := by decide +kernel
theorem dX12_readShort_60 : decode cX12_readShort 60 = .ok (.iload_n 1, 1) := by decide +kernel
theorem dX12_readShort_61 : decode cX12_readShort 61 = .ok (.bipush 12, 2) := by decide +kernel
theorem dX12_readShort_63 : decode cX12_readShort 63 = .ok (.iadd, 1) := by decide +kernel
theorem dX12_readShort_64 : decode cX12_readShort 64 = .ok (.aload_n 0, 1) := by decide +kernel
theorem dX12_readShort_65 : decode cX12_readShort 65 = .ok (.aload_n 0, 1) := by decide +kernel
theorem dX12_readShort_66 : decode cX12_readShort 66 = .ok (.getfield 43, 3) := by decide +kernel
theorem dX12_readShort_69 : decode cX12_readShort 69 = .ok (.iload_n 1, 1) := by decide +kernel
theorem dX12_readShort_70 : decode cX12_readShort 70 = .ok (.iconst 4, 1) := by decide +kernel
theorem dX12_readShort_71 : decode cX12_readShort 71 = .ok (.iadd, 1) := by decide +kernel
theorem dX12_readShort_72 : decode cX12_readShort 72 = .ok (.iconst 2, 1) := by decide +kernel
theorem dX12_readShort_73 : decode cX12_readShort 73 = .ok (.bipush 8, 2) := by decide +kernel
theorem dX12_readShort_75 : decode cX12_readShort 75 = .ok (.invokevirtual 129, 3) := by decide +kernel
theorem dX12_readShort_78 : decode cX12_readShort 78 = .ok (.iastore, 1) := by decide +kernel
theorem dX12_readShort_79 : decode cX12_readShort 79 = .ok (.aload_n 0, 1) := by decide +kernel
theorem dX12_readShort_80 : decode cX12_readShort 80 = .ok (.invokevirtual 126, 3) := by decide +kernel
theorem dX12_readShort_83 : decode cX12_readShort 83 = .ok (.aload_n 0, 1) := by decide +kernel
theorem dX12_readShort_84 : decode cX12_readShort 84 = .ok (.getfield 34, 3) := by decide +kernel
theorem dX12_readShort_87 : decode cX12_readShort 87 = .ok (.bipush 6, 2) := by decide +kernel
theorem dX12_readShort_89 : decode cX12_readShort 89 = .ok (.dup2, 1) := by decide +kernel
theorem dX12_readShort_90 : decode cX12_readShort 90 = .ok (.iaload, 1) := by decide +kernel
theorem dX12_readShort_91 : decode cX12_readShort 91 = .ok (.iconst 1, 1) := by decide +kernel
theorem dX12_readShort_92 : decode cX12_readShort 92 = .ok (.iadd, 1) := by decide +kernel
theorem dX12_readShort_93 : decode cX12_readShort 93 = .ok (.iastore, 1) := by decide +kernel
theorem dX12_readShort_94 : decode cX12_readShort 94 = .ok (.return_, 1) := by decide +kernel
theorem dX12_readGuard_0 : decode cX12_readGuard 0 = .ok (.aload_n 0, 1) := by decide +kernel
theorem dX12_readGuard_1 : decode cX12_readGuard 1 = .ok (.getfield 34, 3) := by decide +kernel
theorem dX12_readGuard_4 : decode cX12_readGuard 4 = .ok (.bipush 7, 2) := by decide +kernel
theorem dX12_readGuard_6 : decode cX12_readGuard 6 = .ok (.iaload, 1) := by decide +kernel
theorem dX12_readGuard_7 : decode cX12_readGuard 7 = .ok (.bipush 6, 2) := by decide +kernel
theorem dX12_readGuard_9 : decode cX12_readGuard 9 = .ok (.if_icmp .ne 9, 3) := by decide +kernel
theorem dX12_readGuard_12 : decode cX12_readGuard 12 = .ok (.aload_n 0, 1) := by decide +kernel
theorem dX12_readGuard_13 : decode cX12_readGuard 13 = .ok (.iconst 5, 1) := by decide +kernel
theorem dX12_readGuard_14 : decode cX12_readGuard 14 = .ok (.invokevirtual 122, 3) := by decide +kernel
theorem dX12_readGuard_17 : decode cX12_readGuard 17 = .ok (.return_, 1) := by decide +kernel
theorem dX12_readGuard_18 : decode cX12_readGuard 18 = .ok (.aload_n 0, 1) := by decide +kernel
theorem dX12_readGuard_19 : decode cX12_readGuard 19 = .ok (.invokevirtual 126, 3) := by decide +kernel
theorem dX12_readGuard_22 : decode cX12_readGuard 22 = .ok (.iconst 2, 1) := by decide +kernel
theorem dX12_readGuard_23 : decode cX12_readGuard 23 = .ok (.aload_n 0, 1) := by decide +kernel
theorem dX12_readGuard_24 : decode cX12_readGuard 24 = .ok (.getfield 34, 3) := by decide +kernel
theorem dX12_readGuard_27 : decode cX12_readGuard 27 = .ok (.bipush 7, 2) := by decide +kernel
theorem dX12_readGuard_29 : decode cX12_readGuard 29 = .ok (.iaload, 1) := by decide +kernel
theorem dX12_readGuard_30 : decode cX12_readGuard 30 = .ok (.imul, 1) := by decide +kernel
theorem dX12_readGuard_31 : decode cX12_readGuard 31 = .ok (.istore_n 1, 1) := by decide +kernel
theorem dX12_readGuard_32 : decode cX12_readGuard 32 = .ok (.aload_n 0, 1) := by decide +kernel
theorem dX12_readGuard_33 : decode cX12_readGuard 33 = .ok (.getfield 46, 3) := by decide +kernel
theorem dX12_readGuard_36 : decode cX12_readGuard 36 = .ok (.iload_n 1, 1) := by decide +kernel
theorem dX12_readGuard_37 : decode cX12_readGuard 37 = .ok (.aload_n 0, 1) := by decide +kernel
theorem dX12_readGuard_38 : decode cX12_readGuard 38 = .ok (.iconst 0, 1) := by decide +kernel
theorem dX12_readGuard_39 : decode cX12_readGuard 39 = .ok (.sipush 599, 3) := by decide +kernel
theorem dX12_readGuard_42 : decode cX12_readGuard 42 = .ok (.invokevirtual 133, 3) := by decide +kernel
theorem dX12_readGuard_45 : decode cX12_readGuard 45 = .ok (.iastore, 1) := by decide +kernel
theorem dX12_readGuard_46 : decode cX12_readGuard 46 = .ok (.aload_n 0, 1) := by decide +kernel
theorem dX12_readGuard_47 : decode cX12_readGuard 47 = .ok (.getfield 46, 3) := by decide +kernel
theorem dX12_readGuard_50 : decode cX12_readGuard 50 = .ok (.iload_n 1, 1) := by decide +kernel
theorem dX12_readGuard_51 : decode cX12_readGuard 51 = .ok (.iconst 1, 1) := by decide +kernel
theorem dX12_readGuard_52 : decode cX12_readGuard 52 = .ok (.iadd, 1) := by decide +kernel
theorem dX12_readGuard_53 : decode cX12_readGuard 53 = .ok (.aload_n 0, 1) := by decide +kernel
theorem dX12_readGuard_54 : decode cX12_readGuard 54 = .ok (.iconst 1, 1) := by decide +kernel
theorem dX12_readGuard_55 : decode cX12_readGuard 55 = .ok (.bipush 60, 2) := by decide +kernel
theorem dX12_readGuard_57 : decode cX12_readGuard 57 = .ok (.invokevirtual 133, 3) := by decide +kernel
theorem dX12_readGuard_60 : decode cX12_readGuard 60 = .ok (.iastore, 1) := by decide +kernel
theorem dX12_readGuard_61 : decode cX12_readGuard 61 = .ok (.aload_n 0, 1) := by decide +kernel
theorem dX12_readGuard_62 : decode cX12_readGuard 62 = .ok (.getfield 34, 3) := by decide +kernel
theorem dX12_readGuard_65 : decode cX12_readGuard 65 = .ok (.bipush 7, 2) := by decide +kernel
theorem dX12_readGuard_67 : decode cX12_readGuard 67 = .ok (.dup2, 1) := by decide +kernel
theorem dX12_readGuard_68 : decode cX12_readGuard 68 = .ok (.iaload, 1) := by decide +kernel
theorem dX12_readGuard_69 : decode cX12_readGuard 69 = .ok (.iconst 1, 1) := by decide +kernel
theorem dX12_readGuard_70 : decode cX12_readGuard 70 = .ok (.iadd, 1) := by decide +kernel
theorem dX12_readGuard_71 : decode cX12_readGuard 71 = .ok (.iastore, 1) := by decide +kernel
theorem dX12_readGuard_72 : decode cX12_readGuard 72 = .ok (.return_, 1) := by decide +kernel
theorem dX12_readOnce_0 : decode cX12_readOnce 0 = .ok (.aload_n 0, 1) := by decide +kernel
theorem dX12_readOnce_1 : decode cX12_readOnce 1 = .ok (.getfield 137, 3) := by decide +kernel
theorem dX12_readOnce_4 : decode cX12_readOnce 4 = .ok (.iload_n 1, 1) := by decide +kernel
theorem dX12_readOnce_5 : decode cX12_readOnce 5 = .ok (.ishr, 1) := by decide +kernel
theorem dX12_readOnce_6 : decode cX12_readOnce 6 = .ok (.iconst 1, 1) := by decide +kernel
theorem dX12_readOnce_7 : decode cX12_readOnce 7 = .ok (.iand, 1) := by decide +kernel
theorem dX12_readOnce_8 : decode cX12_readOnce 8 = .ok (.iconst 1, 1) := by decide +kernel
theorem dX12_readOnce_9 : decode cX12_readOnce 9 = .ok (.if_icmp .ne 8, 3) := by decide +kernel
theorem dX12_readOnce_12 : decode cX12_readOnce 12 = .ok (.aload_n 0, 1) := by decide +kernel
theorem dX12_readOnce_13 : decode cX12_readOnce 13 = .ok (.iconst 4, 1) := by decide +kernel
theorem dX12_readOnce_14 : decode cX12_readOnce 14 = .ok (.invokevirtual 122, 3) := by decide +kernel
theorem dX12_readOnce_17 : decode cX12_readOnce 17 = .ok (.aload_n 0, 1) := by decide +kernel
theorem dX12_readOnce_18 : decode cX12_readOnce 18 = .ok (.dup, 1) := by decide +kernel
theorem dX12_readOnce_19 : decode cX12_readOnce 19 = .ok (.getfield 137, 3) := by decide +kernel
theorem dX12_readOnce_22 : decode cX12_readOnce 22 = .ok (.iconst 1, 1) := by decide +kernel
theorem dX12_readOnce_23 : decode cX12_readOnce 23 = .ok (.iload_n 1, 1) := by decide +kernel
theorem dX12_readOnce_24 : decode cX12_readOnce 24 = .ok (.ishl, 1) := by decide +kernel
theorem dX12_readOnce_25 : decode cX12_readOnce 25 = .ok (.ior, 1) := by decide +kernel
theorem dX12_readOnce_26 : decode cX12_readOnce 26 = .ok (.putfield 137, 3) := by decide +kernel
theorem dX12_readOnce_29 : decode cX12_readOnce 29 = .ok (.aload_n 0, 1) := by decide +kernel
theorem dX12_readOnce_30 : decode cX12_readOnce 30 = .ok (.invokevirtual 126, 3) := by decide +kernel
theorem dX12_readOnce_33 : decode cX12_readOnce 33 = .ok (.iload_n 1, 1) := by decide +kernel
theorem dX12_readOnce_34 : decode cX12_readOnce 34 = .ok (.ifCond .ne 10, 3) := by decide +kernel
theorem dX12_readOnce_37 : decode cX12_readOnce 37 = .ok (.aload_n 0, 1) := by decide +kernel
theorem dX12_readOnce_38 : decode cX12_readOnce 38 = .ok (.invokevirtual 140, 3) := by decide +kernel
theorem dX12_readOnce_41 : decode cX12_readOnce 41 = .ok (.goto 63, 3) := by decide +kernel
theorem dX12_readOnce_44 : decode cX12_readOnce 44 = .ok (.iload_n 1, 1) := by decide +kernel
theorem dX12_readOnce_45 : decode cX12_readOnce 45 = .ok (.iconst 3, 1) := by decide +kernel
theorem dX12_readOnce_46 : decode cX12_readOnce 46 = .ok (.if_icmp .ne 32, 3) := by decide +kernel
theorem dX12_readOnce_49 : decode cX12_readOnce 49 = .ok (.aload_n 0, 1) := by decide +kernel
theorem dX12_readOnce_50 : decode cX12_readOnce 50 = .ok (.getfield 34, 3) := by decide +kernel
theorem dX12_readOnce_53 : decode cX12_readOnce 53 = .ok (.iconst 0, 1) := by decide +kernel
theorem dX12_readOnce_54 : decode cX12_readOnce 54 = .ok (.aload_n 0, 1) := by decide +kernel
theorem dX12_readOnce_55 : decode cX12_readOnce 55 = .ok (.iconst 0, 1) := by decide +kernel
theorem dX12_readOnce_56 : decode cX12_readOnce 56 = .ok (.bipush 9, 2) := by decide +kernel
theorem dX12_readOnce_58 : decode cX12_readOnce 58 = .ok (.invokevirtual 133, 3) := by decide +kernel
theorem dX12_readOnce_61 : decode cX12_readOnce 61 = .ok (.iastore, 1) := by decide +kernel
theorem dX12_readOnce_62 : decode cX12_readOnce 62 = .ok (.aload_n 0, 1) := by decide +kernel
theorem dX12_readOnce_63 : decode cX12_readOnce 63 = .ok (.getfield 34, 3) := by decide +kernel
theorem dX12_readOnce_66 : decode cX12_readOnce 66 = .ok (.iconst 1, 1) := by decide +kernel
theorem dX12_readOnce_67 : decode cX12_readOnce 67 = .ok (.aload_n 0, 1) := by decide +kernel
theorem dX12_readOnce_68 : decode cX12_readOnce 68 = .ok (.iconst 0, 1) := by decide +kernel
theorem dX12_readOnce_69 : decode cX12_readOnce 69 = .ok (.bipush 9, 2) := by decide +kernel
theorem dX12_readOnce_71 : decode cX12_readOnce 71 = .ok (.invokevirtual 133, 3) := by decide +kernel
theorem dX12_readOnce_74 : decode cX12_readOnce 74 = .ok (.iastore, 1) := by decide +kernel
theorem dX12_readOnce_75 : decode cX12_readOnce 75 = .ok (.goto 29, 3) := by decide +kernel
theorem dX12_readOnce_78 : decode cX12_readOnce 78 = .ok (.iconst 2, 1) := by decide +kernel
theorem dX12_readOnce_79 : decode cX12_readOnce 79 = .ok (.istore_n 2, 1) := by decide +kernel
theorem dX12_readOnce_80 : decode cX12_readOnce 80 = .ok (.iload_n 2, 1) := by decide +kernel
theorem dX12_readOnce_81 : decode cX12_readOnce 81 = .ok (.iconst 4, 1) := by decide +kernel
theorem dX12_readOnce_82 : decode cX12_readOnce 82 = .ok (.if_icmp .gt 22, 3) := by decide +kernel
theorem dX12_readOnce_85 : decode cX12_readOnce 85 = .ok (.aload_n 0, 1) := by decide +kernel
theorem dX12_readOnce_86 : decode cX12_readOnce 86 = .ok (.getfield 34, 3) := by decide +kernel
theorem dX12_readOnce_89 : decode cX12_readOnce 89 = .ok (.iload_n 2, 1) := by decide +kernel
theorem dX12_readOnce_90 : decode cX12_readOnce 90 = .ok (.aload_n 0, 1) := by decide +kernel
theorem dX12_readOnce_91 : decode cX12_readOnce 91 = .ok (.iconst 1, 1) := by decide +kernel
theorem dX12_readOnce_92 : decode cX12_readOnce 92 = .ok (.bipush 99, 2) := by decide +kernel
theorem dX12_readOnce_94 : decode cX12_readOnce 94 = .ok (.invokevirtual 133, 3) := by decide +kernel
theorem dX12_readOnce_97 : decode cX12_readOnce 97 = .ok (.iastore, 1) := by decide +kernel
theorem dX12_readOnce_98 : decode cX12_readOnce 98 = .ok (.iinc 2 1, 3) := by decide +kernel
theorem dX12_readOnce_101 : decode cX12_readOnce 101 = .ok (.goto (-21), 3) := by decide +kernel
theorem dX12_readOnce_104 : decode cX12_readOnce 104 = .ok (.return_, 1) := by decide +kernel
theorem dX12_readLine_0 : decode cX12_readLine 0 = .ok (.aload_n 0, 1) := by decide +kernel
theorem dX12_readLine_1 : decode cX12_readLine 1 = .ok (.invokevirtual 143, 3) := by decide +kernel
theorem dX12_readLine_4 : decode cX12_readLine 4 = .ok (.istore_n 1, 1) := by decide +kernel
theorem dX12_readLine_5 : decode cX12_readLine 5 = .ok (.iload_n 1, 1) := by decide +kernel
theorem dX12_readLine_6 : decode cX12_readLine 6 = .ok (.bipush (-4), 2) := by decide +kernel
theorem dX12_readLine_8 : decode cX12_readLine 8 = .ok (.if_icmp .ne 9, 3) := by decide +kernel
theorem dX12_readLine_11 : decode cX12_readLine 11 = .ok (.aload_n 0, 1) := by decide +kernel
theorem dX12_readLine_12 : decode cX12_readLine 12 = .ok (.iconst 2, 1) := by decide +kernel
theorem dX12_readLine_13 : decode cX12_readLine 13 = .ok (.invokevirtual 122, 3) := by decide +kernel
theorem dX12_readLine_16 : decode cX12_readLine 16 = .ok (.return_, 1) := by decide +kernel
theorem dX12_readLine_17 : decode cX12_readLine 17 = .ok (.iload_n 1, 1) := by decide +kernel
theorem dX12_readLine_18 : decode cX12_readLine 18 = .ok (.iconst 1, 1) := by decide +kernel
theorem dX12_readLine_19 : decode cX12_readLine 19 = .ok (.if_icmp .ne 10, 3) := by decide +kernel
theorem dX12_readLine_22 : decode cX12_readLine 22 = .ok (.aload_n 0, 1) := by decide +kernel
theorem dX12_readLine_23 : decode cX12_readLine 23 = .ok (.invokevirtual 147, 3) := by decide +kernel
theorem dX12_readLine_26 : decode cX12_readLine 26 = .ok (.goto 32, 3) := by decide +kernel
theorem dX12_readLine_29 : decode cX12_readLine 29 = .ok (.iload_n 1, 1) := by decide +kernel
theorem dX12_readLine_30 : decode cX12_readLine 30 = .ok (.iconst 2, 1) := by decide +kernel
theorem dX12_readLine_31 : decode cX12_readLine 31 = .ok (.if_icmp .ne 10, 3) := by decide +kernel
theorem dX12_readLine_34 : decode cX12_readLine 34 = .ok (.aload_n 0, 1) := by decide +kernel
theorem dX12_readLine_35 : decode cX12_readLine 35 = .ok (.invokevirtual 150, 3) := by decide +kernel
theorem dX12_readLine_38 : decode cX12_readLine 38 = .ok (.goto 20, 3) := by decide +kernel
theorem dX12_readLine_41 : decode cX12_readLine 41 = .ok (.iload_n 1, 1) := by decide +kernel
theorem dX12_readLine_42 : decode cX12_readLine 42 = .ok (.iconst 5, 1) := by decide +kernel
theorem dX12_readLine_43 : decode cX12_readLine 43 = .ok (.if_icmp .ne 10, 3) := by decide +kernel
theorem dX12_readLine_46 : decode cX12_readLine 46 = .ok (.aload_n 0, 1) := by decide +kernel
theorem dX12_readLine_47 : decode cX12_readLine 47 = .ok (.invokevirtual 153, 3) := by decide +kernel
theorem dX12_readLine_50 : decode cX12_readLine 50 = .ok (.goto 8, 3) := by decide +kernel
theorem dX12_readLine_53 : decode cX12_readLine 53 = .ok (.aload_n 0, 1) := by decide +kernel
theorem dX12_readLine_54 : decode cX12_readLine 54 = .ok (.iload_n 1, 1) := by decide +kernel
theorem dX12_readLine_55 : decode cX12_readLine 55 = .ok (.invokevirtual 156, 3) := by decide +kernel
theorem dX12_readLine_58 : decode cX12_readLine 58 = .ok (.aload_n 0, 1) := by decide +kernel
theorem dX12_readLine_59 : decode cX12_readLine 59 = .ok (.getfield 92, 3) := by decide +kernel
theorem dX12_readLine_62 : decode cX12_readLine 62 = .ok (.ifCond .ne 16, 3) := by decide +kernel
theorem dX12_readLine_65 : decode cX12_readLine 65 = .ok (.aload_n 0, 1) := by decide +kernel
theorem dX12_readLine_66 : decode cX12_readLine 66 = .ok (.getfield 101, 3) := by decide +kernel
theorem dX12_readLine_69 : decode cX12_readLine 69 = .ok (.iconst 3, 1) := by decide +kernel
theorem dX12_readLine_70 : decode cX12_readLine 70 = .ok (.if_icmp .eq 8, 3) := by decide +kernel
theorem dX12_readLine_73 : decode cX12_readLine 73 = .ok (.aload_n 0, 1) := by decide +kernel
theorem dX12_readLine_74 : decode cX12_readLine 74 = .ok (.iconst 2, 1) := by decide +kernel
theorem dX12_readLine_75 : decode cX12_readLine 75 = .ok (.invokevirtual 122, 3) := by decide +kernel
theorem dX12_readLine_78 : decode cX12_readLine 78 = .ok (.aload_n 0, 1) := by decide +kernel
theorem dX12_readLine_79 : decode cX12_readLine 79 = .ok (.invokevirtual 126, 3) := by decide +kernel
theorem dX12_readLine_82 : decode cX12_readLine 82 = .ok (.return_, 1) := by decide +kernel
theorem dX12_hasRead_0 : decode cX12_hasRead 0 = .ok (.iconst 0, 1) := by decide +kernel
theorem dX12_hasRead_1 : decode cX12_hasRead 1 = .ok (.istore_n 2, 1) := by decide +kernel
theorem dX12_hasRead_2 : decode cX12_hasRead 2 = .ok (.iconst 0, 1) := by decide +kernel
theorem dX12_hasRead_3 : decode cX12_hasRead 3 = .ok (.istore_n 3, 1) := by decide +kernel
theorem dX12_hasRead_4 : decode cX12_hasRead 4 = .ok (.iload_n 3, 1) := by decide +kernel
theorem dX12_hasRead_5 : decode cX12_hasRead 5 = .ok (.bipush 25, 2) := by decide +kernel
theorem dX12_hasRead_7 : decode cX12_hasRead 7 = .ok (.if_icmp .ge 29, 3) := by decide +kernel
theorem dX12_hasRead_10 : decode cX12_hasRead 10 = .ok (.iload_n 2, 1) := by decide +kernel
theorem dX12_hasRead_11 : decode cX12_hasRead 11 = .ok (.ifCond .ne 13, 3) := by decide +kernel
theorem dX12_hasRead_14 : decode cX12_hasRead 14 = .ok (.aload_n 0, 1) := by decide +kernel
theorem dX12_hasRead_15 : decode cX12_hasRead 15 = .ok (.getfield 37, 3) := by decide +kernel
theorem dX12_hasRead_18 : decode cX12_hasRead 18 = .ok (.iload_n 3, 1) := by decide +kernel
theorem dX12_hasRead_19 : decode cX12_hasRead 19 = .ok (.iaload, 1) := by decide +kernel
theorem dX12_hasRead_20 : decode cX12_hasRead 20 = .ok (.iload_n 1, 1) := by decide +kernel
theorem dX12_hasRead_21 : decode cX12_hasRead 21 = .ok (.if_icmp .ne 7, 3) := by decide +kernel
theorem dX12_hasRead_24 : decode cX12_hasRead 24 = .ok (.iconst 1, 1) := by decide +kernel
theorem dX12_hasRead_25 : decode cX12_hasRead 25 = .ok (.goto 4, 3) := by decide +kernel
theorem dX12_hasRead_28 : decode cX12_hasRead 28 = .ok (.iconst 0, 1) := by decide +kernel
theorem dX12_hasRead_29 : decode cX12_hasRead 29 = .ok (.istore_n 2, 1) := by decide +kernel
theorem dX12_hasRead_30 : decode cX12_hasRead 30 = .ok (.iinc 3 1, 3) := by decide +kernel
theorem dX12_hasRead_33 : decode cX12_hasRead 33 = .ok (.goto (-29), 3) := by decide +kernel
theorem dX12_hasRead_36 : decode cX12_hasRead 36 = .ok (.iload_n 2, 1) := by decide +kernel
theorem dX12_hasRead_37 : decode cX12_hasRead 37 = .ok (.ireturn, 1) := by decide +kernel
theorem dX12_areRead_0 : decode cX12_areRead 0 = .ok (.iconst 1, 1) := by decide +kernel
theorem dX12_areRead_1 : decode cX12_areRead 1 = .ok (.istore_n 1, 1) := by decide +kernel
theorem dX12_areRead_2 : decode cX12_areRead 2 = .ok (.iconst 0, 1) := by decide +kernel
theorem dX12_areRead_3 : decode cX12_areRead 3 = .ok (.istore_n 2, 1) := by decide +kernel
theorem dX12_areRead_4 : decode cX12_areRead 4 = .ok (.iload_n 2, 1) := by decide +kernel
theorem dX12_areRead_5 : decode cX12_areRead 5 = .ok (.aload_n 0, 1) := by decide +kernel
theorem dX12_areRead_6 : decode cX12_areRead 6 = .ok (.getfield 34, 3) := by decide +kernel
theorem dX12_areRead_9 : decode cX12_areRead 9 = .ok (.iconst 5, 1) := by decide +kernel
theorem dX12_areRead_10 : decode cX12_areRead 10 = .ok (.iaload, 1) := by decide +kernel
theorem dX12_areRead_11 : decode cX12_areRead 11 = .ok (.if_icmp .ge 61, 3) := by decide +kernel
theorem dX12_areRead_14 : decode cX12_areRead 14 = .ok (.iconst 0, 1) := by decide +kernel
theorem dX12_areRead_15 : decode cX12_areRead 15 = .ok (.istore_n 3, 1) := by decide +kernel
theorem dX12_areRead_16 : decode cX12_areRead 16 = .ok (.iload_n 3, 1) := by decide +kernel
theorem dX12_areRead_17 : decode cX12_areRead 17 = .ok (.aload_n 0, 1) := by decide +kernel
theorem dX12_areRead_18 : decode cX12_areRead 18 = .ok (.getfield 40, 3) := by decide +kernel
theorem dX12_areRead_21 : decode cX12_areRead 21 = .ok (.bipush 10, 2) := by decide +kernel
theorem dX12_areRead_23 : decode cX12_areRead 23 = .ok (.iload_n 2, 1) := by decide +kernel
theorem dX12_areRead_24 : decode cX12_areRead 24 = .ok (.imul, 1) := by decide +kernel
theorem dX12_areRead_25 : decode cX12_areRead 25 = .ok (.bipush 8, 2) := by decide +kernel
theorem dX12_areRead_27 : decode cX12_areRead 27 = .ok (.iadd, 1) := by decide +kernel
theorem dX12_areRead_28 : decode cX12_areRead 28 = .ok (.iaload, 1) := by decide +kernel
theorem dX12_areRead_29 : decode cX12_areRead 29 = .ok (.if_icmp .ge 37, 3) := by decide +kernel
theorem dX12_areRead_32 : decode cX12_areRead 32 = .ok (.iload_n 1, 1) := by decide +kernel
theorem dX12_areRead_33 : decode cX12_areRead 33 = .ok (.ifCond .eq 25, 3) := by decide +kernel
theorem dX12_areRead_36 : decode cX12_areRead 36 = .ok (.aload_n 0, 1) := by decide +kernel
theorem dX12_areRead_37 : decode cX12_areRead 37 = .ok (.aload_n 0, 1) := by decide +kernel
theorem dX12_areRead_38 : decode cX12_areRead 38 = .ok (.getfield 40, 3) := by decide +kernel
theorem dX12_areRead_41 : decode cX12_areRead 41 = .ok (.bipush 10, 2) := by decide +kernel
theorem dX12_areRead_43 : decode cX12_areRead 43 = .ok (.iload_n 2, 1) := by decide +kernel
theorem dX12_areRead_44 : decode cX12_areRead 44 = .ok (.imul, 1) := by decide +kernel
theorem dX12_areRead_45 : decode cX12_areRead 45 = .ok (.iload_n 3, 1) := by decide +kernel
theorem dX12_areRead_46 : decode cX12_areRead 46 = .ok (.iadd, 1) := by decide +kernel
theorem dX12_areRead_47 : decode cX12_areRead 47 = .ok (.iaload, 1) := by decide +kernel
theorem dX12_areRead_48 : decode cX12_areRead 48 = .ok (.invokevirtual 159, 3) := by decide +kernel
theorem dX12_areRead_51 : decode cX12_areRead 51 = .ok (.ifCond .eq 7, 3) := by decide +kernel
theorem dX12_areRead_54 : decode cX12_areRead 54 = .ok (.iconst 1, 1) := by decide +kernel
theorem dX12_areRead_55 : decode cX12_areRead 55 = .ok (.goto 4, 3) := by decide +kernel
theorem dX12_areRead_58 : decode cX12_areRead 58 = .ok (.iconst 0, 1) := by decide +kernel
theorem dX12_areRead_59 : decode cX12_areRead 59 = .ok (.istore_n 1, 1) := by decide +kernel
theorem dX12_areRead_60 : decode cX12_areRead 60 = .ok (.iinc 3 1, 3) := by decide +kernel
theorem dX12_areRead_63 : decode cX12_areRead 63 = .ok (.goto (-47), 3) := by decide +kernel
theorem dX12_areRead_66 : decode cX12_areRead 66 = .ok (.iinc 2 1, 3) := by decide +kernel
theorem dX12_areRead_69 : decode cX12_areRead 69 = .ok (.goto (-65), 3) := by decide +kernel
theorem dX12_areRead_72 : decode cX12_areRead 72 = .ok (.iconst 0, 1) := by decide +kernel
theorem dX12_areRead_73 : decode cX12_areRead 73 = .ok (.istore_n 2, 1) := by decide +kernel
theorem dX12_areRead_74 : decode cX12_areRead 74 = .ok (.iload_n 2, 1) := by decide +kernel
theorem dX12_areRead_75 : decode cX12_areRead 75 = .ok (.aload_n 0, 1) := by decide +kernel
theorem dX12_areRead_76 : decode cX12_areRead 76 = .ok (.getfield 34, 3) := by decide +kernel
theorem dX12_areRead_79 : decode cX12_areRead 79 = .ok (.bipush 6, 2) := by decide +kernel
theorem dX12_areRead_81 : decode cX12_areRead 81 = .ok (.iaload, 1) := by decide +kernel
theorem dX12_areRead_82 : decode cX12_areRead 82 = .ok (.if_icmp .ge 114, 3) := by decide +kernel
theorem dX12_areRead_85 : decode cX12_areRead 85 = .ok (.iconst 0, 1) := by decide +kernel
theorem dX12_areRead_86 : decode cX12_areRead 86 = .ok (.istore_n 3, 1) := by decide +kernel
theorem dX12_areRead_87 : decode cX12_areRead 87 = .ok (.iload_n 3, 1) := by decide +kernel
theorem dX12_areRead_88 : decode cX12_areRead 88 = .ok (.aload_n 0, 1) := by decide +kernel
theorem dX12_areRead_89 : decode cX12_areRead 89 = .ok (.getfield 43, 3) := by decide +kernel
theorem dX12_areRead_92 : decode cX12_areRead 92 = .ok (.bipush 13, 2) := by decide +kernel
theorem dX12_areRead_94 : decode cX12_areRead 94 = .ok (.iload_n 2, 1) := by decide +kernel
theorem dX12_areRead_95 : decode cX12_areRead 95 = .ok (.imul, 1) := by decide +kernel
theorem dX12_areRead_96 : decode cX12_areRead 96 = .ok (.iconst 3, 1) := by decide +kernel
theorem dX12_areRead_97 : decode cX12_areRead 97 = .ok (.iadd, 1) := by decide +kernel
theorem dX12_areRead_98 : decode cX12_areRead 98 = .ok (.iaload, 1) := by decide +kernel
theorem dX12_areRead_99 : decode cX12_areRead 99 = .ok (.if_icmp .ge 37, 3) := by decide +kernel
theorem dX12_areRead_102 : decode cX12_areRead 102 = .ok (.iload_n 1, 1) := by decide +kernel
theorem dX12_areRead_103 : decode cX12_areRead 103 = .ok (.ifCond .eq 25, 3) := by decide +kernel
theorem dX12_areRead_106 : decode cX12_areRead 106 = .ok (.aload_n 0, 1) := by decide +kernel
theorem dX12_areRead_107 : decode cX12_areRead 107 = .ok (.aload_n 0, 1) := by decide +kernel
theorem dX12_areRead_108 : decode cX12_areRead 108 = .ok (.getfield 43, 3) := by decide +kernel
theorem dX12_areRead_111 : decode cX12_areRead 111 = .ok (.bipush 13, 2) := by decide +kernel
theorem dX12_areRead_113 : decode cX12_areRead 113 = .ok (.iload_n 2, 1) := by decide +kernel
theorem dX12_areRead_114 : decode cX12_areRead 114 = .ok (.imul, 1) := by decide +kernel
theorem dX12_areRead_115 : decode cX12_areRead 115 = .ok (.iload_n 3, 1) := by decide +kernel
theorem dX12_areRead_116 : decode cX12_areRead 116 = .ok (.iadd, 1) := by decide +kernel
theorem dX12_areRead_117 : decode cX12_areRead 117 = .ok (.iaload, 1) := by decide +kernel
theorem dX12_areRead_118 : decode cX12_areRead 118 = .ok (.invokevirtual 159, 3) := by decide +kernel
theorem dX12_areRead_121 : decode cX12_areRead 121 = .ok (.ifCond .eq 7, 3) := by decide +kernel
theorem dX12_areRead_124 : decode cX12_areRead 124 = .ok (.iconst 1, 1) := by decide +kernel
theorem dX12_areRead_125 : decode cX12_areRead 125 = .ok (.goto 4, 3) := by decide +kernel
theorem dX12_areRead_128 : decode cX12_areRead 128 = .ok (.iconst 0, 1) := by decide +kernel
theorem dX12_areRead_129 : decode cX12_areRead 129 = .ok (.istore_n 1, 1) := by decide +kernel
theorem dX12_areRead_130 : decode cX12_areRead 130 = .ok (.iinc 3 1, 3) := by decide +kernel
theorem dX12_areRead_133 : decode cX12_areRead 133 = .ok (.goto (-46), 3) := by decide +kernel
theorem dX12_areRead_136 : decode cX12_areRead 136 = .ok (.iconst 0, 1) := by decide +kernel
theorem dX12_areRead_137 : decode cX12_areRead 137 = .ok (.istore_n 3, 1) := by decide +kernel
theorem dX12_areRead_138 : decode cX12_areRead 138 = .ok (.iload_n 3, 1) := by decide +kernel
theorem dX12_areRead_139 : decode cX12_areRead 139 = .ok (.aload_n 0, 1) := by decide +kernel
theorem dX12_areRead_140 : decode cX12_areRead 140 = .ok (.getfield 43, 3) := by decide +kernel
theorem dX12_areRead_143 : decode cX12_areRead 143 = .ok (.bipush 13, 2) := by decide +kernel
theorem dX12_areRead_145 : decode cX12_areRead 145 = .ok (.iload_n 2, 1) := by decide +kernel
theorem dX12_areRead_146 : decode cX12_areRead 146 = .ok (.imul, 1) := by decide +kernel
theorem dX12_areRead_147 : decode cX12_areRead 147 = .ok (.bipush 12, 2) := by decide +kernel
theorem dX12_areRead_149 : decode cX12_areRead 149 = .ok (.iadd, 1) := by decide +kernel
theorem dX12_areRead_150 : decode cX12_areRead 150 = .ok (.iaload, 1) := by decide +kernel
theorem dX12_areRead_151 : decode cX12_areRead 151 = .ok (.if_icmp .ge 39, 3) := by decide +kernel
theorem dX12_areRead_154 : decode cX12_areRead 154 = .ok (.iload_n 1, 1) := by decide +kernel
theorem dX12_areRead_155 : decode cX12_areRead 155 = .ok (.ifCond .eq 27, 3) := by decide +kernel
theorem dX12_areRead_158 : decode cX12_areRead 158 = .ok (.aload_n 0, 1) := by decide +kernel
theorem dX12_areRead_159 : decode cX12_areRead 159 = .ok (.aload_n 0, 1) := by decide +kernel
theorem dX12_areRead_160 : decode cX12_areRead 160 = .ok (.getfield 43, 3) := by decide +kernel
theorem dX12_areRead_163 : decode cX12_areRead 163 = .ok (.bipush 13, 2) := by decide +kernel
theorem dX12_areRead_165 : decode cX12_areRead 165 = .ok (.iload_n 2, 1) := by decide +kernel
theorem dX12_areRead_166 : decode cX12_areRead 166 = .ok (.imul, 1) := by decide +kernel
theorem dX12_areRead_167 : decode cX12_areRead 167 = .ok (.iconst 4, 1) := by decide +kernel
theorem dX12_areRead_168 : decode cX12_areRead 168 = .ok (.iadd, 1) := by decide +kernel
theorem dX12_areRead_169 : decode cX12_areRead 169 = .ok (.iload_n 3, 1) := by decide +kernel
theorem dX12_areRead_170 : decode cX12_areRead 170 = .ok (.iadd, 1) := by decide +kernel
theorem dX12_areRead_171 : decode cX12_areRead 171 = .ok (.iaload, 1) := by decide +kernel
theorem dX12_areRead_172 : decode cX12_areRead 172 = .ok (.invokevirtual 159, 3) := by decide +kernel
theorem dX12_areRead_175 : decode cX12_areRead 175 = .ok (.ifCond .eq 7, 3) := by decide +kernel
theorem dX12_areRead_178 : decode cX12_areRead 178 = .ok (.iconst 1, 1) := by decide +kernel
theorem dX12_areRead_179 : decode cX12_areRead 179 = .ok (.goto 4, 3) := by decide +kernel
theorem dX12_areRead_182 : decode cX12_areRead 182 = .ok (.iconst 0, 1) := by decide +kernel
theorem dX12_areRead_183 : decode cX12_areRead 183 = .ok (.istore_n 1, 1) := by decide +kernel
theorem dX12_areRead_184 : decode cX12_areRead 184 = .ok (.iinc 3 1, 3) := by decide +kernel
theorem dX12_areRead_187 : decode cX12_areRead 187 = .ok (.goto (-49), 3) := by decide +kernel
theorem dX12_areRead_190 : decode cX12_areRead 190 = .ok (.iinc 2 1, 3) := by decide +kernel
theorem dX12_areRead_193 : decode cX12_areRead 193 = .ok (.goto (-119), 3) := by decide +kernel
theorem dX12_areRead_196 : decode cX12_areRead 196 = .ok (.iload_n 1, 1) := by decide +kernel
theorem dX12_areRead_197 : decode cX12_areRead 197 = .ok (.ireturn, 1) := by decide +kernel
theorem dX12_takeAll_0 : decode cX12_takeAll 0 = .ok (.iconst 0, 1) := by decide +kernel
theorem dX12_takeAll_1 : decode cX12_takeAll 1 = .ok (.istore_n 1, 1) := by decide +kernel
theorem dX12_takeAll_2 : decode cX12_takeAll 2 = .ok (.iload_n 1, 1) := by decide +kernel
theorem dX12_takeAll_3 : decode cX12_takeAll 3 = .ok (.bipush 100, 2) := by decide +kernel
theorem dX12_takeAll_5 : decode cX12_takeAll 5 = .ok (.if_icmp .ge 75, 3) := by decide +kernel
theorem dX12_takeAll_8 : decode cX12_takeAll 8 = .ok (.aload_n 0, 1) := by decide +kernel
theorem dX12_takeAll_9 : decode cX12_takeAll 9 = .ok (.getfield 25, 3) := by decide +kernel
theorem dX12_takeAll_12 : decode cX12_takeAll 12 = .ok (.iload_n 1, 1) := by decide +kernel
theorem dX12_takeAll_13 : decode cX12_takeAll 13 = .ok (.aload_n 0, 1) := by decide +kernel
theorem dX12_takeAll_14 : decode cX12_takeAll 14 = .ok (.getfield 40, 3) := by decide +kernel
theorem dX12_takeAll_17 : decode cX12_takeAll 17 = .ok (.iload_n 1, 1) := by decide +kernel
theorem dX12_takeAll_18 : decode cX12_takeAll 18 = .ok (.iaload, 1) := by decide +kernel
theorem dX12_takeAll_19 : decode cX12_takeAll 19 = .ok (.iastore, 1) := by decide +kernel
theorem dX12_takeAll_20 : decode cX12_takeAll 20 = .ok (.aload_n 0, 1) := by decide +kernel
theorem dX12_takeAll_21 : decode cX12_takeAll 21 = .ok (.getfield 28, 3) := by decide +kernel
theorem dX12_takeAll_24 : decode cX12_takeAll 24 = .ok (.iload_n 1, 1) := by decide +kernel
theorem dX12_takeAll_25 : decode cX12_takeAll 25 = .ok (.bipush 78, 2) := by decide +kernel
theorem dX12_takeAll_27 : decode cX12_takeAll 27 = .ok (.irem, 1) := by decide +kernel
theorem dX12_takeAll_28 : decode cX12_takeAll 28 = .ok (.aload_n 0, 1) := by decide +kernel
theorem dX12_takeAll_29 : decode cX12_takeAll 29 = .ok (.getfield 43, 3) := by decide +kernel
theorem dX12_takeAll_32 : decode cX12_takeAll 32 = .ok (.iload_n 1, 1) := by decide +kernel
theorem dX12_takeAll_33 : decode cX12_takeAll 33 = .ok (.bipush 78, 2) := by decide +kernel
theorem dX12_takeAll_35 : decode cX12_takeAll 35 = .ok (.irem, 1) := by decide +kernel
theorem dX12_takeAll_36 : decode cX12_takeAll 36 = .ok (.iaload, 1) := by decide +kernel
theorem dX12_takeAll_37 : decode cX12_takeAll 37 = .ok (.iastore, 1) := by decide +kernel
theorem dX12_takeAll_38 : decode cX12_takeAll 38 = .ok (.aload_n 0, 1) := by decide +kernel
theorem dX12_takeAll_39 : decode cX12_takeAll 39 = .ok (.getfield 31, 3) := by decide +kernel
theorem dX12_takeAll_42 : decode cX12_takeAll 42 = .ok (.iload_n 1, 1) := by decide +kernel
theorem dX12_takeAll_43 : decode cX12_takeAll 43 = .ok (.bipush 12, 2) := by decide +kernel
theorem dX12_takeAll_45 : decode cX12_takeAll 45 = .ok (.irem, 1) := by decide +kernel
theorem dX12_takeAll_46 : decode cX12_takeAll 46 = .ok (.aload_n 0, 1) := by decide +kernel
theorem dX12_takeAll_47 : decode cX12_takeAll 47 = .ok (.getfield 46, 3) := by decide +kernel
theorem dX12_takeAll_50 : decode cX12_takeAll 50 = .ok (.iload_n 1, 1) := by decide +kernel
theorem dX12_takeAll_51 : decode cX12_takeAll 51 = .ok (.bipush 12, 2) := by decide +kernel
theorem dX12_takeAll_53 : decode cX12_takeAll 53 = .ok (.irem, 1) := by decide +kernel
theorem dX12_takeAll_54 : decode cX12_takeAll 54 = .ok (.iaload, 1) := by decide +kernel
theorem dX12_takeAll_55 : decode cX12_takeAll 55 = .ok (.iastore, 1) := by decide +kernel
theorem dX12_takeAll_56 : decode cX12_takeAll 56 = .ok (.aload_n 0, 1) := by decide +kernel
theorem dX12_takeAll_57 : decode cX12_takeAll 57 = .ok (.getfield 22, 3) := by decide +kernel
theorem dX12_takeAll_60 : decode cX12_takeAll 60 = .ok (.iload_n 1, 1) := by decide +kernel
theorem dX12_takeAll_61 : decode cX12_takeAll 61 = .ok (.bipush 8, 2) := by decide +kernel
theorem dX12_takeAll_63 : decode cX12_takeAll 63 = .ok (.irem, 1) := by decide +kernel
theorem dX12_takeAll_64 : decode cX12_takeAll 64 = .ok (.aload_n 0, 1) := by decide +kernel
theorem dX12_takeAll_65 : decode cX12_takeAll 65 = .ok (.getfield 34, 3) := by decide +kernel
theorem dX12_takeAll_68 : decode cX12_takeAll 68 = .ok (.iload_n 1, 1) := by decide +kernel
theorem dX12_takeAll_69 : decode cX12_takeAll 69 = .ok (.bipush 8, 2) := by decide +kernel
theorem dX12_takeAll_71 : decode cX12_takeAll 71 = .ok (.irem, 1) := by decide +kernel
theorem dX12_takeAll_72 : decode cX12_takeAll 72 = .ok (.iaload, 1) := by decide +kernel
theorem dX12_takeAll_73 : decode cX12_takeAll 73 = .ok (.iastore, 1) := by decide +kernel
theorem dX12_takeAll_74 : decode cX12_takeAll 74 = .ok (.iinc 1 1, 3) := by decide +kernel
theorem dX12_takeAll_77 : decode cX12_takeAll 77 = .ok (.goto (-75), 3) := by decide +kernel
theorem dX12_takeAll_80 : decode cX12_takeAll 80 = .ok (.iconst 0, 1) := by decide +kernel
theorem dX12_takeAll_81 : decode cX12_takeAll 81 = .ok (.istore_n 1, 1) := by decide +kernel
theorem dX12_takeAll_82 : decode cX12_takeAll 82 = .ok (.iload_n 1, 1) := by decide +kernel
theorem dX12_takeAll_83 : decode cX12_takeAll 83 = .ok (.bipush 64, 2) := by decide +kernel
theorem dX12_takeAll_85 : decode cX12_takeAll 85 = .ok (.if_icmp .ge 31, 3) := by decide +kernel
theorem dX12_takeAll_88 : decode cX12_takeAll 88 = .ok (.aload_n 0, 1) := by decide +kernel
theorem dX12_takeAll_89 : decode cX12_takeAll 89 = .ok (.getfield 49, 3) := by decide +kernel
theorem dX12_takeAll_92 : decode cX12_takeAll 92 = .ok (.iload_n 1, 1) := by decide +kernel
theorem dX12_takeAll_93 : decode cX12_takeAll 93 = .ok (.iload_n 1, 1) := by decide +kernel
theorem dX12_takeAll_94 : decode cX12_takeAll 94 = .ok (.bipush 25, 2) := by decide +kernel
theorem dX12_takeAll_96 : decode cX12_takeAll 96 = .ok (.if_icmp .ge 12, 3) := by decide +kernel
theorem dX12_takeAll_99 : decode cX12_takeAll 99 = .ok (.aload_n 0, 1) := by decide +kernel
theorem dX12_takeAll_100 : decode cX12_takeAll 100 = .ok (.getfield 37, 3) := by decide +kernel
theorem dX12_takeAll_103 : decode cX12_takeAll 103 = .ok (.iload_n 1, 1) := by decide +kernel
theorem dX12_takeAll_104 : decode cX12_takeAll 104 = .ok (.iaload, 1) := by decide +kernel
theorem dX12_takeAll_105 : decode cX12_takeAll 105 = .ok (.goto 4, 3) := by decide +kernel
theorem dX12_takeAll_108 : decode cX12_takeAll 108 = .ok (.iconst 0, 1) := by decide +kernel
theorem dX12_takeAll_109 : decode cX12_takeAll 109 = .ok (.iastore, 1) := by decide +kernel
theorem dX12_takeAll_110 : decode cX12_takeAll 110 = .ok (.iinc 1 1, 3) := by decide +kernel
theorem dX12_takeAll_113 : decode cX12_takeAll 113 = .ok (.goto (-31), 3) := by decide +kernel
theorem dX12_takeAll_116 : decode cX12_takeAll 116 = .ok (.aload_n 0, 1) := by decide +kernel
theorem dX12_takeAll_117 : decode cX12_takeAll 117 = .ok (.iconst 1, 1) := by decide +kernel
theorem dX12_takeAll_118 : decode cX12_takeAll 118 = .ok (.putfield 163, 3) := by decide +kernel
theorem dX12_takeAll_121 : decode cX12_takeAll 121 = .ok (.aload_n 0, 1) := by decide +kernel
theorem dX12_takeAll_122 : decode cX12_takeAll 122 = .ok (.getfield 71, 3) := by decide +kernel
theorem dX12_takeAll_125 : decode cX12_takeAll 125 = .ok (.iconst 0, 1) := by decide +kernel
theorem dX12_takeAll_126 : decode cX12_takeAll 126 = .ok (.iconst 0, 1) := by decide +kernel
theorem dX12_takeAll_127 : decode cX12_takeAll 127 = .ok (.bastore, 1) := by decide +kernel
theorem dX12_takeAll_128 : decode cX12_takeAll 128 = .ok (.aload_n 0, 1) := by decide +kernel
theorem dX12_takeAll_129 : decode cX12_takeAll 129 = .ok (.getfield 71, 3) := by decide +kernel
theorem dX12_takeAll_132 : decode cX12_takeAll 132 = .ok (.iconst 1, 1) := by decide +kernel
theorem dX12_takeAll_133 : decode cX12_takeAll 133 = .ok (.iconst 0, 1) := by decide +kernel
theorem dX12_takeAll_134 : decode cX12_takeAll 134 = .ok (.bastore, 1) := by decide +kernel
theorem dX12_takeAll_135 : decode cX12_takeAll 135 = .ok (.return_, 1) := by decide +kernel
theorem dX12_code_0 : decode cX12_code 0 = .ok (.aload_n 0, 1) := by decide +kernel
theorem dX12_code_1 : decode cX12_code 1 = .ok (.iconst 0, 1) := by decide +kernel
theorem dX12_code_2 : decode cX12_code 2 = .ok (.putfield 92, 3) := by decide +kernel
theorem dX12_code_5 : decode cX12_code 5 = .ok (.aload_n 0, 1) := by decide +kernel
theorem dX12_code_6 : decode cX12_code 6 = .ok (.iconst 0, 1) := by decide +kernel
theorem dX12_code_7 : decode cX12_code 7 = .ok (.putfield 104, 3) := by decide +kernel
theorem dX12_code_10 : decode cX12_code 10 = .ok (.aload_n 0, 1) := by decide +kernel
theorem dX12_code_11 : decode cX12_code 11 = .ok (.iconst 0, 1) := by decide +kernel
theorem dX12_code_12 : decode cX12_code 12 = .ok (.putfield 137, 3) := by decide +kernel
theorem dX12_code_15 : decode cX12_code 15 = .ok (.iconst 0, 1) := by decide +kernel
theorem dX12_code_16 : decode cX12_code 16 = .ok (.istore_n 1, 1) := by decide +kernel
theorem dX12_code_17 : decode cX12_code 17 = .ok (.iconst 0, 1) := by decide +kernel
theorem dX12_code_18 : decode cX12_code 18 = .ok (.istore_n 2, 1) := by decide +kernel
theorem dX12_code_19 : decode cX12_code 19 = .ok (.iload_n 2, 1) := by decide +kernel
theorem dX12_code_20 : decode cX12_code 20 = .ok (.bipush 8, 2) := by decide +kernel
theorem dX12_code_22 : decode cX12_code 22 = .ok (.if_icmp .ge 21, 3) := by decide +kernel
theorem dX12_code_25 : decode cX12_code 25 = .ok (.aload_n 0, 1) := by decide +kernel
theorem dX12_code_26 : decode cX12_code 26 = .ok (.getfield 34, 3) := by decide +kernel
theorem dX12_code_29 : decode cX12_code 29 = .ok (.iload_n 2, 1) := by decide +kernel
theorem dX12_code_30 : decode cX12_code 30 = .ok (.aload_n 0, 1) := by decide +kernel
theorem dX12_code_31 : decode cX12_code 31 = .ok (.getfield 19, 3) := by decide +kernel
theorem dX12_code_34 : decode cX12_code 34 = .ok (.iload_n 2, 1) := by decide +kernel
theorem dX12_code_35 : decode cX12_code 35 = .ok (.iaload, 1) := by decide +kernel
theorem dX12_code_36 : decode cX12_code 36 = .ok (.iastore, 1) := by decide +kernel
theorem dX12_code_37 : decode cX12_code 37 = .ok (.iinc 2 1, 3) := by decide +kernel
theorem dX12_code_40 : decode cX12_code 40 = .ok (.goto (-21), 3) := by decide +kernel
theorem dX12_code_43 : decode cX12_code 43 = .ok (.iconst 0, 1) := by decide +kernel
theorem dX12_code_44 : decode cX12_code 44 = .ok (.istore_n 2, 1) := by decide +kernel
theorem dX12_code_45 : decode cX12_code 45 = .ok (.iload_n 2, 1) := by decide +kernel
theorem dX12_code_46 : decode cX12_code 46 = .ok (.bipush 25, 2) := by decide +kernel
theorem dX12_code_48 : decode cX12_code 48 = .ok (.if_icmp .ge 28, 3) := by decide +kernel
theorem dX12_code_51 : decode cX12_code 51 = .ok (.aload_n 0, 1) := by decide +kernel
theorem dX12_code_52 : decode cX12_code 52 = .ok (.getfield 37, 3) := by decide +kernel
theorem dX12_code_55 : decode cX12_code 55 = .ok (.iload_n 2, 1) := by decide +kernel
theorem dX12_code_56 : decode cX12_code 56 = .ok (.iload_n 2, 1) := by decide +kernel
theorem dX12_code_57 : decode cX12_code 57 = .ok (.bipush 10, 2) := by decide +kernel
theorem dX12_code_59 : decode cX12_code 59 = .ok (.if_icmp .ge 7, 3) := by decide +kernel
theorem dX12_code_62 : decode cX12_code 62 = .ok (.iload_n 2, 1) := by decide +kernel
theorem dX12_code_63 : decode cX12_code 63 = .ok (.goto 6, 3) := by decide +kernel
theorem dX12_code_66 : decode cX12_code 66 = .ok (.iload_n 2, 1) := by decide +kernel
theorem dX12_code_67 : decode cX12_code 67 = .ok (.iconst 1, 1) := by decide +kernel
theorem dX12_code_68 : decode cX12_code 68 = .ok (.iadd, 1) := by decide +kernel
theorem dX12_code_69 : decode cX12_code 69 = .ok (.iastore, 1) := by decide +kernel
theorem dX12_code_70 : decode cX12_code 70 = .ok (.iinc 2 1, 3) := by decide +kernel
theorem dX12_code_73 : decode cX12_code 73 = .ok (.goto (-28), 3) := by decide +kernel
theorem dX12_code_76 : decode cX12_code 76 = .ok (.aload_n 0, 1) := by decide +kernel
theorem dX12_code_77 : decode cX12_code 77 = .ok (.invokevirtual 126, 3) := by decide +kernel
theorem dX12_code_80 : decode cX12_code 80 = .ok (.aload_n 0, 1) := by decide +kernel
theorem dX12_code_81 : decode cX12_code 81 = .ok (.getfield 92, 3) := by decide +kernel
theorem dX12_code_84 : decode cX12_code 84 = .ok (.ifCond .ne 20, 3) := by decide +kernel
theorem dX12_code_87 : decode cX12_code 87 = .ok (.aload_n 0, 1) := by decide +kernel
theorem dX12_code_88 : decode cX12_code 88 = .ok (.getfield 101, 3) := by decide +kernel
theorem dX12_code_91 : decode cX12_code 91 = .ok (.ifCond .eq 13, 3) := by decide +kernel
theorem dX12_code_94 : decode cX12_code 94 = .ok (.aload_n 0, 1) := by decide +kernel
theorem dX12_code_95 : decode cX12_code 95 = .ok (.invokevirtual 167, 3) := by decide +kernel
theorem dX12_code_98 : decode cX12_code 98 = .ok (.iinc 1 1, 3) := by decide +kernel
theorem dX12_code_101 : decode cX12_code 101 = .ok (.goto (-21), 3) := by decide +kernel
theorem dX12_code_104 : decode cX12_code 104 = .ok (.aload_n 0, 1) := by decide +kernel
theorem dX12_code_105 : decode cX12_code 105 = .ok (.getfield 92, 3) := by decide +kernel
theorem dX12_code_108 : decode cX12_code 108 = .ok (.ifCond .ne 16, 3) := by decide +kernel
theorem dX12_code_111 : decode cX12_code 111 = .ok (.aload_n 0, 1) := by decide +kernel
theorem dX12_code_112 : decode cX12_code 112 = .ok (.invokevirtual 170, 3) := by decide +kernel
theorem dX12_code_115 : decode cX12_code 115 = .ok (.ifCond .ne 9, 3) := by decide +kernel
theorem dX12_code_118 : decode cX12_code 118 = .ok (.aload_n 0, 1) := by decide +kernel
theorem dX12_code_119 : decode cX12_code 119 = .ok (.bipush 6, 2) := by decide +kernel
theorem dX12_code_121 : decode cX12_code 121 = .ok (.invokevirtual 122, 3) := by decide +kernel
theorem dX12_code_124 : decode cX12_code 124 = .ok (.aload_n 0, 1) := by decide +kernel
theorem dX12_code_125 : decode cX12_code 125 = .ok (.iconst 0, 1) := by decide +kernel
theorem dX12_code_126 : decode cX12_code 126 = .ok (.putfield 84, 3) := by decide +kernel
theorem dX12_code_129 : decode cX12_code 129 = .ok (.aload_n 0, 1) := by decide +kernel
theorem dX12_code_130 : decode cX12_code 130 = .ok (.aload_n 0, 1) := by decide +kernel
theorem dX12_code_131 : decode cX12_code 131 = .ok (.getfield 92, 3) := by decide +kernel
theorem dX12_code_134 : decode cX12_code 134 = .ok (.putfield 174, 3) := by decide +kernel
theorem dX12_code_137 : decode cX12_code 137 = .ok (.aload_n 0, 1) := by decide +kernel
theorem dX12_code_138 : decode cX12_code 138 = .ok (.getfield 92, 3) := by decide +kernel
theorem dX12_code_141 : decode cX12_code 141 = .ok (.ifCond .le 11, 3) := by decide +kernel
theorem dX12_code_144 : decode cX12_code 144 = .ok (.bipush (-10), 2) := by decide +kernel
theorem dX12_code_146 : decode cX12_code 146 = .ok (.aload_n 0, 1) := by decide +kernel
theorem dX12_code_147 : decode cX12_code 147 = .ok (.getfield 98, 3) := by decide +kernel
theorem dX12_code_150 : decode cX12_code 150 = .ok (.isub, 1) := by decide +kernel
theorem dX12_code_151 : decode cX12_code 151 = .ok (.ireturn, 1) := by decide +kernel
theorem dX12_code_152 : decode cX12_code 152 = .ok (.aload_n 0, 1) := by decide +kernel
theorem dX12_code_153 : decode cX12_code 153 = .ok (.invokevirtual 177, 3) := by decide +kernel
theorem dX12_code_156 : decode cX12_code 156 = .ok (.iload_n 1, 1) := by decide +kernel
theorem dX12_code_157 : decode cX12_code 157 = .ok (.ireturn, 1) := by decide +kernel
theorem dX12_fault_0 : decode cX12_fault 0 = .ok (.aload_n 0, 1) := by decide +kernel
theorem dX12_fault_1 : decode cX12_fault 1 = .ok (.getfield 174, 3) := by decide +kernel
theorem dX12_fault_4 : decode cX12_fault 4 = .ok (.ireturn, 1) := by decide +kernel
theorem dX12_told_0 : decode cX12_told 0 = .ok (.iload_n 1, 1) := by decide +kernel
theorem dX12_told_1 : decode cX12_told 1 = .ok (.tableswitch 79 0 7 #[47, 54, 62, 62, 62, 62, 62, 71], 47) := by decide +kernel
theorem dX12_told_48 : decode cX12_told 48 = .ok (.aload_n 0, 1) := by decide +kernel
theorem dX12_told_49 : decode cX12_told 49 = .ok (.getfield 22, 3) := by decide +kernel
theorem dX12_told_52 : decode cX12_told 52 = .ok (.iconst 5, 1) := by decide +kernel
theorem dX12_told_53 : decode cX12_told 53 = .ok (.iaload, 1) := by decide +kernel
theorem dX12_told_54 : decode cX12_told 54 = .ok (.ireturn, 1) := by decide +kernel
theorem dX12_told_55 : decode cX12_told 55 = .ok (.aload_n 0, 1) := by decide +kernel
theorem dX12_told_56 : decode cX12_told 56 = .ok (.getfield 22, 3) := by decide +kernel
theorem dX12_told_59 : decode cX12_told 59 = .ok (.bipush 6, 2) := by decide +kernel
theorem dX12_told_61 : decode cX12_told 61 = .ok (.iaload, 1) := by decide +kernel
theorem dX12_told_62 : decode cX12_told 62 = .ok (.ireturn, 1) := by decide +kernel
theorem dX12_told_63 : decode cX12_told 63 = .ok (.aload_n 0, 1) := by decide +kernel
theorem dX12_told_64 : decode cX12_told 64 = .ok (.getfield 22, 3) := by decide +kernel
theorem dX12_told_67 : decode cX12_told 67 = .ok (.iload_n 1, 1) := by decide +kernel
theorem dX12_told_68 : decode cX12_told 68 = .ok (.iconst 2, 1) := by decide +kernel
theorem dX12_told_69 : decode cX12_told 69 = .ok (.isub, 1) := by decide +kernel
theorem dX12_told_70 : decode cX12_told 70 = .ok (.iaload, 1) := by decide +kernel
theorem dX12_told_71 : decode cX12_told 71 = .ok (.ireturn, 1) := by decide +kernel
theorem dX12_told_72 : decode cX12_told 72 = .ok (.aload_n 0, 1) := by decide +kernel
theorem dX12_told_73 : decode cX12_told 73 = .ok (.getfield 22, 3) := by decide +kernel
theorem dX12_told_76 : decode cX12_told 76 = .ok (.bipush 7, 2) := by decide +kernel
theorem dX12_told_78 : decode cX12_told 78 = .ok (.iaload, 1) := by decide +kernel
theorem dX12_told_79 : decode cX12_told 79 = .ok (.ireturn, 1) := by decide +kernel
theorem dX12_told_80 : decode cX12_told 80 = .ok (.iconst (-1), 1) := by decide +kernel
theorem dX12_told_81 : decode cX12_told 81 = .ok (.ireturn, 1) := by decide +kernel
theorem dX12_awake_0 : decode cX12_awake 0 = .ok (.iconst 0, 1) := by decide +kernel
theorem dX12_awake_1 : decode cX12_awake 1 = .ok (.istore_n 1, 1) := by decide +kernel
theorem dX12_awake_2 : decode cX12_awake 2 = .ok (.iload_n 1, 1) := by decide +kernel
theorem dX12_awake_3 : decode cX12_awake 3 = .ok (.bipush 25, 2) := by decide +kernel
theorem dX12_awake_5 : decode cX12_awake 5 = .ok (.if_icmp .ge 35, 3) := by decide +kernel
theorem dX12_awake_8 : decode cX12_awake 8 = .ok (.aload_n 0, 1) := by decide +kernel
theorem dX12_awake_9 : decode cX12_awake 9 = .ok (.getfield 163, 3) := by decide +kernel
theorem dX12_awake_12 : decode cX12_awake 12 = .ok (.ifCond .ne 28, 3) := by decide +kernel
theorem dX12_awake_15 : decode cX12_awake 15 = .ok (.aload_n 0, 1) := by decide +kernel
theorem dX12_awake_16 : decode cX12_awake 16 = .ok (.getfield 49, 3) := by decide +kernel
theorem dX12_awake_19 : decode cX12_awake 19 = .ok (.iload_n 1, 1) := by decide +kernel
theorem dX12_awake_20 : decode cX12_awake 20 = .ok (.iload_n 1, 1) := by decide +kernel
theorem dX12_awake_21 : decode cX12_awake 21 = .ok (.bipush 10, 2) := by decide +kernel
theorem dX12_awake_23 : decode cX12_awake 23 = .ok (.if_icmp .ge 7, 3) := by decide +kernel
theorem dX12_awake_26 : decode cX12_awake 26 = .ok (.iload_n 1, 1) := by decide +kernel
theorem dX12_awake_27 : decode cX12_awake 27 = .ok (.goto 6, 3) := by decide +kernel
theorem dX12_awake_30 : decode cX12_awake 30 = .ok (.iload_n 1, 1) := by decide +kernel
theorem dX12_awake_31 : decode cX12_awake 31 = .ok (.iconst 1, 1) := by decide +kernel
theorem dX12_awake_32 : decode cX12_awake 32 = .ok (.iadd, 1) := by decide +kernel
theorem dX12_awake_33 : decode cX12_awake 33 = .ok (.iastore, 1) := by decide +kernel
theorem dX12_awake_34 : decode cX12_awake 34 = .ok (.iinc 1 1, 3) := by decide +kernel
theorem dX12_awake_37 : decode cX12_awake 37 = .ok (.goto (-35), 3) := by decide +kernel
theorem dX12_awake_40 : decode cX12_awake 40 = .ok (.aload_n 0, 1) := by decide +kernel
theorem dX12_awake_41 : decode cX12_awake 41 = .ok (.iconst 1, 1) := by decide +kernel
theorem dX12_awake_42 : decode cX12_awake 42 = .ok (.putfield 163, 3) := by decide +kernel
theorem dX12_awake_45 : decode cX12_awake 45 = .ok (.return_, 1) := by decide +kernel
theorem dX12_isPlace_0 : decode cX12_isPlace 0 = .ok (.iload_n 0, 1) := by decide +kernel
theorem dX12_isPlace_1 : decode cX12_isPlace 1 = .ok (.i2l, 1) := by decide +kernel
theorem dX12_isPlace_2 : decode cX12_isPlace 2 = .ok (.lconst 0, 1) := by decide +kernel
theorem dX12_isPlace_3 : decode cX12_isPlace 3 = .ok (.ldc2_w 180, 3) := by decide +kernel
theorem dX12_isPlace_6 : decode cX12_isPlace 6 = .ok (.invokestatic 88, 3) := by decide +kernel
theorem dX12_isPlace_9 : decode cX12_isPlace 9 = .ok (.ireturn, 1) := by decide +kernel
theorem dX12_table_0 : decode cX12_table 0 = .ok (.aload_n 0, 1) := by decide +kernel
theorem dX12_table_1 : decode cX12_table 1 = .ok (.invokevirtual 182, 3) := by decide +kernel
theorem dX12_table_4 : decode cX12_table 4 = .ok (.iload_n 1, 1) := by decide +kernel
theorem dX12_table_5 : decode cX12_table 5 = .ok (.invokestatic 185, 3) := by decide +kernel
theorem dX12_table_8 : decode cX12_table 8 = .ok (.ifCond .eq 15, 3) := by decide +kernel
theorem dX12_table_11 : decode cX12_table 11 = .ok (.aload_n 0, 1) := by decide +kernel
theorem dX12_table_12 : decode cX12_table 12 = .ok (.getfield 49, 3) := by decide +kernel
theorem dX12_table_15 : decode cX12_table 15 = .ok (.iload_n 1, 1) := by decide +kernel
theorem dX12_table_16 : decode cX12_table 16 = .ok (.iaload, 1) := by decide +kernel
theorem dX12_table_17 : decode cX12_table 17 = .ok (.bipush 97, 2) := by decide +kernel
theorem dX12_table_19 : decode cX12_table 19 = .ok (.iadd, 1) := by decide +kernel
theorem dX12_table_20 : decode cX12_table 20 = .ok (.goto 4, 3) := by decide +kernel
theorem dX12_table_23 : decode cX12_table 23 = .ok (.iconst (-1), 1) := by decide +kernel
theorem dX12_table_24 : decode cX12_table 24 = .ok (.ireturn, 1) := by decide +kernel
theorem dX12_placeOf_0 : decode cX12_placeOf 0 = .ok (.bipush (-4), 2) := by decide +kernel
theorem dX12_placeOf_2 : decode cX12_placeOf 2 = .ok (.istore_n 2, 1) := by decide +kernel
theorem dX12_placeOf_3 : decode cX12_placeOf 3 = .ok (.iconst 0, 1) := by decide +kernel
theorem dX12_placeOf_4 : decode cX12_placeOf 4 = .ok (.istore_n 3, 1) := by decide +kernel
theorem dX12_placeOf_5 : decode cX12_placeOf 5 = .ok (.iload_n 3, 1) := by decide +kernel
theorem dX12_placeOf_6 : decode cX12_placeOf 6 = .ok (.bipush 25, 2) := by decide +kernel
theorem dX12_placeOf_8 : decode cX12_placeOf 8 = .ok (.if_icmp .ge 25, 3) := by decide +kernel
theorem dX12_placeOf_11 : decode cX12_placeOf 11 = .ok (.aload_n 0, 1) := by decide +kernel
theorem dX12_placeOf_12 : decode cX12_placeOf 12 = .ok (.getfield 49, 3) := by decide +kernel
theorem dX12_placeOf_15 : decode cX12_placeOf 15 = .ok (.iload_n 3, 1) := by decide +kernel
theorem dX12_placeOf_16 : decode cX12_placeOf 16 = .ok (.iaload, 1) := by decide +kernel
theorem dX12_placeOf_17 : decode cX12_placeOf 17 = .ok (.iload_n 1, 1) := by decide +kernel
theorem dX12_placeOf_18 : decode cX12_placeOf 18 = .ok (.if_icmp .ne 7, 3) := by decide +kernel
theorem dX12_placeOf_21 : decode cX12_placeOf 21 = .ok (.iload_n 3, 1) := by decide +kernel
theorem dX12_placeOf_22 : decode cX12_placeOf 22 = .ok (.goto 4, 3) := by decide +kernel
theorem dX12_placeOf_25 : decode cX12_placeOf 25 = .ok (.iload_n 2, 1) := by decide +kernel
theorem dX12_placeOf_26 : decode cX12_placeOf 26 = .ok (.istore_n 2, 1) := by decide +kernel
theorem dX12_placeOf_27 : decode cX12_placeOf 27 = .ok (.iinc 3 1, 3) := by decide +kernel
theorem dX12_placeOf_30 : decode cX12_placeOf 30 = .ok (.goto (-25), 3) := by decide +kernel
theorem dX12_placeOf_33 : decode cX12_placeOf 33 = .ok (.iload_n 2, 1) := by decide +kernel
theorem dX12_placeOf_34 : decode cX12_placeOf 34 = .ok (.ireturn, 1) := by decide +kernel
theorem dX12_place_0 : decode cX12_place 0 = .ok (.aload_n 0, 1) := by decide +kernel
theorem dX12_place_1 : decode cX12_place 1 = .ok (.invokevirtual 182, 3) := by decide +kernel
theorem dX12_place_4 : decode cX12_place 4 = .ok (.iload_n 1, 1) := by decide +kernel
theorem dX12_place_5 : decode cX12_place 5 = .ok (.i2l, 1) := by decide +kernel
theorem dX12_place_6 : decode cX12_place 6 = .ok (.ldc2_w 114, 3) := by decide +kernel
theorem dX12_place_9 : decode cX12_place 9 = .ok (.ldc2_w 116, 3) := by decide +kernel
theorem dX12_place_12 : decode cX12_place 12 = .ok (.invokestatic 88, 3) := by decide +kernel
theorem dX12_place_15 : decode cX12_place 15 = .ok (.ifCond .eq 14, 3) := by decide +kernel
theorem dX12_place_18 : decode cX12_place 18 = .ok (.aload_n 0, 1) := by decide +kernel
theorem dX12_place_19 : decode cX12_place 19 = .ok (.iload_n 1, 1) := by decide +kernel
theorem dX12_place_20 : decode cX12_place 20 = .ok (.bipush 97, 2) := by decide +kernel
theorem dX12_place_22 : decode cX12_place 22 = .ok (.isub, 1) := by decide +kernel
theorem dX12_place_23 : decode cX12_place 23 = .ok (.invokevirtual 188, 3) := by decide +kernel
theorem dX12_place_26 : decode cX12_place 26 = .ok (.goto 4, 3) := by decide +kernel
theorem dX12_place_29 : decode cX12_place 29 = .ok (.iconst (-1), 1) := by decide +kernel
theorem dX12_place_30 : decode cX12_place 30 = .ok (.ireturn, 1) := by decide +kernel
theorem dX12_knocksAt_0 : decode cX12_knocksAt 0 = .ok (.iload_n 0, 1) := by decide +kernel
theorem dX12_knocksAt_1 : decode cX12_knocksAt 1 = .ok (.iconst 5, 1) := by decide +kernel
theorem dX12_knocksAt_2 : decode cX12_knocksAt 2 = .ok (.idiv, 1) := by decide +kernel
theorem dX12_knocksAt_3 : decode cX12_knocksAt 3 = .ok (.iload_n 0, 1) := by decide +kernel
theorem dX12_knocksAt_4 : decode cX12_knocksAt 4 = .ok (.iconst 5, 1) := by decide +kernel
theorem dX12_knocksAt_5 : decode cX12_knocksAt 5 = .ok (.irem, 1) := by decide +kernel
theorem dX12_knocksAt_6 : decode cX12_knocksAt 6 = .ok (.iadd, 1) := by decide +kernel
theorem dX12_knocksAt_7 : decode cX12_knocksAt 7 = .ok (.iconst 2, 1) := by decide +kernel
theorem dX12_knocksAt_8 : decode cX12_knocksAt 8 = .ok (.iadd, 1) := by decide +kernel
theorem dX12_knocksAt_9 : decode cX12_knocksAt 9 = .ok (.ireturn, 1) := by decide +kernel
theorem dX12_knocks_0 : decode cX12_knocks 0 = .ok (.aload_n 0, 1) := by decide +kernel
theorem dX12_knocks_1 : decode cX12_knocks 1 = .ok (.iload_n 1, 1) := by decide +kernel
theorem dX12_knocks_2 : decode cX12_knocks 2 = .ok (.invokevirtual 188, 3) := by decide +kernel
theorem dX12_knocks_5 : decode cX12_knocks 5 = .ok (.invokestatic 191, 3) := by decide +kernel
theorem dX12_knocks_8 : decode cX12_knocks 8 = .ok (.ireturn, 1) := by decide +kernel
theorem dX12_isWord_0 : decode cX12_isWord 0 = .ok (.iload_n 1, 1) := by decide +kernel
theorem dX12_isWord_1 : decode cX12_isWord 1 = .ok (.i2l, 1) := by decide +kernel
theorem dX12_isWord_2 : decode cX12_isWord 2 = .ok (.lconst 0, 1) := by decide +kernel
theorem dX12_isWord_3 : decode cX12_isWord 3 = .ok (.aload_n 0, 1) := by decide +kernel
theorem dX12_isWord_4 : decode cX12_isWord 4 = .ok (.getfield 22, 3) := by decide +kernel
theorem dX12_isWord_7 : decode cX12_isWord 7 = .ok (.iconst 5, 1) := by decide +kernel
theorem dX12_isWord_8 : decode cX12_isWord 8 = .ok (.iaload, 1) := by decide +kernel
theorem dX12_isWord_9 : decode cX12_isWord 9 = .ok (.iconst 1, 1) := by decide +kernel
theorem dX12_isWord_10 : decode cX12_isWord 10 = .ok (.isub, 1) := by decide +kernel
theorem dX12_isWord_11 : decode cX12_isWord 11 = .ok (.i2l, 1) := by decide +kernel
theorem dX12_isWord_12 : decode cX12_isWord 12 = .ok (.invokestatic 88, 3) := by decide +kernel
theorem dX12_isWord_15 : decode cX12_isWord 15 = .ok (.ireturn, 1) := by decide +kernel
theorem dX12_size_0 : decode cX12_size 0 = .ok (.aload_n 0, 1) := by decide +kernel
theorem dX12_size_1 : decode cX12_size 1 = .ok (.getfield 25, 3) := by decide +kernel
theorem dX12_size_4 : decode cX12_size 4 = .ok (.bipush 10, 2) := by decide +kernel
theorem dX12_size_6 : decode cX12_size 6 = .ok (.iload_n 1, 1) := by decide +kernel
theorem dX12_size_7 : decode cX12_size 7 = .ok (.imul, 1) := by decide +kernel
theorem dX12_size_8 : decode cX12_size 8 = .ok (.bipush 8, 2) := by decide +kernel
theorem dX12_size_10 : decode cX12_size 10 = .ok (.iadd, 1) := by decide +kernel
theorem dX12_size_11 : decode cX12_size 11 = .ok (.iaload, 1) := by decide +kernel
theorem dX12_size_12 : decode cX12_size 12 = .ok (.ireturn, 1) := by decide +kernel
theorem dX12_knocksOf_0 : decode cX12_knocksOf 0 = .ok (.iconst 0, 1) := by decide +kernel
theorem dX12_knocksOf_1 : decode cX12_knocksOf 1 = .ok (.istore_n 2, 1) := by decide +kernel
theorem dX12_knocksOf_2 : decode cX12_knocksOf 2 = .ok (.iconst 0, 1) := by decide +kernel
theorem dX12_knocksOf_3 : decode cX12_knocksOf 3 = .ok (.istore_n 3, 1) := by decide +kernel
theorem dX12_knocksOf_4 : decode cX12_knocksOf 4 = .ok (.iload_n 3, 1) := by decide +kernel
theorem dX12_knocksOf_5 : decode cX12_knocksOf 5 = .ok (.aload_n 0, 1) := by decide +kernel
theorem dX12_knocksOf_6 : decode cX12_knocksOf 6 = .ok (.iload_n 1, 1) := by decide +kernel
theorem dX12_knocksOf_7 : decode cX12_knocksOf 7 = .ok (.invokevirtual 194, 3) := by decide +kernel
theorem dX12_knocksOf_10 : decode cX12_knocksOf 10 = .ok (.if_icmp .ge 27, 3) := by decide +kernel
theorem dX12_knocksOf_13 : decode cX12_knocksOf 13 = .ok (.iload_n 2, 1) := by decide +kernel
theorem dX12_knocksOf_14 : decode cX12_knocksOf 14 = .ok (.aload_n 0, 1) := by decide +kernel
theorem dX12_knocksOf_15 : decode cX12_knocksOf 15 = .ok (.aload_n 0, 1) := by decide +kernel
theorem dX12_knocksOf_16 : decode cX12_knocksOf 16 = .ok (.getfield 25, 3) := by decide +kernel
theorem dX12_knocksOf_19 : decode cX12_knocksOf 19 = .ok (.bipush 10, 2) := by decide +kernel
theorem dX12_knocksOf_21 : decode cX12_knocksOf 21 = .ok (.iload_n 1, 1) := by decide +kernel
theorem dX12_knocksOf_22 : decode cX12_knocksOf 22 = .ok (.imul, 1) := by decide +kernel
theorem dX12_knocksOf_23 : decode cX12_knocksOf 23 = .ok (.iload_n 3, 1) := by decide +kernel
theorem dX12_knocksOf_24 : decode cX12_knocksOf 24 = .ok (.iadd, 1) := by decide +kernel
theorem dX12_knocksOf_25 : decode cX12_knocksOf 25 = .ok (.iaload, 1) := by decide +kernel
theorem dX12_knocksOf_26 : decode cX12_knocksOf 26 = .ok (.invokevirtual 197, 3) := by decide +kernel
theorem dX12_knocksOf_29 : decode cX12_knocksOf 29 = .ok (.iadd, 1) := by decide +kernel
theorem dX12_knocksOf_30 : decode cX12_knocksOf 30 = .ok (.istore_n 2, 1) := by decide +kernel
theorem dX12_knocksOf_31 : decode cX12_knocksOf 31 = .ok (.iinc 3 1, 3) := by decide +kernel
theorem dX12_knocksOf_34 : decode cX12_knocksOf 34 = .ok (.goto (-30), 3) := by decide +kernel
theorem dX12_knocksOf_37 : decode cX12_knocksOf 37 = .ok (.iload_n 2, 1) := by decide +kernel
theorem dX12_knocksOf_38 : decode cX12_knocksOf 38 = .ok (.ireturn, 1) := by decide +kernel
theorem dX12_word_0 : decode cX12_word 0 = .ok (.aload_n 0, 1) := by decide +kernel
theorem dX12_word_1 : decode cX12_word 1 = .ok (.invokevirtual 182, 3) := by decide +kernel
theorem dX12_word_4 : decode cX12_word 4 = .ok (.aload_n 0, 1) := by decide +kernel
theorem dX12_word_5 : decode cX12_word 5 = .ok (.iload_n 1, 1) := by decide +kernel
theorem dX12_word_6 : decode cX12_word 6 = .ok (.invokevirtual 200, 3) := by decide +kernel
theorem dX12_word_9 : decode cX12_word 9 = .ok (.ifCond .ne 5, 3) := by decide +kernel
theorem dX12_word_12 : decode cX12_word 12 = .ok (.iconst (-1), 1) := by decide +kernel
theorem dX12_word_13 : decode cX12_word 13 = .ok (.ireturn, 1) := by decide +kernel
theorem dX12_word_14 : decode cX12_word 14 = .ok (.iload_n 2, 1) := by decide +kernel
theorem dX12_word_15 : decode cX12_word 15 = .ok (.tableswitch 50 0 2 #[25, 31, 44], 25) := by decide +kernel
theorem dX12_word_40 : decode cX12_word 40 = .ok (.aload_n 0, 1) := by decide +kernel
theorem dX12_word_41 : decode cX12_word 41 = .ok (.iload_n 1, 1) := by decide +kernel
theorem dX12_word_42 : decode cX12_word 42 = .ok (.invokevirtual 194, 3) := by decide +kernel
theorem dX12_word_45 : decode cX12_word 45 = .ok (.ireturn, 1) := by decide +kernel
theorem dX12_word_46 : decode cX12_word 46 = .ok (.aload_n 0, 1) := by decide +kernel
theorem dX12_word_47 : decode cX12_word 47 = .ok (.getfield 25, 3) := by decide +kernel
theorem dX12_word_50 : decode cX12_word 50 = .ok (.bipush 10, 2) := by decide +kernel
theorem dX12_word_52 : decode cX12_word 52 = .ok (.iload_n 1, 1) := by decide +kernel
theorem dX12_word_53 : decode cX12_word 53 = .ok (.imul, 1) := by decide +kernel
theorem dX12_word_54 : decode cX12_word 54 = .ok (.bipush 9, 2) := by decide +kernel
theorem dX12_word_56 : decode cX12_word 56 = .ok (.iadd, 1) := by decide +kernel
theorem dX12_word_57 : decode cX12_word 57 = .ok (.iaload, 1) := by decide +kernel
theorem dX12_word_58 : decode cX12_word 58 = .ok (.ireturn, 1) := by decide +kernel
theorem dX12_word_59 : decode cX12_word 59 = .ok (.aload_n 0, 1) := by decide +kernel
theorem dX12_word_60 : decode cX12_word 60 = .ok (.iload_n 1, 1) := by decide +kernel
theorem dX12_word_61 : decode cX12_word 61 = .ok (.invokevirtual 203, 3) := by decide +kernel
theorem dX12_word_64 : decode cX12_word 64 = .ok (.ireturn, 1) := by decide +kernel
theorem dX12_word_65 : decode cX12_word 65 = .ok (.iload_n 2, 1) := by decide +kernel
theorem dX12_word_66 : decode cX12_word 66 = .ok (.i2l, 1) := by decide +kernel
theorem dX12_word_67 : decode cX12_word 67 = .ok (.ldc2_w 206, 3) := by decide +kernel
theorem dX12_word_70 : decode cX12_word 70 = .ok (.bipush 9, 2) := by decide +kernel
theorem dX12_word_72 : decode cX12_word 72 = .ok (.aload_n 0, 1) := by decide +kernel
theorem dX12_word_73 : decode cX12_word 73 = .ok (.iload_n 1, 1) := by decide +kernel
theorem dX12_word_74 : decode cX12_word 74 = .ok (.invokevirtual 194, 3) := by decide +kernel
theorem dX12_word_77 : decode cX12_word 77 = .ok (.iadd, 1) := by decide +kernel
theorem dX12_word_78 : decode cX12_word 78 = .ok (.i2l, 1) := by decide +kernel
theorem dX12_word_79 : decode cX12_word 79 = .ok (.invokestatic 88, 3) := by decide +kernel
theorem dX12_word_82 : decode cX12_word 82 = .ok (.ifCond .eq 23, 3) := by decide +kernel
theorem dX12_word_85 : decode cX12_word 85 = .ok (.aload_n 0, 1) := by decide +kernel
theorem dX12_word_86 : decode cX12_word 86 = .ok (.getfield 25, 3) := by decide +kernel
theorem dX12_word_89 : decode cX12_word 89 = .ok (.bipush 10, 2) := by decide +kernel
theorem dX12_word_91 : decode cX12_word 91 = .ok (.iload_n 1, 1) := by decide +kernel
theorem dX12_word_92 : decode cX12_word 92 = .ok (.imul, 1) := by decide +kernel
theorem dX12_word_93 : decode cX12_word 93 = .ok (.iload_n 2, 1) := by decide +kernel
theorem dX12_word_94 : decode cX12_word 94 = .ok (.iadd, 1) := by decide +kernel
theorem dX12_word_95 : decode cX12_word 95 = .ok (.bipush 10, 2) := by decide +kernel
theorem dX12_word_97 : decode cX12_word 97 = .ok (.isub, 1) := by decide +kernel
theorem dX12_word_98 : decode cX12_word 98 = .ok (.iaload, 1) := by decide +kernel
theorem dX12_word_99 : decode cX12_word 99 = .ok (.bipush 97, 2) := by decide +kernel
theorem dX12_word_101 : decode cX12_word 101 = .ok (.iadd, 1) := by decide +kernel
theorem dX12_word_102 : decode cX12_word 102 = .ok (.goto 4, 3) := by decide +kernel
theorem dX12_word_105 : decode cX12_word 105 = .ok (.iconst (-1), 1) := by decide +kernel
theorem dX12_word_106 : decode cX12_word 106 = .ok (.ireturn, 1) := by decide +kernel
theorem dX12_swap_0 : decode cX12_swap 0 = .ok (.aload_n 0, 1) := by decide +kernel
theorem dX12_swap_1 : decode cX12_swap 1 = .ok (.invokevirtual 182, 3) := by decide +kernel
theorem dX12_swap_4 : decode cX12_swap 4 = .ok (.iload_n 1, 1) := by decide +kernel
theorem dX12_swap_5 : decode cX12_swap 5 = .ok (.invokestatic 185, 3) := by decide +kernel
theorem dX12_swap_8 : decode cX12_swap 8 = .ok (.ifCond .eq 10, 3) := by decide +kernel
theorem dX12_swap_11 : decode cX12_swap 11 = .ok (.iload_n 2, 1) := by decide +kernel
theorem dX12_swap_12 : decode cX12_swap 12 = .ok (.invokestatic 185, 3) := by decide +kernel
theorem dX12_swap_15 : decode cX12_swap 15 = .ok (.ifCond .ne 5, 3) := by decide +kernel
theorem dX12_swap_18 : decode cX12_swap 18 = .ok (.iconst (-1), 1) := by decide +kernel
theorem dX12_swap_19 : decode cX12_swap 19 = .ok (.ireturn, 1) := by decide +kernel
theorem dX12_swap_20 : decode cX12_swap 20 = .ok (.aload_n 0, 1) := by decide +kernel
theorem dX12_swap_21 : decode cX12_swap 21 = .ok (.getfield 49, 3) := by decide +kernel
theorem dX12_swap_24 : decode cX12_swap 24 = .ok (.iload_n 1, 1) := by decide +kernel
theorem dX12_swap_25 : decode cX12_swap 25 = .ok (.iaload, 1) := by decide +kernel
theorem dX12_swap_26 : decode cX12_swap 26 = .ok (.istore_n 3, 1) := by decide +kernel
theorem dX12_swap_27 : decode cX12_swap 27 = .ok (.aload_n 0, 1) := by decide +kernel
theorem dX12_swap_28 : decode cX12_swap 28 = .ok (.getfield 49, 3) := by decide +kernel
theorem dX12_swap_31 : decode cX12_swap 31 = .ok (.iload_n 1, 1) := by decide +kernel
theorem dX12_swap_32 : decode cX12_swap 32 = .ok (.aload_n 0, 1) := by decide +kernel
theorem dX12_swap_33 : decode cX12_swap 33 = .ok (.getfield 49, 3) := by decide +kernel
theorem dX12_swap_36 : decode cX12_swap 36 = .ok (.iload_n 2, 1) := by decide +kernel
theorem dX12_swap_37 : decode cX12_swap 37 = .ok (.iaload, 1) := by decide +kernel
theorem dX12_swap_38 : decode cX12_swap 38 = .ok (.iastore, 1) := by decide +kernel
theorem dX12_swap_39 : decode cX12_swap 39 = .ok (.aload_n 0, 1) := by decide +kernel
theorem dX12_swap_40 : decode cX12_swap 40 = .ok (.getfield 49, 3) := by decide +kernel
theorem dX12_swap_43 : decode cX12_swap 43 = .ok (.iload_n 2, 1) := by decide +kernel
theorem dX12_swap_44 : decode cX12_swap 44 = .ok (.iload_n 3, 1) := by decide +kernel
theorem dX12_swap_45 : decode cX12_swap 45 = .ok (.iastore, 1) := by decide +kernel
theorem dX12_swap_46 : decode cX12_swap 46 = .ok (.iload_n 1, 1) := by decide +kernel
theorem dX12_swap_47 : decode cX12_swap 47 = .ok (.iload_n 2, 1) := by decide +kernel
theorem dX12_swap_48 : decode cX12_swap 48 = .ok (.if_icmp .ne 7, 3) := by decide +kernel
theorem dX12_swap_51 : decode cX12_swap 51 = .ok (.iconst 0, 1) := by decide +kernel
theorem dX12_swap_52 : decode cX12_swap 52 = .ok (.goto 4, 3) := by decide +kernel
theorem dX12_swap_55 : decode cX12_swap 55 = .ok (.iconst 1, 1) := by decide +kernel
theorem dX12_swap_56 : decode cX12_swap 56 = .ok (.ireturn, 1) := by decide +kernel
theorem dX12_wrongPlace_0 : decode cX12_wrongPlace 0 = .ok (.iconst 0, 1) := by decide +kernel
theorem dX12_wrongPlace_1 : decode cX12_wrongPlace 1 = .ok (.istore_n 1, 1) := by decide +kernel
theorem dX12_wrongPlace_2 : decode cX12_wrongPlace 2 = .ok (.iconst 0, 1) := by decide +kernel
theorem dX12_wrongPlace_3 : decode cX12_wrongPlace 3 = .ok (.istore_n 2, 1) := by decide +kernel
theorem dX12_wrongPlace_4 : decode cX12_wrongPlace 4 = .ok (.iload_n 2, 1) := by decide +kernel
theorem dX12_wrongPlace_5 : decode cX12_wrongPlace 5 = .ok (.aload_n 0, 1) := by decide +kernel
theorem dX12_wrongPlace_6 : decode cX12_wrongPlace 6 = .ok (.getfield 84, 3) := by decide +kernel
theorem dX12_wrongPlace_9 : decode cX12_wrongPlace 9 = .ok (.if_icmp .ge 83, 3) := by decide +kernel
theorem dX12_wrongPlace_12 : decode cX12_wrongPlace 12 = .ok (.aload_n 0, 1) := by decide +kernel
theorem dX12_wrongPlace_13 : decode cX12_wrongPlace 13 = .ok (.getfield 7, 3) := by decide +kernel
theorem dX12_wrongPlace_16 : decode cX12_wrongPlace 16 = .ok (.iload_n 2, 1) := by decide +kernel
theorem dX12_wrongPlace_17 : decode cX12_wrongPlace 17 = .ok (.iaload, 1) := by decide +kernel
theorem dX12_wrongPlace_18 : decode cX12_wrongPlace 18 = .ok (.i2l, 1) := by decide +kernel
theorem dX12_wrongPlace_19 : decode cX12_wrongPlace 19 = .ok (.ldc2_w 114, 3) := by decide +kernel
theorem dX12_wrongPlace_22 : decode cX12_wrongPlace 22 = .ok (.ldc2_w 116, 3) := by decide +kernel
theorem dX12_wrongPlace_25 : decode cX12_wrongPlace 25 = .ok (.invokestatic 88, 3) := by decide +kernel
theorem dX12_wrongPlace_28 : decode cX12_wrongPlace 28 = .ok (.ifCond .eq 25, 3) := by decide +kernel
theorem dX12_wrongPlace_31 : decode cX12_wrongPlace 31 = .ok (.aload_n 0, 1) := by decide +kernel
theorem dX12_wrongPlace_32 : decode cX12_wrongPlace 32 = .ok (.aload_n 0, 1) := by decide +kernel
theorem dX12_wrongPlace_33 : decode cX12_wrongPlace 33 = .ok (.getfield 7, 3) := by decide +kernel
theorem dX12_wrongPlace_36 : decode cX12_wrongPlace 36 = .ok (.iload_n 2, 1) := by decide +kernel
theorem dX12_wrongPlace_37 : decode cX12_wrongPlace 37 = .ok (.iaload, 1) := by decide +kernel
theorem dX12_wrongPlace_38 : decode cX12_wrongPlace 38 = .ok (.bipush 97, 2) := by decide +kernel
theorem dX12_wrongPlace_40 : decode cX12_wrongPlace 40 = .ok (.isub, 1) := by decide +kernel
theorem dX12_wrongPlace_41 : decode cX12_wrongPlace 41 = .ok (.invokevirtual 188, 3) := by decide +kernel
theorem dX12_wrongPlace_44 : decode cX12_wrongPlace 44 = .ok (.bipush (-4), 2) := by decide +kernel
theorem dX12_wrongPlace_46 : decode cX12_wrongPlace 46 = .ok (.if_icmp .eq 7, 3) := by decide +kernel
theorem dX12_wrongPlace_49 : decode cX12_wrongPlace 49 = .ok (.iconst 1, 1) := by decide +kernel
theorem dX12_wrongPlace_50 : decode cX12_wrongPlace 50 = .ok (.goto 4, 3) := by decide +kernel
theorem dX12_wrongPlace_53 : decode cX12_wrongPlace 53 = .ok (.iconst 0, 1) := by decide +kernel
theorem dX12_wrongPlace_54 : decode cX12_wrongPlace 54 = .ok (.istore_n 3, 1) := by decide +kernel
theorem dX12_wrongPlace_55 : decode cX12_wrongPlace 55 = .ok (.iload_n 3, 1) := by decide +kernel
theorem dX12_wrongPlace_56 : decode cX12_wrongPlace 56 = .ok (.ifCond .ne 16, 3) := by decide +kernel
theorem dX12_wrongPlace_59 : decode cX12_wrongPlace 59 = .ok (.aload_n 0, 1) := by decide +kernel
theorem dX12_wrongPlace_60 : decode cX12_wrongPlace 60 = .ok (.getfield 7, 3) := by decide +kernel
theorem dX12_wrongPlace_63 : decode cX12_wrongPlace 63 = .ok (.iload_n 2, 1) := by decide +kernel
theorem dX12_wrongPlace_64 : decode cX12_wrongPlace 64 = .ok (.iaload, 1) := by decide +kernel
theorem dX12_wrongPlace_65 : decode cX12_wrongPlace 65 = .ok (.bipush 32, 2) := by decide +kernel
theorem dX12_wrongPlace_67 : decode cX12_wrongPlace 67 = .ok (.if_icmp .eq 5, 3) := by decide +kernel
theorem dX12_wrongPlace_70 : decode cX12_wrongPlace 70 = .ok (.iload_n 2, 1) := by decide +kernel
theorem dX12_wrongPlace_71 : decode cX12_wrongPlace 71 = .ok (.ireturn, 1) := by decide +kernel
theorem dX12_wrongPlace_72 : decode cX12_wrongPlace 72 = .ok (.iload_n 1, 1) := by decide +kernel
theorem dX12_wrongPlace_73 : decode cX12_wrongPlace 73 = .ok (.ifCond .ne 7, 3) := by decide +kernel
theorem dX12_wrongPlace_76 : decode cX12_wrongPlace 76 = .ok (.iload_n 3, 1) := by decide +kernel
theorem dX12_wrongPlace_77 : decode cX12_wrongPlace 77 = .ok (.ifCond .eq 7, 3) := by decide +kernel
theorem dX12_wrongPlace_80 : decode cX12_wrongPlace 80 = .ok (.iconst 1, 1) := by decide +kernel
theorem dX12_wrongPlace_81 : decode cX12_wrongPlace 81 = .ok (.goto 4, 3) := by decide +kernel
theorem dX12_wrongPlace_84 : decode cX12_wrongPlace 84 = .ok (.iconst 0, 1) := by decide +kernel
theorem dX12_wrongPlace_85 : decode cX12_wrongPlace 85 = .ok (.istore_n 1, 1) := by decide +kernel
theorem dX12_wrongPlace_86 : decode cX12_wrongPlace 86 = .ok (.iinc 2 1, 3) := by decide +kernel
theorem dX12_wrongPlace_89 : decode cX12_wrongPlace 89 = .ok (.goto (-85), 3) := by decide +kernel
theorem dX12_wrongPlace_92 : decode cX12_wrongPlace 92 = .ok (.iload_n 1, 1) := by decide +kernel
theorem dX12_wrongPlace_93 : decode cX12_wrongPlace 93 = .ok (.ifCond .eq 8, 3) := by decide +kernel
theorem dX12_wrongPlace_96 : decode cX12_wrongPlace 96 = .ok (.bipush (-4), 2) := by decide +kernel
theorem dX12_wrongPlace_98 : decode cX12_wrongPlace 98 = .ok (.goto 7, 3) := by decide +kernel
theorem dX12_wrongPlace_101 : decode cX12_wrongPlace 101 = .ok (.aload_n 0, 1) := by decide +kernel
theorem dX12_wrongPlace_102 : decode cX12_wrongPlace 102 = .ok (.getfield 84, 3) := by decide +kernel
theorem dX12_wrongPlace_105 : decode cX12_wrongPlace 105 = .ok (.ireturn, 1) := by decide +kernel
theorem dX12_wrong_0 : decode cX12_wrong 0 = .ok (.aload_n 0, 1) := by decide +kernel
theorem dX12_wrong_1 : decode cX12_wrong 1 = .ok (.invokevirtual 182, 3) := by decide +kernel
theorem dX12_wrong_4 : decode cX12_wrong 4 = .ok (.aload_n 0, 1) := by decide +kernel
theorem dX12_wrong_5 : decode cX12_wrong 5 = .ok (.invokevirtual 208, 3) := by decide +kernel
theorem dX12_wrong_8 : decode cX12_wrong 8 = .ok (.ireturn, 1) := by decide +kernel
theorem dX12_shortFor_0 : decode cX12_shortFor 0 = .ok (.iconst 0, 1) := by decide +kernel
theorem dX12_shortFor_1 : decode cX12_shortFor 1 = .ok (.istore_n 3, 1) := by decide +kernel
theorem dX12_shortFor_2 : decode cX12_shortFor 2 = .ok (.iload_n 3, 1) := by decide +kernel
theorem dX12_shortFor_3 : decode cX12_shortFor 3 = .ok (.aload_n 0, 1) := by decide +kernel
theorem dX12_shortFor_4 : decode cX12_shortFor 4 = .ok (.getfield 22, 3) := by decide +kernel
theorem dX12_shortFor_7 : decode cX12_shortFor 7 = .ok (.bipush 6, 2) := by decide +kernel
theorem dX12_shortFor_9 : decode cX12_shortFor 9 = .ok (.iaload, 1) := by decide +kernel
theorem dX12_shortFor_10 : decode cX12_shortFor 10 = .ok (.if_icmp .ge 99, 3) := by decide +kernel
theorem dX12_shortFor_13 : decode cX12_shortFor 13 = .ok (.aload_n 0, 1) := by decide +kernel
theorem dX12_shortFor_14 : decode cX12_shortFor 14 = .ok (.getfield 28, 3) := by decide +kernel
theorem dX12_shortFor_17 : decode cX12_shortFor 17 = .ok (.bipush 13, 2) := by decide +kernel
theorem dX12_shortFor_19 : decode cX12_shortFor 19 = .ok (.iload_n 3, 1) := by decide +kernel
theorem dX12_shortFor_20 : decode cX12_shortFor 20 = .ok (.imul, 1) := by decide +kernel
theorem dX12_shortFor_21 : decode cX12_shortFor 21 = .ok (.bipush 12, 2) := by decide +kernel
theorem dX12_shortFor_23 : decode cX12_shortFor 23 = .ok (.iadd, 1) := by decide +kernel
theorem dX12_shortFor_24 : decode cX12_shortFor 24 = .ok (.iaload, 1) := by decide +kernel
theorem dX12_shortFor_25 : decode cX12_shortFor 25 = .ok (.iload_n 2, 1) := by decide +kernel
theorem dX12_shortFor_26 : decode cX12_shortFor 26 = .ok (.iload_n 1, 1) := by decide +kernel
theorem dX12_shortFor_27 : decode cX12_shortFor 27 = .ok (.isub, 1) := by decide +kernel
theorem dX12_shortFor_28 : decode cX12_shortFor 28 = .ok (.if_icmp .ne 7, 3) := by decide +kernel
theorem dX12_shortFor_31 : decode cX12_shortFor 31 = .ok (.iconst 1, 1) := by decide +kernel
theorem dX12_shortFor_32 : decode cX12_shortFor 32 = .ok (.goto 4, 3) := by decide +kernel
theorem dX12_shortFor_35 : decode cX12_shortFor 35 = .ok (.iconst 0, 1) := by decide +kernel
theorem dX12_shortFor_36 : decode cX12_shortFor 36 = .ok (.istore 4, 2) := by decide +kernel
theorem dX12_shortFor_38 : decode cX12_shortFor 38 = .ok (.iconst 0, 1) := by decide +kernel
theorem dX12_shortFor_39 : decode cX12_shortFor 39 = .ok (.istore 5, 2) := by decide +kernel
theorem dX12_shortFor_41 : decode cX12_shortFor 41 = .ok (.iload 4, 2) := by decide +kernel
theorem dX12_shortFor_43 : decode cX12_shortFor 43 = .ok (.ifCond .eq 53, 3) := by decide +kernel
theorem dX12_shortFor_46 : decode cX12_shortFor 46 = .ok (.iload 5, 2) := by decide +kernel
theorem dX12_shortFor_48 : decode cX12_shortFor 48 = .ok (.iload_n 2, 1) := by decide +kernel
theorem dX12_shortFor_49 : decode cX12_shortFor 49 = .ok (.iload_n 1, 1) := by decide +kernel
theorem dX12_shortFor_50 : decode cX12_shortFor 50 = .ok (.isub, 1) := by decide +kernel
theorem dX12_shortFor_51 : decode cX12_shortFor 51 = .ok (.if_icmp .ge 45, 3) := by decide +kernel
theorem dX12_shortFor_54 : decode cX12_shortFor 54 = .ok (.aload_n 0, 1) := by decide +kernel
theorem dX12_shortFor_55 : decode cX12_shortFor 55 = .ok (.getfield 28, 3) := by decide +kernel
theorem dX12_shortFor_58 : decode cX12_shortFor 58 = .ok (.bipush 13, 2) := by decide +kernel
theorem dX12_shortFor_60 : decode cX12_shortFor 60 = .ok (.iload_n 3, 1) := by decide +kernel
theorem dX12_shortFor_61 : decode cX12_shortFor 61 = .ok (.imul, 1) := by decide +kernel
theorem dX12_shortFor_62 : decode cX12_shortFor 62 = .ok (.iconst 4, 1) := by decide +kernel
theorem dX12_shortFor_63 : decode cX12_shortFor 63 = .ok (.iadd, 1) := by decide +kernel
theorem dX12_shortFor_64 : decode cX12_shortFor 64 = .ok (.iload 5, 2) := by decide +kernel
theorem dX12_shortFor_66 : decode cX12_shortFor 66 = .ok (.iadd, 1) := by decide +kernel
theorem dX12_shortFor_67 : decode cX12_shortFor 67 = .ok (.iaload, 1) := by decide +kernel
theorem dX12_shortFor_68 : decode cX12_shortFor 68 = .ok (.aload_n 0, 1) := by decide +kernel
theorem dX12_shortFor_69 : decode cX12_shortFor 69 = .ok (.getfield 7, 3) := by decide +kernel
theorem dX12_shortFor_72 : decode cX12_shortFor 72 = .ok (.iload_n 1, 1) := by decide +kernel
theorem dX12_shortFor_73 : decode cX12_shortFor 73 = .ok (.iload 5, 2) := by decide +kernel
theorem dX12_shortFor_75 : decode cX12_shortFor 75 = .ok (.iadd, 1) := by decide +kernel
theorem dX12_shortFor_76 : decode cX12_shortFor 76 = .ok (.iaload, 1) := by decide +kernel
theorem dX12_shortFor_77 : decode cX12_shortFor 77 = .ok (.bipush 97, 2) := by decide +kernel
theorem dX12_shortFor_79 : decode cX12_shortFor 79 = .ok (.isub, 1) := by decide +kernel
theorem dX12_shortFor_80 : decode cX12_shortFor 80 = .ok (.if_icmp .ne 7, 3) := by decide +kernel
theorem dX12_shortFor_83 : decode cX12_shortFor 83 = .ok (.iconst 1, 1) := by decide +kernel
theorem dX12_shortFor_84 : decode cX12_shortFor 84 = .ok (.goto 4, 3) := by decide +kernel
theorem dX12_shortFor_87 : decode cX12_shortFor 87 = .ok (.iconst 0, 1) := by decide +kernel
theorem dX12_shortFor_88 : decode cX12_shortFor 88 = .ok (.istore 4, 2) := by decide +kernel
theorem dX12_shortFor_90 : decode cX12_shortFor 90 = .ok (.iinc 5 1, 3) := by decide +kernel
theorem dX12_shortFor_93 : decode cX12_shortFor 93 = .ok (.goto (-52), 3) := by decide +kernel
theorem dX12_shortFor_96 : decode cX12_shortFor 96 = .ok (.iload 4, 2) := by decide +kernel
theorem dX12_shortFor_98 : decode cX12_shortFor 98 = .ok (.ifCond .eq 5, 3) := by decide +kernel
theorem dX12_shortFor_101 : decode cX12_shortFor 101 = .ok (.iload_n 3, 1) := by decide +kernel
theorem dX12_shortFor_102 : decode cX12_shortFor 102 = .ok (.ireturn, 1) := by decide +kernel
theorem dX12_shortFor_103 : decode cX12_shortFor 103 = .ok (.iinc 3 1, 3) := by decide +kernel
theorem dX12_shortFor_106 : decode cX12_shortFor 106 = .ok (.goto (-104), 3) := by decide +kernel
theorem dX12_shortFor_109 : decode cX12_shortFor 109 = .ok (.bipush (-4), 2) := by decide +kernel
theorem dX12_shortFor_111 : decode cX12_shortFor 111 = .ok (.ireturn, 1) := by decide +kernel
theorem dX12_takesName_0 : decode cX12_takesName 0 = .ok (.iload_n 2, 1) := by decide +kernel
theorem dX12_takesName_1 : decode cX12_takesName 1 = .ok (.aload_n 0, 1) := by decide +kernel
theorem dX12_takesName_2 : decode cX12_takesName 2 = .ok (.getfield 22, 3) := by decide +kernel
theorem dX12_takesName_5 : decode cX12_takesName 5 = .ok (.iconst 2, 1) := by decide +kernel
theorem dX12_takesName_6 : decode cX12_takesName 6 = .ok (.iaload, 1) := by decide +kernel
theorem dX12_takesName_7 : decode cX12_takesName 7 = .ok (.imul, 1) := by decide +kernel
theorem dX12_takesName_8 : decode cX12_takesName 8 = .ok (.iload_n 1, 1) := by decide +kernel
theorem dX12_takesName_9 : decode cX12_takesName 9 = .ok (.aload_n 0, 1) := by decide +kernel
theorem dX12_takesName_10 : decode cX12_takesName 10 = .ok (.getfield 22, 3) := by decide +kernel
theorem dX12_takesName_13 : decode cX12_takesName 13 = .ok (.iconst 3, 1) := by decide +kernel
theorem dX12_takesName_14 : decode cX12_takesName 14 = .ok (.iaload, 1) := by decide +kernel
theorem dX12_takesName_15 : decode cX12_takesName 15 = .ok (.imul, 1) := by decide +kernel
theorem dX12_takesName_16 : decode cX12_takesName 16 = .ok (.iadd, 1) := by decide +kernel
theorem dX12_takesName_17 : decode cX12_takesName 17 = .ok (.iload_n 1, 1) := by decide +kernel
theorem dX12_takesName_18 : decode cX12_takesName 18 = .ok (.iconst 1, 1) := by decide +kernel
theorem dX12_takesName_19 : decode cX12_takesName 19 = .ok (.isub, 1) := by decide +kernel
theorem dX12_takesName_20 : decode cX12_takesName 20 = .ok (.aload_n 0, 1) := by decide +kernel
theorem dX12_takesName_21 : decode cX12_takesName 21 = .ok (.getfield 22, 3) := by decide +kernel
theorem dX12_takesName_24 : decode cX12_takesName 24 = .ok (.iconst 4, 1) := by decide +kernel
theorem dX12_takesName_25 : decode cX12_takesName 25 = .ok (.iaload, 1) := by decide +kernel
theorem dX12_takesName_26 : decode cX12_takesName 26 = .ok (.imul, 1) := by decide +kernel
theorem dX12_takesName_27 : decode cX12_takesName 27 = .ok (.iadd, 1) := by decide +kernel
theorem dX12_takesName_28 : decode cX12_takesName 28 = .ok (.ireturn, 1) := by decide +kernel
theorem dX12_layName_0 : decode cX12_layName 0 = .ok (.iload_n 2, 1) := by decide +kernel
theorem dX12_layName_1 : decode cX12_layName 1 = .ok (.iload_n 1, 1) := by decide +kernel
theorem dX12_layName_2 : decode cX12_layName 2 = .ok (.isub, 1) := by decide +kernel
theorem dX12_layName_3 : decode cX12_layName 3 = .ok (.istore_n 3, 1) := by decide +kernel
theorem dX12_layName_4 : decode cX12_layName 4 = .ok (.iconst 0, 1) := by decide +kernel
theorem dX12_layName_5 : decode cX12_layName 5 = .ok (.istore 4, 2) := by decide +kernel
theorem dX12_layName_7 : decode cX12_layName 7 = .ok (.iload_n 1, 1) := by decide +kernel
theorem dX12_layName_8 : decode cX12_layName 8 = .ok (.istore 5, 2) := by decide +kernel
theorem dX12_layName_10 : decode cX12_layName 10 = .ok (.iload 5, 2) := by decide +kernel
theorem dX12_layName_12 : decode cX12_layName 12 = .ok (.iload_n 2, 1) := by decide +kernel
theorem dX12_layName_13 : decode cX12_layName 13 = .ok (.if_icmp .ge 28, 3) := by decide +kernel
theorem dX12_layName_16 : decode cX12_layName 16 = .ok (.iload 4, 2) := by decide +kernel
theorem dX12_layName_18 : decode cX12_layName 18 = .ok (.aload_n 0, 1) := by decide +kernel
theorem dX12_layName_19 : decode cX12_layName 19 = .ok (.aload_n 0, 1) := by decide +kernel
theorem dX12_layName_20 : decode cX12_layName 20 = .ok (.getfield 7, 3) := by decide +kernel
theorem dX12_layName_23 : decode cX12_layName 23 = .ok (.iload 5, 2) := by decide +kernel
theorem dX12_layName_25 : decode cX12_layName 25 = .ok (.iaload, 1) := by decide +kernel
theorem dX12_layName_26 : decode cX12_layName 26 = .ok (.bipush 97, 2) := by decide +kernel
theorem dX12_layName_28 : decode cX12_layName 28 = .ok (.isub, 1) := by decide +kernel
theorem dX12_layName_29 : decode cX12_layName 29 = .ok (.invokevirtual 197, 3) := by decide +kernel
theorem dX12_layName_32 : decode cX12_layName 32 = .ok (.iadd, 1) := by decide +kernel
theorem dX12_layName_33 : decode cX12_layName 33 = .ok (.istore 4, 2) := by decide +kernel
theorem dX12_layName_35 : decode cX12_layName 35 = .ok (.iinc 5 1, 3) := by decide +kernel
theorem dX12_layName_38 : decode cX12_layName 38 = .ok (.goto (-28), 3) := by decide +kernel
theorem dX12_layName_41 : decode cX12_layName 41 = .ok (.aload_n 0, 1) := by decide +kernel
theorem dX12_layName_42 : decode cX12_layName 42 = .ok (.getfield 52, 3) := by decide +kernel
theorem dX12_layName_45 : decode cX12_layName 45 = .ok (.iconst 1, 1) := by decide +kernel
theorem dX12_layName_46 : decode cX12_layName 46 = .ok (.iaload, 1) := by decide +kernel
theorem dX12_layName_47 : decode cX12_layName 47 = .ok (.ifCond .le 14, 3) := by decide +kernel
theorem dX12_layName_50 : decode cX12_layName 50 = .ok (.iconst 2, 1) := by decide +kernel
theorem dX12_layName_51 : decode cX12_layName 51 = .ok (.aload_n 0, 1) := by decide +kernel
theorem dX12_layName_52 : decode cX12_layName 52 = .ok (.getfield 22, 3) := by decide +kernel
theorem dX12_layName_55 : decode cX12_layName 55 = .ok (.iconst 4, 1) := by decide +kernel
theorem dX12_layName_56 : decode cX12_layName 56 = .ok (.iaload, 1) := by decide +kernel
theorem dX12_layName_57 : decode cX12_layName 57 = .ok (.imul, 1) := by decide +kernel
theorem dX12_layName_58 : decode cX12_layName 58 = .ok (.goto 4, 3) := by decide +kernel
theorem dX12_layName_61 : decode cX12_layName 61 = .ok (.iconst 0, 1) := by decide +kernel
theorem dX12_layName_62 : decode cX12_layName 62 = .ok (.istore 5, 2) := by decide +kernel
theorem dX12_layName_64 : decode cX12_layName 64 = .ok (.aload_n 0, 1) := by decide +kernel
theorem dX12_layName_65 : decode cX12_layName 65 = .ok (.iload_n 1, 1) := by decide +kernel
theorem dX12_layName_66 : decode cX12_layName 66 = .ok (.iload_n 2, 1) := by decide +kernel
theorem dX12_layName_67 : decode cX12_layName 67 = .ok (.invokevirtual 211, 3) := by decide +kernel
theorem dX12_layName_70 : decode cX12_layName 70 = .ok (.istore 6, 2) := by decide +kernel
theorem dX12_layName_72 : decode cX12_layName 72 = .ok (.iload_n 3, 1) := by decide +kernel
theorem dX12_layName_73 : decode cX12_layName 73 = .ok (.istore 7, 2) := by decide +kernel
theorem dX12_layName_75 : decode cX12_layName 75 = .ok (.iload 4, 2) := by decide +kernel
theorem dX12_layName_77 : decode cX12_layName 77 = .ok (.istore 8, 2) := by decide +kernel
theorem dX12_layName_79 : decode cX12_layName 79 = .ok (.iload 6, 2) := by decide +kernel
theorem dX12_layName_81 : decode cX12_layName 81 = .ok (.bipush (-4), 2) := by decide +kernel
theorem dX12_layName_83 : decode cX12_layName 83 = .ok (.if_icmp .eq 90, 3) := by decide +kernel
theorem dX12_layName_86 : decode cX12_layName 86 = .ok (.iconst 0, 1) := by decide +kernel
theorem dX12_layName_87 : decode cX12_layName 87 = .ok (.istore 9, 2) := by decide +kernel
theorem dX12_layName_89 : decode cX12_layName 89 = .ok (.iconst 0, 1) := by decide +kernel
theorem dX12_layName_90 : decode cX12_layName 90 = .ok (.istore 10, 2) := by decide +kernel
theorem dX12_layName_92 : decode cX12_layName 92 = .ok (.iload 10, 2) := by decide +kernel
theorem dX12_layName_94 : decode cX12_layName 94 = .ok (.aload_n 0, 1) := by decide +kernel
theorem dX12_layName_95 : decode cX12_layName 95 = .ok (.getfield 28, 3) := by decide +kernel
theorem dX12_layName_98 : decode cX12_layName 98 = .ok (.bipush 13, 2) := by decide +kernel
