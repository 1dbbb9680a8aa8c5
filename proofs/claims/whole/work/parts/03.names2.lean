set_option maxRecDepth 20000 in
theorem ggX6_readLines_X9_nextToken : GoodIn wsX6_readLines wsX9_nextToken := goodIn_r _ [10, 11, 12, 13, 14, 15, 16, 17, 9, 18, 19, 20, 21, 22, 23, 200, 201, 202, 203, 204, 205] (by decide +kernel) (by decide +kernel)
set_option maxRecDepth 20000 in
theorem gX6_readLines_X9_nextToken : GoodIn wsX6_readLines (wsV RX6 23 RX9 yX9_nextToken wsX9_nextToken) := goodIn_app (goodIn_of _ (by decide +kernel)) ggX6_readLines_X9_nextToken
set_option maxRecDepth 20000 in
theorem ggX6_readLines_X6_takeLine : GoodIn wsX6_readLines wsX6_takeLine := goodIn_r _ [28, 29, 30, 31, 32, 27, 33, 4, 34, 35, 36, 37, 1, 2, 38, 39, 40, 9, 41, 11, 14, 13, 42, 43, 44, 45, 46, 47, 48, 49, 50, 51, 52, 53, 54, 55, 56, 57, 58, 59, 60, 61, 62, 63, 64, 65, 66, 67, 68, 69, 70, 71, 72, 73, 74, 75, 76, 77, 78, 79, 80, 81, 82, 83, 84, 85, 86, 87, 88, 89, 90, 91, 92, 93, 94, 95, 96, 97, 98, 99, 3, 6, 7, 8, 10, 12, 15, 16, 17, 18, 19, 20, 21, 22, 23, 100, 101, 102, 103, 104, 105, 106, 107, 108, 109, 110, 111, 112, 113, 114, 115, 116, 117, 118, 119, 120, 121, 122, 123, 124, 125, 126, 127, 128, 129, 130, 131, 132, 133, 134, 135, 136, 137, 138, 139, 140, 141, 142, 143, 144, 145, 146, 147, 148, 149, 150, 151, 152, 153, 154, 155, 156, 157, 158, 159, 160, 161, 162, 163, 164, 165, 166, 167, 168, 169, 170, 171, 172, 173, 174, 175, 176, 177, 178, 179, 180, 181, 182, 183, 184, 185, 186, 200, 201, 202, 203, 204, 205, 198, 199, 206, 207, 208, 209, 210, 211, 212, 213, 214, 215, 216, 217, 218, 219, 220, 221, 222, 223, 224, 225, 226, 227] (by decide +kernel) (by decide +kernel)
set_option maxRecDepth 20000 in
theorem gX6_readLines_X6_takeLine : GoodIn wsX6_readLines (wsV RX6 29 RX6 yX6_takeLine wsX6_takeLine) := goodIn_app (goodIn_of _ (by decide +kernel)) ggX6_readLines_X6_takeLine
set_option maxRecDepth 20000 in
theorem ggX6_readLines_X0_hasAllLetters : GoodIn wsX6_readLines wsX0_hasAllLetters := goodIn_r _ [190, 191, 192, 193, 194, 195, 196, 135, 197, 139, 145, 109, 110, 111, 103, 112, 107, 206, 207, 208, 209, 210, 211, 212, 213, 214, 215, 216, 217, 218, 219, 220, 221, 222, 223, 224, 225, 226] (by decide +kernel) (by decide +kernel)
set_option maxRecDepth 20000 in
theorem gX6_readLines_X0_hasAllLetters : GoodIn wsX6_readLines (wsV RX6 33 RX0 yX0_hasAllLetters wsX0_hasAllLetters) := goodIn_app (goodIn_of _ (by decide +kernel)) ggX6_readLines_X0_hasAllLetters
set_option maxRecDepth 20000 in
theorem ggX6_readLines_X6_fail : GoodIn wsX6_readLines wsX6_fail := goodIn_r _ [37, 1, 2, 198, 199] (by decide +kernel) (by decide +kernel)
set_option maxRecDepth 20000 in
theorem gX6_readLines_X6_fail : GoodIn wsX6_readLines (wsV RX6 42 RX6 yX6_fail wsX6_fail) := goodIn_app (goodIn_of _ (by decide +kernel)) ggX6_readLines_X6_fail
theorem dX6_readLines_0 : decode cX6_readLines 0 = .ok (.aload_n 0, 1) := by decide +kernel
theorem dX6_readLines_1 : decode cX6_readLines 1 = .ok (.iconst 0, 1) := by decide +kernel
theorem dX6_readLines_2 : decode cX6_readLines 2 = .ok (.putfield 9, 3) := by decide +kernel
theorem dX6_readLines_5 : decode cX6_readLines 5 = .ok (.aload_n 0, 1) := by decide +kernel
theorem dX6_readLines_6 : decode cX6_readLines 6 = .ok (.iconst 0, 1) := by decide +kernel
theorem dX6_readLines_7 : decode cX6_readLines 7 = .ok (.putfield 15, 3) := by decide +kernel
theorem dX6_readLines_10 : decode cX6_readLines 10 = .ok (.aload_n 1, 1) := by decide +kernel
theorem dX6_readLines_11 : decode cX6_readLines 11 = .ok (.iconst 0, 1) := by decide +kernel
theorem dX6_readLines_12 : decode cX6_readLines 12 = .ok (.putfield 18, 3) := by decide +kernel
theorem dX6_readLines_15 : decode cX6_readLines 15 = .ok (.iconst 0, 1) := by decide +kernel
theorem dX6_readLines_16 : decode cX6_readLines 16 = .ok (.istore_n 3, 1) := by decide +kernel
theorem dX6_readLines_17 : decode cX6_readLines 17 = .ok (.iload_n 3, 1) := by decide +kernel
theorem dX6_readLines_18 : decode cX6_readLines 18 = .ok (.sipush 320, 3) := by decide +kernel
theorem dX6_readLines_21 : decode cX6_readLines 21 = .ok (.if_icmp .ge 33, 3) := by decide +kernel
theorem dX6_readLines_24 : decode cX6_readLines 24 = .ok (.aload_n 1, 1) := by decide +kernel
theorem dX6_readLines_25 : decode cX6_readLines 25 = .ok (.invokevirtual 23, 3) := by decide +kernel
theorem dX6_readLines_28 : decode cX6_readLines 28 = .ok (.aload_n 1, 1) := by decide +kernel
theorem dX6_readLines_29 : decode cX6_readLines 29 = .ok (.getfield 26, 3) := by decide +kernel
theorem dX6_readLines_32 : decode cX6_readLines 32 = .ok (.iconst 1, 1) := by decide +kernel
theorem dX6_readLines_33 : decode cX6_readLines 33 = .ok (.if_icmp .eq 21, 3) := by decide +kernel
theorem dX6_readLines_36 : decode cX6_readLines 36 = .ok (.aload_n 0, 1) := by decide +kernel
theorem dX6_readLines_37 : decode cX6_readLines 37 = .ok (.aload_n 1, 1) := by decide +kernel
theorem dX6_readLines_38 : decode cX6_readLines 38 = .ok (.aload_n 2, 1) := by decide +kernel
theorem dX6_readLines_39 : decode cX6_readLines 39 = .ok (.invokevirtual 29, 3) := by decide +kernel
theorem dX6_readLines_42 : decode cX6_readLines 42 = .ok (.ifCond .ne 6, 3) := by decide +kernel
theorem dX6_readLines_45 : decode cX6_readLines 45 = .ok (.goto 9, 3) := by decide +kernel
theorem dX6_readLines_48 : decode cX6_readLines 48 = .ok (.iinc 3 1, 3) := by decide +kernel
theorem dX6_readLines_51 : decode cX6_readLines 51 = .ok (.goto (-34), 3) := by decide +kernel
theorem dX6_readLines_54 : decode cX6_readLines 54 = .ok (.aload_n 0, 1) := by decide +kernel
theorem dX6_readLines_55 : decode cX6_readLines 55 = .ok (.getfield 9, 3) := by decide +kernel
theorem dX6_readLines_58 : decode cX6_readLines 58 = .ok (.ifCond .ne 21, 3) := by decide +kernel
theorem dX6_readLines_61 : decode cX6_readLines 61 = .ok (.aload_n 2, 1) := by decide +kernel
theorem dX6_readLines_62 : decode cX6_readLines 62 = .ok (.invokevirtual 33, 3) := by decide +kernel
theorem dX6_readLines_65 : decode cX6_readLines 65 = .ok (.ifCond .ne 14, 3) := by decide +kernel
theorem dX6_readLines_68 : decode cX6_readLines 68 = .ok (.aload_n 0, 1) := by decide +kernel
theorem dX6_readLines_69 : decode cX6_readLines 69 = .ok (.bipush 6, 2) := by decide +kernel
theorem dX6_readLines_71 : decode cX6_readLines 71 = .ok (.aload_n 1, 1) := by decide +kernel
theorem dX6_readLines_72 : decode cX6_readLines 72 = .ok (.getfield 39, 3) := by decide +kernel
theorem dX6_readLines_75 : decode cX6_readLines 75 = .ok (.invokevirtual 42, 3) := by decide +kernel
theorem dX6_readLines_78 : decode cX6_readLines 78 = .ok (.pop, 1) := by decide +kernel
theorem dX6_readLines_79 : decode cX6_readLines 79 = .ok (.iload_n 3, 1) := by decide +kernel
theorem dX6_readLines_80 : decode cX6_readLines 80 = .ok (.ireturn, 1) := by decide +kernel
set_option maxRecDepth 20000 in
theorem ggX6_takeLine_X6_isToken : GoodIn wsX6_takeLine wsX6_isToken := goodIn_r _ [6, 7, 1, 8, 9, 10, 5, 11, 12, 13, 182, 183, 184, 185, 186, 187, 188, 189] (by decide +kernel) (by decide +kernel)
set_option maxRecDepth 20000 in
theorem gX6_takeLine_X6_isToken : GoodIn wsX6_takeLine (wsV RX6 46 RX6 yX6_isToken wsX6_isToken) := goodIn_app (goodIn_of _ (by decide +kernel)) ggX6_takeLine_X6_isToken
set_option maxRecDepth 20000 in
theorem ggX6_takeLine_X9_isName : GoodIn wsX6_takeLine wsX9_isName := goodIn_r _ [18, 19, 20, 21, 22, 23, 24, 25, 26, 27, 28, 29, 30, 31, 32, 33, 34, 35, 36, 37, 38, 39, 40, 41, 42, 43, 44, 45, 46, 47, 48, 49, 50, 51, 52, 53, 54, 55, 56, 57, 58, 59, 60, 61, 62, 63, 64, 65, 66, 67, 68, 69, 70, 182, 183, 184, 185, 186, 187] (by decide +kernel) (by decide +kernel)
set_option maxRecDepth 20000 in
theorem gX6_takeLine_X9_isName : GoodIn wsX6_takeLine (wsV RX6 52 RX9 yX9_isName wsX9_isName) := goodIn_app (goodIn_of _ (by decide +kernel)) ggX6_takeLine_X9_isName
set_option maxRecDepth 20000 in
theorem ggX6_takeLine_X6_takeTableLine : GoodIn wsX6_takeLine wsX6_takeTableLine := goodIn_r _ [74, 75, 1, 8, 9, 10, 5, 11, 12, 13, 76, 77, 78, 79, 80, 81, 82, 83, 17, 84, 19, 85, 21, 20, 86, 87, 88, 89, 90, 91, 92, 93, 94, 2, 3, 4, 6, 7, 95, 96, 97, 98, 99, 100, 101, 102, 103, 104, 105, 106, 107, 108, 109, 110, 111, 112, 113, 114, 115, 116, 117, 118, 190, 191, 192, 193, 194, 195, 196, 197, 198, 199, 200, 201, 202, 203, 204, 182, 183, 184, 185, 186, 187, 188, 189] (by decide +kernel) (by decide +kernel)
set_option maxRecDepth 20000 in
theorem gX6_takeLine_X6_takeTableLine : GoodIn wsX6_takeLine (wsV RX6 56 RX6 yX6_takeTableLine wsX6_takeTableLine) := goodIn_app (goodIn_of _ (by decide +kernel)) ggX6_takeLine_X6_takeTableLine
set_option maxRecDepth 20000 in
theorem ggX6_takeLine_X6_takeWordLine : GoodIn wsX6_takeLine wsX6_takeWordLine := goodIn_r _ [122, 123, 124, 1, 125, 126, 8, 9, 10, 5, 11, 12, 13, 76, 77, 78, 79, 80, 81, 82, 83, 17, 84, 19, 85, 21, 20, 86, 87, 88, 89, 90, 91, 92, 93, 94, 2, 3, 4, 6, 7, 127, 128, 129, 130, 131, 132, 133, 134, 135, 136, 137, 138, 139, 140, 141, 142, 143, 144, 115, 116, 117, 118, 190, 191, 192, 193, 194, 195, 196, 197, 198, 199, 200, 201, 202, 203, 204, 205, 206, 207, 208, 209, 210, 182, 183, 184, 185, 186, 187, 188, 189] (by decide +kernel) (by decide +kernel)
set_option maxRecDepth 20000 in
theorem gX6_takeLine_X6_takeWordLine : GoodIn wsX6_takeLine (wsV RX6 61 RX6 yX6_takeWordLine wsX6_takeWordLine) := goodIn_app (goodIn_of _ (by decide +kernel)) ggX6_takeLine_X6_takeWordLine
set_option maxRecDepth 20000 in
theorem ggX6_takeLine_X6_takeShortLine : GoodIn wsX6_takeLine wsX6_takeShortLine := goodIn_r _ [148, 149, 124, 1, 150, 8, 9, 10, 5, 11, 12, 13, 76, 77, 78, 79, 80, 81, 82, 83, 17, 84, 19, 85, 21, 20, 86, 87, 88, 89, 90, 91, 92, 93, 94, 2, 3, 4, 6, 7, 127, 128, 129, 130, 131, 132, 133, 134, 135, 136, 137, 138, 139, 140, 115, 116, 117, 118, 190, 191, 192, 193, 194, 195, 196, 197, 198, 199, 200, 201, 202, 203, 204, 205, 206, 207, 208, 209, 210, 182, 183, 184, 185, 186, 187, 188, 189] (by decide +kernel) (by decide +kernel)
set_option maxRecDepth 20000 in
theorem gX6_takeLine_X6_takeShortLine : GoodIn wsX6_takeLine (wsV RX6 66 RX6 yX6_takeShortLine wsX6_takeShortLine) := goodIn_app (goodIn_of _ (by decide +kernel)) ggX6_takeLine_X6_takeShortLine
set_option maxRecDepth 20000 in
theorem ggX6_takeLine_X6_takeSlipLine : GoodIn wsX6_takeLine wsX6_takeSlipLine := goodIn_r _ [154, 155, 1, 126, 156, 157, 8, 9, 10, 5, 11, 12, 13, 141, 142, 143, 144, 81, 82, 83, 17, 84, 19, 85, 21, 20, 86, 87, 88, 89, 90, 91, 92, 93, 94, 2, 3, 4, 6, 7, 115, 116, 117, 118, 190, 191, 192, 193, 194, 195, 196, 197, 198, 199, 200, 201, 202, 203, 204, 182, 183, 184, 185, 186, 187, 188, 189] (by decide +kernel) (by decide +kernel)
set_option maxRecDepth 20000 in
theorem gX6_takeLine_X6_takeSlipLine : GoodIn wsX6_takeLine (wsV RX6 71 RX6 yX6_takeSlipLine wsX6_takeSlipLine) := goodIn_app (goodIn_of _ (by decide +kernel)) ggX6_takeLine_X6_takeSlipLine
set_option maxRecDepth 20000 in
theorem ggX6_takeLine_X6_takeTimeLine : GoodIn wsX6_takeLine wsX6_takeTimeLine := goodIn_r _ [161, 162, 1, 126, 163, 164, 165, 8, 9, 10, 5, 11, 12, 13, 141, 142, 143, 144, 81, 82, 83, 17, 84, 19, 85, 21, 20, 86, 87, 88, 89, 90, 91, 92, 93, 94, 2, 3, 4, 6, 7, 115, 116, 117, 118, 190, 191, 192, 193, 194, 195, 196, 197, 198, 199, 200, 201, 202, 203, 204, 182, 183, 184, 185, 186, 187, 188, 189] (by decide +kernel) (by decide +kernel)
set_option maxRecDepth 20000 in
theorem gX6_takeLine_X6_takeTimeLine : GoodIn wsX6_takeLine (wsV RX6 76 RX6 yX6_takeTimeLine wsX6_takeTimeLine) := goodIn_app (goodIn_of _ (by decide +kernel)) ggX6_takeLine_X6_takeTimeLine
set_option maxRecDepth 20000 in
theorem ggX6_takeLine_X6_takeGuardLine : GoodIn wsX6_takeLine wsX6_takeGuardLine := goodIn_r _ [169, 170, 1, 126, 171, 8, 9, 10, 5, 11, 12, 13, 141, 142, 143, 144, 81, 82, 83, 17, 84, 19, 85, 21, 20, 86, 87, 88, 89, 90, 91, 92, 93, 94, 2, 3, 4, 6, 7, 172, 173, 174, 175, 176, 177, 178, 179, 180, 181, 115, 116, 117, 118, 190, 191, 192, 193, 194, 195, 196, 197, 198, 199, 200, 201, 202, 203, 204, 182, 183, 184, 185, 186, 187, 188, 189, 211] (by decide +kernel) (by decide +kernel)
set_option maxRecDepth 20000 in
theorem gX6_takeLine_X6_takeGuardLine : GoodIn wsX6_takeLine (wsV RX6 81 RX6 yX6_takeGuardLine wsX6_takeGuardLine) := goodIn_app (goodIn_of _ (by decide +kernel)) ggX6_takeLine_X6_takeGuardLine
set_option maxRecDepth 20000 in
theorem ggX6_takeLine_X6_fail : GoodIn wsX6_takeLine wsX6_fail := goodIn_r _ [11, 12, 13, 188, 189] (by decide +kernel) (by decide +kernel)
set_option maxRecDepth 20000 in
theorem gX6_takeLine_X6_fail : GoodIn wsX6_takeLine (wsV RX6 42 RX6 yX6_fail wsX6_fail) := goodIn_app (goodIn_of _ (by decide +kernel)) ggX6_takeLine_X6_fail
theorem dX6_takeLine_0 : decode cX6_takeLine 0 = .ok (.aload_n 0, 1) := by decide +kernel
theorem dX6_takeLine_1 : decode cX6_takeLine 1 = .ok (.aload_n 1, 1) := by decide +kernel
theorem dX6_takeLine_2 : decode cX6_takeLine 2 = .ok (.iconst 2, 1) := by decide +kernel
theorem dX6_takeLine_3 : decode cX6_takeLine 3 = .ok (.invokevirtual 46, 3) := by decide +kernel
theorem dX6_takeLine_6 : decode cX6_takeLine 6 = .ok (.ifCond .ne 5, 3) := by decide +kernel
theorem dX6_takeLine_9 : decode cX6_takeLine 9 = .ok (.iconst 0, 1) := by decide +kernel
theorem dX6_takeLine_10 : decode cX6_takeLine 10 = .ok (.ireturn, 1) := by decide +kernel
theorem dX6_takeLine_11 : decode cX6_takeLine 11 = .ok (.aload_n 1, 1) := by decide +kernel
theorem dX6_takeLine_12 : decode cX6_takeLine 12 = .ok (.ldc 50, 2) := by decide +kernel
theorem dX6_takeLine_14 : decode cX6_takeLine 14 = .ok (.invokevirtual 52, 3) := by decide +kernel
theorem dX6_takeLine_17 : decode cX6_takeLine 17 = .ok (.ifCond .eq 10, 3) := by decide +kernel
theorem dX6_takeLine_20 : decode cX6_takeLine 20 = .ok (.aload_n 0, 1) := by decide +kernel
theorem dX6_takeLine_21 : decode cX6_takeLine 21 = .ok (.aload_n 1, 1) := by decide +kernel
theorem dX6_takeLine_22 : decode cX6_takeLine 22 = .ok (.aload_n 2, 1) := by decide +kernel
theorem dX6_takeLine_23 : decode cX6_takeLine 23 = .ok (.invokevirtual 56, 3) := by decide +kernel
theorem dX6_takeLine_26 : decode cX6_takeLine 26 = .ok (.ireturn, 1) := by decide +kernel
theorem dX6_takeLine_27 : decode cX6_takeLine 27 = .ok (.aload_n 1, 1) := by decide +kernel
theorem dX6_takeLine_28 : decode cX6_takeLine 28 = .ok (.ldc 59, 2) := by decide +kernel
theorem dX6_takeLine_30 : decode cX6_takeLine 30 = .ok (.invokevirtual 52, 3) := by decide +kernel
theorem dX6_takeLine_33 : decode cX6_takeLine 33 = .ok (.ifCond .eq 10, 3) := by decide +kernel
theorem dX6_takeLine_36 : decode cX6_takeLine 36 = .ok (.aload_n 0, 1) := by decide +kernel
theorem dX6_takeLine_37 : decode cX6_takeLine 37 = .ok (.aload_n 1, 1) := by decide +kernel
theorem dX6_takeLine_38 : decode cX6_takeLine 38 = .ok (.aload_n 2, 1) := by decide +kernel
theorem dX6_takeLine_39 : decode cX6_takeLine 39 = .ok (.invokevirtual 61, 3) := by decide +kernel
theorem dX6_takeLine_42 : decode cX6_takeLine 42 = .ok (.ireturn, 1) := by decide +kernel
theorem dX6_takeLine_43 : decode cX6_takeLine 43 = .ok (.aload_n 1, 1) := by decide +kernel
theorem dX6_takeLine_44 : decode cX6_takeLine 44 = .ok (.ldc 64, 2) := by decide +kernel
theorem dX6_takeLine_46 : decode cX6_takeLine 46 = .ok (.invokevirtual 52, 3) := by decide +kernel
theorem dX6_takeLine_49 : decode cX6_takeLine 49 = .ok (.ifCond .eq 10, 3) := by decide +kernel
theorem dX6_takeLine_52 : decode cX6_takeLine 52 = .ok (.aload_n 0, 1) := by decide +kernel
theorem dX6_takeLine_53 : decode cX6_takeLine 53 = .ok (.aload_n 1, 1) := by decide +kernel
theorem dX6_takeLine_54 : decode cX6_takeLine 54 = .ok (.aload_n 2, 1) := by decide +kernel
theorem dX6_takeLine_55 : decode cX6_takeLine 55 = .ok (.invokevirtual 66, 3) := by decide +kernel
theorem dX6_takeLine_58 : decode cX6_takeLine 58 = .ok (.ireturn, 1) := by decide +kernel
theorem dX6_takeLine_59 : decode cX6_takeLine 59 = .ok (.aload_n 1, 1) := by decide +kernel
theorem dX6_takeLine_60 : decode cX6_takeLine 60 = .ok (.ldc 69, 2) := by decide +kernel
theorem dX6_takeLine_62 : decode cX6_takeLine 62 = .ok (.invokevirtual 52, 3) := by decide +kernel
theorem dX6_takeLine_65 : decode cX6_takeLine 65 = .ok (.ifCond .eq 10, 3) := by decide +kernel
theorem dX6_takeLine_68 : decode cX6_takeLine 68 = .ok (.aload_n 0, 1) := by decide +kernel
theorem dX6_takeLine_69 : decode cX6_takeLine 69 = .ok (.aload_n 1, 1) := by decide +kernel
theorem dX6_takeLine_70 : decode cX6_takeLine 70 = .ok (.aload_n 2, 1) := by decide +kernel
theorem dX6_takeLine_71 : decode cX6_takeLine 71 = .ok (.invokevirtual 71, 3) := by decide +kernel
theorem dX6_takeLine_74 : decode cX6_takeLine 74 = .ok (.ireturn, 1) := by decide +kernel
theorem dX6_takeLine_75 : decode cX6_takeLine 75 = .ok (.aload_n 1, 1) := by decide +kernel
theorem dX6_takeLine_76 : decode cX6_takeLine 76 = .ok (.ldc 74, 2) := by decide +kernel
theorem dX6_takeLine_78 : decode cX6_takeLine 78 = .ok (.invokevirtual 52, 3) := by decide +kernel
theorem dX6_takeLine_81 : decode cX6_takeLine 81 = .ok (.ifCond .eq 10, 3) := by decide +kernel
theorem dX6_takeLine_84 : decode cX6_takeLine 84 = .ok (.aload_n 0, 1) := by decide +kernel
theorem dX6_takeLine_85 : decode cX6_takeLine 85 = .ok (.aload_n 1, 1) := by decide +kernel
theorem dX6_takeLine_86 : decode cX6_takeLine 86 = .ok (.aload_n 2, 1) := by decide +kernel
theorem dX6_takeLine_87 : decode cX6_takeLine 87 = .ok (.invokevirtual 76, 3) := by decide +kernel
theorem dX6_takeLine_90 : decode cX6_takeLine 90 = .ok (.ireturn, 1) := by decide +kernel
theorem dX6_takeLine_91 : decode cX6_takeLine 91 = .ok (.aload_n 1, 1) := by decide +kernel
theorem dX6_takeLine_92 : decode cX6_takeLine 92 = .ok (.ldc 79, 2) := by decide +kernel
theorem dX6_takeLine_94 : decode cX6_takeLine 94 = .ok (.invokevirtual 52, 3) := by decide +kernel
theorem dX6_takeLine_97 : decode cX6_takeLine 97 = .ok (.ifCond .eq 10, 3) := by decide +kernel
theorem dX6_takeLine_100 : decode cX6_takeLine 100 = .ok (.aload_n 0, 1) := by decide +kernel
theorem dX6_takeLine_101 : decode cX6_takeLine 101 = .ok (.aload_n 1, 1) := by decide +kernel
theorem dX6_takeLine_102 : decode cX6_takeLine 102 = .ok (.aload_n 2, 1) := by decide +kernel
theorem dX6_takeLine_103 : decode cX6_takeLine 103 = .ok (.invokevirtual 81, 3) := by decide +kernel
theorem dX6_takeLine_106 : decode cX6_takeLine 106 = .ok (.ireturn, 1) := by decide +kernel
theorem dX6_takeLine_107 : decode cX6_takeLine 107 = .ok (.aload_n 0, 1) := by decide +kernel
theorem dX6_takeLine_108 : decode cX6_takeLine 108 = .ok (.iconst 2, 1) := by decide +kernel
theorem dX6_takeLine_109 : decode cX6_takeLine 109 = .ok (.aload_n 1, 1) := by decide +kernel
theorem dX6_takeLine_110 : decode cX6_takeLine 110 = .ok (.getfield 84, 3) := by decide +kernel
theorem dX6_takeLine_113 : decode cX6_takeLine 113 = .ok (.invokevirtual 42, 3) := by decide +kernel
theorem dX6_takeLine_116 : decode cX6_takeLine 116 = .ok (.ireturn, 1) := by decide +kernel
set_option maxRecDepth 20000 in
theorem ggX6_takeTableLine_X6_fail : GoodIn wsX6_takeTableLine wsX6_fail := goodIn_r _ [7, 8, 9, 83, 84] (by decide +kernel) (by decide +kernel)
set_option maxRecDepth 20000 in
theorem gX6_takeTableLine_X6_fail : GoodIn wsX6_takeTableLine (wsV RX6 42 RX6 yX6_fail wsX6_fail) := goodIn_app (goodIn_of _ (by decide +kernel)) ggX6_takeTableLine_X6_fail
set_option maxRecDepth 20000 in
theorem ggX6_takeTableLine_X6_takeName : GoodIn wsX6_takeTableLine wsX6_takeName := goodIn_r _ [13, 14, 2, 15, 16, 17, 18, 19, 20, 21, 22, 23, 24, 25, 26, 27, 28, 29, 30, 31, 32, 33, 34, 35, 6, 36, 37, 3, 4, 5, 7, 8, 9, 77, 78, 79, 80, 81, 82, 83, 84] (by decide +kernel) (by decide +kernel)
set_option maxRecDepth 20000 in
theorem gX6_takeTableLine_X6_takeName : GoodIn wsX6_takeTableLine (wsV RX6 91 RX6 yX6_takeName wsX6_takeName) := goodIn_app (goodIn_of _ (by decide +kernel)) ggX6_takeTableLine_X6_takeName
set_option maxRecDepth 20000 in
theorem ggX6_takeTableLine_X0_takeTable : GoodIn wsX6_takeTableLine wsX0_takeTable := goodIn_r _ [42, 43, 44, 45, 46, 47, 48, 49, 41, 50, 51, 52, 53, 54, 55, 56, 57, 77, 78, 79, 80, 81, 82, 62, 63, 64, 65, 66, 67, 68, 69, 70, 71, 72, 73, 74, 75, 76] (by decide +kernel) (by decide +kernel)
set_option maxRecDepth 20000 in
theorem gX6_takeTableLine_X0_takeTable : GoodIn wsX6_takeTableLine (wsV RX6 95 RX0 yX0_takeTable wsX0_takeTable) := goodIn_app (goodIn_of _ (by decide +kernel)) ggX6_takeTableLine_X0_takeTable
set_option maxRecDepth 20000 in
theorem ggX6_takeTableLine_X6_takeSign : GoodIn wsX6_takeTableLine wsX6_takeSign := goodIn_r _ [61, 15, 16, 17, 18, 19, 20, 21, 22, 23, 24, 25, 26, 27, 28, 29, 30, 31, 32, 33, 34, 35, 6, 36, 37, 2, 3, 4, 5, 7, 8, 9, 77, 78, 79, 80, 81, 82, 83, 84] (by decide +kernel) (by decide +kernel)
set_option maxRecDepth 20000 in
theorem gX6_takeTableLine_X6_takeSign : GoodIn wsX6_takeTableLine (wsV RX6 99 RX6 yX6_takeSign wsX6_takeSign) := goodIn_app (goodIn_of _ (by decide +kernel)) ggX6_takeTableLine_X6_takeSign
theorem dX6_takeTableLine_0 : decode cX6_takeTableLine 0 = .ok (.aload_n 2, 1) := by decide +kernel
theorem dX6_takeTableLine_1 : decode cX6_takeTableLine 1 = .ok (.getfield 87, 3) := by decide +kernel
theorem dX6_takeTableLine_4 : decode cX6_takeTableLine 4 = .ok (.ifCond .eq 13, 3) := by decide +kernel
theorem dX6_takeTableLine_7 : decode cX6_takeTableLine 7 = .ok (.aload_n 0, 1) := by decide +kernel
theorem dX6_takeTableLine_8 : decode cX6_takeTableLine 8 = .ok (.iconst 4, 1) := by decide +kernel
theorem dX6_takeTableLine_9 : decode cX6_takeTableLine 9 = .ok (.aload_n 1, 1) := by decide +kernel
theorem dX6_takeTableLine_10 : decode cX6_takeTableLine 10 = .ok (.getfield 84, 3) := by decide +kernel
theorem dX6_takeTableLine_13 : decode cX6_takeTableLine 13 = .ok (.invokevirtual 42, 3) := by decide +kernel
theorem dX6_takeTableLine_16 : decode cX6_takeTableLine 16 = .ok (.ireturn, 1) := by decide +kernel
theorem dX6_takeTableLine_17 : decode cX6_takeTableLine 17 = .ok (.aload_n 2, 1) := by decide +kernel
theorem dX6_takeTableLine_18 : decode cX6_takeTableLine 18 = .ok (.iconst 1, 1) := by decide +kernel
theorem dX6_takeTableLine_19 : decode cX6_takeTableLine 19 = .ok (.putfield 87, 3) := by decide +kernel
theorem dX6_takeTableLine_22 : decode cX6_takeTableLine 22 = .ok (.aload_n 0, 1) := by decide +kernel
theorem dX6_takeTableLine_23 : decode cX6_takeTableLine 23 = .ok (.aload_n 1, 1) := by decide +kernel
theorem dX6_takeTableLine_24 : decode cX6_takeTableLine 24 = .ok (.bipush 25, 2) := by decide +kernel
theorem dX6_takeTableLine_26 : decode cX6_takeTableLine 26 = .ok (.bipush 25, 2) := by decide +kernel
theorem dX6_takeTableLine_28 : decode cX6_takeTableLine 28 = .ok (.invokevirtual 91, 3) := by decide +kernel
theorem dX6_takeTableLine_31 : decode cX6_takeTableLine 31 = .ok (.ifCond .ne 5, 3) := by decide +kernel
theorem dX6_takeTableLine_34 : decode cX6_takeTableLine 34 = .ok (.iconst 0, 1) := by decide +kernel
theorem dX6_takeTableLine_35 : decode cX6_takeTableLine 35 = .ok (.ireturn, 1) := by decide +kernel
theorem dX6_takeTableLine_36 : decode cX6_takeTableLine 36 = .ok (.aload_n 2, 1) := by decide +kernel
theorem dX6_takeTableLine_37 : decode cX6_takeTableLine 37 = .ok (.aload_n 1, 1) := by decide +kernel
theorem dX6_takeTableLine_38 : decode cX6_takeTableLine 38 = .ok (.invokevirtual 95, 3) := by decide +kernel
theorem dX6_takeTableLine_41 : decode cX6_takeTableLine 41 = .ok (.ifCond .eq 11, 3) := by decide +kernel
theorem dX6_takeTableLine_44 : decode cX6_takeTableLine 44 = .ok (.aload_n 0, 1) := by decide +kernel
theorem dX6_takeTableLine_45 : decode cX6_takeTableLine 45 = .ok (.aload_n 1, 1) := by decide +kernel
theorem dX6_takeTableLine_46 : decode cX6_takeTableLine 46 = .ok (.invokevirtual 99, 3) := by decide +kernel
theorem dX6_takeTableLine_49 : decode cX6_takeTableLine 49 = .ok (.goto 12, 3) := by decide +kernel
theorem dX6_takeTableLine_52 : decode cX6_takeTableLine 52 = .ok (.aload_n 0, 1) := by decide +kernel
theorem dX6_takeTableLine_53 : decode cX6_takeTableLine 53 = .ok (.iconst 3, 1) := by decide +kernel
theorem dX6_takeTableLine_54 : decode cX6_takeTableLine 54 = .ok (.aload_n 1, 1) := by decide +kernel
theorem dX6_takeTableLine_55 : decode cX6_takeTableLine 55 = .ok (.getfield 84, 3) := by decide +kernel
theorem dX6_takeTableLine_58 : decode cX6_takeTableLine 58 = .ok (.invokevirtual 42, 3) := by decide +kernel
theorem dX6_takeTableLine_61 : decode cX6_takeTableLine 61 = .ok (.ireturn, 1) := by decide +kernel
set_option maxRecDepth 20000 in
theorem ggX6_takeWordLine_X6_fail : GoodIn wsX6_takeWordLine wsX6_fail := goodIn_r _ [10, 11, 12, 90, 91] (by decide +kernel) (by decide +kernel)
set_option maxRecDepth 20000 in
theorem gX6_takeWordLine_X6_fail : GoodIn wsX6_takeWordLine (wsV RX6 42 RX6 yX6_fail wsX6_fail) := goodIn_app (goodIn_of _ (by decide +kernel)) ggX6_takeWordLine_X6_fail
set_option maxRecDepth 20000 in
theorem ggX6_takeWordLine_X6_takeName : GoodIn wsX6_takeWordLine wsX6_takeName := goodIn_r _ [16, 17, 3, 18, 19, 20, 21, 22, 23, 24, 25, 26, 27, 28, 29, 30, 31, 32, 33, 34, 35, 36, 37, 38, 9, 39, 40, 6, 7, 8, 10, 11, 12, 84, 85, 86, 87, 88, 89, 90, 91] (by decide +kernel) (by decide +kernel)
set_option maxRecDepth 20000 in
theorem gX6_takeWordLine_X6_takeName : GoodIn wsX6_takeWordLine (wsV RX6 91 RX6 yX6_takeName wsX6_takeName) := goodIn_app (goodIn_of _ (by decide +kernel)) ggX6_takeWordLine_X6_takeName
set_option maxRecDepth 20000 in
theorem ggX6_takeWordLine_X4_add : GoodIn wsX6_takeWordLine wsX4_add := goodIn_r _ [45, 46, 47, 48, 49, 50, 51, 52, 53, 54, 84, 85, 86, 87, 88, 89, 78, 79, 80, 81, 82, 83] (by decide +kernel) (by decide +kernel)
set_option maxRecDepth 20000 in
theorem gX6_takeWordLine_X4_add : GoodIn wsX6_takeWordLine (wsV RX6 109 RX4 yX4_add wsX4_add) := goodIn_app (goodIn_of _ (by decide +kernel)) ggX6_takeWordLine_X4_add
set_option maxRecDepth 20000 in
theorem ggX6_takeWordLine_X6_takeNumber : GoodIn wsX6_takeWordLine wsX6_takeNumber := goodIn_r _ [58, 5, 3, 18, 19, 20, 21, 22, 23, 24, 25, 26, 27, 28, 29, 30, 31, 32, 33, 34, 35, 36, 37, 38, 9, 39, 40, 6, 7, 8, 10, 11, 12, 84, 85, 86, 87, 88, 89, 90, 91] (by decide +kernel) (by decide +kernel)
set_option maxRecDepth 20000 in
theorem gX6_takeWordLine_X6_takeNumber : GoodIn wsX6_takeWordLine (wsV RX6 113 RX6 yX6_takeNumber wsX6_takeNumber) := goodIn_app (goodIn_of _ (by decide +kernel)) ggX6_takeWordLine_X6_takeNumber
set_option maxRecDepth 20000 in
theorem ggX6_takeWordLine_X6_takeSign : GoodIn wsX6_takeWordLine wsX6_takeSign := goodIn_r _ [62, 18, 19, 20, 21, 22, 23, 24, 25, 26, 27, 28, 29, 30, 31, 32, 33, 34, 35, 36, 37, 38, 9, 39, 40, 3, 6, 7, 8, 10, 11, 12, 84, 85, 86, 87, 88, 89, 90, 91] (by decide +kernel) (by decide +kernel)
set_option maxRecDepth 20000 in
theorem gX6_takeWordLine_X6_takeSign : GoodIn wsX6_takeWordLine (wsV RX6 99 RX6 yX6_takeSign wsX6_takeSign) := goodIn_app (goodIn_of _ (by decide +kernel)) ggX6_takeWordLine_X6_takeSign
theorem dX6_takeWordLine_0 : decode cX6_takeWordLine 0 = .ok (.aload_n 2, 1) := by decide +kernel
theorem dX6_takeWordLine_1 : decode cX6_takeWordLine 1 = .ok (.getfield 102, 3) := by decide +kernel
theorem dX6_takeWordLine_4 : decode cX6_takeWordLine 4 = .ok (.getfield 106, 3) := by decide +kernel
theorem dX6_takeWordLine_7 : decode cX6_takeWordLine 7 = .ok (.istore_n 3, 1) := by decide +kernel
theorem dX6_takeWordLine_8 : decode cX6_takeWordLine 8 = .ok (.iload_n 3, 1) := by decide +kernel
theorem dX6_takeWordLine_9 : decode cX6_takeWordLine 9 = .ok (.bipush 10, 2) := by decide +kernel
theorem dX6_takeWordLine_11 : decode cX6_takeWordLine 11 = .ok (.if_icmp .lt 13, 3) := by decide +kernel
theorem dX6_takeWordLine_14 : decode cX6_takeWordLine 14 = .ok (.aload_n 0, 1) := by decide +kernel
theorem dX6_takeWordLine_15 : decode cX6_takeWordLine 15 = .ok (.iconst 5, 1) := by decide +kernel
theorem dX6_takeWordLine_16 : decode cX6_takeWordLine 16 = .ok (.aload_n 1, 1) := by decide +kernel
theorem dX6_takeWordLine_17 : decode cX6_takeWordLine 17 = .ok (.getfield 84, 3) := by decide +kernel
theorem dX6_takeWordLine_20 : decode cX6_takeWordLine 20 = .ok (.invokevirtual 42, 3) := by decide +kernel
theorem dX6_takeWordLine_23 : decode cX6_takeWordLine 23 = .ok (.ireturn, 1) := by decide +kernel
theorem dX6_takeWordLine_24 : decode cX6_takeWordLine 24 = .ok (.aload_n 0, 1) := by decide +kernel
theorem dX6_takeWordLine_25 : decode cX6_takeWordLine 25 = .ok (.aload_n 1, 1) := by decide +kernel
theorem dX6_takeWordLine_26 : decode cX6_takeWordLine 26 = .ok (.iconst 1, 1) := by decide +kernel
theorem dX6_takeWordLine_27 : decode cX6_takeWordLine 27 = .ok (.bipush 8, 2) := by decide +kernel
theorem dX6_takeWordLine_29 : decode cX6_takeWordLine 29 = .ok (.invokevirtual 91, 3) := by decide +kernel
theorem dX6_takeWordLine_32 : decode cX6_takeWordLine 32 = .ok (.ifCond .ne 5, 3) := by decide +kernel
theorem dX6_takeWordLine_35 : decode cX6_takeWordLine 35 = .ok (.iconst 0, 1) := by decide +kernel
theorem dX6_takeWordLine_36 : decode cX6_takeWordLine 36 = .ok (.ireturn, 1) := by decide +kernel
theorem dX6_takeWordLine_37 : decode cX6_takeWordLine 37 = .ok (.aload_n 2, 1) := by decide +kernel
theorem dX6_takeWordLine_38 : decode cX6_takeWordLine 38 = .ok (.getfield 102, 3) := by decide +kernel
theorem dX6_takeWordLine_41 : decode cX6_takeWordLine 41 = .ok (.aload_n 1, 1) := by decide +kernel
theorem dX6_takeWordLine_42 : decode cX6_takeWordLine 42 = .ok (.invokevirtual 109, 3) := by decide +kernel
theorem dX6_takeWordLine_45 : decode cX6_takeWordLine 45 = .ok (.aload_n 0, 1) := by decide +kernel
theorem dX6_takeWordLine_46 : decode cX6_takeWordLine 46 = .ok (.aload_n 1, 1) := by decide +kernel
theorem dX6_takeWordLine_47 : decode cX6_takeWordLine 47 = .ok (.iconst 1, 1) := by decide +kernel
theorem dX6_takeWordLine_48 : decode cX6_takeWordLine 48 = .ok (.bipush 99, 2) := by decide +kernel
theorem dX6_takeWordLine_50 : decode cX6_takeWordLine 50 = .ok (.invokevirtual 113, 3) := by decide +kernel
theorem dX6_takeWordLine_53 : decode cX6_takeWordLine 53 = .ok (.ifCond .ne 5, 3) := by decide +kernel
theorem dX6_takeWordLine_56 : decode cX6_takeWordLine 56 = .ok (.iconst 0, 1) := by decide +kernel
theorem dX6_takeWordLine_57 : decode cX6_takeWordLine 57 = .ok (.ireturn, 1) := by decide +kernel
theorem dX6_takeWordLine_58 : decode cX6_takeWordLine 58 = .ok (.aload_n 2, 1) := by decide +kernel
theorem dX6_takeWordLine_59 : decode cX6_takeWordLine 59 = .ok (.getfield 116, 3) := by decide +kernel
theorem dX6_takeWordLine_62 : decode cX6_takeWordLine 62 = .ok (.iload_n 3, 1) := by decide +kernel
theorem dX6_takeWordLine_63 : decode cX6_takeWordLine 63 = .ok (.aload_n 1, 1) := by decide +kernel
theorem dX6_takeWordLine_64 : decode cX6_takeWordLine 64 = .ok (.getfield 120, 3) := by decide +kernel
theorem dX6_takeWordLine_67 : decode cX6_takeWordLine 67 = .ok (.iastore, 1) := by decide +kernel
theorem dX6_takeWordLine_68 : decode cX6_takeWordLine 68 = .ok (.aload_n 0, 1) := by decide +kernel
theorem dX6_takeWordLine_69 : decode cX6_takeWordLine 69 = .ok (.aload_n 1, 1) := by decide +kernel
theorem dX6_takeWordLine_70 : decode cX6_takeWordLine 70 = .ok (.invokevirtual 99, 3) := by decide +kernel
theorem dX6_takeWordLine_73 : decode cX6_takeWordLine 73 = .ok (.ireturn, 1) := by decide +kernel
set_option maxRecDepth 20000 in
theorem ggX6_takeShortLine_X6_fail : GoodIn wsX6_takeShortLine wsX6_fail := goodIn_r _ [9, 10, 11, 85, 86] (by decide +kernel) (by decide +kernel)
set_option maxRecDepth 20000 in
theorem gX6_takeShortLine_X6_fail : GoodIn wsX6_takeShortLine (wsV RX6 42 RX6 yX6_fail wsX6_fail) := goodIn_app (goodIn_of _ (by decide +kernel)) ggX6_takeShortLine_X6_fail
set_option maxRecDepth 20000 in
theorem ggX6_takeShortLine_X6_takeName : GoodIn wsX6_takeShortLine wsX6_takeName := goodIn_r _ [15, 16, 3, 17, 18, 19, 20, 21, 22, 23, 24, 25, 26, 27, 28, 29, 30, 31, 32, 33, 34, 35, 36, 37, 8, 38, 39, 5, 6, 7, 9, 10, 11, 79, 80, 81, 82, 83, 84, 85, 86] (by decide +kernel) (by decide +kernel)
set_option maxRecDepth 20000 in
theorem gX6_takeShortLine_X6_takeName : GoodIn wsX6_takeShortLine (wsV RX6 91 RX6 yX6_takeName wsX6_takeName) := goodIn_app (goodIn_of _ (by decide +kernel)) ggX6_takeShortLine_X6_takeName
set_option maxRecDepth 20000 in
theorem ggX6_takeShortLine_X4_add : GoodIn wsX6_takeShortLine wsX4_add := goodIn_r _ [44, 45, 46, 47, 48, 49, 50, 51, 52, 53, 79, 80, 81, 82, 83, 84, 73, 74, 75, 76, 77, 78] (by decide +kernel) (by decide +kernel)
set_option maxRecDepth 20000 in
theorem gX6_takeShortLine_X4_add : GoodIn wsX6_takeShortLine (wsV RX6 109 RX4 yX4_add wsX4_add) := goodIn_app (goodIn_of _ (by decide +kernel)) ggX6_takeShortLine_X4_add
set_option maxRecDepth 20000 in
theorem ggX6_takeShortLine_X6_takeSign : GoodIn wsX6_takeShortLine wsX6_takeSign := goodIn_r _ [57, 17, 18, 19, 20, 21, 22, 23, 24, 25, 26, 27, 28, 29, 30, 31, 32, 33, 34, 35, 36, 37, 8, 38, 39, 3, 5, 6, 7, 9, 10, 11, 79, 80, 81, 82, 83, 84, 85, 86] (by decide +kernel) (by decide +kernel)
set_option maxRecDepth 20000 in
theorem gX6_takeShortLine_X6_takeSign : GoodIn wsX6_takeShortLine (wsV RX6 99 RX6 yX6_takeSign wsX6_takeSign) := goodIn_app (goodIn_of _ (by decide +kernel)) ggX6_takeShortLine_X6_takeSign
theorem dX6_takeShortLine_0 : decode cX6_takeShortLine 0 = .ok (.aload_n 2, 1) := by decide +kernel
theorem dX6_takeShortLine_1 : decode cX6_takeShortLine 1 = .ok (.getfield 123, 3) := by decide +kernel
theorem dX6_takeShortLine_4 : decode cX6_takeShortLine 4 = .ok (.getfield 106, 3) := by decide +kernel
theorem dX6_takeShortLine_7 : decode cX6_takeShortLine 7 = .ok (.bipush 6, 2) := by decide +kernel
theorem dX6_takeShortLine_9 : decode cX6_takeShortLine 9 = .ok (.if_icmp .lt 13, 3) := by decide +kernel
theorem dX6_takeShortLine_12 : decode cX6_takeShortLine 12 = .ok (.aload_n 0, 1) := by decide +kernel
theorem dX6_takeShortLine_13 : decode cX6_takeShortLine 13 = .ok (.iconst 5, 1) := by decide +kernel
theorem dX6_takeShortLine_14 : decode cX6_takeShortLine 14 = .ok (.aload_n 1, 1) := by decide +kernel
theorem dX6_takeShortLine_15 : decode cX6_takeShortLine 15 = .ok (.getfield 84, 3) := by decide +kernel
theorem dX6_takeShortLine_18 : decode cX6_takeShortLine 18 = .ok (.invokevirtual 42, 3) := by decide +kernel
theorem dX6_takeShortLine_21 : decode cX6_takeShortLine 21 = .ok (.ireturn, 1) := by decide +kernel
theorem dX6_takeShortLine_22 : decode cX6_takeShortLine 22 = .ok (.aload_n 0, 1) := by decide +kernel
theorem dX6_takeShortLine_23 : decode cX6_takeShortLine 23 = .ok (.aload_n 1, 1) := by decide +kernel
theorem dX6_takeShortLine_24 : decode cX6_takeShortLine 24 = .ok (.iconst 1, 1) := by decide +kernel
theorem dX6_takeShortLine_25 : decode cX6_takeShortLine 25 = .ok (.iconst 3, 1) := by decide +kernel
theorem dX6_takeShortLine_26 : decode cX6_takeShortLine 26 = .ok (.invokevirtual 91, 3) := by decide +kernel
theorem dX6_takeShortLine_29 : decode cX6_takeShortLine 29 = .ok (.ifCond .ne 5, 3) := by decide +kernel
theorem dX6_takeShortLine_32 : decode cX6_takeShortLine 32 = .ok (.iconst 0, 1) := by decide +kernel
theorem dX6_takeShortLine_33 : decode cX6_takeShortLine 33 = .ok (.ireturn, 1) := by decide +kernel
theorem dX6_takeShortLine_34 : decode cX6_takeShortLine 34 = .ok (.aload_n 2, 1) := by decide +kernel
theorem dX6_takeShortLine_35 : decode cX6_takeShortLine 35 = .ok (.getfield 123, 3) := by decide +kernel
theorem dX6_takeShortLine_38 : decode cX6_takeShortLine 38 = .ok (.aload_n 1, 1) := by decide +kernel
theorem dX6_takeShortLine_39 : decode cX6_takeShortLine 39 = .ok (.invokevirtual 109, 3) := by decide +kernel
theorem dX6_takeShortLine_42 : decode cX6_takeShortLine 42 = .ok (.aload_n 0, 1) := by decide +kernel
theorem dX6_takeShortLine_43 : decode cX6_takeShortLine 43 = .ok (.aload_n 1, 1) := by decide +kernel
theorem dX6_takeShortLine_44 : decode cX6_takeShortLine 44 = .ok (.iconst 2, 1) := by decide +kernel
theorem dX6_takeShortLine_45 : decode cX6_takeShortLine 45 = .ok (.bipush 8, 2) := by decide +kernel
theorem dX6_takeShortLine_47 : decode cX6_takeShortLine 47 = .ok (.invokevirtual 91, 3) := by decide +kernel
theorem dX6_takeShortLine_50 : decode cX6_takeShortLine 50 = .ok (.ifCond .ne 5, 3) := by decide +kernel
theorem dX6_takeShortLine_53 : decode cX6_takeShortLine 53 = .ok (.iconst 0, 1) := by decide +kernel
theorem dX6_takeShortLine_54 : decode cX6_takeShortLine 54 = .ok (.ireturn, 1) := by decide +kernel
theorem dX6_takeShortLine_55 : decode cX6_takeShortLine 55 = .ok (.aload_n 2, 1) := by decide +kernel
theorem dX6_takeShortLine_56 : decode cX6_takeShortLine 56 = .ok (.getfield 126, 3) := by decide +kernel
theorem dX6_takeShortLine_59 : decode cX6_takeShortLine 59 = .ok (.aload_n 1, 1) := by decide +kernel
theorem dX6_takeShortLine_60 : decode cX6_takeShortLine 60 = .ok (.invokevirtual 109, 3) := by decide +kernel
theorem dX6_takeShortLine_63 : decode cX6_takeShortLine 63 = .ok (.aload_n 0, 1) := by decide +kernel
theorem dX6_takeShortLine_64 : decode cX6_takeShortLine 64 = .ok (.aload_n 1, 1) := by decide +kernel
theorem dX6_takeShortLine_65 : decode cX6_takeShortLine 65 = .ok (.invokevirtual 99, 3) := by decide +kernel
theorem dX6_takeShortLine_68 : decode cX6_takeShortLine 68 = .ok (.ireturn, 1) := by decide +kernel
set_option maxRecDepth 20000 in
theorem ggX6_takeSlipLine_X6_fail : GoodIn wsX6_takeSlipLine wsX6_fail := goodIn_r _ [10, 11, 12, 65, 66] (by decide +kernel) (by decide +kernel)
set_option maxRecDepth 20000 in
theorem gX6_takeSlipLine_X6_fail : GoodIn wsX6_takeSlipLine (wsV RX6 42 RX6 yX6_fail wsX6_fail) := goodIn_app (goodIn_of _ (by decide +kernel)) ggX6_takeSlipLine_X6_fail
set_option maxRecDepth 20000 in
theorem ggX6_takeSlipLine_X6_takeNumber : GoodIn wsX6_takeSlipLine wsX6_takeNumber := goodIn_r _ [16, 3, 2, 17, 18, 19, 20, 21, 22, 23, 24, 25, 26, 27, 28, 29, 30, 31, 32, 33, 34, 35, 36, 37, 9, 38, 39, 6, 7, 8, 10, 11, 12, 59, 60, 61, 62, 63, 64, 65, 66] (by decide +kernel) (by decide +kernel)
set_option maxRecDepth 20000 in
theorem gX6_takeSlipLine_X6_takeNumber : GoodIn wsX6_takeSlipLine (wsV RX6 113 RX6 yX6_takeNumber wsX6_takeNumber) := goodIn_app (goodIn_of _ (by decide +kernel)) ggX6_takeSlipLine_X6_takeNumber
set_option maxRecDepth 20000 in
theorem ggX6_takeSlipLine_X6_takeSign : GoodIn wsX6_takeSlipLine wsX6_takeSign := goodIn_r _ [43, 17, 18, 19, 20, 21, 22, 23, 24, 25, 26, 27, 28, 29, 30, 31, 32, 33, 34, 35, 36, 37, 9, 38, 39, 2, 6, 7, 8, 10, 11, 12, 59, 60, 61, 62, 63, 64, 65, 66] (by decide +kernel) (by decide +kernel)
set_option maxRecDepth 20000 in
theorem gX6_takeSlipLine_X6_takeSign : GoodIn wsX6_takeSlipLine (wsV RX6 99 RX6 yX6_takeSign wsX6_takeSign) := goodIn_app (goodIn_of _ (by decide +kernel)) ggX6_takeSlipLine_X6_takeSign
theorem dX6_takeSlipLine_0 : decode cX6_takeSlipLine 0 = .ok (.aload_n 2, 1) := by decide +kernel
theorem dX6_takeSlipLine_1 : decode cX6_takeSlipLine 1 = .ok (.getfield 129, 3) := by decide +kernel
theorem dX6_takeSlipLine_4 : decode cX6_takeSlipLine 4 = .ok (.ifCond .eq 13, 3) := by decide +kernel
theorem dX6_takeSlipLine_7 : decode cX6_takeSlipLine 7 = .ok (.aload_n 0, 1) := by decide +kernel
theorem dX6_takeSlipLine_8 : decode cX6_takeSlipLine 8 = .ok (.iconst 4, 1) := by decide +kernel
theorem dX6_takeSlipLine_9 : decode cX6_takeSlipLine 9 = .ok (.aload_n 1, 1) := by decide +kernel
theorem dX6_takeSlipLine_10 : decode cX6_takeSlipLine 10 = .ok (.getfield 84, 3) := by decide +kernel
theorem dX6_takeSlipLine_13 : decode cX6_takeSlipLine 13 = .ok (.invokevirtual 42, 3) := by decide +kernel
theorem dX6_takeSlipLine_16 : decode cX6_takeSlipLine 16 = .ok (.ireturn, 1) := by decide +kernel
theorem dX6_takeSlipLine_17 : decode cX6_takeSlipLine 17 = .ok (.aload_n 2, 1) := by decide +kernel
theorem dX6_takeSlipLine_18 : decode cX6_takeSlipLine 18 = .ok (.iconst 1, 1) := by decide +kernel
theorem dX6_takeSlipLine_19 : decode cX6_takeSlipLine 19 = .ok (.putfield 129, 3) := by decide +kernel
theorem dX6_takeSlipLine_22 : decode cX6_takeSlipLine 22 = .ok (.aload_n 0, 1) := by decide +kernel
theorem dX6_takeSlipLine_23 : decode cX6_takeSlipLine 23 = .ok (.aload_n 1, 1) := by decide +kernel
theorem dX6_takeSlipLine_24 : decode cX6_takeSlipLine 24 = .ok (.iconst 0, 1) := by decide +kernel
theorem dX6_takeSlipLine_25 : decode cX6_takeSlipLine 25 = .ok (.bipush 9, 2) := by decide +kernel
theorem dX6_takeSlipLine_27 : decode cX6_takeSlipLine 27 = .ok (.invokevirtual 113, 3) := by decide +kernel
theorem dX6_takeSlipLine_30 : decode cX6_takeSlipLine 30 = .ok (.ifCond .ne 5, 3) := by decide +kernel
theorem dX6_takeSlipLine_33 : decode cX6_takeSlipLine 33 = .ok (.iconst 0, 1) := by decide +kernel
theorem dX6_takeSlipLine_34 : decode cX6_takeSlipLine 34 = .ok (.ireturn, 1) := by decide +kernel
theorem dX6_takeSlipLine_35 : decode cX6_takeSlipLine 35 = .ok (.aload_n 2, 1) := by decide +kernel
theorem dX6_takeSlipLine_36 : decode cX6_takeSlipLine 36 = .ok (.aload_n 1, 1) := by decide +kernel
theorem dX6_takeSlipLine_37 : decode cX6_takeSlipLine 37 = .ok (.getfield 120, 3) := by decide +kernel
theorem dX6_takeSlipLine_40 : decode cX6_takeSlipLine 40 = .ok (.putfield 132, 3) := by decide +kernel
theorem dX6_takeSlipLine_43 : decode cX6_takeSlipLine 43 = .ok (.aload_n 0, 1) := by decide +kernel
theorem dX6_takeSlipLine_44 : decode cX6_takeSlipLine 44 = .ok (.aload_n 1, 1) := by decide +kernel
theorem dX6_takeSlipLine_45 : decode cX6_takeSlipLine 45 = .ok (.iconst 0, 1) := by decide +kernel
theorem dX6_takeSlipLine_46 : decode cX6_takeSlipLine 46 = .ok (.bipush 9, 2) := by decide +kernel
theorem dX6_takeSlipLine_48 : decode cX6_takeSlipLine 48 = .ok (.invokevirtual 113, 3) := by decide +kernel
theorem dX6_takeSlipLine_51 : decode cX6_takeSlipLine 51 = .ok (.ifCond .ne 5, 3) := by decide +kernel
theorem dX6_takeSlipLine_54 : decode cX6_takeSlipLine 54 = .ok (.iconst 0, 1) := by decide +kernel
theorem dX6_takeSlipLine_55 : decode cX6_takeSlipLine 55 = .ok (.ireturn, 1) := by decide +kernel
theorem dX6_takeSlipLine_56 : decode cX6_takeSlipLine 56 = .ok (.aload_n 2, 1) := by decide +kernel
theorem dX6_takeSlipLine_57 : decode cX6_takeSlipLine 57 = .ok (.aload_n 1, 1) := by decide +kernel
theorem dX6_takeSlipLine_58 : decode cX6_takeSlipLine 58 = .ok (.getfield 120, 3) := by decide +kernel
theorem dX6_takeSlipLine_61 : decode cX6_takeSlipLine 61 = .ok (.putfield 135, 3) := by decide +kernel
theorem dX6_takeSlipLine_64 : decode cX6_takeSlipLine 64 = .ok (.aload_n 0, 1) := by decide +kernel
theorem dX6_takeSlipLine_65 : decode cX6_takeSlipLine 65 = .ok (.aload_n 1, 1) := by decide +kernel
theorem dX6_takeSlipLine_66 : decode cX6_takeSlipLine 66 = .ok (.invokevirtual 99, 3) := by decide +kernel
theorem dX6_takeSlipLine_69 : decode cX6_takeSlipLine 69 = .ok (.ireturn, 1) := by decide +kernel
set_option maxRecDepth 20000 in
theorem ggX6_takeTimeLine_X6_fail : GoodIn wsX6_takeTimeLine wsX6_fail := goodIn_r _ [11, 12, 13, 66, 67] (by decide +kernel) (by decide +kernel)
set_option maxRecDepth 20000 in
theorem gX6_takeTimeLine_X6_fail : GoodIn wsX6_takeTimeLine (wsV RX6 42 RX6 yX6_fail wsX6_fail) := goodIn_app (goodIn_of _ (by decide +kernel)) ggX6_takeTimeLine_X6_fail
set_option maxRecDepth 20000 in
theorem ggX6_takeTimeLine_X6_takeNumber : GoodIn wsX6_takeTimeLine wsX6_takeNumber := goodIn_r _ [17, 3, 2, 18, 19, 20, 21, 22, 23, 24, 25, 26, 27, 28, 29, 30, 31, 32, 33, 34, 35, 36, 37, 38, 10, 39, 40, 7, 8, 9, 11, 12, 13, 60, 61, 62, 63, 64, 65, 66, 67] (by decide +kernel) (by decide +kernel)
set_option maxRecDepth 20000 in
theorem gX6_takeTimeLine_X6_takeNumber : GoodIn wsX6_takeTimeLine (wsV RX6 113 RX6 yX6_takeNumber wsX6_takeNumber) := goodIn_app (goodIn_of _ (by decide +kernel)) ggX6_takeTimeLine_X6_takeNumber
set_option maxRecDepth 20000 in
theorem ggX6_takeTimeLine_X6_takeSign : GoodIn wsX6_takeTimeLine wsX6_takeSign := goodIn_r _ [44, 18, 19, 20, 21, 22, 23, 24, 25, 26, 27, 28, 29, 30, 31, 32, 33, 34, 35, 36, 37, 38, 10, 39, 40, 2, 7, 8, 9, 11, 12, 13, 60, 61, 62, 63, 64, 65, 66, 67] (by decide +kernel) (by decide +kernel)
set_option maxRecDepth 20000 in
theorem gX6_takeTimeLine_X6_takeSign : GoodIn wsX6_takeTimeLine (wsV RX6 99 RX6 yX6_takeSign wsX6_takeSign) := goodIn_app (goodIn_of _ (by decide +kernel)) ggX6_takeTimeLine_X6_takeSign
theorem dX6_takeTimeLine_0 : decode cX6_takeTimeLine 0 = .ok (.aload_n 2, 1) := by decide +kernel
theorem dX6_takeTimeLine_1 : decode cX6_takeTimeLine 1 = .ok (.getfield 138, 3) := by decide +kernel
theorem dX6_takeTimeLine_4 : decode cX6_takeTimeLine 4 = .ok (.ifCond .eq 13, 3) := by decide +kernel
theorem dX6_takeTimeLine_7 : decode cX6_takeTimeLine 7 = .ok (.aload_n 0, 1) := by decide +kernel
theorem dX6_takeTimeLine_8 : decode cX6_takeTimeLine 8 = .ok (.iconst 4, 1) := by decide +kernel
theorem dX6_takeTimeLine_9 : decode cX6_takeTimeLine 9 = .ok (.aload_n 1, 1) := by decide +kernel
theorem dX6_takeTimeLine_10 : decode cX6_takeTimeLine 10 = .ok (.getfield 84, 3) := by decide +kernel
theorem dX6_takeTimeLine_13 : decode cX6_takeTimeLine 13 = .ok (.invokevirtual 42, 3) := by decide +kernel
theorem dX6_takeTimeLine_16 : decode cX6_takeTimeLine 16 = .ok (.ireturn, 1) := by decide +kernel
theorem dX6_takeTimeLine_17 : decode cX6_takeTimeLine 17 = .ok (.aload_n 2, 1) := by decide +kernel
theorem dX6_takeTimeLine_18 : decode cX6_takeTimeLine 18 = .ok (.iconst 1, 1) := by decide +kernel
theorem dX6_takeTimeLine_19 : decode cX6_takeTimeLine 19 = .ok (.putfield 138, 3) := by decide +kernel
theorem dX6_takeTimeLine_22 : decode cX6_takeTimeLine 22 = .ok (.aload_n 0, 1) := by decide +kernel
theorem dX6_takeTimeLine_23 : decode cX6_takeTimeLine 23 = .ok (.aload_n 1, 1) := by decide +kernel
theorem dX6_takeTimeLine_24 : decode cX6_takeTimeLine 24 = .ok (.iconst 1, 1) := by decide +kernel
theorem dX6_takeTimeLine_25 : decode cX6_takeTimeLine 25 = .ok (.bipush 99, 2) := by decide +kernel
theorem dX6_takeTimeLine_27 : decode cX6_takeTimeLine 27 = .ok (.invokevirtual 113, 3) := by decide +kernel
theorem dX6_takeTimeLine_30 : decode cX6_takeTimeLine 30 = .ok (.ifCond .ne 5, 3) := by decide +kernel
theorem dX6_takeTimeLine_33 : decode cX6_takeTimeLine 33 = .ok (.iconst 0, 1) := by decide +kernel
theorem dX6_takeTimeLine_34 : decode cX6_takeTimeLine 34 = .ok (.ireturn, 1) := by decide +kernel
theorem dX6_takeTimeLine_35 : decode cX6_takeTimeLine 35 = .ok (.aload_n 2, 1) := by decide +kernel
theorem dX6_takeTimeLine_36 : decode cX6_takeTimeLine 36 = .ok (.aload_n 1, 1) := by decide +kernel
theorem dX6_takeTimeLine_37 : decode cX6_takeTimeLine 37 = .ok (.getfield 120, 3) := by decide +kernel
theorem dX6_takeTimeLine_40 : decode cX6_takeTimeLine 40 = .ok (.putfield 141, 3) := by decide +kernel
theorem dX6_takeTimeLine_43 : decode cX6_takeTimeLine 43 = .ok (.aload_n 0, 1) := by decide +kernel
theorem dX6_takeTimeLine_44 : decode cX6_takeTimeLine 44 = .ok (.aload_n 1, 1) := by decide +kernel
theorem dX6_takeTimeLine_45 : decode cX6_takeTimeLine 45 = .ok (.iconst 1, 1) := by decide +kernel
theorem dX6_takeTimeLine_46 : decode cX6_takeTimeLine 46 = .ok (.bipush 99, 2) := by decide +kernel
theorem dX6_takeTimeLine_48 : decode cX6_takeTimeLine 48 = .ok (.invokevirtual 113, 3) := by decide +kernel
theorem dX6_takeTimeLine_51 : decode cX6_takeTimeLine 51 = .ok (.ifCond .ne 5, 3) := by decide +kernel
theorem dX6_takeTimeLine_54 : decode cX6_takeTimeLine 54 = .ok (.iconst 0, 1) := by decide +kernel
theorem dX6_takeTimeLine_55 : decode cX6_takeTimeLine 55 = .ok (.ireturn, 1) := by decide +kernel
theorem dX6_takeTimeLine_56 : decode cX6_takeTimeLine 56 = .ok (.aload_n 2, 1) := by decide +kernel
theorem dX6_takeTimeLine_57 : decode cX6_takeTimeLine 57 = .ok (.aload_n 1, 1) := by decide +kernel
theorem dX6_takeTimeLine_58 : decode cX6_takeTimeLine 58 = .ok (.getfield 120, 3) := by decide +kernel
theorem dX6_takeTimeLine_61 : decode cX6_takeTimeLine 61 = .ok (.putfield 144, 3) := by decide +kernel
theorem dX6_takeTimeLine_64 : decode cX6_takeTimeLine 64 = .ok (.aload_n 0, 1) := by decide +kernel
theorem dX6_takeTimeLine_65 : decode cX6_takeTimeLine 65 = .ok (.aload_n 1, 1) := by decide +kernel
theorem dX6_takeTimeLine_66 : decode cX6_takeTimeLine 66 = .ok (.iconst 1, 1) := by decide +kernel
theorem dX6_takeTimeLine_67 : decode cX6_takeTimeLine 67 = .ok (.bipush 99, 2) := by decide +kernel
theorem dX6_takeTimeLine_69 : decode cX6_takeTimeLine 69 = .ok (.invokevirtual 113, 3) := by decide +kernel
theorem dX6_takeTimeLine_72 : decode cX6_takeTimeLine 72 = .ok (.ifCond .ne 5, 3) := by decide +kernel
theorem dX6_takeTimeLine_75 : decode cX6_takeTimeLine 75 = .ok (.iconst 0, 1) := by decide +kernel
theorem dX6_takeTimeLine_76 : decode cX6_takeTimeLine 76 = .ok (.ireturn, 1) := by decide +kernel
theorem dX6_takeTimeLine_77 : decode cX6_takeTimeLine 77 = .ok (.aload_n 2, 1) := by decide +kernel
theorem dX6_takeTimeLine_78 : decode cX6_takeTimeLine 78 = .ok (.aload_n 1, 1) := by decide +kernel
theorem dX6_takeTimeLine_79 : decode cX6_takeTimeLine 79 = .ok (.getfield 120, 3) := by decide +kernel
theorem dX6_takeTimeLine_82 : decode cX6_takeTimeLine 82 = .ok (.putfield 147, 3) := by decide +kernel
theorem dX6_takeTimeLine_85 : decode cX6_takeTimeLine 85 = .ok (.aload_n 0, 1) := by decide +kernel
theorem dX6_takeTimeLine_86 : decode cX6_takeTimeLine 86 = .ok (.aload_n 1, 1) := by decide +kernel
theorem dX6_takeTimeLine_87 : decode cX6_takeTimeLine 87 = .ok (.invokevirtual 99, 3) := by decide +kernel
theorem dX6_takeTimeLine_90 : decode cX6_takeTimeLine 90 = .ok (.ireturn, 1) := by decide +kernel
set_option maxRecDepth 20000 in
theorem ggX6_takeGuardLine_X6_fail : GoodIn wsX6_takeGuardLine wsX6_fail := goodIn_r _ [9, 10, 11, 74, 75] (by decide +kernel) (by decide +kernel)
set_option maxRecDepth 20000 in
theorem gX6_takeGuardLine_X6_fail : GoodIn wsX6_takeGuardLine (wsV RX6 42 RX6 yX6_fail wsX6_fail) := goodIn_app (goodIn_of _ (by decide +kernel)) ggX6_takeGuardLine_X6_fail
set_option maxRecDepth 20000 in
theorem ggX6_takeGuardLine_X6_takeNumber : GoodIn wsX6_takeGuardLine wsX6_takeNumber := goodIn_r _ [15, 3, 2, 16, 17, 18, 19, 20, 21, 22, 23, 24, 25, 26, 27, 28, 29, 30, 31, 32, 33, 34, 35, 36, 8, 37, 38, 5, 6, 7, 9, 10, 11, 68, 69, 70, 71, 72, 73, 74, 75] (by decide +kernel) (by decide +kernel)
set_option maxRecDepth 20000 in
theorem gX6_takeGuardLine_X6_takeNumber : GoodIn wsX6_takeGuardLine (wsV RX6 113 RX6 yX6_takeNumber wsX6_takeNumber) := goodIn_app (goodIn_of _ (by decide +kernel)) ggX6_takeGuardLine_X6_takeNumber
set_option maxRecDepth 20000 in
theorem ggX6_takeGuardLine_X5_watch : GoodIn wsX6_takeGuardLine wsX5_watch := goodIn_r _ [43, 44, 45, 46, 47, 48, 76] (by decide +kernel) (by decide +kernel)
set_option maxRecDepth 20000 in
theorem gX6_takeGuardLine_X5_watch : GoodIn wsX6_takeGuardLine (wsV RX6 157 RX5 yX5_watch wsX5_watch) := goodIn_app (goodIn_of _ (by decide +kernel)) ggX6_takeGuardLine_X5_watch
set_option maxRecDepth 20000 in
theorem ggX6_takeGuardLine_X6_takeSign : GoodIn wsX6_takeGuardLine wsX6_takeSign := goodIn_r _ [52, 16, 17, 18, 19, 20, 21, 22, 23, 24, 25, 26, 27, 28, 29, 30, 31, 32, 33, 34, 35, 36, 8, 37, 38, 2, 5, 6, 7, 9, 10, 11, 68, 69, 70, 71, 72, 73, 74, 75] (by decide +kernel) (by decide +kernel)
set_option maxRecDepth 20000 in
theorem gX6_takeGuardLine_X6_takeSign : GoodIn wsX6_takeGuardLine (wsV RX6 99 RX6 yX6_takeSign wsX6_takeSign) := goodIn_app (goodIn_of _ (by decide +kernel)) ggX6_takeGuardLine_X6_takeSign
theorem dX6_takeGuardLine_0 : decode cX6_takeGuardLine 0 = .ok (.aload_n 2, 1) := by decide +kernel
theorem dX6_takeGuardLine_1 : decode cX6_takeGuardLine 1 = .ok (.getfield 150, 3) := by decide +kernel
theorem dX6_takeGuardLine_4 : decode cX6_takeGuardLine 4 = .ok (.bipush 6, 2) := by decide +kernel
theorem dX6_takeGuardLine_6 : decode cX6_takeGuardLine 6 = .ok (.if_icmp .lt 13, 3) := by decide +kernel
theorem dX6_takeGuardLine_9 : decode cX6_takeGuardLine 9 = .ok (.aload_n 0, 1) := by decide +kernel
theorem dX6_takeGuardLine_10 : decode cX6_takeGuardLine 10 = .ok (.iconst 5, 1) := by decide +kernel
theorem dX6_takeGuardLine_11 : decode cX6_takeGuardLine 11 = .ok (.aload_n 1, 1) := by decide +kernel
theorem dX6_takeGuardLine_12 : decode cX6_takeGuardLine 12 = .ok (.getfield 84, 3) := by decide +kernel
theorem dX6_takeGuardLine_15 : decode cX6_takeGuardLine 15 = .ok (.invokevirtual 42, 3) := by decide +kernel
theorem dX6_takeGuardLine_18 : decode cX6_takeGuardLine 18 = .ok (.ireturn, 1) := by decide +kernel
theorem dX6_takeGuardLine_19 : decode cX6_takeGuardLine 19 = .ok (.aload_n 2, 1) := by decide +kernel
theorem dX6_takeGuardLine_20 : decode cX6_takeGuardLine 20 = .ok (.dup, 1) := by decide +kernel
theorem dX6_takeGuardLine_21 : decode cX6_takeGuardLine 21 = .ok (.getfield 150, 3) := by decide +kernel
theorem dX6_takeGuardLine_24 : decode cX6_takeGuardLine 24 = .ok (.iconst 1, 1) := by decide +kernel
theorem dX6_takeGuardLine_25 : decode cX6_takeGuardLine 25 = .ok (.iadd, 1) := by decide +kernel
theorem dX6_takeGuardLine_26 : decode cX6_takeGuardLine 26 = .ok (.putfield 150, 3) := by decide +kernel
theorem dX6_takeGuardLine_29 : decode cX6_takeGuardLine 29 = .ok (.aload_n 0, 1) := by decide +kernel
theorem dX6_takeGuardLine_30 : decode cX6_takeGuardLine 30 = .ok (.aload_n 1, 1) := by decide +kernel
theorem dX6_takeGuardLine_31 : decode cX6_takeGuardLine 31 = .ok (.iconst 0, 1) := by decide +kernel
theorem dX6_takeGuardLine_32 : decode cX6_takeGuardLine 32 = .ok (.sipush 599, 3) := by decide +kernel
theorem dX6_takeGuardLine_35 : decode cX6_takeGuardLine 35 = .ok (.invokevirtual 113, 3) := by decide +kernel
theorem dX6_takeGuardLine_38 : decode cX6_takeGuardLine 38 = .ok (.ifCond .ne 5, 3) := by decide +kernel
theorem dX6_takeGuardLine_41 : decode cX6_takeGuardLine 41 = .ok (.iconst 0, 1) := by decide +kernel
theorem dX6_takeGuardLine_42 : decode cX6_takeGuardLine 42 = .ok (.ireturn, 1) := by decide +kernel
theorem dX6_takeGuardLine_43 : decode cX6_takeGuardLine 43 = .ok (.aload_n 1, 1) := by decide +kernel
theorem dX6_takeGuardLine_44 : decode cX6_takeGuardLine 44 = .ok (.getfield 120, 3) := by decide +kernel
theorem dX6_takeGuardLine_47 : decode cX6_takeGuardLine 47 = .ok (.istore_n 3, 1) := by decide +kernel
theorem dX6_takeGuardLine_48 : decode cX6_takeGuardLine 48 = .ok (.aload_n 0, 1) := by decide +kernel
theorem dX6_takeGuardLine_49 : decode cX6_takeGuardLine 49 = .ok (.aload_n 1, 1) := by decide +kernel
theorem dX6_takeGuardLine_50 : decode cX6_takeGuardLine 50 = .ok (.iconst 1, 1) := by decide +kernel
theorem dX6_takeGuardLine_51 : decode cX6_takeGuardLine 51 = .ok (.bipush 60, 2) := by decide +kernel
theorem dX6_takeGuardLine_53 : decode cX6_takeGuardLine 53 = .ok (.invokevirtual 113, 3) := by decide +kernel
theorem dX6_takeGuardLine_56 : decode cX6_takeGuardLine 56 = .ok (.ifCond .ne 5, 3) := by decide +kernel
theorem dX6_takeGuardLine_59 : decode cX6_takeGuardLine 59 = .ok (.iconst 0, 1) := by decide +kernel
theorem dX6_takeGuardLine_60 : decode cX6_takeGuardLine 60 = .ok (.ireturn, 1) := by decide +kernel
theorem dX6_takeGuardLine_61 : decode cX6_takeGuardLine 61 = .ok (.aload_n 2, 1) := by decide +kernel
theorem dX6_takeGuardLine_62 : decode cX6_takeGuardLine 62 = .ok (.getfield 153, 3) := by decide +kernel
theorem dX6_takeGuardLine_65 : decode cX6_takeGuardLine 65 = .ok (.iload_n 3, 1) := by decide +kernel
theorem dX6_takeGuardLine_66 : decode cX6_takeGuardLine 66 = .ok (.aload_n 1, 1) := by decide +kernel
theorem dX6_takeGuardLine_67 : decode cX6_takeGuardLine 67 = .ok (.getfield 120, 3) := by decide +kernel
theorem dX6_takeGuardLine_70 : decode cX6_takeGuardLine 70 = .ok (.invokevirtual 157, 3) := by decide +kernel
theorem dX6_takeGuardLine_73 : decode cX6_takeGuardLine 73 = .ok (.aload_n 0, 1) := by decide +kernel
theorem dX6_takeGuardLine_74 : decode cX6_takeGuardLine 74 = .ok (.aload_n 1, 1) := by decide +kernel
theorem dX6_takeGuardLine_75 : decode cX6_takeGuardLine 75 = .ok (.invokevirtual 99, 3) := by decide +kernel
theorem dX6_takeGuardLine_78 : decode cX6_takeGuardLine 78 = .ok (.ireturn, 1) := by decide +kernel
set_option maxRecDepth 20000 in
theorem ggX6_takeName_X9_nextToken : GoodIn wsX6_takeName wsX9_nextToken := goodIn_r _ [7, 8, 9, 10, 11, 12, 13, 14, 6, 15, 16, 17, 18, 19, 20, 33, 34, 35, 36, 37, 38] (by decide +kernel) (by decide +kernel)
set_option maxRecDepth 20000 in
theorem gX6_takeName_X9_nextToken : GoodIn wsX6_takeName (wsV RX6 23 RX9 yX9_nextToken wsX9_nextToken) := goodIn_app (goodIn_of _ (by decide +kernel)) ggX6_takeName_X9_nextToken
set_option maxRecDepth 20000 in
theorem ggX6_takeName_X6_isToken : GoodIn wsX6_takeName wsX6_isToken := goodIn_r _ [25, 26, 2, 27, 28, 29, 24, 30, 31, 32, 33, 34, 35, 36, 37, 38, 39, 40] (by decide +kernel) (by decide +kernel)
set_option maxRecDepth 20000 in
theorem gX6_takeName_X6_isToken : GoodIn wsX6_takeName (wsV RX6 46 RX6 yX6_isToken wsX6_isToken) := goodIn_app (goodIn_of _ (by decide +kernel)) ggX6_takeName_X6_isToken
set_option maxRecDepth 20000 in
theorem ggX6_takeName_X6_fail : GoodIn wsX6_takeName wsX6_fail := goodIn_r _ [30, 31, 32, 39, 40] (by decide +kernel) (by decide +kernel)
set_option maxRecDepth 20000 in
theorem gX6_takeName_X6_fail : GoodIn wsX6_takeName (wsV RX6 42 RX6 yX6_fail wsX6_fail) := goodIn_app (goodIn_of _ (by decide +kernel)) ggX6_takeName_X6_fail
theorem dX6_takeName_0 : decode cX6_takeName 0 = .ok (.aload_n 1, 1) := by decide +kernel
theorem dX6_takeName_1 : decode cX6_takeName 1 = .ok (.invokevirtual 23, 3) := by decide +kernel
theorem dX6_takeName_4 : decode cX6_takeName 4 = .ok (.aload_n 0, 1) := by decide +kernel
theorem dX6_takeName_5 : decode cX6_takeName 5 = .ok (.aload_n 1, 1) := by decide +kernel
theorem dX6_takeName_6 : decode cX6_takeName 6 = .ok (.iconst 2, 1) := by decide +kernel
theorem dX6_takeName_7 : decode cX6_takeName 7 = .ok (.invokevirtual 46, 3) := by decide +kernel
theorem dX6_takeName_10 : decode cX6_takeName 10 = .ok (.ifCond .ne 5, 3) := by decide +kernel
theorem dX6_takeName_13 : decode cX6_takeName 13 = .ok (.iconst 0, 1) := by decide +kernel
theorem dX6_takeName_14 : decode cX6_takeName 14 = .ok (.ireturn, 1) := by decide +kernel
theorem dX6_takeName_15 : decode cX6_takeName 15 = .ok (.aload_n 1, 1) := by decide +kernel
theorem dX6_takeName_16 : decode cX6_takeName 16 = .ok (.getfield 18, 3) := by decide +kernel
theorem dX6_takeName_19 : decode cX6_takeName 19 = .ok (.aload_n 1, 1) := by decide +kernel
theorem dX6_takeName_20 : decode cX6_takeName 20 = .ok (.getfield 84, 3) := by decide +kernel
theorem dX6_takeName_23 : decode cX6_takeName 23 = .ok (.isub, 1) := by decide +kernel
theorem dX6_takeName_24 : decode cX6_takeName 24 = .ok (.istore 4, 2) := by decide +kernel
theorem dX6_takeName_26 : decode cX6_takeName 26 = .ok (.iload 4, 2) := by decide +kernel
theorem dX6_takeName_28 : decode cX6_takeName 28 = .ok (.iload_n 2, 1) := by decide +kernel
theorem dX6_takeName_29 : decode cX6_takeName 29 = .ok (.if_icmp .lt 9, 3) := by decide +kernel
theorem dX6_takeName_32 : decode cX6_takeName 32 = .ok (.iload 4, 2) := by decide +kernel
theorem dX6_takeName_34 : decode cX6_takeName 34 = .ok (.iload_n 3, 1) := by decide +kernel
theorem dX6_takeName_35 : decode cX6_takeName 35 = .ok (.if_icmp .le 15, 3) := by decide +kernel
theorem dX6_takeName_38 : decode cX6_takeName 38 = .ok (.aload_n 0, 1) := by decide +kernel
theorem dX6_takeName_39 : decode cX6_takeName 39 = .ok (.iconst 3, 1) := by decide +kernel
theorem dX6_takeName_40 : decode cX6_takeName 40 = .ok (.aload_n 1, 1) := by decide +kernel
theorem dX6_takeName_41 : decode cX6_takeName 41 = .ok (.getfield 84, 3) := by decide +kernel
theorem dX6_takeName_44 : decode cX6_takeName 44 = .ok (.invokevirtual 42, 3) := by decide +kernel
theorem dX6_takeName_47 : decode cX6_takeName 47 = .ok (.ifCond .eq 7, 3) := by decide +kernel
theorem dX6_takeName_50 : decode cX6_takeName 50 = .ok (.iconst 1, 1) := by decide +kernel
theorem dX6_takeName_51 : decode cX6_takeName 51 = .ok (.goto 4, 3) := by decide +kernel
theorem dX6_takeName_54 : decode cX6_takeName 54 = .ok (.iconst 0, 1) := by decide +kernel
theorem dX6_takeName_55 : decode cX6_takeName 55 = .ok (.ireturn, 1) := by decide +kernel
set_option maxRecDepth 20000 in
theorem ggX6_takeNumber_X9_nextToken : GoodIn wsX6_takeNumber wsX9_nextToken := goodIn_r _ [7, 8, 9, 10, 11, 12, 13, 14, 6, 15, 16, 17, 18, 19, 20, 33, 34, 35, 36, 37, 38] (by decide +kernel) (by decide +kernel)
set_option maxRecDepth 20000 in
theorem gX6_takeNumber_X9_nextToken : GoodIn wsX6_takeNumber (wsV RX6 23 RX9 yX9_nextToken wsX9_nextToken) := goodIn_app (goodIn_of _ (by decide +kernel)) ggX6_takeNumber_X9_nextToken
set_option maxRecDepth 20000 in
theorem ggX6_takeNumber_X6_isToken : GoodIn wsX6_takeNumber wsX6_isToken := goodIn_r _ [25, 26, 2, 27, 28, 29, 24, 30, 31, 32, 33, 34, 35, 36, 37, 38, 39, 40] (by decide +kernel) (by decide +kernel)
set_option maxRecDepth 20000 in
theorem gX6_takeNumber_X6_isToken : GoodIn wsX6_takeNumber (wsV RX6 46 RX6 yX6_isToken wsX6_isToken) := goodIn_app (goodIn_of _ (by decide +kernel)) ggX6_takeNumber_X6_isToken
set_option maxRecDepth 20000 in
theorem ggX6_takeNumber_X6_fail : GoodIn wsX6_takeNumber wsX6_fail := goodIn_r _ [30, 31, 32, 39, 40] (by decide +kernel) (by decide +kernel)
set_option maxRecDepth 20000 in
theorem gX6_takeNumber_X6_fail : GoodIn wsX6_takeNumber (wsV RX6 42 RX6 yX6_fail wsX6_fail) := goodIn_app (goodIn_of _ (by decide +kernel)) ggX6_takeNumber_X6_fail
theorem dX6_takeNumber_0 : decode cX6_takeNumber 0 = .ok (.aload_n 1, 1) := by decide +kernel
theorem dX6_takeNumber_1 : decode cX6_takeNumber 1 = .ok (.invokevirtual 23, 3) := by decide +kernel
theorem dX6_takeNumber_4 : decode cX6_takeNumber 4 = .ok (.aload_n 0, 1) := by decide +kernel
theorem dX6_takeNumber_5 : decode cX6_takeNumber 5 = .ok (.aload_n 1, 1) := by decide +kernel
theorem dX6_takeNumber_6 : decode cX6_takeNumber 6 = .ok (.iconst 3, 1) := by decide +kernel
theorem dX6_takeNumber_7 : decode cX6_takeNumber 7 = .ok (.invokevirtual 46, 3) := by decide +kernel
theorem dX6_takeNumber_10 : decode cX6_takeNumber 10 = .ok (.ifCond .ne 5, 3) := by decide +kernel
theorem dX6_takeNumber_13 : decode cX6_takeNumber 13 = .ok (.iconst 0, 1) := by decide +kernel
theorem dX6_takeNumber_14 : decode cX6_takeNumber 14 = .ok (.ireturn, 1) := by decide +kernel
theorem dX6_takeNumber_15 : decode cX6_takeNumber 15 = .ok (.aload_n 1, 1) := by decide +kernel
theorem dX6_takeNumber_16 : decode cX6_takeNumber 16 = .ok (.getfield 120, 3) := by decide +kernel
theorem dX6_takeNumber_19 : decode cX6_takeNumber 19 = .ok (.iload_n 2, 1) := by decide +kernel
theorem dX6_takeNumber_20 : decode cX6_takeNumber 20 = .ok (.if_icmp .lt 11, 3) := by decide +kernel
theorem dX6_takeNumber_23 : decode cX6_takeNumber 23 = .ok (.aload_n 1, 1) := by decide +kernel
theorem dX6_takeNumber_24 : decode cX6_takeNumber 24 = .ok (.getfield 120, 3) := by decide +kernel
theorem dX6_takeNumber_27 : decode cX6_takeNumber 27 = .ok (.iload_n 3, 1) := by decide +kernel
theorem dX6_takeNumber_28 : decode cX6_takeNumber 28 = .ok (.if_icmp .le 15, 3) := by decide +kernel
theorem dX6_takeNumber_31 : decode cX6_takeNumber 31 = .ok (.aload_n 0, 1) := by decide +kernel
theorem dX6_takeNumber_32 : decode cX6_takeNumber 32 = .ok (.iconst 3, 1) := by decide +kernel
theorem dX6_takeNumber_33 : decode cX6_takeNumber 33 = .ok (.aload_n 1, 1) := by decide +kernel
theorem dX6_takeNumber_34 : decode cX6_takeNumber 34 = .ok (.getfield 84, 3) := by decide +kernel
theorem dX6_takeNumber_37 : decode cX6_takeNumber 37 = .ok (.invokevirtual 42, 3) := by decide +kernel
theorem dX6_takeNumber_40 : decode cX6_takeNumber 40 = .ok (.ifCond .eq 7, 3) := by decide +kernel
theorem dX6_takeNumber_43 : decode cX6_takeNumber 43 = .ok (.iconst 1, 1) := by decide +kernel
theorem dX6_takeNumber_44 : decode cX6_takeNumber 44 = .ok (.goto 4, 3) := by decide +kernel
theorem dX6_takeNumber_47 : decode cX6_takeNumber 47 = .ok (.iconst 0, 1) := by decide +kernel
theorem dX6_takeNumber_48 : decode cX6_takeNumber 48 = .ok (.ireturn, 1) := by decide +kernel
set_option maxRecDepth 20000 in
theorem ggX6_takeSign_X9_nextToken : GoodIn wsX6_takeSign wsX9_nextToken := goodIn_r _ [5, 6, 7, 8, 9, 10, 11, 12, 4, 13, 14, 15, 16, 17, 18, 32, 33, 34, 35, 36, 37] (by decide +kernel) (by decide +kernel)
set_option maxRecDepth 20000 in
theorem gX6_takeSign_X9_nextToken : GoodIn wsX6_takeSign (wsV RX6 23 RX9 yX9_nextToken wsX9_nextToken) := goodIn_app (goodIn_of _ (by decide +kernel)) ggX6_takeSign_X9_nextToken
set_option maxRecDepth 20000 in
theorem ggX6_takeSign_X6_isToken : GoodIn wsX6_takeSign wsX6_isToken := goodIn_r _ [23, 24, 25, 26, 27, 28, 22, 29, 30, 31, 32, 33, 34, 35, 36, 37, 38, 39] (by decide +kernel) (by decide +kernel)
set_option maxRecDepth 20000 in
theorem gX6_takeSign_X6_isToken : GoodIn wsX6_takeSign (wsV RX6 46 RX6 yX6_isToken wsX6_isToken) := goodIn_app (goodIn_of _ (by decide +kernel)) ggX6_takeSign_X6_isToken
theorem dX6_takeSign_0 : decode cX6_takeSign 0 = .ok (.aload_n 1, 1) := by decide +kernel
theorem dX6_takeSign_1 : decode cX6_takeSign 1 = .ok (.invokevirtual 23, 3) := by decide +kernel
theorem dX6_takeSign_4 : decode cX6_takeSign 4 = .ok (.aload_n 0, 1) := by decide +kernel
theorem dX6_takeSign_5 : decode cX6_takeSign 5 = .ok (.aload_n 1, 1) := by decide +kernel
theorem dX6_takeSign_6 : decode cX6_takeSign 6 = .ok (.iconst 4, 1) := by decide +kernel
theorem dX6_takeSign_7 : decode cX6_takeSign 7 = .ok (.invokevirtual 46, 3) := by decide +kernel
theorem dX6_takeSign_10 : decode cX6_takeSign 10 = .ok (.ireturn, 1) := by decide +kernel
set_option maxRecDepth 20000 in
theorem ggX6_isToken_X6_fail : GoodIn wsX6_isToken wsX6_fail := goodIn_r _ [7, 8, 9, 16, 17] (by decide +kernel) (by decide +kernel)
set_option maxRecDepth 20000 in
theorem gX6_isToken_X6_fail : GoodIn wsX6_isToken (wsV RX6 42 RX6 yX6_fail wsX6_fail) := goodIn_app (goodIn_of _ (by decide +kernel)) ggX6_isToken_X6_fail
theorem dX6_isToken_0 : decode cX6_isToken 0 = .ok (.aload_n 1, 1) := by decide +kernel
theorem dX6_isToken_1 : decode cX6_isToken 1 = .ok (.getfield 26, 3) := by decide +kernel
theorem dX6_isToken_4 : decode cX6_isToken 4 = .ok (.ifCond .ne 13, 3) := by decide +kernel
theorem dX6_isToken_7 : decode cX6_isToken 7 = .ok (.aload_n 0, 1) := by decide +kernel
theorem dX6_isToken_8 : decode cX6_isToken 8 = .ok (.iconst 1, 1) := by decide +kernel
theorem dX6_isToken_9 : decode cX6_isToken 9 = .ok (.aload_n 1, 1) := by decide +kernel
theorem dX6_isToken_10 : decode cX6_isToken 10 = .ok (.getfield 84, 3) := by decide +kernel
theorem dX6_isToken_13 : decode cX6_isToken 13 = .ok (.invokevirtual 42, 3) := by decide +kernel
theorem dX6_isToken_16 : decode cX6_isToken 16 = .ok (.ireturn, 1) := by decide +kernel
theorem dX6_isToken_17 : decode cX6_isToken 17 = .ok (.aload_n 1, 1) := by decide +kernel
theorem dX6_isToken_18 : decode cX6_isToken 18 = .ok (.getfield 26, 3) := by decide +kernel
theorem dX6_isToken_21 : decode cX6_isToken 21 = .ok (.iload_n 2, 1) := by decide +kernel
theorem dX6_isToken_22 : decode cX6_isToken 22 = .ok (.if_icmp .eq 15, 3) := by decide +kernel
theorem dX6_isToken_25 : decode cX6_isToken 25 = .ok (.aload_n 0, 1) := by decide +kernel
theorem dX6_isToken_26 : decode cX6_isToken 26 = .ok (.iconst 2, 1) := by decide +kernel
theorem dX6_isToken_27 : decode cX6_isToken 27 = .ok (.aload_n 1, 1) := by decide +kernel
theorem dX6_isToken_28 : decode cX6_isToken 28 = .ok (.getfield 84, 3) := by decide +kernel
theorem dX6_isToken_31 : decode cX6_isToken 31 = .ok (.invokevirtual 42, 3) := by decide +kernel
theorem dX6_isToken_34 : decode cX6_isToken 34 = .ok (.ifCond .eq 7, 3) := by decide +kernel
theorem dX6_isToken_37 : decode cX6_isToken 37 = .ok (.iconst 1, 1) := by decide +kernel
theorem dX6_isToken_38 : decode cX6_isToken 38 = .ok (.goto 4, 3) := by decide +kernel
theorem dX6_isToken_41 : decode cX6_isToken 41 = .ok (.iconst 0, 1) := by decide +kernel
theorem dX6_isToken_42 : decode cX6_isToken 42 = .ok (.ireturn, 1) := by decide +kernel
theorem dX6_fail_0 : decode cX6_fail 0 = .ok (.aload_n 0, 1) := by decide +kernel
theorem dX6_fail_1 : decode cX6_fail 1 = .ok (.iload_n 1, 1) := by decide +kernel
theorem dX6_fail_2 : decode cX6_fail 2 = .ok (.putfield 9, 3) := by decide +kernel
theorem dX6_fail_5 : decode cX6_fail 5 = .ok (.aload_n 0, 1) := by decide +kernel
theorem dX6_fail_6 : decode cX6_fail 6 = .ok (.iload_n 2, 1) := by decide +kernel
theorem dX6_fail_7 : decode cX6_fail 7 = .ok (.putfield 15, 3) := by decide +kernel
theorem dX6_fail_10 : decode cX6_fail 10 = .ok (.iconst 0, 1) := by decide +kernel
theorem dX6_fail_11 : decode cX6_fail 11 = .ok (.ireturn, 1) := by decide +kernel
theorem dX7_init_0 : decode cX7_init 0 = .ok (.aload_n 0, 1) := by decide +kernel
theorem dX7_init_1 : decode cX7_init 1 = .ok (.invokespecial 1, 3) := by decide +kernel
theorem dX7_init_4 : decode cX7_init 4 = .ok (.return_, 1) := by decide +kernel
set_option maxRecDepth 20000 in
theorem ggX7_measure_X7_addName : GoodIn wsX7_measure wsX7_addName := goodIn_r _ [14, 9, 2, 15, 1, 3, 4, 16, 17, 7, 5, 6, 18, 19, 20, 21, 22, 23, 24, 25, 26, 27, 28, 29, 30, 31, 32, 33, 13, 34, 35, 36, 37, 38, 39, 40, 41, 42, 43, 44, 45, 46, 47, 48, 49, 50, 51, 52, 53, 54, 55, 56, 57, 58, 59, 60, 61, 62, 63, 64, 65, 73, 74, 75, 76, 77, 78, 66, 67, 68, 69, 70, 71, 72, 79, 80, 81, 82, 83, 84, 85, 86, 87, 88, 89, 90, 91, 92, 93, 94, 95, 96, 97, 98, 99, 100, 101, 102, 103, 104, 105] (by decide +kernel) (by decide +kernel)
set_option maxRecDepth 20000 in
theorem gX7_measure_X7_addName : GoodIn wsX7_measure (wsV RX7 40 RX7 yX7_addName wsX7_addName) := goodIn_app (goodIn_of _ (by decide +kernel)) ggX7_measure_X7_addName
theorem dX7_measure_0 : decode cX7_measure 0 = .ok (.aload_n 0, 1) := by decide +kernel
theorem dX7_measure_1 : decode cX7_measure 1 = .ok (.iconst 0, 1) := by decide +kernel
theorem dX7_measure_2 : decode cX7_measure 2 = .ok (.putfield 7, 3) := by decide +kernel
theorem dX7_measure_5 : decode cX7_measure 5 = .ok (.aload_n 0, 1) := by decide +kernel
theorem dX7_measure_6 : decode cX7_measure 6 = .ok (.iconst 0, 1) := by decide +kernel
theorem dX7_measure_7 : decode cX7_measure 7 = .ok (.putfield 13, 3) := by decide +kernel
theorem dX7_measure_10 : decode cX7_measure 10 = .ok (.aload_n 0, 1) := by decide +kernel
theorem dX7_measure_11 : decode cX7_measure 11 = .ok (.iconst 0, 1) := by decide +kernel
theorem dX7_measure_12 : decode cX7_measure 12 = .ok (.putfield 16, 3) := by decide +kernel
theorem dX7_measure_15 : decode cX7_measure 15 = .ok (.aload_n 0, 1) := by decide +kernel
theorem dX7_measure_16 : decode cX7_measure 16 = .ok (.iconst 0, 1) := by decide +kernel
theorem dX7_measure_17 : decode cX7_measure 17 = .ok (.putfield 19, 3) := by decide +kernel
theorem dX7_measure_20 : decode cX7_measure 20 = .ok (.aload_n 0, 1) := by decide +kernel
theorem dX7_measure_21 : decode cX7_measure 21 = .ok (.iconst 0, 1) := by decide +kernel
theorem dX7_measure_22 : decode cX7_measure 22 = .ok (.putfield 22, 3) := by decide +kernel
theorem dX7_measure_25 : decode cX7_measure 25 = .ok (.aload_n 0, 1) := by decide +kernel
theorem dX7_measure_26 : decode cX7_measure 26 = .ok (.iconst 0, 1) := by decide +kernel
theorem dX7_measure_27 : decode cX7_measure 27 = .ok (.putfield 25, 3) := by decide +kernel
theorem dX7_measure_30 : decode cX7_measure 30 = .ok (.aload_n 0, 1) := by decide +kernel
theorem dX7_measure_31 : decode cX7_measure 31 = .ok (.iconst 0, 1) := by decide +kernel
theorem dX7_measure_32 : decode cX7_measure 32 = .ok (.putfield 28, 3) := by decide +kernel
theorem dX7_measure_35 : decode cX7_measure 35 = .ok (.iconst 0, 1) := by decide +kernel
theorem dX7_measure_36 : decode cX7_measure 36 = .ok (.istore 4, 2) := by decide +kernel
theorem dX7_measure_38 : decode cX7_measure 38 = .ok (.iconst 0, 1) := by decide +kernel
theorem dX7_measure_39 : decode cX7_measure 39 = .ok (.istore 5, 2) := by decide +kernel
theorem dX7_measure_41 : decode cX7_measure 41 = .ok (.iload 5, 2) := by decide +kernel
theorem dX7_measure_43 : decode cX7_measure 43 = .ok (.aload_n 1, 1) := by decide +kernel
theorem dX7_measure_44 : decode cX7_measure 44 = .ok (.getfield 31, 3) := by decide +kernel
theorem dX7_measure_47 : decode cX7_measure 47 = .ok (.if_icmp .ge 49, 3) := by decide +kernel
theorem dX7_measure_50 : decode cX7_measure 50 = .ok (.aload_n 1, 1) := by decide +kernel
theorem dX7_measure_51 : decode cX7_measure 51 = .ok (.getfield 36, 3) := by decide +kernel
theorem dX7_measure_54 : decode cX7_measure 54 = .ok (.iload 5, 2) := by decide +kernel
theorem dX7_measure_56 : decode cX7_measure 56 = .ok (.baload, 1) := by decide +kernel
theorem dX7_measure_57 : decode cX7_measure 57 = .ok (.bipush 32, 2) := by decide +kernel
theorem dX7_measure_59 : decode cX7_measure 59 = .ok (.if_icmp .eq 9, 3) := by decide +kernel
theorem dX7_measure_62 : decode cX7_measure 62 = .ok (.iinc 4 1, 3) := by decide +kernel
theorem dX7_measure_65 : decode cX7_measure 65 = .ok (.goto 25, 3) := by decide +kernel
theorem dX7_measure_68 : decode cX7_measure 68 = .ok (.iload 4, 2) := by decide +kernel
theorem dX7_measure_70 : decode cX7_measure 70 = .ok (.ifCond .le 20, 3) := by decide +kernel
theorem dX7_measure_73 : decode cX7_measure 73 = .ok (.aload_n 0, 1) := by decide +kernel
theorem dX7_measure_74 : decode cX7_measure 74 = .ok (.aload_n 1, 1) := by decide +kernel
theorem dX7_measure_75 : decode cX7_measure 75 = .ok (.iload 5, 2) := by decide +kernel
theorem dX7_measure_77 : decode cX7_measure 77 = .ok (.iload 4, 2) := by decide +kernel
theorem dX7_measure_79 : decode cX7_measure 79 = .ok (.isub, 1) := by decide +kernel
theorem dX7_measure_80 : decode cX7_measure 80 = .ok (.iload 4, 2) := by decide +kernel
theorem dX7_measure_82 : decode cX7_measure 82 = .ok (.aload_n 2, 1) := by decide +kernel
theorem dX7_measure_83 : decode cX7_measure 83 = .ok (.aload_n 3, 1) := by decide +kernel
theorem dX7_measure_84 : decode cX7_measure 84 = .ok (.invokevirtual 40, 3) := by decide +kernel
theorem dX7_measure_87 : decode cX7_measure 87 = .ok (.iconst 0, 1) := by decide +kernel
theorem dX7_measure_88 : decode cX7_measure 88 = .ok (.istore 4, 2) := by decide +kernel
theorem dX7_measure_90 : decode cX7_measure 90 = .ok (.iinc 5 1, 3) := by decide +kernel
theorem dX7_measure_93 : decode cX7_measure 93 = .ok (.goto (-52), 3) := by decide +kernel
theorem dX7_measure_96 : decode cX7_measure 96 = .ok (.iload 4, 2) := by decide +kernel
theorem dX7_measure_98 : decode cX7_measure 98 = .ok (.ifCond .le 19, 3) := by decide +kernel
theorem dX7_measure_101 : decode cX7_measure 101 = .ok (.aload_n 0, 1) := by decide +kernel
theorem dX7_measure_102 : decode cX7_measure 102 = .ok (.aload_n 1, 1) := by decide +kernel
theorem dX7_measure_103 : decode cX7_measure 103 = .ok (.aload_n 1, 1) := by decide +kernel
theorem dX7_measure_104 : decode cX7_measure 104 = .ok (.getfield 31, 3) := by decide +kernel
theorem dX7_measure_107 : decode cX7_measure 107 = .ok (.iload 4, 2) := by decide +kernel
theorem dX7_measure_109 : decode cX7_measure 109 = .ok (.isub, 1) := by decide +kernel
theorem dX7_measure_110 : decode cX7_measure 110 = .ok (.iload 4, 2) := by decide +kernel
theorem dX7_measure_112 : decode cX7_measure 112 = .ok (.aload_n 2, 1) := by decide +kernel
theorem dX7_measure_113 : decode cX7_measure 113 = .ok (.aload_n 3, 1) := by decide +kernel
theorem dX7_measure_114 : decode cX7_measure 114 = .ok (.invokevirtual 40, 3) := by decide +kernel
theorem dX7_measure_117 : decode cX7_measure 117 = .ok (.return_, 1) := by decide +kernel
set_option maxRecDepth 20000 in
theorem ggX7_addName_X2_knocksOf : GoodIn wsX7_addName wsX2_knocksOf := goodIn_r _ [16, 17, 18, 19, 15, 20, 21, 22, 23, 24, 25, 89, 90, 91, 92, 93, 94] (by decide +kernel) (by decide +kernel)
set_option maxRecDepth 20000 in
theorem gX7_addName_X2_knocksOf : GoodIn wsX7_addName (wsV RX7 44 RX2 yX2_knocksOf wsX2_knocksOf) := goodIn_app (goodIn_of _ (by decide +kernel)) ggX7_addName_X2_knocksOf
set_option maxRecDepth 20000 in
theorem ggX7_addName_X7_timeOf : GoodIn wsX7_addName wsX7_timeOf := goodIn_r _ [29, 30, 31, 3, 74, 75, 76, 77, 78, 79, 80, 81, 82, 83, 84, 85, 86, 87, 88] (by decide +kernel) (by decide +kernel)
set_option maxRecDepth 20000 in
theorem gX7_addName_X7_timeOf : GoodIn wsX7_addName (va_wsS RX7 55 yX7_timeOf wsX7_timeOf) := goodIn_app (goodIn_of _ (by decide +kernel)) ggX7_addName_X7_timeOf
set_option maxRecDepth 20000 in
theorem ggX7_addName_X4_firstLike : GoodIn wsX7_addName wsX4_firstLike := goodIn_r _ [36, 37, 38, 39, 40, 41, 35, 42, 43, 44, 45, 95, 96, 97, 98, 99, 100, 61, 62, 63, 64, 65, 66] (by decide +kernel) (by decide +kernel)
set_option maxRecDepth 20000 in
theorem gX7_addName_X4_firstLike : GoodIn wsX7_addName (wsV RX7 63 RX4 yX4_firstLike wsX4_firstLike) := goodIn_app (goodIn_of _ (by decide +kernel)) ggX7_addName_X4_firstLike
set_option maxRecDepth 20000 in
theorem ggX7_addName_X2_knocksOfName : GoodIn wsX7_addName wsX2_knocksOfName := goodIn_r _ [49, 50, 51, 52, 35, 53, 37, 38, 54, 55, 56, 57, 43, 44, 58, 59, 13, 14, 15, 16, 17, 18, 19, 20, 21, 22, 23, 24, 25, 95, 96, 97, 98, 99, 100, 89, 90, 91, 92, 93, 94] (by decide +kernel) (by decide +kernel)
set_option maxRecDepth 20000 in
theorem gX7_addName_X2_knocksOfName : GoodIn wsX7_addName (wsV RX7 72 RX2 yX2_knocksOfName wsX2_knocksOfName) := goodIn_app (goodIn_of _ (by decide +kernel)) ggX7_addName_X2_knocksOfName
set_option maxRecDepth 20000 in
theorem ggX7_addName_X4_lengthOf : GoodIn wsX7_addName wsX4_lengthOf := goodIn_r _ [53, 37, 38, 95, 96, 97, 98, 99, 100] (by decide +kernel) (by decide +kernel)
set_option maxRecDepth 20000 in
theorem gX7_addName_X4_lengthOf : GoodIn wsX7_addName (wsV RX7 76 RX4 yX4_lengthOf wsX4_lengthOf) := goodIn_app (goodIn_of _ (by decide +kernel)) ggX7_addName_X4_lengthOf
theorem dX7_addName_0 : decode cX7_addName 0 = .ok (.iconst 0, 1) := by decide +kernel
theorem dX7_addName_1 : decode cX7_addName 1 = .ok (.istore 6, 2) := by decide +kernel
theorem dX7_addName_3 : decode cX7_addName 3 = .ok (.iload_n 2, 1) := by decide +kernel
theorem dX7_addName_4 : decode cX7_addName 4 = .ok (.istore 7, 2) := by decide +kernel
theorem dX7_addName_6 : decode cX7_addName 6 = .ok (.iload 7, 2) := by decide +kernel
theorem dX7_addName_8 : decode cX7_addName 8 = .ok (.iload_n 2, 1) := by decide +kernel
theorem dX7_addName_9 : decode cX7_addName 9 = .ok (.iload_n 3, 1) := by decide +kernel
theorem dX7_addName_10 : decode cX7_addName 10 = .ok (.iadd, 1) := by decide +kernel
theorem dX7_addName_11 : decode cX7_addName 11 = .ok (.if_icmp .ge 26, 3) := by decide +kernel
theorem dX7_addName_14 : decode cX7_addName 14 = .ok (.iload 6, 2) := by decide +kernel
theorem dX7_addName_16 : decode cX7_addName 16 = .ok (.aload 5, 2) := by decide +kernel
theorem dX7_addName_18 : decode cX7_addName 18 = .ok (.aload_n 1, 1) := by decide +kernel
theorem dX7_addName_19 : decode cX7_addName 19 = .ok (.getfield 36, 3) := by decide +kernel
theorem dX7_addName_22 : decode cX7_addName 22 = .ok (.iload 7, 2) := by decide +kernel
theorem dX7_addName_24 : decode cX7_addName 24 = .ok (.baload, 1) := by decide +kernel
theorem dX7_addName_25 : decode cX7_addName 25 = .ok (.invokevirtual 44, 3) := by decide +kernel
theorem dX7_addName_28 : decode cX7_addName 28 = .ok (.iadd, 1) := by decide +kernel
theorem dX7_addName_29 : decode cX7_addName 29 = .ok (.istore 6, 2) := by decide +kernel
theorem dX7_addName_31 : decode cX7_addName 31 = .ok (.iinc 7 1, 3) := by decide +kernel
theorem dX7_addName_34 : decode cX7_addName 34 = .ok (.goto (-28), 3) := by decide +kernel
theorem dX7_addName_37 : decode cX7_addName 37 = .ok (.aload_n 0, 1) := by decide +kernel
theorem dX7_addName_38 : decode cX7_addName 38 = .ok (.getfield 13, 3) := by decide +kernel
theorem dX7_addName_41 : decode cX7_addName 41 = .ok (.ifCond .ne 7, 3) := by decide +kernel
theorem dX7_addName_44 : decode cX7_addName 44 = .ok (.iconst 0, 1) := by decide +kernel
theorem dX7_addName_45 : decode cX7_addName 45 = .ok (.goto 10, 3) := by decide +kernel
theorem dX7_addName_48 : decode cX7_addName 48 = .ok (.iconst 2, 1) := by decide +kernel
theorem dX7_addName_49 : decode cX7_addName 49 = .ok (.aload 4, 2) := by decide +kernel
theorem dX7_addName_51 : decode cX7_addName 51 = .ok (.getfield 50, 3) := by decide +kernel
theorem dX7_addName_54 : decode cX7_addName 54 = .ok (.imul, 1) := by decide +kernel
theorem dX7_addName_55 : decode cX7_addName 55 = .ok (.istore 7, 2) := by decide +kernel
theorem dX7_addName_57 : decode cX7_addName 57 = .ok (.iload 7, 2) := by decide +kernel
theorem dX7_addName_59 : decode cX7_addName 59 = .ok (.iload 6, 2) := by decide +kernel
theorem dX7_addName_61 : decode cX7_addName 61 = .ok (.iload_n 3, 1) := by decide +kernel
theorem dX7_addName_62 : decode cX7_addName 62 = .ok (.aload 4, 2) := by decide +kernel
theorem dX7_addName_64 : decode cX7_addName 64 = .ok (.invokestatic 55, 3) := by decide +kernel
theorem dX7_addName_67 : decode cX7_addName 67 = .ok (.iadd, 1) := by decide +kernel
theorem dX7_addName_68 : decode cX7_addName 68 = .ok (.istore 8, 2) := by decide +kernel
theorem dX7_addName_70 : decode cX7_addName 70 = .ok (.aload_n 0, 1) := by decide +kernel
theorem dX7_addName_71 : decode cX7_addName 71 = .ok (.dup, 1) := by decide +kernel
theorem dX7_addName_72 : decode cX7_addName 72 = .ok (.getfield 13, 3) := by decide +kernel
theorem dX7_addName_75 : decode cX7_addName 75 = .ok (.iconst 1, 1) := by decide +kernel
theorem dX7_addName_76 : decode cX7_addName 76 = .ok (.iadd, 1) := by decide +kernel
theorem dX7_addName_77 : decode cX7_addName 77 = .ok (.putfield 13, 3) := by decide +kernel
theorem dX7_addName_80 : decode cX7_addName 80 = .ok (.aload_n 0, 1) := by decide +kernel
theorem dX7_addName_81 : decode cX7_addName 81 = .ok (.dup, 1) := by decide +kernel
theorem dX7_addName_82 : decode cX7_addName 82 = .ok (.getfield 7, 3) := by decide +kernel
theorem dX7_addName_85 : decode cX7_addName 85 = .ok (.iload_n 3, 1) := by decide +kernel
theorem dX7_addName_86 : decode cX7_addName 86 = .ok (.iadd, 1) := by decide +kernel
theorem dX7_addName_87 : decode cX7_addName 87 = .ok (.putfield 7, 3) := by decide +kernel
theorem dX7_addName_90 : decode cX7_addName 90 = .ok (.aload_n 0, 1) := by decide +kernel
theorem dX7_addName_91 : decode cX7_addName 91 = .ok (.dup, 1) := by decide +kernel
theorem dX7_addName_92 : decode cX7_addName 92 = .ok (.getfield 16, 3) := by decide +kernel
theorem dX7_addName_95 : decode cX7_addName 95 = .ok (.iload 6, 2) := by decide +kernel
theorem dX7_addName_97 : decode cX7_addName 97 = .ok (.iadd, 1) := by decide +kernel
theorem dX7_addName_98 : decode cX7_addName 98 = .ok (.putfield 16, 3) := by decide +kernel
theorem dX7_addName_101 : decode cX7_addName 101 = .ok (.aload_n 0, 1) := by decide +kernel
theorem dX7_addName_102 : decode cX7_addName 102 = .ok (.dup, 1) := by decide +kernel
theorem dX7_addName_103 : decode cX7_addName 103 = .ok (.getfield 19, 3) := by decide +kernel
theorem dX7_addName_106 : decode cX7_addName 106 = .ok (.iload 8, 2) := by decide +kernel
theorem dX7_addName_108 : decode cX7_addName 108 = .ok (.iadd, 1) := by decide +kernel
theorem dX7_addName_109 : decode cX7_addName 109 = .ok (.putfield 19, 3) := by decide +kernel
theorem dX7_addName_112 : decode cX7_addName 112 = .ok (.aload 4, 2) := by decide +kernel
theorem dX7_addName_114 : decode cX7_addName 114 = .ok (.getfield 59, 3) := by decide +kernel
theorem dX7_addName_117 : decode cX7_addName 117 = .ok (.aload_n 1, 1) := by decide +kernel
theorem dX7_addName_118 : decode cX7_addName 118 = .ok (.iload_n 2, 1) := by decide +kernel
theorem dX7_addName_119 : decode cX7_addName 119 = .ok (.iload_n 3, 1) := by decide +kernel
theorem dX7_addName_120 : decode cX7_addName 120 = .ok (.invokevirtual 63, 3) := by decide +kernel
theorem dX7_addName_123 : decode cX7_addName 123 = .ok (.istore 9, 2) := by decide +kernel
theorem dX7_addName_125 : decode cX7_addName 125 = .ok (.iload 9, 2) := by decide +kernel
theorem dX7_addName_127 : decode cX7_addName 127 = .ok (.ifCond .ge 8, 3) := by decide +kernel
theorem dX7_addName_130 : decode cX7_addName 130 = .ok (.iload 6, 2) := by decide +kernel
theorem dX7_addName_132 : decode cX7_addName 132 = .ok (.goto 15, 3) := by decide +kernel
theorem dX7_addName_135 : decode cX7_addName 135 = .ok (.aload 5, 2) := by decide +kernel
theorem dX7_addName_137 : decode cX7_addName 137 = .ok (.aload 4, 2) := by decide +kernel
theorem dX7_addName_139 : decode cX7_addName 139 = .ok (.getfield 69, 3) := by decide +kernel
theorem dX7_addName_142 : decode cX7_addName 142 = .ok (.iload 9, 2) := by decide +kernel
theorem dX7_addName_144 : decode cX7_addName 144 = .ok (.invokevirtual 72, 3) := by decide +kernel
theorem dX7_addName_147 : decode cX7_addName 147 = .ok (.istore 10, 2) := by decide +kernel
theorem dX7_addName_149 : decode cX7_addName 149 = .ok (.iload 10, 2) := by decide +kernel
theorem dX7_addName_151 : decode cX7_addName 151 = .ok (.iload 6, 2) := by decide +kernel
theorem dX7_addName_153 : decode cX7_addName 153 = .ok (.if_icmp .ge 56, 3) := by decide +kernel
theorem dX7_addName_156 : decode cX7_addName 156 = .ok (.aload_n 0, 1) := by decide +kernel
theorem dX7_addName_157 : decode cX7_addName 157 = .ok (.dup, 1) := by decide +kernel
theorem dX7_addName_158 : decode cX7_addName 158 = .ok (.getfield 28, 3) := by decide +kernel
theorem dX7_addName_161 : decode cX7_addName 161 = .ok (.iconst 1, 1) := by decide +kernel
theorem dX7_addName_162 : decode cX7_addName 162 = .ok (.iadd, 1) := by decide +kernel
theorem dX7_addName_163 : decode cX7_addName 163 = .ok (.putfield 28, 3) := by decide +kernel
theorem dX7_addName_166 : decode cX7_addName 166 = .ok (.aload_n 0, 1) := by decide +kernel
theorem dX7_addName_167 : decode cX7_addName 167 = .ok (.dup, 1) := by decide +kernel
theorem dX7_addName_168 : decode cX7_addName 168 = .ok (.getfield 22, 3) := by decide +kernel
theorem dX7_addName_171 : decode cX7_addName 171 = .ok (.iload 10, 2) := by decide +kernel
theorem dX7_addName_173 : decode cX7_addName 173 = .ok (.iadd, 1) := by decide +kernel
theorem dX7_addName_174 : decode cX7_addName 174 = .ok (.putfield 22, 3) := by decide +kernel
theorem dX7_addName_177 : decode cX7_addName 177 = .ok (.aload_n 0, 1) := by decide +kernel
theorem dX7_addName_178 : decode cX7_addName 178 = .ok (.dup, 1) := by decide +kernel
theorem dX7_addName_179 : decode cX7_addName 179 = .ok (.getfield 25, 3) := by decide +kernel
theorem dX7_addName_182 : decode cX7_addName 182 = .ok (.iload 7, 2) := by decide +kernel
theorem dX7_addName_184 : decode cX7_addName 184 = .ok (.iload 10, 2) := by decide +kernel
theorem dX7_addName_186 : decode cX7_addName 186 = .ok (.aload 4, 2) := by decide +kernel
theorem dX7_addName_188 : decode cX7_addName 188 = .ok (.getfield 69, 3) := by decide +kernel
theorem dX7_addName_191 : decode cX7_addName 191 = .ok (.iload 9, 2) := by decide +kernel
theorem dX7_addName_193 : decode cX7_addName 193 = .ok (.invokevirtual 76, 3) := by decide +kernel
theorem dX7_addName_196 : decode cX7_addName 196 = .ok (.aload 4, 2) := by decide +kernel
theorem dX7_addName_198 : decode cX7_addName 198 = .ok (.invokestatic 55, 3) := by decide +kernel
theorem dX7_addName_201 : decode cX7_addName 201 = .ok (.iadd, 1) := by decide +kernel
theorem dX7_addName_202 : decode cX7_addName 202 = .ok (.iadd, 1) := by decide +kernel
theorem dX7_addName_203 : decode cX7_addName 203 = .ok (.putfield 25, 3) := by decide +kernel
theorem dX7_addName_206 : decode cX7_addName 206 = .ok (.goto 25, 3) := by decide +kernel
theorem dX7_addName_209 : decode cX7_addName 209 = .ok (.aload_n 0, 1) := by decide +kernel
theorem dX7_addName_210 : decode cX7_addName 210 = .ok (.dup, 1) := by decide +kernel
theorem dX7_addName_211 : decode cX7_addName 211 = .ok (.getfield 22, 3) := by decide +kernel
theorem dX7_addName_214 : decode cX7_addName 214 = .ok (.iload 6, 2) := by decide +kernel
theorem dX7_addName_216 : decode cX7_addName 216 = .ok (.iadd, 1) := by decide +kernel
theorem dX7_addName_217 : decode cX7_addName 217 = .ok (.putfield 22, 3) := by decide +kernel
theorem dX7_addName_220 : decode cX7_addName 220 = .ok (.aload_n 0, 1) := by decide +kernel
theorem dX7_addName_221 : decode cX7_addName 221 = .ok (.dup, 1) := by decide +kernel
theorem dX7_addName_222 : decode cX7_addName 222 = .ok (.getfield 25, 3) := by decide +kernel
theorem dX7_addName_225 : decode cX7_addName 225 = .ok (.iload 8, 2) := by decide +kernel
theorem dX7_addName_227 : decode cX7_addName 227 = .ok (.iadd, 1) := by decide +kernel
theorem dX7_addName_228 : decode cX7_addName 228 = .ok (.putfield 25, 3) := by decide +kernel
theorem dX7_addName_231 : decode cX7_addName 231 = .ok (.return_, 1) := by decide +kernel
theorem dX7_timeOf_0 : decode cX7_timeOf 0 = .ok (.iload_n 0, 1) := by decide +kernel
theorem dX7_timeOf_1 : decode cX7_timeOf 1 = .ok (.aload_n 2, 1) := by decide +kernel
theorem dX7_timeOf_2 : decode cX7_timeOf 2 = .ok (.getfield 79, 3) := by decide +kernel
theorem dX7_timeOf_5 : decode cX7_timeOf 5 = .ok (.imul, 1) := by decide +kernel
theorem dX7_timeOf_6 : decode cX7_timeOf 6 = .ok (.iload_n 1, 1) := by decide +kernel
theorem dX7_timeOf_7 : decode cX7_timeOf 7 = .ok (.aload_n 2, 1) := by decide +kernel
theorem dX7_timeOf_8 : decode cX7_timeOf 8 = .ok (.getfield 82, 3) := by decide +kernel
theorem dX7_timeOf_11 : decode cX7_timeOf 11 = .ok (.imul, 1) := by decide +kernel
theorem dX7_timeOf_12 : decode cX7_timeOf 12 = .ok (.iadd, 1) := by decide +kernel
theorem dX7_timeOf_13 : decode cX7_timeOf 13 = .ok (.iload_n 1, 1) := by decide +kernel
theorem dX7_timeOf_14 : decode cX7_timeOf 14 = .ok (.iconst 1, 1) := by decide +kernel
theorem dX7_timeOf_15 : decode cX7_timeOf 15 = .ok (.isub, 1) := by decide +kernel
theorem dX7_timeOf_16 : decode cX7_timeOf 16 = .ok (.aload_n 2, 1) := by decide +kernel
theorem dX7_timeOf_17 : decode cX7_timeOf 17 = .ok (.getfield 50, 3) := by decide +kernel
theorem dX7_timeOf_20 : decode cX7_timeOf 20 = .ok (.imul, 1) := by decide +kernel
theorem dX7_timeOf_21 : decode cX7_timeOf 21 = .ok (.iadd, 1) := by decide +kernel
theorem dX7_timeOf_22 : decode cX7_timeOf 22 = .ok (.ireturn, 1) := by decide +kernel
theorem dX8_init_0 : decode cX8_init 0 = .ok (.aload_n 0, 1) := by decide +kernel
theorem dX8_init_1 : decode cX8_init 1 = .ok (.invokespecial 3, 3) := by decide +kernel
theorem dX8_init_4 : decode cX8_init 4 = .ok (.aload_n 0, 1) := by decide +kernel
theorem dX8_init_5 : decode cX8_init 5 = .ok (.bipush 40, 2) := by decide +kernel
theorem dX8_init_7 : decode cX8_init 7 = .ok (.newarray .int, 2) := by decide +kernel
theorem dX8_init_9 : decode cX8_init 9 = .ok (.putfield 9, 3) := by decide +kernel
theorem dX8_init_12 : decode cX8_init 12 = .ok (.aload_n 0, 1) := by decide +kernel
theorem dX8_init_13 : decode cX8_init 13 = .ok (.iconst (-1), 1) := by decide +kernel
theorem dX8_init_14 : decode cX8_init 14 = .ok (.putfield 15, 3) := by decide +kernel
theorem dX8_init_17 : decode cX8_init 17 = .ok (.return_, 1) := by decide +kernel
set_option maxRecDepth 20000 in
theorem ggX8_renew_J7_fill_53178 : GoodIn wsX8_renew wsJ7_fill_53178 := goodIn_r _ [14] (by decide +kernel) (by decide +kernel)
set_option maxRecDepth 20000 in
theorem gX8_renew_J7_fill_53178 : GoodIn wsX8_renew (va_wsS RX8 19 yJ7_fill_53178 wsJ7_fill_53178) := goodIn_app (goodIn_of _ (by decide +kernel)) ggX8_renew_J7_fill_53178
theorem dX8_renew_0 : decode cX8_renew 0 = .ok (.aload_n 0, 1) := by decide +kernel
theorem dX8_renew_1 : decode cX8_renew 1 = .ok (.getfield 9, 3) := by decide +kernel
theorem dX8_renew_4 : decode cX8_renew 4 = .ok (.iconst 0, 1) := by decide +kernel
theorem dX8_renew_5 : decode cX8_renew 5 = .ok (.invokestatic 19, 3) := by decide +kernel
theorem dX8_renew_8 : decode cX8_renew 8 = .ok (.aload_n 0, 1) := by decide +kernel
theorem dX8_renew_9 : decode cX8_renew 9 = .ok (.iload_n 1, 1) := by decide +kernel
theorem dX8_renew_10 : decode cX8_renew 10 = .ok (.putfield 15, 3) := by decide +kernel
theorem dX8_renew_13 : decode cX8_renew 13 = .ok (.aload_n 0, 1) := by decide +kernel
theorem dX8_renew_14 : decode cX8_renew 14 = .ok (.iconst 0, 1) := by decide +kernel
theorem dX8_renew_15 : decode cX8_renew 15 = .ok (.bipush 40, 2) := by decide +kernel
theorem dX8_renew_17 : decode cX8_renew 17 = .ok (.iload_n 2, 1) := by decide +kernel
theorem dX8_renew_18 : decode cX8_renew 18 = .ok (.invokestatic 25, 3) := by decide +kernel
theorem dX8_renew_21 : decode cX8_renew 21 = .ok (.invokestatic 31, 3) := by decide +kernel
theorem dX8_renew_24 : decode cX8_renew 24 = .ok (.putfield 34, 3) := by decide +kernel
theorem dX8_renew_27 : decode cX8_renew 27 = .ok (.return_, 1) := by decide +kernel
set_option maxRecDepth 20000 in
theorem ggX8_faultOf_X8_faultAt : GoodIn wsX8_faultOf wsX8_faultAt := goodIn_r _ [6, 1, 7, 8, 9, 10] (by decide +kernel) (by decide +kernel)
set_option maxRecDepth 20000 in
theorem gX8_faultOf_X8_faultAt : GoodIn wsX8_faultOf (wsV RX8 37 RX8 yX8_faultAt wsX8_faultAt) := goodIn_app (goodIn_of _ (by decide +kernel)) ggX8_faultOf_X8_faultAt
theorem dX8_faultOf_0 : decode cX8_faultOf 0 = .ok (.aload_n 0, 1) := by decide +kernel
theorem dX8_faultOf_1 : decode cX8_faultOf 1 = .ok (.getfield 15, 3) := by decide +kernel
theorem dX8_faultOf_4 : decode cX8_faultOf 4 = .ok (.ifCond .lt 15, 3) := by decide +kernel
theorem dX8_faultOf_7 : decode cX8_faultOf 7 = .ok (.aload_n 0, 1) := by decide +kernel
theorem dX8_faultOf_8 : decode cX8_faultOf 8 = .ok (.getfield 15, 3) := by decide +kernel
theorem dX8_faultOf_11 : decode cX8_faultOf 11 = .ok (.iload_n 1, 1) := by decide +kernel
theorem dX8_faultOf_12 : decode cX8_faultOf 12 = .ok (.if_icmp .eq 7, 3) := by decide +kernel
theorem dX8_faultOf_15 : decode cX8_faultOf 15 = .ok (.iconst 3, 1) := by decide +kernel
theorem dX8_faultOf_16 : decode cX8_faultOf 16 = .ok (.goto 8, 3) := by decide +kernel
theorem dX8_faultOf_19 : decode cX8_faultOf 19 = .ok (.aload_n 0, 1) := by decide +kernel
theorem dX8_faultOf_20 : decode cX8_faultOf 20 = .ok (.iload_n 2, 1) := by decide +kernel
theorem dX8_faultOf_21 : decode cX8_faultOf 21 = .ok (.invokevirtual 37, 3) := by decide +kernel
theorem dX8_faultOf_24 : decode cX8_faultOf 24 = .ok (.ireturn, 1) := by decide +kernel
theorem dX8_faultAt_0 : decode cX8_faultAt 0 = .ok (.aload_n 0, 1) := by decide +kernel
theorem dX8_faultAt_1 : decode cX8_faultAt 1 = .ok (.getfield 15, 3) := by decide +kernel
theorem dX8_faultAt_4 : decode cX8_faultAt 4 = .ok (.ifCond .ge 5, 3) := by decide +kernel
theorem dX8_faultAt_7 : decode cX8_faultAt 7 = .ok (.iconst 1, 1) := by decide +kernel
theorem dX8_faultAt_8 : decode cX8_faultAt 8 = .ok (.ireturn, 1) := by decide +kernel
theorem dX8_faultAt_9 : decode cX8_faultAt 9 = .ok (.iload_n 1, 1) := by decide +kernel
theorem dX8_faultAt_10 : decode cX8_faultAt 10 = .ok (.ifCond .lt 15, 3) := by decide +kernel
theorem dX8_faultAt_13 : decode cX8_faultAt 13 = .ok (.iload_n 1, 1) := by decide +kernel
theorem dX8_faultAt_14 : decode cX8_faultAt 14 = .ok (.aload_n 0, 1) := by decide +kernel
theorem dX8_faultAt_15 : decode cX8_faultAt 15 = .ok (.getfield 34, 3) := by decide +kernel
theorem dX8_faultAt_18 : decode cX8_faultAt 18 = .ok (.if_icmp .ge 7, 3) := by decide +kernel
theorem dX8_faultAt_21 : decode cX8_faultAt 21 = .ok (.iconst 0, 1) := by decide +kernel
theorem dX8_faultAt_22 : decode cX8_faultAt 22 = .ok (.goto 4, 3) := by decide +kernel
theorem dX8_faultAt_25 : decode cX8_faultAt 25 = .ok (.iconst 2, 1) := by decide +kernel
theorem dX8_faultAt_26 : decode cX8_faultAt 26 = .ok (.ireturn, 1) := by decide +kernel
set_option maxRecDepth 20000 in
theorem ggX8_cellAt_X8_faultAt : GoodIn wsX8_cellAt wsX8_faultAt := goodIn_r _ [6, 7, 8, 9, 10, 11] (by decide +kernel) (by decide +kernel)
set_option maxRecDepth 20000 in
theorem gX8_cellAt_X8_faultAt : GoodIn wsX8_cellAt (wsV RX8 37 RX8 yX8_faultAt wsX8_faultAt) := goodIn_app (goodIn_of _ (by decide +kernel)) ggX8_cellAt_X8_faultAt
theorem dX8_cellAt_0 : decode cX8_cellAt 0 = .ok (.aload_n 0, 1) := by decide +kernel
theorem dX8_cellAt_1 : decode cX8_cellAt 1 = .ok (.iload_n 1, 1) := by decide +kernel
theorem dX8_cellAt_2 : decode cX8_cellAt 2 = .ok (.invokevirtual 37, 3) := by decide +kernel
theorem dX8_cellAt_5 : decode cX8_cellAt 5 = .ok (.ifCond .ne 12, 3) := by decide +kernel
theorem dX8_cellAt_8 : decode cX8_cellAt 8 = .ok (.aload_n 0, 1) := by decide +kernel
theorem dX8_cellAt_9 : decode cX8_cellAt 9 = .ok (.getfield 9, 3) := by decide +kernel
theorem dX8_cellAt_12 : decode cX8_cellAt 12 = .ok (.iload_n 1, 1) := by decide +kernel
theorem dX8_cellAt_13 : decode cX8_cellAt 13 = .ok (.iaload, 1) := by decide +kernel
theorem dX8_cellAt_14 : decode cX8_cellAt 14 = .ok (.goto 4, 3) := by decide +kernel
theorem dX8_cellAt_17 : decode cX8_cellAt 17 = .ok (.iconst 0, 1) := by decide +kernel
theorem dX8_cellAt_18 : decode cX8_cellAt 18 = .ok (.ireturn, 1) := by decide +kernel
set_option maxRecDepth 20000 in
theorem ggX8_put_X8_faultAt : GoodIn wsX8_put wsX8_faultAt := goodIn_r _ [7, 1, 8, 9, 10, 11] (by decide +kernel) (by decide +kernel)
set_option maxRecDepth 20000 in
theorem gX8_put_X8_faultAt : GoodIn wsX8_put (wsV RX8 37 RX8 yX8_faultAt wsX8_faultAt) := goodIn_app (goodIn_of _ (by decide +kernel)) ggX8_put_X8_faultAt
theorem dX8_put_0 : decode cX8_put 0 = .ok (.aload_n 0, 1) := by decide +kernel
theorem dX8_put_1 : decode cX8_put 1 = .ok (.iload_n 1, 1) := by decide +kernel
theorem dX8_put_2 : decode cX8_put 2 = .ok (.invokevirtual 37, 3) := by decide +kernel
theorem dX8_put_5 : decode cX8_put 5 = .ok (.ifCond .eq 4, 3) := by decide +kernel
theorem dX8_put_8 : decode cX8_put 8 = .ok (.return_, 1) := by decide +kernel
theorem dX8_put_9 : decode cX8_put 9 = .ok (.aload_n 0, 1) := by decide +kernel
theorem dX8_put_10 : decode cX8_put 10 = .ok (.getfield 15, 3) := by decide +kernel
theorem dX8_put_13 : decode cX8_put 13 = .ok (.lookupswitch 49 #[(0, 27), (1, 38)], 27) := by decide +kernel
theorem dX8_put_40 : decode cX8_put 40 = .ok (.aload_n 0, 1) := by decide +kernel
theorem dX8_put_41 : decode cX8_put 41 = .ok (.getfield 9, 3) := by decide +kernel
theorem dX8_put_44 : decode cX8_put 44 = .ok (.iload_n 1, 1) := by decide +kernel
theorem dX8_put_45 : decode cX8_put 45 = .ok (.iload_n 2, 1) := by decide +kernel
theorem dX8_put_46 : decode cX8_put 46 = .ok (.i2b, 1) := by decide +kernel
theorem dX8_put_47 : decode cX8_put 47 = .ok (.iastore, 1) := by decide +kernel
theorem dX8_put_48 : decode cX8_put 48 = .ok (.goto 21, 3) := by decide +kernel
theorem dX8_put_51 : decode cX8_put 51 = .ok (.aload_n 0, 1) := by decide +kernel
theorem dX8_put_52 : decode cX8_put 52 = .ok (.getfield 9, 3) := by decide +kernel
theorem dX8_put_55 : decode cX8_put 55 = .ok (.iload_n 1, 1) := by decide +kernel
theorem dX8_put_56 : decode cX8_put 56 = .ok (.iload_n 2, 1) := by decide +kernel
theorem dX8_put_57 : decode cX8_put 57 = .ok (.i2s, 1) := by decide +kernel
theorem dX8_put_58 : decode cX8_put 58 = .ok (.iastore, 1) := by decide +kernel
theorem dX8_put_59 : decode cX8_put 59 = .ok (.goto 10, 3) := by decide +kernel
theorem dX8_put_62 : decode cX8_put 62 = .ok (.aload_n 0, 1) := by decide +kernel
theorem dX8_put_63 : decode cX8_put 63 = .ok (.getfield 9, 3) := by decide +kernel
theorem dX8_put_66 : decode cX8_put 66 = .ok (.iload_n 1, 1) := by decide +kernel
theorem dX8_put_67 : decode cX8_put 67 = .ok (.iload_n 2, 1) := by decide +kernel
theorem dX8_put_68 : decode cX8_put 68 = .ok (.iastore, 1) := by decide +kernel
theorem dX8_put_69 : decode cX8_put 69 = .ok (.return_, 1) := by decide +kernel
theorem dX9_init_0 : decode cX9_init 0 = .ok (.aload_n 0, 1) := by decide +kernel
theorem dX9_init_1 : decode cX9_init 1 = .ok (.invokespecial 3, 3) := by decide +kernel
theorem dX9_init_4 : decode cX9_init 4 = .ok (.aload_n 0, 1) := by decide +kernel
theorem dX9_init_5 : decode cX9_init 5 = .ok (.sipush 320, 3) := by decide +kernel
theorem dX9_init_8 : decode cX9_init 8 = .ok (.newarray .byte, 2) := by decide +kernel
theorem dX9_init_10 : decode cX9_init 10 = .ok (.putfield 9, 3) := by decide +kernel
theorem dX9_init_13 : decode cX9_init 13 = .ok (.return_, 1) := by decide +kernel
theorem dX9_append_0 : decode cX9_append 0 = .ok (.aload_n 0, 1) := by decide +kernel
theorem dX9_append_1 : decode cX9_append 1 = .ok (.getfield 15, 3) := by decide +kernel
theorem dX9_append_4 : decode cX9_append 4 = .ok (.bipush 8, 2) := by decide +kernel
theorem dX9_append_6 : decode cX9_append 6 = .ok (.iadd, 1) := by decide +kernel
theorem dX9_append_7 : decode cX9_append 7 = .ok (.sipush 320, 3) := by decide +kernel
theorem dX9_append_10 : decode cX9_append 10 = .ok (.if_icmp .le 5, 3) := by decide +kernel
theorem dX9_append_13 : decode cX9_append 13 = .ok (.iconst 0, 1) := by decide +kernel
theorem dX9_append_14 : decode cX9_append 14 = .ok (.ireturn, 1) := by decide +kernel
theorem dX9_append_15 : decode cX9_append 15 = .ok (.iconst 0, 1) := by decide +kernel
theorem dX9_append_16 : decode cX9_append 16 = .ok (.istore_n 3, 1) := by decide +kernel
theorem dX9_append_17 : decode cX9_append 17 = .ok (.iload_n 3, 1) := by decide +kernel
theorem dX9_append_18 : decode cX9_append 18 = .ok (.bipush 8, 2) := by decide +kernel
theorem dX9_append_20 : decode cX9_append 20 = .ok (.if_icmp .ge 31, 3) := by decide +kernel
theorem dX9_append_23 : decode cX9_append 23 = .ok (.aload_n 0, 1) := by decide +kernel
theorem dX9_append_24 : decode cX9_append 24 = .ok (.getfield 9, 3) := by decide +kernel
theorem dX9_append_27 : decode cX9_append 27 = .ok (.aload_n 0, 1) := by decide +kernel
theorem dX9_append_28 : decode cX9_append 28 = .ok (.getfield 15, 3) := by decide +kernel
theorem dX9_append_31 : decode cX9_append 31 = .ok (.iload_n 3, 1) := by decide +kernel
theorem dX9_append_32 : decode cX9_append 32 = .ok (.iadd, 1) := by decide +kernel
theorem dX9_append_33 : decode cX9_append 33 = .ok (.lload_n 1, 1) := by decide +kernel
theorem dX9_append_34 : decode cX9_append 34 = .ok (.bipush 56, 2) := by decide +kernel
theorem dX9_append_36 : decode cX9_append 36 = .ok (.bipush 8, 2) := by decide +kernel
theorem dX9_append_38 : decode cX9_append 38 = .ok (.iload_n 3, 1) := by decide +kernel
theorem dX9_append_39 : decode cX9_append 39 = .ok (.imul, 1) := by decide +kernel
theorem dX9_append_40 : decode cX9_append 40 = .ok (.isub, 1) := by decide +kernel
theorem dX9_append_41 : decode cX9_append 41 = .ok (.lshr, 1) := by decide +kernel
theorem dX9_append_42 : decode cX9_append 42 = .ok (.l2i, 1) := by decide +kernel
theorem dX9_append_43 : decode cX9_append 43 = .ok (.i2b, 1) := by decide +kernel
theorem dX9_append_44 : decode cX9_append 44 = .ok (.bastore, 1) := by decide +kernel
theorem dX9_append_45 : decode cX9_append 45 = .ok (.iinc 3 1, 3) := by decide +kernel
theorem dX9_append_48 : decode cX9_append 48 = .ok (.goto (-31), 3) := by decide +kernel
theorem dX9_append_51 : decode cX9_append 51 = .ok (.aload_n 0, 1) := by decide +kernel
theorem dX9_append_52 : decode cX9_append 52 = .ok (.dup, 1) := by decide +kernel
theorem dX9_append_53 : decode cX9_append 53 = .ok (.getfield 15, 3) := by decide +kernel
theorem dX9_append_56 : decode cX9_append 56 = .ok (.bipush 8, 2) := by decide +kernel
theorem dX9_append_58 : decode cX9_append 58 = .ok (.iadd, 1) := by decide +kernel
theorem dX9_append_59 : decode cX9_append 59 = .ok (.putfield 15, 3) := by decide +kernel
theorem dX9_append_62 : decode cX9_append 62 = .ok (.iconst 1, 1) := by decide +kernel
theorem dX9_append_63 : decode cX9_append 63 = .ok (.ireturn, 1) := by decide +kernel
set_option maxRecDepth 20000 in
theorem ggX9_nextToken_X9_isLetter : GoodIn wsX9_nextToken wsX9_isLetter := goodIn_r _ [9] (by decide +kernel) (by decide +kernel)
set_option maxRecDepth 20000 in
theorem gX9_nextToken_X9_isLetter : GoodIn wsX9_nextToken (va_wsS RX9 28 yX9_isLetter wsX9_isLetter) := goodIn_app (goodIn_of _ (by decide +kernel)) ggX9_nextToken_X9_isLetter
set_option maxRecDepth 20000 in
theorem ggX9_nextToken_X9_nextNumber : GoodIn wsX9_nextToken wsX9_nextNumber := goodIn_r _ [13, 14, 1, 2, 3, 4, 5, 15, 16, 17, 18, 19, 20] (by decide +kernel) (by decide +kernel)
set_option maxRecDepth 20000 in
theorem gX9_nextToken_X9_nextNumber : GoodIn wsX9_nextToken (wsV RX9 32 RX9 yX9_nextNumber wsX9_nextNumber) := goodIn_app (goodIn_of _ (by decide +kernel)) ggX9_nextToken_X9_nextNumber
theorem dX9_nextToken_0 : decode cX9_nextToken 0 = .ok (.aload_n 0, 1) := by decide +kernel
theorem dX9_nextToken_1 : decode cX9_nextToken 1 = .ok (.getfield 19, 3) := by decide +kernel
theorem dX9_nextToken_4 : decode cX9_nextToken 4 = .ok (.aload_n 0, 1) := by decide +kernel
theorem dX9_nextToken_5 : decode cX9_nextToken 5 = .ok (.getfield 15, 3) := by decide +kernel
theorem dX9_nextToken_8 : decode cX9_nextToken 8 = .ok (.if_icmp .ge 30, 3) := by decide +kernel
theorem dX9_nextToken_11 : decode cX9_nextToken 11 = .ok (.aload_n 0, 1) := by decide +kernel
theorem dX9_nextToken_12 : decode cX9_nextToken 12 = .ok (.getfield 9, 3) := by decide +kernel
theorem dX9_nextToken_15 : decode cX9_nextToken 15 = .ok (.aload_n 0, 1) := by decide +kernel
theorem dX9_nextToken_16 : decode cX9_nextToken 16 = .ok (.getfield 19, 3) := by decide +kernel
theorem dX9_nextToken_19 : decode cX9_nextToken 19 = .ok (.baload, 1) := by decide +kernel
theorem dX9_nextToken_20 : decode cX9_nextToken 20 = .ok (.bipush 32, 2) := by decide +kernel
theorem dX9_nextToken_22 : decode cX9_nextToken 22 = .ok (.if_icmp .ne 16, 3) := by decide +kernel
theorem dX9_nextToken_25 : decode cX9_nextToken 25 = .ok (.aload_n 0, 1) := by decide +kernel
theorem dX9_nextToken_26 : decode cX9_nextToken 26 = .ok (.dup, 1) := by decide +kernel
theorem dX9_nextToken_27 : decode cX9_nextToken 27 = .ok (.getfield 19, 3) := by decide +kernel
theorem dX9_nextToken_30 : decode cX9_nextToken 30 = .ok (.iconst 1, 1) := by decide +kernel
theorem dX9_nextToken_31 : decode cX9_nextToken 31 = .ok (.iadd, 1) := by decide +kernel
theorem dX9_nextToken_32 : decode cX9_nextToken 32 = .ok (.putfield 19, 3) := by decide +kernel
theorem dX9_nextToken_35 : decode cX9_nextToken 35 = .ok (.goto (-35), 3) := by decide +kernel
theorem dX9_nextToken_38 : decode cX9_nextToken 38 = .ok (.aload_n 0, 1) := by decide +kernel
theorem dX9_nextToken_39 : decode cX9_nextToken 39 = .ok (.aload_n 0, 1) := by decide +kernel
theorem dX9_nextToken_40 : decode cX9_nextToken 40 = .ok (.getfield 19, 3) := by decide +kernel
theorem dX9_nextToken_43 : decode cX9_nextToken 43 = .ok (.putfield 22, 3) := by decide +kernel
theorem dX9_nextToken_46 : decode cX9_nextToken 46 = .ok (.aload_n 0, 1) := by decide +kernel
theorem dX9_nextToken_47 : decode cX9_nextToken 47 = .ok (.getfield 19, 3) := by decide +kernel
theorem dX9_nextToken_50 : decode cX9_nextToken 50 = .ok (.aload_n 0, 1) := by decide +kernel
theorem dX9_nextToken_51 : decode cX9_nextToken 51 = .ok (.getfield 15, 3) := by decide +kernel
theorem dX9_nextToken_54 : decode cX9_nextToken 54 = .ok (.if_icmp .lt 11, 3) := by decide +kernel
theorem dX9_nextToken_57 : decode cX9_nextToken 57 = .ok (.aload_n 0, 1) := by decide +kernel
theorem dX9_nextToken_58 : decode cX9_nextToken 58 = .ok (.iconst 1, 1) := by decide +kernel
theorem dX9_nextToken_59 : decode cX9_nextToken 59 = .ok (.putfield 25, 3) := by decide +kernel
theorem dX9_nextToken_62 : decode cX9_nextToken 62 = .ok (.goto 98, 3) := by decide +kernel
theorem dX9_nextToken_65 : decode cX9_nextToken 65 = .ok (.aload_n 0, 1) := by decide +kernel
theorem dX9_nextToken_66 : decode cX9_nextToken 66 = .ok (.getfield 9, 3) := by decide +kernel
theorem dX9_nextToken_69 : decode cX9_nextToken 69 = .ok (.aload_n 0, 1) := by decide +kernel
theorem dX9_nextToken_70 : decode cX9_nextToken 70 = .ok (.getfield 19, 3) := by decide +kernel
theorem dX9_nextToken_73 : decode cX9_nextToken 73 = .ok (.baload, 1) := by decide +kernel
theorem dX9_nextToken_74 : decode cX9_nextToken 74 = .ok (.bipush 59, 2) := by decide +kernel
theorem dX9_nextToken_76 : decode cX9_nextToken 76 = .ok (.if_icmp .ne 21, 3) := by decide +kernel
theorem dX9_nextToken_79 : decode cX9_nextToken 79 = .ok (.aload_n 0, 1) := by decide +kernel
theorem dX9_nextToken_80 : decode cX9_nextToken 80 = .ok (.iconst 4, 1) := by decide +kernel
theorem dX9_nextToken_81 : decode cX9_nextToken 81 = .ok (.putfield 25, 3) := by decide +kernel
theorem dX9_nextToken_84 : decode cX9_nextToken 84 = .ok (.aload_n 0, 1) := by decide +kernel
theorem dX9_nextToken_85 : decode cX9_nextToken 85 = .ok (.dup, 1) := by decide +kernel
theorem dX9_nextToken_86 : decode cX9_nextToken 86 = .ok (.getfield 19, 3) := by decide +kernel
theorem dX9_nextToken_89 : decode cX9_nextToken 89 = .ok (.iconst 1, 1) := by decide +kernel
theorem dX9_nextToken_90 : decode cX9_nextToken 90 = .ok (.iadd, 1) := by decide +kernel
theorem dX9_nextToken_91 : decode cX9_nextToken 91 = .ok (.putfield 19, 3) := by decide +kernel
theorem dX9_nextToken_94 : decode cX9_nextToken 94 = .ok (.goto 66, 3) := by decide +kernel
theorem dX9_nextToken_97 : decode cX9_nextToken 97 = .ok (.aload_n 0, 1) := by decide +kernel
theorem dX9_nextToken_98 : decode cX9_nextToken 98 = .ok (.getfield 9, 3) := by decide +kernel
theorem dX9_nextToken_101 : decode cX9_nextToken 101 = .ok (.aload_n 0, 1) := by decide +kernel
theorem dX9_nextToken_102 : decode cX9_nextToken 102 = .ok (.getfield 19, 3) := by decide +kernel
theorem dX9_nextToken_105 : decode cX9_nextToken 105 = .ok (.baload, 1) := by decide +kernel
theorem dX9_nextToken_106 : decode cX9_nextToken 106 = .ok (.invokestatic 28, 3) := by decide +kernel
theorem dX9_nextToken_109 : decode cX9_nextToken 109 = .ok (.ifCond .eq 47, 3) := by decide +kernel
theorem dX9_nextToken_112 : decode cX9_nextToken 112 = .ok (.aload_n 0, 1) := by decide +kernel
theorem dX9_nextToken_113 : decode cX9_nextToken 113 = .ok (.iconst 2, 1) := by decide +kernel
theorem dX9_nextToken_114 : decode cX9_nextToken 114 = .ok (.putfield 25, 3) := by decide +kernel
theorem dX9_nextToken_117 : decode cX9_nextToken 117 = .ok (.aload_n 0, 1) := by decide +kernel
theorem dX9_nextToken_118 : decode cX9_nextToken 118 = .ok (.getfield 19, 3) := by decide +kernel
theorem dX9_nextToken_121 : decode cX9_nextToken 121 = .ok (.aload_n 0, 1) := by decide +kernel
theorem dX9_nextToken_122 : decode cX9_nextToken 122 = .ok (.getfield 15, 3) := by decide +kernel
theorem dX9_nextToken_125 : decode cX9_nextToken 125 = .ok (.if_icmp .ge 35, 3) := by decide +kernel
theorem dX9_nextToken_128 : decode cX9_nextToken 128 = .ok (.aload_n 0, 1) := by decide +kernel
theorem dX9_nextToken_129 : decode cX9_nextToken 129 = .ok (.getfield 9, 3) := by decide +kernel
theorem dX9_nextToken_132 : decode cX9_nextToken 132 = .ok (.aload_n 0, 1) := by decide +kernel
theorem dX9_nextToken_133 : decode cX9_nextToken 133 = .ok (.getfield 19, 3) := by decide +kernel
theorem dX9_nextToken_136 : decode cX9_nextToken 136 = .ok (.baload, 1) := by decide +kernel
theorem dX9_nextToken_137 : decode cX9_nextToken 137 = .ok (.invokestatic 28, 3) := by decide +kernel
theorem dX9_nextToken_140 : decode cX9_nextToken 140 = .ok (.ifCond .eq 20, 3) := by decide +kernel
theorem dX9_nextToken_143 : decode cX9_nextToken 143 = .ok (.aload_n 0, 1) := by decide +kernel
theorem dX9_nextToken_144 : decode cX9_nextToken 144 = .ok (.dup, 1) := by decide +kernel
theorem dX9_nextToken_145 : decode cX9_nextToken 145 = .ok (.getfield 19, 3) := by decide +kernel
theorem dX9_nextToken_148 : decode cX9_nextToken 148 = .ok (.iconst 1, 1) := by decide +kernel
theorem dX9_nextToken_149 : decode cX9_nextToken 149 = .ok (.iadd, 1) := by decide +kernel
theorem dX9_nextToken_150 : decode cX9_nextToken 150 = .ok (.putfield 19, 3) := by decide +kernel
theorem dX9_nextToken_153 : decode cX9_nextToken 153 = .ok (.goto (-36), 3) := by decide +kernel
theorem dX9_nextToken_156 : decode cX9_nextToken 156 = .ok (.aload_n 0, 1) := by decide +kernel
theorem dX9_nextToken_157 : decode cX9_nextToken 157 = .ok (.invokevirtual 32, 3) := by decide +kernel
theorem dX9_nextToken_160 : decode cX9_nextToken 160 = .ok (.return_, 1) := by decide +kernel
theorem dX9_nextNumber_0 : decode cX9_nextNumber 0 = .ok (.aload_n 0, 1) := by decide +kernel
theorem dX9_nextNumber_1 : decode cX9_nextNumber 1 = .ok (.iconst 0, 1) := by decide +kernel
theorem dX9_nextNumber_2 : decode cX9_nextNumber 2 = .ok (.putfield 35, 3) := by decide +kernel
theorem dX9_nextNumber_5 : decode cX9_nextNumber 5 = .ok (.aload_n 0, 1) := by decide +kernel
theorem dX9_nextNumber_6 : decode cX9_nextNumber 6 = .ok (.getfield 19, 3) := by decide +kernel
theorem dX9_nextNumber_9 : decode cX9_nextNumber 9 = .ok (.aload_n 0, 1) := by decide +kernel
theorem dX9_nextNumber_10 : decode cX9_nextNumber 10 = .ok (.getfield 15, 3) := by decide +kernel
theorem dX9_nextNumber_13 : decode cX9_nextNumber 13 = .ok (.if_icmp .ge 72, 3) := by decide +kernel
theorem dX9_nextNumber_16 : decode cX9_nextNumber 16 = .ok (.aload_n 0, 1) := by decide +kernel
theorem dX9_nextNumber_17 : decode cX9_nextNumber 17 = .ok (.getfield 9, 3) := by decide +kernel
theorem dX9_nextNumber_20 : decode cX9_nextNumber 20 = .ok (.aload_n 0, 1) := by decide +kernel
theorem dX9_nextNumber_21 : decode cX9_nextNumber 21 = .ok (.getfield 19, 3) := by decide +kernel
theorem dX9_nextNumber_24 : decode cX9_nextNumber 24 = .ok (.baload, 1) := by decide +kernel
theorem dX9_nextNumber_25 : decode cX9_nextNumber 25 = .ok (.bipush 48, 2) := by decide +kernel
theorem dX9_nextNumber_27 : decode cX9_nextNumber 27 = .ok (.if_icmp .lt 58, 3) := by decide +kernel
theorem dX9_nextNumber_30 : decode cX9_nextNumber 30 = .ok (.aload_n 0, 1) := by decide +kernel
theorem dX9_nextNumber_31 : decode cX9_nextNumber 31 = .ok (.getfield 9, 3) := by decide +kernel
theorem dX9_nextNumber_34 : decode cX9_nextNumber 34 = .ok (.aload_n 0, 1) := by decide +kernel
theorem dX9_nextNumber_35 : decode cX9_nextNumber 35 = .ok (.getfield 19, 3) := by decide +kernel
theorem dX9_nextNumber_38 : decode cX9_nextNumber 38 = .ok (.baload, 1) := by decide +kernel
theorem dX9_nextNumber_39 : decode cX9_nextNumber 39 = .ok (.bipush 57, 2) := by decide +kernel
theorem dX9_nextNumber_41 : decode cX9_nextNumber 41 = .ok (.if_icmp .gt 44, 3) := by decide +kernel
theorem dX9_nextNumber_44 : decode cX9_nextNumber 44 = .ok (.aload_n 0, 1) := by decide +kernel
theorem dX9_nextNumber_45 : decode cX9_nextNumber 45 = .ok (.bipush 10, 2) := by decide +kernel
theorem dX9_nextNumber_47 : decode cX9_nextNumber 47 = .ok (.aload_n 0, 1) := by decide +kernel
theorem dX9_nextNumber_48 : decode cX9_nextNumber 48 = .ok (.getfield 35, 3) := by decide +kernel
theorem dX9_nextNumber_51 : decode cX9_nextNumber 51 = .ok (.imul, 1) := by decide +kernel
theorem dX9_nextNumber_52 : decode cX9_nextNumber 52 = .ok (.aload_n 0, 1) := by decide +kernel
theorem dX9_nextNumber_53 : decode cX9_nextNumber 53 = .ok (.getfield 9, 3) := by decide +kernel
theorem dX9_nextNumber_56 : decode cX9_nextNumber 56 = .ok (.aload_n 0, 1) := by decide +kernel
theorem dX9_nextNumber_57 : decode cX9_nextNumber 57 = .ok (.getfield 19, 3) := by decide +kernel
theorem dX9_nextNumber_60 : decode cX9_nextNumber 60 = .ok (.baload, 1) := by decide +kernel
theorem dX9_nextNumber_61 : decode cX9_nextNumber 61 = .ok (.iadd, 1) := by decide +kernel
theorem dX9_nextNumber_62 : decode cX9_nextNumber 62 = .ok (.bipush 48, 2) := by decide +kernel
theorem dX9_nextNumber_64 : decode cX9_nextNumber 64 = .ok (.isub, 1) := by decide +kernel
theorem dX9_nextNumber_65 : decode cX9_nextNumber 65 = .ok (.sipush 1000, 3) := by decide +kernel
theorem dX9_nextNumber_68 : decode cX9_nextNumber 68 = .ok (.irem, 1) := by decide +kernel
theorem dX9_nextNumber_69 : decode cX9_nextNumber 69 = .ok (.putfield 35, 3) := by decide +kernel
theorem dX9_nextNumber_72 : decode cX9_nextNumber 72 = .ok (.aload_n 0, 1) := by decide +kernel
theorem dX9_nextNumber_73 : decode cX9_nextNumber 73 = .ok (.dup, 1) := by decide +kernel
theorem dX9_nextNumber_74 : decode cX9_nextNumber 74 = .ok (.getfield 19, 3) := by decide +kernel
theorem dX9_nextNumber_77 : decode cX9_nextNumber 77 = .ok (.iconst 1, 1) := by decide +kernel
theorem dX9_nextNumber_78 : decode cX9_nextNumber 78 = .ok (.iadd, 1) := by decide +kernel
theorem dX9_nextNumber_79 : decode cX9_nextNumber 79 = .ok (.putfield 19, 3) := by decide +kernel
theorem dX9_nextNumber_82 : decode cX9_nextNumber 82 = .ok (.goto (-77), 3) := by decide +kernel
theorem dX9_nextNumber_85 : decode cX9_nextNumber 85 = .ok (.aload_n 0, 1) := by decide +kernel
theorem dX9_nextNumber_86 : decode cX9_nextNumber 86 = .ok (.aload_n 0, 1) := by decide +kernel
theorem dX9_nextNumber_87 : decode cX9_nextNumber 87 = .ok (.getfield 19, 3) := by decide +kernel
theorem dX9_nextNumber_90 : decode cX9_nextNumber 90 = .ok (.aload_n 0, 1) := by decide +kernel
theorem dX9_nextNumber_91 : decode cX9_nextNumber 91 = .ok (.getfield 22, 3) := by decide +kernel
theorem dX9_nextNumber_94 : decode cX9_nextNumber 94 = .ok (.if_icmp .le 20, 3) := by decide +kernel
theorem dX9_nextNumber_97 : decode cX9_nextNumber 97 = .ok (.aload_n 0, 1) := by decide +kernel
theorem dX9_nextNumber_98 : decode cX9_nextNumber 98 = .ok (.getfield 19, 3) := by decide +kernel
theorem dX9_nextNumber_101 : decode cX9_nextNumber 101 = .ok (.aload_n 0, 1) := by decide +kernel
theorem dX9_nextNumber_102 : decode cX9_nextNumber 102 = .ok (.getfield 22, 3) := by decide +kernel
theorem dX9_nextNumber_105 : decode cX9_nextNumber 105 = .ok (.isub, 1) := by decide +kernel
theorem dX9_nextNumber_106 : decode cX9_nextNumber 106 = .ok (.iconst 3, 1) := by decide +kernel
theorem dX9_nextNumber_107 : decode cX9_nextNumber 107 = .ok (.if_icmp .gt 7, 3) := by decide +kernel
theorem dX9_nextNumber_110 : decode cX9_nextNumber 110 = .ok (.iconst 3, 1) := by decide +kernel
theorem dX9_nextNumber_111 : decode cX9_nextNumber 111 = .ok (.goto 4, 3) := by decide +kernel
theorem dX9_nextNumber_114 : decode cX9_nextNumber 114 = .ok (.iconst 0, 1) := by decide +kernel
theorem dX9_nextNumber_115 : decode cX9_nextNumber 115 = .ok (.putfield 25, 3) := by decide +kernel
theorem dX9_nextNumber_118 : decode cX9_nextNumber 118 = .ok (.return_, 1) := by decide +kernel
set_option maxRecDepth 20000 in
theorem ggX9_isName_J0_length_8abf5 : GoodIn wsX9_isName wsJ0_length_8abf5 := goodIn_r _ [8, 9, 10, 11, 12, 7, 13, 14, 15] (by decide +kernel) (by decide +kernel)
set_option maxRecDepth 20000 in
theorem gX9_isName_J0_length_8abf5 : GoodIn wsX9_isName (wsV RX9 38 RJ0 yJ0_length_8abf5 wsJ0_length_8abf5) := goodIn_app (goodIn_of _ (by decide +kernel)) ggX9_isName_J0_length_8abf5
set_option maxRecDepth 20000 in
theorem ggX9_isName_J0_charAt_5068e : GoodIn wsX9_isName wsJ0_charAt_5068e := goodIn_r _ [19, 9, 20, 21, 22, 7, 23, 14, 15, 24, 25, 26, 27, 28, 29, 30, 31, 32, 33, 34, 35, 36, 37, 38, 39, 40, 41, 42, 43, 44, 45, 46, 47, 48, 49, 50, 51, 52] (by decide +kernel) (by decide +kernel)
set_option maxRecDepth 20000 in
theorem gX9_isName_J0_charAt_5068e : GoodIn wsX9_isName (wsV RX9 44 RJ0 yJ0_charAt_5068e wsJ0_charAt_5068e) := goodIn_app (goodIn_of _ (by decide +kernel)) ggX9_isName_J0_charAt_5068e
theorem dX9_isName_0 : decode cX9_isName 0 = .ok (.aload_n 0, 1) := by decide +kernel
theorem dX9_isName_1 : decode cX9_isName 1 = .ok (.getfield 19, 3) := by decide +kernel
theorem dX9_isName_4 : decode cX9_isName 4 = .ok (.aload_n 0, 1) := by decide +kernel
theorem dX9_isName_5 : decode cX9_isName 5 = .ok (.getfield 22, 3) := by decide +kernel
theorem dX9_isName_8 : decode cX9_isName 8 = .ok (.isub, 1) := by decide +kernel
theorem dX9_isName_9 : decode cX9_isName 9 = .ok (.aload_n 1, 1) := by decide +kernel
theorem dX9_isName_10 : decode cX9_isName 10 = .ok (.invokevirtual 38, 3) := by decide +kernel
theorem dX9_isName_13 : decode cX9_isName 13 = .ok (.if_icmp .eq 5, 3) := by decide +kernel
theorem dX9_isName_16 : decode cX9_isName 16 = .ok (.iconst 0, 1) := by decide +kernel
theorem dX9_isName_17 : decode cX9_isName 17 = .ok (.ireturn, 1) := by decide +kernel
theorem dX9_isName_18 : decode cX9_isName 18 = .ok (.iconst 0, 1) := by decide +kernel
theorem dX9_isName_19 : decode cX9_isName 19 = .ok (.istore_n 2, 1) := by decide +kernel
theorem dX9_isName_20 : decode cX9_isName 20 = .ok (.iload_n 2, 1) := by decide +kernel
theorem dX9_isName_21 : decode cX9_isName 21 = .ok (.aload_n 1, 1) := by decide +kernel
theorem dX9_isName_22 : decode cX9_isName 22 = .ok (.invokevirtual 38, 3) := by decide +kernel
theorem dX9_isName_25 : decode cX9_isName 25 = .ok (.if_icmp .ge 30, 3) := by decide +kernel
theorem dX9_isName_28 : decode cX9_isName 28 = .ok (.aload_n 0, 1) := by decide +kernel
theorem dX9_isName_29 : decode cX9_isName 29 = .ok (.getfield 9, 3) := by decide +kernel
theorem dX9_isName_32 : decode cX9_isName 32 = .ok (.aload_n 0, 1) := by decide +kernel
theorem dX9_isName_33 : decode cX9_isName 33 = .ok (.getfield 22, 3) := by decide +kernel
theorem dX9_isName_36 : decode cX9_isName 36 = .ok (.iload_n 2, 1) := by decide +kernel
theorem dX9_isName_37 : decode cX9_isName 37 = .ok (.iadd, 1) := by decide +kernel
theorem dX9_isName_38 : decode cX9_isName 38 = .ok (.baload, 1) := by decide +kernel
theorem dX9_isName_39 : decode cX9_isName 39 = .ok (.aload_n 1, 1) := by decide +kernel
theorem dX9_isName_40 : decode cX9_isName 40 = .ok (.iload_n 2, 1) := by decide +kernel
theorem dX9_isName_41 : decode cX9_isName 41 = .ok (.invokevirtual 44, 3) := by decide +kernel
theorem dX9_isName_44 : decode cX9_isName 44 = .ok (.if_icmp .eq 5, 3) := by decide +kernel
theorem dX9_isName_47 : decode cX9_isName 47 = .ok (.iconst 0, 1) := by decide +kernel
theorem dX9_isName_48 : decode cX9_isName 48 = .ok (.ireturn, 1) := by decide +kernel
theorem dX9_isName_49 : decode cX9_isName 49 = .ok (.iinc 2 1, 3) := by decide +kernel
theorem dX9_isName_52 : decode cX9_isName 52 = .ok (.goto (-32), 3) := by decide +kernel
theorem dX9_isName_55 : decode cX9_isName 55 = .ok (.iconst 1, 1) := by decide +kernel
theorem dX9_isName_56 : decode cX9_isName 56 = .ok (.ireturn, 1) := by decide +kernel
set_option maxRecDepth 20000 in
theorem ggX9_firstWrong_X2_placeOf : GoodIn wsX9_firstWrong wsX2_placeOf := goodIn_r _ [7, 8, 9, 10, 11, 12, 19, 20, 21, 22, 23, 24] (by decide +kernel) (by decide +kernel)
set_option maxRecDepth 20000 in
theorem gX9_firstWrong_X2_placeOf : GoodIn wsX9_firstWrong (wsV RX9 48 RX2 yX2_placeOf wsX2_placeOf) := goodIn_app (goodIn_of _ (by decide +kernel)) ggX9_firstWrong_X2_placeOf
theorem dX9_firstWrong_0 : decode cX9_firstWrong 0 = .ok (.iconst 1, 1) := by decide +kernel
theorem dX9_firstWrong_1 : decode cX9_firstWrong 1 = .ok (.istore_n 2, 1) := by decide +kernel
theorem dX9_firstWrong_2 : decode cX9_firstWrong 2 = .ok (.iconst 0, 1) := by decide +kernel
theorem dX9_firstWrong_3 : decode cX9_firstWrong 3 = .ok (.istore_n 3, 1) := by decide +kernel
theorem dX9_firstWrong_4 : decode cX9_firstWrong 4 = .ok (.iload_n 3, 1) := by decide +kernel
theorem dX9_firstWrong_5 : decode cX9_firstWrong 5 = .ok (.aload_n 0, 1) := by decide +kernel
theorem dX9_firstWrong_6 : decode cX9_firstWrong 6 = .ok (.getfield 15, 3) := by decide +kernel
theorem dX9_firstWrong_9 : decode cX9_firstWrong 9 = .ok (.if_icmp .ge 37, 3) := by decide +kernel
theorem dX9_firstWrong_12 : decode cX9_firstWrong 12 = .ok (.aload_n 0, 1) := by decide +kernel
theorem dX9_firstWrong_13 : decode cX9_firstWrong 13 = .ok (.getfield 9, 3) := by decide +kernel
theorem dX9_firstWrong_16 : decode cX9_firstWrong 16 = .ok (.iload_n 3, 1) := by decide +kernel
theorem dX9_firstWrong_17 : decode cX9_firstWrong 17 = .ok (.baload, 1) := by decide +kernel
theorem dX9_firstWrong_18 : decode cX9_firstWrong 18 = .ok (.bipush 32, 2) := by decide +kernel
theorem dX9_firstWrong_20 : decode cX9_firstWrong 20 = .ok (.if_icmp .eq 20, 3) := by decide +kernel
theorem dX9_firstWrong_23 : decode cX9_firstWrong 23 = .ok (.aload_n 1, 1) := by decide +kernel
theorem dX9_firstWrong_24 : decode cX9_firstWrong 24 = .ok (.aload_n 0, 1) := by decide +kernel
theorem dX9_firstWrong_25 : decode cX9_firstWrong 25 = .ok (.getfield 9, 3) := by decide +kernel
theorem dX9_firstWrong_28 : decode cX9_firstWrong 28 = .ok (.iload_n 3, 1) := by decide +kernel
theorem dX9_firstWrong_29 : decode cX9_firstWrong 29 = .ok (.baload, 1) := by decide +kernel
theorem dX9_firstWrong_30 : decode cX9_firstWrong 30 = .ok (.invokevirtual 48, 3) := by decide +kernel
theorem dX9_firstWrong_33 : decode cX9_firstWrong 33 = .ok (.ifCond .ge 5, 3) := by decide +kernel
theorem dX9_firstWrong_36 : decode cX9_firstWrong 36 = .ok (.iload_n 3, 1) := by decide +kernel
theorem dX9_firstWrong_37 : decode cX9_firstWrong 37 = .ok (.ireturn, 1) := by decide +kernel
theorem dX9_firstWrong_38 : decode cX9_firstWrong 38 = .ok (.iconst 0, 1) := by decide +kernel
theorem dX9_firstWrong_39 : decode cX9_firstWrong 39 = .ok (.istore_n 2, 1) := by decide +kernel
theorem dX9_firstWrong_40 : decode cX9_firstWrong 40 = .ok (.iinc 3 1, 3) := by decide +kernel
theorem dX9_firstWrong_43 : decode cX9_firstWrong 43 = .ok (.goto (-39), 3) := by decide +kernel
theorem dX9_firstWrong_46 : decode cX9_firstWrong 46 = .ok (.iload_n 2, 1) := by decide +kernel
theorem dX9_firstWrong_47 : decode cX9_firstWrong 47 = .ok (.ifCond .eq 10, 3) := by decide +kernel
theorem dX9_firstWrong_50 : decode cX9_firstWrong 50 = .ok (.aload_n 0, 1) := by decide +kernel
theorem dX9_firstWrong_51 : decode cX9_firstWrong 51 = .ok (.getfield 15, 3) := by decide +kernel
theorem dX9_firstWrong_54 : decode cX9_firstWrong 54 = .ok (.goto 4, 3) := by decide +kernel
theorem dX9_firstWrong_57 : decode cX9_firstWrong 57 = .ok (.iconst (-1), 1) := by decide +kernel
theorem dX9_firstWrong_58 : decode cX9_firstWrong 58 = .ok (.ireturn, 1) := by decide +kernel
theorem dX9_isLetter_0 : decode cX9_isLetter 0 = .ok (.iload_n 0, 1) := by decide +kernel
theorem dX9_isLetter_1 : decode cX9_isLetter 1 = .ok (.bipush 97, 2) := by decide +kernel
theorem dX9_isLetter_3 : decode cX9_isLetter 3 = .ok (.if_icmp .lt 13, 3) := by decide +kernel
theorem dX9_isLetter_6 : decode cX9_isLetter 6 = .ok (.iload_n 0, 1) := by decide +kernel
theorem dX9_isLetter_7 : decode cX9_isLetter 7 = .ok (.bipush 122, 2) := by decide +kernel
theorem dX9_isLetter_9 : decode cX9_isLetter 9 = .ok (.if_icmp .gt 7, 3) := by decide +kernel
theorem dX9_isLetter_12 : decode cX9_isLetter 12 = .ok (.iconst 1, 1) := by decide +kernel
theorem dX9_isLetter_13 : decode cX9_isLetter 13 = .ok (.goto 4, 3) := by decide +kernel
theorem dX9_isLetter_16 : decode cX9_isLetter 16 = .ok (.iconst 0, 1) := by decide +kernel
theorem dX9_isLetter_17 : decode cX9_isLetter 17 = .ok (.ireturn, 1) := by decide +kernel
theorem dX10_init_0 : decode cX10_init 0 = .ok (.aload_n 0, 1) := by decide +kernel
theorem dX10_init_1 : decode cX10_init 1 = .ok (.invokespecial 3, 3) := by decide +kernel
theorem dX10_init_4 : decode cX10_init 4 = .ok (.aload_n 0, 1) := by decide +kernel
theorem dX10_init_5 : decode cX10_init 5 = .ok (.bipush 26, 2) := by decide +kernel
theorem dX10_init_7 : decode cX10_init 7 = .ok (.newarray .int, 2) := by decide +kernel
theorem dX10_init_9 : decode cX10_init 9 = .ok (.putfield 9, 3) := by decide +kernel
theorem dX10_init_12 : decode cX10_init 12 = .ok (.aload_n 0, 1) := by decide +kernel
theorem dX10_init_13 : decode cX10_init 13 = .ok (.bipush 25, 2) := by decide +kernel
theorem dX10_init_15 : decode cX10_init 15 = .ok (.newarray .byte, 2) := by decide +kernel
theorem dX10_init_17 : decode cX10_init 17 = .ok (.putfield 15, 3) := by decide +kernel
theorem dX10_init_20 : decode cX10_init 20 = .ok (.aload_n 0, 1) := by decide +kernel
theorem dX10_init_21 : decode cX10_init 21 = .ok (.bipush 25, 2) := by decide +kernel
theorem dX10_init_23 : decode cX10_init 23 = .ok (.newarray .byte, 2) := by decide +kernel
theorem dX10_init_25 : decode cX10_init 25 = .ok (.putfield 19, 3) := by decide +kernel
theorem dX10_init_28 : decode cX10_init 28 = .ok (.return_, 1) := by decide +kernel
set_option maxRecDepth 20000 in
theorem ggX10_learn_J7_fill_53178 : GoodIn wsX10_learn wsJ7_fill_53178 := goodIn_r _ [10] (by decide +kernel) (by decide +kernel)
set_option maxRecDepth 20000 in
theorem gX10_learn_J7_fill_53178 : GoodIn wsX10_learn (va_wsS RX10 22 yJ7_fill_53178 wsJ7_fill_53178) := goodIn_app (goodIn_of _ (by decide +kernel)) ggX10_learn_J7_fill_53178
set_option maxRecDepth 20000 in
theorem ggX10_learn_X4_lengthOf : GoodIn wsX10_learn wsX4_lengthOf := goodIn_r _ [15, 16, 17, 67, 68, 69, 70, 71, 72] (by decide +kernel) (by decide +kernel)
set_option maxRecDepth 20000 in
theorem gX10_learn_X4_lengthOf : GoodIn wsX10_learn (wsV RX10 40 RX4 yX4_lengthOf wsX4_lengthOf) := goodIn_app (goodIn_of _ (by decide +kernel)) ggX10_learn_X4_lengthOf
set_option maxRecDepth 20000 in
theorem ggX10_learn_X4_letterAt : GoodIn wsX10_learn wsX4_letterAt := goodIn_r _ [21, 22, 23, 24, 12, 13, 14, 15, 16, 17, 67, 68, 69, 70, 71, 72] (by decide +kernel) (by decide +kernel)
set_option maxRecDepth 20000 in
theorem gX10_learn_X4_letterAt : GoodIn wsX10_learn (wsV RX10 44 RX4 yX4_letterAt wsX4_letterAt) := goodIn_app (goodIn_of _ (by decide +kernel)) ggX10_learn_X4_letterAt
set_option maxRecDepth 20000 in
theorem ggX10_learn_X10_addTo : GoodIn wsX10_learn wsX10_addTo := goodIn_r _ [29, 1, 30, 31, 32, 33, 49, 50, 51] (by decide +kernel) (by decide +kernel)
set_option maxRecDepth 20000 in
theorem gX10_learn_X10_addTo : GoodIn wsX10_learn (wsV RX10 51 RX10 yX10_addTo wsX10_addTo) := goodIn_app (goodIn_of _ (by decide +kernel)) ggX10_learn_X10_addTo
set_option maxRecDepth 20000 in
theorem ggX10_learn_X2_placeOf : GoodIn wsX10_learn wsX2_placeOf := goodIn_r _ [38, 39, 40, 31, 32, 33, 73, 74, 75, 76, 77, 78] (by decide +kernel) (by decide +kernel)
set_option maxRecDepth 20000 in
theorem gX10_learn_X2_placeOf : GoodIn wsX10_learn (wsV RX10 55 RX2 yX2_placeOf wsX2_placeOf) := goodIn_app (goodIn_of _ (by decide +kernel)) ggX10_learn_X2_placeOf
set_option maxRecDepth 20000 in
theorem ggX10_learn_X10_sortIn : GoodIn wsX10_learn wsX10_sortIn := goodIn_r _ [44, 6, 45, 46, 47, 28, 48, 1, 30, 31, 32, 33, 49, 50, 51] (by decide +kernel) (by decide +kernel)
set_option maxRecDepth 20000 in
theorem gX10_learn_X10_sortIn : GoodIn wsX10_learn (wsV RX10 60 RX10 yX10_sortIn wsX10_sortIn) := goodIn_app (goodIn_of _ (by decide +kernel)) ggX10_learn_X10_sortIn
theorem dX10_learn_0 : decode cX10_learn 0 = .ok (.aload_n 0, 1) := by decide +kernel
theorem dX10_learn_1 : decode cX10_learn 1 = .ok (.getfield 9, 3) := by decide +kernel
theorem dX10_learn_4 : decode cX10_learn 4 = .ok (.iconst 0, 1) := by decide +kernel
theorem dX10_learn_5 : decode cX10_learn 5 = .ok (.invokestatic 22, 3) := by decide +kernel
theorem dX10_learn_8 : decode cX10_learn 8 = .ok (.iconst 0, 1) := by decide +kernel
theorem dX10_learn_9 : decode cX10_learn 9 = .ok (.istore_n 3, 1) := by decide +kernel
theorem dX10_learn_10 : decode cX10_learn 10 = .ok (.iload_n 3, 1) := by decide +kernel
theorem dX10_learn_11 : decode cX10_learn 11 = .ok (.aload_n 1, 1) := by decide +kernel
theorem dX10_learn_12 : decode cX10_learn 12 = .ok (.getfield 28, 3) := by decide +kernel
theorem dX10_learn_15 : decode cX10_learn 15 = .ok (.getfield 34, 3) := by decide +kernel
theorem dX10_learn_18 : decode cX10_learn 18 = .ok (.if_icmp .ge 51, 3) := by decide +kernel
theorem dX10_learn_21 : decode cX10_learn 21 = .ok (.iconst 0, 1) := by decide +kernel
theorem dX10_learn_22 : decode cX10_learn 22 = .ok (.istore 4, 2) := by decide +kernel
theorem dX10_learn_24 : decode cX10_learn 24 = .ok (.iload 4, 2) := by decide +kernel
theorem dX10_learn_26 : decode cX10_learn 26 = .ok (.aload_n 1, 1) := by decide +kernel
theorem dX10_learn_27 : decode cX10_learn 27 = .ok (.getfield 28, 3) := by decide +kernel
theorem dX10_learn_30 : decode cX10_learn 30 = .ok (.iload_n 3, 1) := by decide +kernel
theorem dX10_learn_31 : decode cX10_learn 31 = .ok (.invokevirtual 40, 3) := by decide +kernel
theorem dX10_learn_34 : decode cX10_learn 34 = .ok (.if_icmp .ge 29, 3) := by decide +kernel
theorem dX10_learn_37 : decode cX10_learn 37 = .ok (.aload_n 0, 1) := by decide +kernel
theorem dX10_learn_38 : decode cX10_learn 38 = .ok (.aload_n 1, 1) := by decide +kernel
theorem dX10_learn_39 : decode cX10_learn 39 = .ok (.getfield 28, 3) := by decide +kernel
theorem dX10_learn_42 : decode cX10_learn 42 = .ok (.iload_n 3, 1) := by decide +kernel
theorem dX10_learn_43 : decode cX10_learn 43 = .ok (.iload 4, 2) := by decide +kernel
theorem dX10_learn_45 : decode cX10_learn 45 = .ok (.invokevirtual 44, 3) := by decide +kernel
theorem dX10_learn_48 : decode cX10_learn 48 = .ok (.aload_n 1, 1) := by decide +kernel
theorem dX10_learn_49 : decode cX10_learn 49 = .ok (.getfield 48, 3) := by decide +kernel
theorem dX10_learn_52 : decode cX10_learn 52 = .ok (.iload_n 3, 1) := by decide +kernel
theorem dX10_learn_53 : decode cX10_learn 53 = .ok (.iaload, 1) := by decide +kernel
theorem dX10_learn_54 : decode cX10_learn 54 = .ok (.invokevirtual 51, 3) := by decide +kernel
theorem dX10_learn_57 : decode cX10_learn 57 = .ok (.iinc 4 1, 3) := by decide +kernel
theorem dX10_learn_60 : decode cX10_learn 60 = .ok (.goto (-36), 3) := by decide +kernel
theorem dX10_learn_63 : decode cX10_learn 63 = .ok (.iinc 3 1, 3) := by decide +kernel
theorem dX10_learn_66 : decode cX10_learn 66 = .ok (.goto (-56), 3) := by decide +kernel
theorem dX10_learn_69 : decode cX10_learn 69 = .ok (.iconst 0, 1) := by decide +kernel
theorem dX10_learn_70 : decode cX10_learn 70 = .ok (.istore_n 3, 1) := by decide +kernel
theorem dX10_learn_71 : decode cX10_learn 71 = .ok (.bipush 97, 2) := by decide +kernel
theorem dX10_learn_73 : decode cX10_learn 73 = .ok (.istore 4, 2) := by decide +kernel
theorem dX10_learn_75 : decode cX10_learn 75 = .ok (.iload 4, 2) := by decide +kernel
theorem dX10_learn_77 : decode cX10_learn 77 = .ok (.bipush 122, 2) := by decide +kernel
theorem dX10_learn_79 : decode cX10_learn 79 = .ok (.if_icmp .gt 38, 3) := by decide +kernel
theorem dX10_learn_82 : decode cX10_learn 82 = .ok (.aload_n 2, 1) := by decide +kernel
theorem dX10_learn_83 : decode cX10_learn 83 = .ok (.iload 4, 2) := by decide +kernel
theorem dX10_learn_85 : decode cX10_learn 85 = .ok (.invokevirtual 55, 3) := by decide +kernel
theorem dX10_learn_88 : decode cX10_learn 88 = .ok (.ifCond .lt 19, 3) := by decide +kernel
theorem dX10_learn_91 : decode cX10_learn 91 = .ok (.iload_n 3, 1) := by decide +kernel
theorem dX10_learn_92 : decode cX10_learn 92 = .ok (.bipush 25, 2) := by decide +kernel
theorem dX10_learn_94 : decode cX10_learn 94 = .ok (.if_icmp .ge 13, 3) := by decide +kernel
theorem dX10_learn_97 : decode cX10_learn 97 = .ok (.aload_n 0, 1) := by decide +kernel
theorem dX10_learn_98 : decode cX10_learn 98 = .ok (.iload 4, 2) := by decide +kernel
theorem dX10_learn_100 : decode cX10_learn 100 = .ok (.iload_n 3, 1) := by decide +kernel
theorem dX10_learn_101 : decode cX10_learn 101 = .ok (.invokevirtual 60, 3) := by decide +kernel
theorem dX10_learn_104 : decode cX10_learn 104 = .ok (.iinc 3 1, 3) := by decide +kernel
theorem dX10_learn_107 : decode cX10_learn 107 = .ok (.iload 4, 2) := by decide +kernel
theorem dX10_learn_109 : decode cX10_learn 109 = .ok (.iconst 1, 1) := by decide +kernel
theorem dX10_learn_110 : decode cX10_learn 110 = .ok (.iadd, 1) := by decide +kernel
theorem dX10_learn_111 : decode cX10_learn 111 = .ok (.i2b, 1) := by decide +kernel
theorem dX10_learn_112 : decode cX10_learn 112 = .ok (.istore 4, 2) := by decide +kernel
theorem dX10_learn_114 : decode cX10_learn 114 = .ok (.goto (-39), 3) := by decide +kernel
theorem dX10_learn_117 : decode cX10_learn 117 = .ok (.iconst 0, 1) := by decide +kernel
theorem dX10_learn_118 : decode cX10_learn 118 = .ok (.istore 4, 2) := by decide +kernel
theorem dX10_learn_120 : decode cX10_learn 120 = .ok (.iload 4, 2) := by decide +kernel
theorem dX10_learn_122 : decode cX10_learn 122 = .ok (.bipush 25, 2) := by decide +kernel
theorem dX10_learn_124 : decode cX10_learn 124 = .ok (.if_icmp .ge 27, 3) := by decide +kernel
theorem dX10_learn_127 : decode cX10_learn 127 = .ok (.aload_n 0, 1) := by decide +kernel
theorem dX10_learn_128 : decode cX10_learn 128 = .ok (.getfield 19, 3) := by decide +kernel
theorem dX10_learn_131 : decode cX10_learn 131 = .ok (.getstatic 64, 3) := by decide +kernel
theorem dX10_learn_134 : decode cX10_learn 134 = .ok (.iload 4, 2) := by decide +kernel
theorem dX10_learn_136 : decode cX10_learn 136 = .ok (.iaload, 1) := by decide +kernel
theorem dX10_learn_137 : decode cX10_learn 137 = .ok (.aload_n 0, 1) := by decide +kernel
theorem dX10_learn_138 : decode cX10_learn 138 = .ok (.getfield 15, 3) := by decide +kernel
theorem dX10_learn_141 : decode cX10_learn 141 = .ok (.iload 4, 2) := by decide +kernel
theorem dX10_learn_143 : decode cX10_learn 143 = .ok (.baload, 1) := by decide +kernel
theorem dX10_learn_144 : decode cX10_learn 144 = .ok (.bastore, 1) := by decide +kernel
theorem dX10_learn_145 : decode cX10_learn 145 = .ok (.iinc 4 1, 3) := by decide +kernel
theorem dX10_learn_148 : decode cX10_learn 148 = .ok (.goto (-28), 3) := by decide +kernel
theorem dX10_learn_151 : decode cX10_learn 151 = .ok (.return_, 1) := by decide +kernel
set_option maxRecDepth 20000 in
theorem ggX10_addTo_X9_isLetter : GoodIn wsX10_addTo wsX9_isLetter := goodIn_r _ [5] (by decide +kernel) (by decide +kernel)
set_option maxRecDepth 20000 in
theorem gX10_addTo_X9_isLetter : GoodIn wsX10_addTo (va_wsS RX10 67 yX9_isLetter wsX9_isLetter) := goodIn_app (goodIn_of _ (by decide +kernel)) ggX10_addTo_X9_isLetter
theorem dX10_addTo_0 : decode cX10_addTo 0 = .ok (.iload_n 1, 1) := by decide +kernel
theorem dX10_addTo_1 : decode cX10_addTo 1 = .ok (.invokestatic 67, 3) := by decide +kernel
theorem dX10_addTo_4 : decode cX10_addTo 4 = .ok (.ifCond .eq 16, 3) := by decide +kernel
theorem dX10_addTo_7 : decode cX10_addTo 7 = .ok (.aload_n 0, 1) := by decide +kernel
theorem dX10_addTo_8 : decode cX10_addTo 8 = .ok (.getfield 9, 3) := by decide +kernel
theorem dX10_addTo_11 : decode cX10_addTo 11 = .ok (.iload_n 1, 1) := by decide +kernel
theorem dX10_addTo_12 : decode cX10_addTo 12 = .ok (.bipush 97, 2) := by decide +kernel
theorem dX10_addTo_14 : decode cX10_addTo 14 = .ok (.isub, 1) := by decide +kernel
theorem dX10_addTo_15 : decode cX10_addTo 15 = .ok (.dup2, 1) := by decide +kernel
theorem dX10_addTo_16 : decode cX10_addTo 16 = .ok (.iaload, 1) := by decide +kernel
theorem dX10_addTo_17 : decode cX10_addTo 17 = .ok (.iload_n 2, 1) := by decide +kernel
theorem dX10_addTo_18 : decode cX10_addTo 18 = .ok (.iadd, 1) := by decide +kernel
theorem dX10_addTo_19 : decode cX10_addTo 19 = .ok (.iastore, 1) := by decide +kernel
theorem dX10_addTo_20 : decode cX10_addTo 20 = .ok (.return_, 1) := by decide +kernel
