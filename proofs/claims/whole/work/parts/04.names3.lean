set_option maxRecDepth 20000 in
theorem ggX10_oftenOf_X9_isLetter : GoodIn wsX10_oftenOf wsX9_isLetter := goodIn_r _ [5] (by decide +kernel) (by decide +kernel)
set_option maxRecDepth 20000 in
theorem gX10_oftenOf_X9_isLetter : GoodIn wsX10_oftenOf (va_wsS RX10 67 yX9_isLetter wsX9_isLetter) := goodIn_app (goodIn_of _ (by decide +kernel)) ggX10_oftenOf_X9_isLetter
theorem dX10_oftenOf_0 : decode cX10_oftenOf 0 = .ok (.iload_n 1, 1) := by decide +kernel
theorem dX10_oftenOf_1 : decode cX10_oftenOf 1 = .ok (.invokestatic 67, 3) := by decide +kernel
theorem dX10_oftenOf_4 : decode cX10_oftenOf 4 = .ok (.ifCond .eq 15, 3) := by decide +kernel
theorem dX10_oftenOf_7 : decode cX10_oftenOf 7 = .ok (.aload_n 0, 1) := by decide +kernel
theorem dX10_oftenOf_8 : decode cX10_oftenOf 8 = .ok (.getfield 9, 3) := by decide +kernel
theorem dX10_oftenOf_11 : decode cX10_oftenOf 11 = .ok (.iload_n 1, 1) := by decide +kernel
theorem dX10_oftenOf_12 : decode cX10_oftenOf 12 = .ok (.bipush 97, 2) := by decide +kernel
theorem dX10_oftenOf_14 : decode cX10_oftenOf 14 = .ok (.isub, 1) := by decide +kernel
theorem dX10_oftenOf_15 : decode cX10_oftenOf 15 = .ok (.iaload, 1) := by decide +kernel
theorem dX10_oftenOf_16 : decode cX10_oftenOf 16 = .ok (.goto 4, 3) := by decide +kernel
theorem dX10_oftenOf_19 : decode cX10_oftenOf 19 = .ok (.iconst 0, 1) := by decide +kernel
theorem dX10_oftenOf_20 : decode cX10_oftenOf 20 = .ok (.ireturn, 1) := by decide +kernel
set_option maxRecDepth 20000 in
theorem ggX10_sortIn_X10_oftenOf : GoodIn wsX10_sortIn wsX10_oftenOf := goodIn_r _ [6, 7, 8, 9, 10, 11, 12, 13, 14] (by decide +kernel) (by decide +kernel)
set_option maxRecDepth 20000 in
theorem gX10_sortIn_X10_oftenOf : GoodIn wsX10_sortIn (wsV RX10 73 RX10 yX10_oftenOf wsX10_oftenOf) := goodIn_app (goodIn_of _ (by decide +kernel)) ggX10_sortIn_X10_oftenOf
theorem dX10_sortIn_0 : decode cX10_sortIn 0 = .ok (.iload_n 2, 1) := by decide +kernel
theorem dX10_sortIn_1 : decode cX10_sortIn 1 = .ok (.istore_n 3, 1) := by decide +kernel
theorem dX10_sortIn_2 : decode cX10_sortIn 2 = .ok (.iload_n 3, 1) := by decide +kernel
theorem dX10_sortIn_3 : decode cX10_sortIn 3 = .ok (.ifCond .le 43, 3) := by decide +kernel
theorem dX10_sortIn_6 : decode cX10_sortIn 6 = .ok (.aload_n 0, 1) := by decide +kernel
theorem dX10_sortIn_7 : decode cX10_sortIn 7 = .ok (.aload_n 0, 1) := by decide +kernel
theorem dX10_sortIn_8 : decode cX10_sortIn 8 = .ok (.getfield 15, 3) := by decide +kernel
theorem dX10_sortIn_11 : decode cX10_sortIn 11 = .ok (.iload_n 3, 1) := by decide +kernel
theorem dX10_sortIn_12 : decode cX10_sortIn 12 = .ok (.iconst 1, 1) := by decide +kernel
theorem dX10_sortIn_13 : decode cX10_sortIn 13 = .ok (.isub, 1) := by decide +kernel
theorem dX10_sortIn_14 : decode cX10_sortIn 14 = .ok (.baload, 1) := by decide +kernel
theorem dX10_sortIn_15 : decode cX10_sortIn 15 = .ok (.invokevirtual 73, 3) := by decide +kernel
theorem dX10_sortIn_18 : decode cX10_sortIn 18 = .ok (.aload_n 0, 1) := by decide +kernel
theorem dX10_sortIn_19 : decode cX10_sortIn 19 = .ok (.iload_n 1, 1) := by decide +kernel
theorem dX10_sortIn_20 : decode cX10_sortIn 20 = .ok (.invokevirtual 73, 3) := by decide +kernel
theorem dX10_sortIn_23 : decode cX10_sortIn 23 = .ok (.if_icmp .ge 23, 3) := by decide +kernel
theorem dX10_sortIn_26 : decode cX10_sortIn 26 = .ok (.aload_n 0, 1) := by decide +kernel
theorem dX10_sortIn_27 : decode cX10_sortIn 27 = .ok (.getfield 15, 3) := by decide +kernel
theorem dX10_sortIn_30 : decode cX10_sortIn 30 = .ok (.iload_n 3, 1) := by decide +kernel
theorem dX10_sortIn_31 : decode cX10_sortIn 31 = .ok (.aload_n 0, 1) := by decide +kernel
theorem dX10_sortIn_32 : decode cX10_sortIn 32 = .ok (.getfield 15, 3) := by decide +kernel
theorem dX10_sortIn_35 : decode cX10_sortIn 35 = .ok (.iload_n 3, 1) := by decide +kernel
theorem dX10_sortIn_36 : decode cX10_sortIn 36 = .ok (.iconst 1, 1) := by decide +kernel
theorem dX10_sortIn_37 : decode cX10_sortIn 37 = .ok (.isub, 1) := by decide +kernel
theorem dX10_sortIn_38 : decode cX10_sortIn 38 = .ok (.baload, 1) := by decide +kernel
theorem dX10_sortIn_39 : decode cX10_sortIn 39 = .ok (.bastore, 1) := by decide +kernel
theorem dX10_sortIn_40 : decode cX10_sortIn 40 = .ok (.iinc 3 (-1), 3) := by decide +kernel
theorem dX10_sortIn_43 : decode cX10_sortIn 43 = .ok (.goto (-41), 3) := by decide +kernel
theorem dX10_sortIn_46 : decode cX10_sortIn 46 = .ok (.aload_n 0, 1) := by decide +kernel
theorem dX10_sortIn_47 : decode cX10_sortIn 47 = .ok (.getfield 15, 3) := by decide +kernel
theorem dX10_sortIn_50 : decode cX10_sortIn 50 = .ok (.iload_n 3, 1) := by decide +kernel
theorem dX10_sortIn_51 : decode cX10_sortIn 51 = .ok (.iload_n 1, 1) := by decide +kernel
theorem dX10_sortIn_52 : decode cX10_sortIn 52 = .ok (.bastore, 1) := by decide +kernel
theorem dX10_sortIn_53 : decode cX10_sortIn 53 = .ok (.return_, 1) := by decide +kernel
set_option maxRecDepth 20000 in
theorem ggX10_meanBy_X10_oftenOf : GoodIn wsX10_meanBy wsX10_oftenOf := goodIn_r _ [5, 6, 7, 8, 9, 10, 11, 12, 13] (by decide +kernel) (by decide +kernel)
set_option maxRecDepth 20000 in
theorem gX10_meanBy_X10_oftenOf : GoodIn wsX10_meanBy (wsV RX10 73 RX10 yX10_oftenOf wsX10_oftenOf) := goodIn_app (goodIn_of _ (by decide +kernel)) ggX10_meanBy_X10_oftenOf
theorem dX10_meanBy_0 : decode cX10_meanBy 0 = .ok (.iconst 0, 1) := by decide +kernel
theorem dX10_meanBy_1 : decode cX10_meanBy 1 = .ok (.istore_n 2, 1) := by decide +kernel
theorem dX10_meanBy_2 : decode cX10_meanBy 2 = .ok (.iconst 0, 1) := by decide +kernel
theorem dX10_meanBy_3 : decode cX10_meanBy 3 = .ok (.istore_n 3, 1) := by decide +kernel
theorem dX10_meanBy_4 : decode cX10_meanBy 4 = .ok (.iload_n 3, 1) := by decide +kernel
theorem dX10_meanBy_5 : decode cX10_meanBy 5 = .ok (.bipush 25, 2) := by decide +kernel
theorem dX10_meanBy_7 : decode cX10_meanBy 7 = .ok (.if_icmp .ge 35, 3) := by decide +kernel
theorem dX10_meanBy_10 : decode cX10_meanBy 10 = .ok (.iload_n 3, 1) := by decide +kernel
theorem dX10_meanBy_11 : decode cX10_meanBy 11 = .ok (.aload_n 1, 1) := by decide +kernel
theorem dX10_meanBy_12 : decode cX10_meanBy 12 = .ok (.arraylength, 1) := by decide +kernel
theorem dX10_meanBy_13 : decode cX10_meanBy 13 = .ok (.if_icmp .ge 29, 3) := by decide +kernel
theorem dX10_meanBy_16 : decode cX10_meanBy 16 = .ok (.iload_n 2, 1) := by decide +kernel
theorem dX10_meanBy_17 : decode cX10_meanBy 17 = .ok (.aload_n 0, 1) := by decide +kernel
theorem dX10_meanBy_18 : decode cX10_meanBy 18 = .ok (.aload_n 1, 1) := by decide +kernel
theorem dX10_meanBy_19 : decode cX10_meanBy 19 = .ok (.iload_n 3, 1) := by decide +kernel
theorem dX10_meanBy_20 : decode cX10_meanBy 20 = .ok (.baload, 1) := by decide +kernel
theorem dX10_meanBy_21 : decode cX10_meanBy 21 = .ok (.invokevirtual 73, 3) := by decide +kernel
theorem dX10_meanBy_24 : decode cX10_meanBy 24 = .ok (.iload_n 3, 1) := by decide +kernel
theorem dX10_meanBy_25 : decode cX10_meanBy 25 = .ok (.iconst 5, 1) := by decide +kernel
theorem dX10_meanBy_26 : decode cX10_meanBy 26 = .ok (.idiv, 1) := by decide +kernel
theorem dX10_meanBy_27 : decode cX10_meanBy 27 = .ok (.iload_n 3, 1) := by decide +kernel
theorem dX10_meanBy_28 : decode cX10_meanBy 28 = .ok (.iconst 5, 1) := by decide +kernel
theorem dX10_meanBy_29 : decode cX10_meanBy 29 = .ok (.irem, 1) := by decide +kernel
theorem dX10_meanBy_30 : decode cX10_meanBy 30 = .ok (.iadd, 1) := by decide +kernel
theorem dX10_meanBy_31 : decode cX10_meanBy 31 = .ok (.iconst 2, 1) := by decide +kernel
theorem dX10_meanBy_32 : decode cX10_meanBy 32 = .ok (.iadd, 1) := by decide +kernel
theorem dX10_meanBy_33 : decode cX10_meanBy 33 = .ok (.imul, 1) := by decide +kernel
theorem dX10_meanBy_34 : decode cX10_meanBy 34 = .ok (.iadd, 1) := by decide +kernel
theorem dX10_meanBy_35 : decode cX10_meanBy 35 = .ok (.istore_n 2, 1) := by decide +kernel
theorem dX10_meanBy_36 : decode cX10_meanBy 36 = .ok (.iinc 3 1, 3) := by decide +kernel
theorem dX10_meanBy_39 : decode cX10_meanBy 39 = .ok (.goto (-35), 3) := by decide +kernel
theorem dX10_meanBy_42 : decode cX10_meanBy 42 = .ok (.iload_n 2, 1) := by decide +kernel
theorem dX10_meanBy_43 : decode cX10_meanBy 43 = .ok (.ireturn, 1) := by decide +kernel
set_option maxRecDepth 20000 in
theorem ggX11_init_X9_init : GoodIn wsX11_init wsX9_init := goodIn_r _ [46, 47, 2, 3, 48, 49, 157, 158, 159, 160, 161, 162] (by decide +kernel) (by decide +kernel)
set_option maxRecDepth 20000 in
theorem gX11_init_X9_init_n9 : GoodIn wsX11_init (wsX9_init) := ggX11_init_X9_init
set_option maxRecDepth 20000 in
theorem ggX11_init_X6_init : GoodIn wsX11_init wsX6_init := goodIn_r _ [51, 52, 2, 3] (by decide +kernel) (by decide +kernel)
set_option maxRecDepth 20000 in
theorem gX11_init_X6_init_n18 : GoodIn wsX11_init (wsX6_init) := ggX11_init_X6_init
set_option maxRecDepth 20000 in
theorem ggX11_init_X2_init : GoodIn wsX11_init wsX2_init := goodIn_r _ [54, 55, 2, 3, 48, 56, 57, 35, 58, 59, 179, 180, 181, 182, 183, 184] (by decide +kernel) (by decide +kernel)
set_option maxRecDepth 20000 in
theorem gX11_init_X2_init_n25 : GoodIn wsX11_init (wsX2_init) := ggX11_init_X2_init
set_option maxRecDepth 20000 in
theorem ggX11_init_X7_init : GoodIn wsX11_init wsX7_init := goodIn_r _ [61, 62, 2, 3] (by decide +kernel) (by decide +kernel)
set_option maxRecDepth 20000 in
theorem gX11_init_X7_init_n42 : GoodIn wsX11_init (wsX7_init) := ggX11_init_X7_init
set_option maxRecDepth 20000 in
theorem ggX11_init_X10_init : GoodIn wsX11_init wsX10_init := goodIn_r _ [64, 65, 2, 3, 35, 66, 48, 67, 68, 192, 193, 194] (by decide +kernel) (by decide +kernel)
set_option maxRecDepth 20000 in
theorem gX11_init_X10_init_n49 : GoodIn wsX11_init (wsX10_init) := ggX11_init_X10_init
set_option maxRecDepth 20000 in
theorem ggX11_init_X1_init : GoodIn wsX11_init wsX1_init := goodIn_r _ [70, 71, 2, 3, 72, 73, 74, 75, 76, 35, 77, 195, 196, 197, 198, 199] (by decide +kernel) (by decide +kernel)
set_option maxRecDepth 20000 in
theorem gX11_init_X1_init_n56 : GoodIn wsX11_init (wsX1_init) := ggX11_init_X1_init
set_option maxRecDepth 20000 in
theorem ggX11_init_X3_init : GoodIn wsX11_init wsX3_init := goodIn_r _ [79, 80, 2, 3, 72, 81, 82, 200, 201] (by decide +kernel) (by decide +kernel)
set_option maxRecDepth 20000 in
theorem gX11_init_X3_init_n63 : GoodIn wsX11_init (wsX3_init) := ggX11_init_X3_init
set_option maxRecDepth 20000 in
theorem ggX11_init_X0_init : GoodIn wsX11_init wsX0_init := goodIn_r _ [84, 85, 2, 3, 48, 86, 87, 88, 89, 90, 35, 91, 92, 93, 94, 95, 96, 97, 98, 99, 100, 101, 102, 103, 104, 105, 106, 107, 108, 109, 110, 202, 203, 204, 205, 206, 207, 208, 209, 210, 211, 212, 213, 214, 215, 216, 220, 221, 222, 223, 224, 225, 226] (by decide +kernel) (by decide +kernel)
set_option maxRecDepth 20000 in
theorem gX11_init_X0_init_n74 : GoodIn wsX11_init (wsX0_init) := ggX11_init_X0_init
set_option maxRecDepth 20000 in
theorem ggX11_init_X8_init : GoodIn wsX11_init wsX8_init := goodIn_r _ [112, 113, 2, 3, 35, 114, 115, 217, 218, 219] (by decide +kernel) (by decide +kernel)
set_option maxRecDepth 20000 in
theorem gX11_init_X8_init_n82 : GoodIn wsX11_init (wsX8_init) := ggX11_init_X8_init
set_option maxRecDepth 20000 in
theorem ggX11_init_X0_clear : GoodIn wsX11_init wsX0_clear := goodIn_r _ [119, 86, 90, 120, 92, 93, 121, 97, 122, 123, 124, 125, 126, 127, 128, 129, 130, 131, 132, 96, 133, 110, 134, 135, 136, 137, 202, 203, 204, 205, 206, 207, 208, 209, 210, 211, 212, 213, 214, 215, 216, 220, 221, 222, 223, 224, 225, 226] (by decide +kernel) (by decide +kernel)
set_option maxRecDepth 20000 in
theorem gX11_init_X0_clear : GoodIn wsX11_init (wsV RX11 83 RX0 yX0_clear wsX0_clear) := goodIn_app (goodIn_of _ (by decide +kernel)) ggX11_init_X0_clear
set_option maxRecDepth 20000 in
theorem ggX11_init_X2_startWith : GoodIn wsX11_init wsX2_startWith := goodIn_r _ [141, 57, 142, 59, 143, 135, 136, 137, 144, 145, 146, 14, 147, 56, 148, 149, 150, 151, 152, 6, 153, 154, 155, 156, 179, 180, 181, 182, 183, 184] (by decide +kernel) (by decide +kernel)
set_option maxRecDepth 20000 in
theorem gX11_init_X2_startWith : GoodIn wsX11_init (wsV RX11 90 RX2 yX2_startWith wsX2_startWith) := goodIn_app (goodIn_of _ (by decide +kernel)) ggX11_init_X2_startWith
theorem dX11_init_0 : decode cX11_init 0 = .ok (.aload_n 0, 1) := by decide +kernel
theorem dX11_init_1 : decode cX11_init 1 = .ok (.invokespecial 1, 3) := by decide +kernel
theorem dX11_init_4 : decode cX11_init 4 = .ok (.aload_n 0, 1) := by decide +kernel
theorem dX11_init_5 : decode cX11_init 5 = .ok (.new 7, 3) := by decide +kernel
theorem dX11_init_8 : decode cX11_init 8 = .ok (.dup, 1) := by decide +kernel
theorem dX11_init_9 : decode cX11_init 9 = .ok (.invokespecial 9, 3) := by decide +kernel
theorem dX11_init_12 : decode cX11_init 12 = .ok (.putfield 10, 3) := by decide +kernel
theorem dX11_init_15 : decode cX11_init 15 = .ok (.aload_n 0, 1) := by decide +kernel
theorem dX11_init_16 : decode cX11_init 16 = .ok (.new 16, 3) := by decide +kernel
theorem dX11_init_19 : decode cX11_init 19 = .ok (.dup, 1) := by decide +kernel
theorem dX11_init_20 : decode cX11_init 20 = .ok (.invokespecial 18, 3) := by decide +kernel
theorem dX11_init_23 : decode cX11_init 23 = .ok (.putfield 19, 3) := by decide +kernel
theorem dX11_init_26 : decode cX11_init 26 = .ok (.aload_n 0, 1) := by decide +kernel
theorem dX11_init_27 : decode cX11_init 27 = .ok (.new 23, 3) := by decide +kernel
theorem dX11_init_30 : decode cX11_init 30 = .ok (.dup, 1) := by decide +kernel
theorem dX11_init_31 : decode cX11_init 31 = .ok (.invokespecial 25, 3) := by decide +kernel
theorem dX11_init_34 : decode cX11_init 34 = .ok (.putfield 26, 3) := by decide +kernel
theorem dX11_init_37 : decode cX11_init 37 = .ok (.aload_n 0, 1) := by decide +kernel
theorem dX11_init_38 : decode cX11_init 38 = .ok (.iconst 2, 1) := by decide +kernel
theorem dX11_init_39 : decode cX11_init 39 = .ok (.anewarray 23, 3) := by decide +kernel
theorem dX11_init_42 : decode cX11_init 42 = .ok (.putfield 30, 3) := by decide +kernel
theorem dX11_init_45 : decode cX11_init 45 = .ok (.aload_n 0, 1) := by decide +kernel
theorem dX11_init_46 : decode cX11_init 46 = .ok (.iconst 4, 1) := by decide +kernel
theorem dX11_init_47 : decode cX11_init 47 = .ok (.anewarray 34, 3) := by decide +kernel
theorem dX11_init_50 : decode cX11_init 50 = .ok (.putfield 36, 3) := by decide +kernel
theorem dX11_init_53 : decode cX11_init 53 = .ok (.aload_n 0, 1) := by decide +kernel
theorem dX11_init_54 : decode cX11_init 54 = .ok (.new 40, 3) := by decide +kernel
theorem dX11_init_57 : decode cX11_init 57 = .ok (.dup, 1) := by decide +kernel
theorem dX11_init_58 : decode cX11_init 58 = .ok (.invokespecial 42, 3) := by decide +kernel
theorem dX11_init_61 : decode cX11_init 61 = .ok (.putfield 43, 3) := by decide +kernel
theorem dX11_init_64 : decode cX11_init 64 = .ok (.aload_n 0, 1) := by decide +kernel
theorem dX11_init_65 : decode cX11_init 65 = .ok (.new 47, 3) := by decide +kernel
theorem dX11_init_68 : decode cX11_init 68 = .ok (.dup, 1) := by decide +kernel
theorem dX11_init_69 : decode cX11_init 69 = .ok (.invokespecial 49, 3) := by decide +kernel
theorem dX11_init_72 : decode cX11_init 72 = .ok (.putfield 50, 3) := by decide +kernel
theorem dX11_init_75 : decode cX11_init 75 = .ok (.aload_n 0, 1) := by decide +kernel
theorem dX11_init_76 : decode cX11_init 76 = .ok (.new 54, 3) := by decide +kernel
theorem dX11_init_79 : decode cX11_init 79 = .ok (.dup, 1) := by decide +kernel
theorem dX11_init_80 : decode cX11_init 80 = .ok (.invokespecial 56, 3) := by decide +kernel
theorem dX11_init_83 : decode cX11_init 83 = .ok (.putfield 57, 3) := by decide +kernel
theorem dX11_init_86 : decode cX11_init 86 = .ok (.aload_n 0, 1) := by decide +kernel
theorem dX11_init_87 : decode cX11_init 87 = .ok (.new 61, 3) := by decide +kernel
theorem dX11_init_90 : decode cX11_init 90 = .ok (.dup, 1) := by decide +kernel
theorem dX11_init_91 : decode cX11_init 91 = .ok (.invokespecial 63, 3) := by decide +kernel
theorem dX11_init_94 : decode cX11_init 94 = .ok (.putfield 64, 3) := by decide +kernel
theorem dX11_init_97 : decode cX11_init 97 = .ok (.aload_n 0, 1) := by decide +kernel
theorem dX11_init_98 : decode cX11_init 98 = .ok (.bipush 10, 2) := by decide +kernel
theorem dX11_init_100 : decode cX11_init 100 = .ok (.newarray .int, 2) := by decide +kernel
theorem dX11_init_102 : decode cX11_init 102 = .ok (.putfield 68, 3) := by decide +kernel
theorem dX11_init_105 : decode cX11_init 105 = .ok (.aload_n 0, 1) := by decide +kernel
theorem dX11_init_106 : decode cX11_init 106 = .ok (.new 72, 3) := by decide +kernel
theorem dX11_init_109 : decode cX11_init 109 = .ok (.dup, 1) := by decide +kernel
theorem dX11_init_110 : decode cX11_init 110 = .ok (.invokespecial 74, 3) := by decide +kernel
theorem dX11_init_113 : decode cX11_init 113 = .ok (.putfield 75, 3) := by decide +kernel
theorem dX11_init_116 : decode cX11_init 116 = .ok (.aload_n 0, 1) := by decide +kernel
theorem dX11_init_117 : decode cX11_init 117 = .ok (.new 72, 3) := by decide +kernel
theorem dX11_init_120 : decode cX11_init 120 = .ok (.dup, 1) := by decide +kernel
theorem dX11_init_121 : decode cX11_init 121 = .ok (.invokespecial 74, 3) := by decide +kernel
theorem dX11_init_124 : decode cX11_init 124 = .ok (.putfield 79, 3) := by decide +kernel
theorem dX11_init_127 : decode cX11_init 127 = .ok (.iconst 0, 1) := by decide +kernel
theorem dX11_init_128 : decode cX11_init 128 = .ok (.istore_n 1, 1) := by decide +kernel
theorem dX11_init_129 : decode cX11_init 129 = .ok (.iload_n 1, 1) := by decide +kernel
theorem dX11_init_130 : decode cX11_init 130 = .ok (.iconst 2, 1) := by decide +kernel
theorem dX11_init_131 : decode cX11_init 131 = .ok (.if_icmp .ge 22, 3) := by decide +kernel
theorem dX11_init_134 : decode cX11_init 134 = .ok (.aload_n 0, 1) := by decide +kernel
theorem dX11_init_135 : decode cX11_init 135 = .ok (.getfield 30, 3) := by decide +kernel
theorem dX11_init_138 : decode cX11_init 138 = .ok (.iload_n 1, 1) := by decide +kernel
theorem dX11_init_139 : decode cX11_init 139 = .ok (.new 23, 3) := by decide +kernel
theorem dX11_init_142 : decode cX11_init 142 = .ok (.dup, 1) := by decide +kernel
theorem dX11_init_143 : decode cX11_init 143 = .ok (.invokespecial 25, 3) := by decide +kernel
theorem dX11_init_146 : decode cX11_init 146 = .ok (.aastore, 1) := by decide +kernel
theorem dX11_init_147 : decode cX11_init 147 = .ok (.iinc 1 1, 3) := by decide +kernel
theorem dX11_init_150 : decode cX11_init 150 = .ok (.goto (-21), 3) := by decide +kernel
theorem dX11_init_153 : decode cX11_init 153 = .ok (.iconst 0, 1) := by decide +kernel
theorem dX11_init_154 : decode cX11_init 154 = .ok (.istore_n 1, 1) := by decide +kernel
theorem dX11_init_155 : decode cX11_init 155 = .ok (.iload_n 1, 1) := by decide +kernel
theorem dX11_init_156 : decode cX11_init 156 = .ok (.iconst 4, 1) := by decide +kernel
theorem dX11_init_157 : decode cX11_init 157 = .ok (.if_icmp .ge 22, 3) := by decide +kernel
theorem dX11_init_160 : decode cX11_init 160 = .ok (.aload_n 0, 1) := by decide +kernel
theorem dX11_init_161 : decode cX11_init 161 = .ok (.getfield 36, 3) := by decide +kernel
theorem dX11_init_164 : decode cX11_init 164 = .ok (.iload_n 1, 1) := by decide +kernel
theorem dX11_init_165 : decode cX11_init 165 = .ok (.new 34, 3) := by decide +kernel
theorem dX11_init_168 : decode cX11_init 168 = .ok (.dup, 1) := by decide +kernel
theorem dX11_init_169 : decode cX11_init 169 = .ok (.invokespecial 82, 3) := by decide +kernel
theorem dX11_init_172 : decode cX11_init 172 = .ok (.aastore, 1) := by decide +kernel
theorem dX11_init_173 : decode cX11_init 173 = .ok (.iinc 1 1, 3) := by decide +kernel
theorem dX11_init_176 : decode cX11_init 176 = .ok (.goto (-21), 3) := by decide +kernel
theorem dX11_init_179 : decode cX11_init 179 = .ok (.aload_n 0, 1) := by decide +kernel
theorem dX11_init_180 : decode cX11_init 180 = .ok (.getfield 75, 3) := by decide +kernel
theorem dX11_init_183 : decode cX11_init 183 = .ok (.invokevirtual 83, 3) := by decide +kernel
theorem dX11_init_186 : decode cX11_init 186 = .ok (.aload_n 0, 1) := by decide +kernel
theorem dX11_init_187 : decode cX11_init 187 = .ok (.getfield 26, 3) := by decide +kernel
theorem dX11_init_190 : decode cX11_init 190 = .ok (.aload_n 0, 1) := by decide +kernel
theorem dX11_init_191 : decode cX11_init 191 = .ok (.getfield 75, 3) := by decide +kernel
theorem dX11_init_194 : decode cX11_init 194 = .ok (.getfield 86, 3) := by decide +kernel
theorem dX11_init_197 : decode cX11_init 197 = .ok (.invokevirtual 90, 3) := by decide +kernel
theorem dX11_init_200 : decode cX11_init 200 = .ok (.return_, 1) := by decide +kernel
set_option maxRecDepth 20000 in
theorem ggX11_feed_X9_append : GoodIn wsX11_feed wsX9_append := goodIn_r _ [7, 8, 9, 24, 25, 26, 27, 28, 29] (by decide +kernel) (by decide +kernel)
set_option maxRecDepth 20000 in
theorem gX11_feed_X9_append : GoodIn wsX11_feed (wsV RX11 94 RX9 yX9_append wsX9_append) := goodIn_app (goodIn_of _ (by decide +kernel)) ggX11_feed_X9_append
theorem dX11_feed_0 : decode cX11_feed 0 = .ok (.aload_n 0, 1) := by decide +kernel
theorem dX11_feed_1 : decode cX11_feed 1 = .ok (.getfield 10, 3) := by decide +kernel
theorem dX11_feed_4 : decode cX11_feed 4 = .ok (.lload_n 1, 1) := by decide +kernel
theorem dX11_feed_5 : decode cX11_feed 5 = .ok (.invokevirtual 94, 3) := by decide +kernel
theorem dX11_feed_8 : decode cX11_feed 8 = .ok (.ifCond .eq 13, 3) := by decide +kernel
theorem dX11_feed_11 : decode cX11_feed 11 = .ok (.aload_n 0, 1) := by decide +kernel
theorem dX11_feed_12 : decode cX11_feed 12 = .ok (.getfield 10, 3) := by decide +kernel
theorem dX11_feed_15 : decode cX11_feed 15 = .ok (.getfield 98, 3) := by decide +kernel
theorem dX11_feed_18 : decode cX11_feed 18 = .ok (.goto 5, 3) := by decide +kernel
theorem dX11_feed_21 : decode cX11_feed 21 = .ok (.bipush (-3), 2) := by decide +kernel
theorem dX11_feed_23 : decode cX11_feed 23 = .ok (.ireturn, 1) := by decide +kernel
theorem dX11_end_0 : decode cX11_end 0 = .ok (.iload_n 1, 1) := by decide +kernel
theorem dX11_end_1 : decode cX11_end 1 = .ok (.ifCond .lt 14, 3) := by decide +kernel
theorem dX11_end_4 : decode cX11_end 4 = .ok (.iload_n 1, 1) := by decide +kernel
theorem dX11_end_5 : decode cX11_end 5 = .ok (.aload_n 0, 1) := by decide +kernel
theorem dX11_end_6 : decode cX11_end 6 = .ok (.getfield 10, 3) := by decide +kernel
theorem dX11_end_9 : decode cX11_end 9 = .ok (.getfield 98, 3) := by decide +kernel
theorem dX11_end_12 : decode cX11_end 12 = .ok (.if_icmp .le 5, 3) := by decide +kernel
theorem dX11_end_15 : decode cX11_end 15 = .ok (.iconst (-1), 1) := by decide +kernel
theorem dX11_end_16 : decode cX11_end 16 = .ok (.ireturn, 1) := by decide +kernel
theorem dX11_end_17 : decode cX11_end 17 = .ok (.aload_n 0, 1) := by decide +kernel
theorem dX11_end_18 : decode cX11_end 18 = .ok (.getfield 10, 3) := by decide +kernel
theorem dX11_end_21 : decode cX11_end 21 = .ok (.getfield 98, 3) := by decide +kernel
theorem dX11_end_24 : decode cX11_end 24 = .ok (.istore_n 2, 1) := by decide +kernel
theorem dX11_end_25 : decode cX11_end 25 = .ok (.aload_n 0, 1) := by decide +kernel
theorem dX11_end_26 : decode cX11_end 26 = .ok (.getfield 10, 3) := by decide +kernel
theorem dX11_end_29 : decode cX11_end 29 = .ok (.iload_n 1, 1) := by decide +kernel
theorem dX11_end_30 : decode cX11_end 30 = .ok (.putfield 98, 3) := by decide +kernel
theorem dX11_end_33 : decode cX11_end 33 = .ok (.iload_n 2, 1) := by decide +kernel
theorem dX11_end_34 : decode cX11_end 34 = .ok (.ireturn, 1) := by decide +kernel
set_option maxRecDepth 20000 in
theorem ggX11_code_X0_clear : GoodIn wsX11_code wsX0_clear := goodIn_r _ [17, 18, 19, 20, 21, 22, 23, 24, 25, 26, 27, 28, 29, 30, 31, 32, 33, 34, 35, 36, 37, 38, 39, 40, 41, 42, 280, 281, 282, 283, 284, 285, 286, 287, 288, 289, 290, 291, 292, 293, 294, 301, 302, 303, 304, 305, 306, 307] (by decide +kernel) (by decide +kernel)
set_option maxRecDepth 20000 in
theorem gX11_code_X0_clear : GoodIn wsX11_code (wsV RX11 83 RX0 yX0_clear wsX0_clear) := goodIn_app (goodIn_of _ (by decide +kernel)) ggX11_code_X0_clear
set_option maxRecDepth 20000 in
theorem ggX11_code_X6_readLines : GoodIn wsX11_code wsX6_readLines := goodIn_r _ [47, 48, 49, 50, 51, 52, 53, 54, 55, 56, 57, 58, 59, 60, 61, 62, 63, 64, 65, 66, 67, 68, 69, 70, 71, 72, 73, 46, 74, 75, 76, 77, 78, 79, 80, 81, 82, 83, 84, 85, 86, 87, 88, 89, 90, 91, 92, 93, 94, 95, 96, 97, 98, 99, 100, 101, 102, 103, 104, 105, 106, 107, 108, 109, 110, 111, 112, 113, 114, 115, 116, 117, 118, 119, 120, 121, 122, 123, 124, 125, 126, 127, 128, 129, 130, 131, 132, 133, 134, 135, 136, 137, 138, 139, 140, 141, 142, 143, 144, 145, 146, 147, 148, 16, 149, 150, 151, 18, 152, 153, 154, 155, 156, 157, 158, 159, 160, 161, 162, 163, 164, 165, 166, 167, 168, 169, 170, 171, 172, 173, 174, 175, 176, 177, 178, 179, 180, 181, 182, 183, 184, 185, 186, 187, 188, 189, 190, 191, 192, 193, 194, 195, 196, 197, 198, 199, 200, 201, 202, 203, 204, 205, 206, 207, 208, 209, 210, 211, 212, 213, 214, 215, 216, 217, 218, 219, 220, 221, 222, 223, 36, 224, 225, 226, 227, 228, 38, 229, 230, 231, 232, 19, 21, 22, 233, 234, 235, 236, 272, 273, 274, 275, 276, 277, 278, 279, 280, 281, 282, 283, 284, 285, 286, 287, 288, 289, 290, 291, 292, 293, 294, 301, 302, 303, 304, 305, 306, 307] (by decide +kernel) (by decide +kernel)
set_option maxRecDepth 20000 in
theorem gX11_code_X6_readLines : GoodIn wsX11_code (wsV RX11 102 RX6 yX6_readLines wsX6_readLines) := goodIn_app (goodIn_of _ (by decide +kernel)) ggX11_code_X6_readLines
set_option maxRecDepth 20000 in
theorem ggX11_code_X2_startWith : GoodIn wsX11_code wsX2_startWith := goodIn_r _ [241, 242, 243, 244, 245, 40, 41, 42, 246, 247, 248, 240, 249, 250, 251, 252, 253, 254, 64, 56, 65, 255, 256, 257, 295, 296, 297, 298, 299, 300] (by decide +kernel) (by decide +kernel)
set_option maxRecDepth 20000 in
theorem gX11_code_X2_startWith : GoodIn wsX11_code (wsV RX11 90 RX2 yX2_startWith wsX2_startWith) := goodIn_app (goodIn_of _ (by decide +kernel)) ggX11_code_X2_startWith
theorem dX11_code_0 : decode cX11_code 0 = .ok (.aload_n 0, 1) := by decide +kernel
theorem dX11_code_1 : decode cX11_code 1 = .ok (.getfield 79, 3) := by decide +kernel
theorem dX11_code_4 : decode cX11_code 4 = .ok (.invokevirtual 83, 3) := by decide +kernel
theorem dX11_code_7 : decode cX11_code 7 = .ok (.aload_n 0, 1) := by decide +kernel
theorem dX11_code_8 : decode cX11_code 8 = .ok (.getfield 19, 3) := by decide +kernel
theorem dX11_code_11 : decode cX11_code 11 = .ok (.aload_n 0, 1) := by decide +kernel
theorem dX11_code_12 : decode cX11_code 12 = .ok (.getfield 10, 3) := by decide +kernel
theorem dX11_code_15 : decode cX11_code 15 = .ok (.aload_n 0, 1) := by decide +kernel
theorem dX11_code_16 : decode cX11_code 16 = .ok (.getfield 79, 3) := by decide +kernel
theorem dX11_code_19 : decode cX11_code 19 = .ok (.invokevirtual 102, 3) := by decide +kernel
theorem dX11_code_22 : decode cX11_code 22 = .ok (.istore_n 1, 1) := by decide +kernel
theorem dX11_code_23 : decode cX11_code 23 = .ok (.aload_n 0, 1) := by decide +kernel
theorem dX11_code_24 : decode cX11_code 24 = .ok (.aload_n 0, 1) := by decide +kernel
theorem dX11_code_25 : decode cX11_code 25 = .ok (.getfield 19, 3) := by decide +kernel
theorem dX11_code_28 : decode cX11_code 28 = .ok (.getfield 106, 3) := by decide +kernel
theorem dX11_code_31 : decode cX11_code 31 = .ok (.putfield 109, 3) := by decide +kernel
theorem dX11_code_34 : decode cX11_code 34 = .ok (.aload_n 0, 1) := by decide +kernel
theorem dX11_code_35 : decode cX11_code 35 = .ok (.getfield 10, 3) := by decide +kernel
theorem dX11_code_38 : decode cX11_code 38 = .ok (.iconst 0, 1) := by decide +kernel
theorem dX11_code_39 : decode cX11_code 39 = .ok (.putfield 98, 3) := by decide +kernel
theorem dX11_code_42 : decode cX11_code 42 = .ok (.aload_n 0, 1) := by decide +kernel
theorem dX11_code_43 : decode cX11_code 43 = .ok (.getfield 19, 3) := by decide +kernel
theorem dX11_code_46 : decode cX11_code 46 = .ok (.getfield 106, 3) := by decide +kernel
theorem dX11_code_49 : decode cX11_code 49 = .ok (.ifCond .eq 14, 3) := by decide +kernel
theorem dX11_code_52 : decode cX11_code 52 = .ok (.bipush (-10), 2) := by decide +kernel
theorem dX11_code_54 : decode cX11_code 54 = .ok (.aload_n 0, 1) := by decide +kernel
theorem dX11_code_55 : decode cX11_code 55 = .ok (.getfield 19, 3) := by decide +kernel
theorem dX11_code_58 : decode cX11_code 58 = .ok (.getfield 112, 3) := by decide +kernel
theorem dX11_code_61 : decode cX11_code 61 = .ok (.isub, 1) := by decide +kernel
theorem dX11_code_62 : decode cX11_code 62 = .ok (.ireturn, 1) := by decide +kernel
theorem dX11_code_63 : decode cX11_code 63 = .ok (.aload_n 0, 1) := by decide +kernel
theorem dX11_code_64 : decode cX11_code 64 = .ok (.getfield 75, 3) := by decide +kernel
theorem dX11_code_67 : decode cX11_code 67 = .ok (.astore_n 2, 1) := by decide +kernel
theorem dX11_code_68 : decode cX11_code 68 = .ok (.aload_n 0, 1) := by decide +kernel
theorem dX11_code_69 : decode cX11_code 69 = .ok (.aload_n 0, 1) := by decide +kernel
theorem dX11_code_70 : decode cX11_code 70 = .ok (.getfield 79, 3) := by decide +kernel
theorem dX11_code_73 : decode cX11_code 73 = .ok (.putfield 75, 3) := by decide +kernel
theorem dX11_code_76 : decode cX11_code 76 = .ok (.aload_n 0, 1) := by decide +kernel
theorem dX11_code_77 : decode cX11_code 77 = .ok (.aload_n 2, 1) := by decide +kernel
theorem dX11_code_78 : decode cX11_code 78 = .ok (.putfield 79, 3) := by decide +kernel
theorem dX11_code_81 : decode cX11_code 81 = .ok (.aload_n 0, 1) := by decide +kernel
theorem dX11_code_82 : decode cX11_code 82 = .ok (.getfield 26, 3) := by decide +kernel
theorem dX11_code_85 : decode cX11_code 85 = .ok (.aload_n 0, 1) := by decide +kernel
theorem dX11_code_86 : decode cX11_code 86 = .ok (.getfield 75, 3) := by decide +kernel
theorem dX11_code_89 : decode cX11_code 89 = .ok (.getfield 86, 3) := by decide +kernel
theorem dX11_code_92 : decode cX11_code 92 = .ok (.invokevirtual 90, 3) := by decide +kernel
theorem dX11_code_95 : decode cX11_code 95 = .ok (.iconst 0, 1) := by decide +kernel
theorem dX11_code_96 : decode cX11_code 96 = .ok (.istore_n 3, 1) := by decide +kernel
theorem dX11_code_97 : decode cX11_code 97 = .ok (.iload_n 3, 1) := by decide +kernel
theorem dX11_code_98 : decode cX11_code 98 = .ok (.iconst 2, 1) := by decide +kernel
theorem dX11_code_99 : decode cX11_code 99 = .ok (.if_icmp .ge 19, 3) := by decide +kernel
theorem dX11_code_102 : decode cX11_code 102 = .ok (.aload_n 0, 1) := by decide +kernel
theorem dX11_code_103 : decode cX11_code 103 = .ok (.getfield 30, 3) := by decide +kernel
theorem dX11_code_106 : decode cX11_code 106 = .ok (.iload_n 3, 1) := by decide +kernel
theorem dX11_code_107 : decode cX11_code 107 = .ok (.aaload, 1) := by decide +kernel
theorem dX11_code_108 : decode cX11_code 108 = .ok (.iconst 0, 1) := by decide +kernel
theorem dX11_code_109 : decode cX11_code 109 = .ok (.putfield 115, 3) := by decide +kernel
theorem dX11_code_112 : decode cX11_code 112 = .ok (.iinc 3 1, 3) := by decide +kernel
theorem dX11_code_115 : decode cX11_code 115 = .ok (.goto (-18), 3) := by decide +kernel
theorem dX11_code_118 : decode cX11_code 118 = .ok (.iload_n 1, 1) := by decide +kernel
theorem dX11_code_119 : decode cX11_code 119 = .ok (.ireturn, 1) := by decide +kernel
theorem dX11_fault_0 : decode cX11_fault 0 = .ok (.aload_n 0, 1) := by decide +kernel
theorem dX11_fault_1 : decode cX11_fault 1 = .ok (.getfield 109, 3) := by decide +kernel
theorem dX11_fault_4 : decode cX11_fault 4 = .ok (.ireturn, 1) := by decide +kernel
theorem dX11_told_0 : decode cX11_told 0 = .ok (.iload_n 1, 1) := by decide +kernel
theorem dX11_told_1 : decode cX11_told 1 = .ok (.tableswitch 117 0 7 #[47, 58, 69, 77, 85, 93, 101, 109], 47) := by decide +kernel
theorem dX11_told_48 : decode cX11_told 48 = .ok (.aload_n 0, 1) := by decide +kernel
theorem dX11_told_49 : decode cX11_told 49 = .ok (.getfield 75, 3) := by decide +kernel
theorem dX11_told_52 : decode cX11_told 52 = .ok (.getfield 119, 3) := by decide +kernel
theorem dX11_told_55 : decode cX11_told 55 = .ok (.getfield 123, 3) := by decide +kernel
theorem dX11_told_58 : decode cX11_told 58 = .ok (.ireturn, 1) := by decide +kernel
theorem dX11_told_59 : decode cX11_told 59 = .ok (.aload_n 0, 1) := by decide +kernel
theorem dX11_told_60 : decode cX11_told 60 = .ok (.getfield 75, 3) := by decide +kernel
theorem dX11_told_63 : decode cX11_told 63 = .ok (.getfield 126, 3) := by decide +kernel
theorem dX11_told_66 : decode cX11_told 66 = .ok (.getfield 123, 3) := by decide +kernel
theorem dX11_told_69 : decode cX11_told 69 = .ok (.ireturn, 1) := by decide +kernel
theorem dX11_told_70 : decode cX11_told 70 = .ok (.aload_n 0, 1) := by decide +kernel
theorem dX11_told_71 : decode cX11_told 71 = .ok (.getfield 75, 3) := by decide +kernel
theorem dX11_told_74 : decode cX11_told 74 = .ok (.getfield 129, 3) := by decide +kernel
theorem dX11_told_77 : decode cX11_told 77 = .ok (.ireturn, 1) := by decide +kernel
theorem dX11_told_78 : decode cX11_told 78 = .ok (.aload_n 0, 1) := by decide +kernel
theorem dX11_told_79 : decode cX11_told 79 = .ok (.getfield 75, 3) := by decide +kernel
theorem dX11_told_82 : decode cX11_told 82 = .ok (.getfield 132, 3) := by decide +kernel
theorem dX11_told_85 : decode cX11_told 85 = .ok (.ireturn, 1) := by decide +kernel
theorem dX11_told_86 : decode cX11_told 86 = .ok (.aload_n 0, 1) := by decide +kernel
theorem dX11_told_87 : decode cX11_told 87 = .ok (.getfield 75, 3) := by decide +kernel
theorem dX11_told_90 : decode cX11_told 90 = .ok (.getfield 135, 3) := by decide +kernel
theorem dX11_told_93 : decode cX11_told 93 = .ok (.ireturn, 1) := by decide +kernel
theorem dX11_told_94 : decode cX11_told 94 = .ok (.aload_n 0, 1) := by decide +kernel
theorem dX11_told_95 : decode cX11_told 95 = .ok (.getfield 75, 3) := by decide +kernel
theorem dX11_told_98 : decode cX11_told 98 = .ok (.getfield 138, 3) := by decide +kernel
theorem dX11_told_101 : decode cX11_told 101 = .ok (.ireturn, 1) := by decide +kernel
theorem dX11_told_102 : decode cX11_told 102 = .ok (.aload_n 0, 1) := by decide +kernel
theorem dX11_told_103 : decode cX11_told 103 = .ok (.getfield 75, 3) := by decide +kernel
theorem dX11_told_106 : decode cX11_told 106 = .ok (.getfield 141, 3) := by decide +kernel
theorem dX11_told_109 : decode cX11_told 109 = .ok (.ireturn, 1) := by decide +kernel
theorem dX11_told_110 : decode cX11_told 110 = .ok (.aload_n 0, 1) := by decide +kernel
theorem dX11_told_111 : decode cX11_told 111 = .ok (.getfield 75, 3) := by decide +kernel
theorem dX11_told_114 : decode cX11_told 114 = .ok (.getfield 144, 3) := by decide +kernel
theorem dX11_told_117 : decode cX11_told 117 = .ok (.ireturn, 1) := by decide +kernel
theorem dX11_told_118 : decode cX11_told 118 = .ok (.iconst (-1), 1) := by decide +kernel
theorem dX11_told_119 : decode cX11_told 119 = .ok (.ireturn, 1) := by decide +kernel
set_option maxRecDepth 20000 in
theorem ggX11_table_X11_isPlace : GoodIn wsX11_table wsX11_isPlace := goodIn_r _ [6] (by decide +kernel) (by decide +kernel)
set_option maxRecDepth 20000 in
theorem gX11_table_X11_isPlace : GoodIn wsX11_table (va_wsS RX11 147 yX11_isPlace wsX11_isPlace) := goodIn_app (goodIn_of _ (by decide +kernel)) ggX11_table_X11_isPlace
theorem dX11_table_0 : decode cX11_table 0 = .ok (.iload_n 1, 1) := by decide +kernel
theorem dX11_table_1 : decode cX11_table 1 = .ok (.invokestatic 147, 3) := by decide +kernel
theorem dX11_table_4 : decode cX11_table 4 = .ok (.ifCond .eq 15, 3) := by decide +kernel
theorem dX11_table_7 : decode cX11_table 7 = .ok (.aload_n 0, 1) := by decide +kernel
theorem dX11_table_8 : decode cX11_table 8 = .ok (.getfield 26, 3) := by decide +kernel
theorem dX11_table_11 : decode cX11_table 11 = .ok (.getfield 151, 3) := by decide +kernel
theorem dX11_table_14 : decode cX11_table 14 = .ok (.iload_n 1, 1) := by decide +kernel
theorem dX11_table_15 : decode cX11_table 15 = .ok (.baload, 1) := by decide +kernel
theorem dX11_table_16 : decode cX11_table 16 = .ok (.goto 4, 3) := by decide +kernel
theorem dX11_table_19 : decode cX11_table 19 = .ok (.iconst (-1), 1) := by decide +kernel
theorem dX11_table_20 : decode cX11_table 20 = .ok (.ireturn, 1) := by decide +kernel
set_option maxRecDepth 20000 in
theorem ggX11_place_X2_placeOf : GoodIn wsX11_place wsX2_placeOf := goodIn_r _ [6, 7, 8, 9, 10, 11, 26, 27, 28, 29, 30, 31] (by decide +kernel) (by decide +kernel)
set_option maxRecDepth 20000 in
theorem gX11_place_X2_placeOf : GoodIn wsX11_place (wsV RX11 152 RX2 yX2_placeOf wsX2_placeOf) := goodIn_app (goodIn_of _ (by decide +kernel)) ggX11_place_X2_placeOf
theorem dX11_place_0 : decode cX11_place 0 = .ok (.iload_n 1, 1) := by decide +kernel
theorem dX11_place_1 : decode cX11_place 1 = .ok (.bipush 97, 2) := by decide +kernel
theorem dX11_place_3 : decode cX11_place 3 = .ok (.if_icmp .lt 9, 3) := by decide +kernel
theorem dX11_place_6 : decode cX11_place 6 = .ok (.iload_n 1, 1) := by decide +kernel
theorem dX11_place_7 : decode cX11_place 7 = .ok (.bipush 122, 2) := by decide +kernel
theorem dX11_place_9 : decode cX11_place 9 = .ok (.if_icmp .le 5, 3) := by decide +kernel
theorem dX11_place_12 : decode cX11_place 12 = .ok (.iconst (-1), 1) := by decide +kernel
theorem dX11_place_13 : decode cX11_place 13 = .ok (.ireturn, 1) := by decide +kernel
theorem dX11_place_14 : decode cX11_place 14 = .ok (.aload_n 0, 1) := by decide +kernel
theorem dX11_place_15 : decode cX11_place 15 = .ok (.getfield 26, 3) := by decide +kernel
theorem dX11_place_18 : decode cX11_place 18 = .ok (.iload_n 1, 1) := by decide +kernel
theorem dX11_place_19 : decode cX11_place 19 = .ok (.invokevirtual 152, 3) := by decide +kernel
theorem dX11_place_22 : decode cX11_place 22 = .ok (.istore_n 2, 1) := by decide +kernel
theorem dX11_place_23 : decode cX11_place 23 = .ok (.iload_n 2, 1) := by decide +kernel
theorem dX11_place_24 : decode cX11_place 24 = .ok (.ifCond .ge 8, 3) := by decide +kernel
theorem dX11_place_27 : decode cX11_place 27 = .ok (.bipush (-4), 2) := by decide +kernel
theorem dX11_place_29 : decode cX11_place 29 = .ok (.goto 4, 3) := by decide +kernel
theorem dX11_place_32 : decode cX11_place 32 = .ok (.iload_n 2, 1) := by decide +kernel
theorem dX11_place_33 : decode cX11_place 33 = .ok (.ireturn, 1) := by decide +kernel
set_option maxRecDepth 20000 in
theorem ggX11_word_X11_isWord : GoodIn wsX11_word wsX11_isWord := goodIn_r _ [9, 1, 2, 10, 45, 46, 47, 48, 49, 50, 51, 52, 53, 54, 55, 56, 57, 58, 59, 60, 61, 62, 63, 64, 65, 66, 67, 68, 69, 70, 71, 72, 73, 74, 75, 76, 77, 78, 79] (by decide +kernel) (by decide +kernel)
set_option maxRecDepth 20000 in
theorem gX11_word_X11_isWord : GoodIn wsX11_word (wsV RX11 156 RX11 yX11_isWord wsX11_isWord) := goodIn_app (goodIn_of _ (by decide +kernel)) ggX11_word_X11_isWord
set_option maxRecDepth 20000 in
theorem ggX11_word_X4_lengthOf : GoodIn wsX11_word wsX4_lengthOf := goodIn_r _ [15, 16, 17, 74, 75, 76, 77, 78, 79] (by decide +kernel) (by decide +kernel)
set_option maxRecDepth 20000 in
theorem gX11_word_X4_lengthOf : GoodIn wsX11_word (wsV RX11 159 RX4 yX4_lengthOf wsX4_lengthOf) := goodIn_app (goodIn_of _ (by decide +kernel)) ggX11_word_X4_lengthOf
set_option maxRecDepth 20000 in
theorem ggX11_word_X2_knocksOfName : GoodIn wsX11_word wsX2_knocksOfName := goodIn_r _ [22, 23, 12, 13, 14, 15, 16, 17, 24, 25, 26, 27, 28, 29, 30, 31, 32, 33, 21, 34, 35, 36, 37, 38, 39, 40, 41, 42, 43, 74, 75, 76, 77, 78, 79, 80, 81, 82, 83, 84, 85] (by decide +kernel) (by decide +kernel)
set_option maxRecDepth 20000 in
theorem gX11_word_X2_knocksOfName : GoodIn wsX11_word (wsV RX11 165 RX2 yX2_knocksOfName wsX2_knocksOfName) := goodIn_app (goodIn_of _ (by decide +kernel)) ggX11_word_X2_knocksOfName
set_option maxRecDepth 20000 in
theorem ggX11_word_X4_letterAt : GoodIn wsX11_word wsX4_letterAt := goodIn_r _ [27, 28, 29, 30, 12, 13, 14, 15, 16, 17, 74, 75, 76, 77, 78, 79] (by decide +kernel) (by decide +kernel)
set_option maxRecDepth 20000 in
theorem gX11_word_X4_letterAt : GoodIn wsX11_word (wsV RX11 169 RX4 yX4_letterAt wsX4_letterAt) := goodIn_app (goodIn_of _ (by decide +kernel)) ggX11_word_X4_letterAt
theorem dX11_word_0 : decode cX11_word 0 = .ok (.aload_n 0, 1) := by decide +kernel
theorem dX11_word_1 : decode cX11_word 1 = .ok (.iload_n 1, 1) := by decide +kernel
theorem dX11_word_2 : decode cX11_word 2 = .ok (.invokevirtual 156, 3) := by decide +kernel
theorem dX11_word_5 : decode cX11_word 5 = .ok (.ifCond .ne 5, 3) := by decide +kernel
theorem dX11_word_8 : decode cX11_word 8 = .ok (.iconst (-1), 1) := by decide +kernel
theorem dX11_word_9 : decode cX11_word 9 = .ok (.ireturn, 1) := by decide +kernel
theorem dX11_word_10 : decode cX11_word 10 = .ok (.aload_n 0, 1) := by decide +kernel
theorem dX11_word_11 : decode cX11_word 11 = .ok (.getfield 75, 3) := by decide +kernel
theorem dX11_word_14 : decode cX11_word 14 = .ok (.getfield 119, 3) := by decide +kernel
theorem dX11_word_17 : decode cX11_word 17 = .ok (.iload_n 1, 1) := by decide +kernel
theorem dX11_word_18 : decode cX11_word 18 = .ok (.invokevirtual 159, 3) := by decide +kernel
theorem dX11_word_21 : decode cX11_word 21 = .ok (.istore_n 3, 1) := by decide +kernel
theorem dX11_word_22 : decode cX11_word 22 = .ok (.iload_n 2, 1) := by decide +kernel
theorem dX11_word_23 : decode cX11_word 23 = .ok (.tableswitch 53 0 2 #[25, 27, 37], 25) := by decide +kernel
theorem dX11_word_48 : decode cX11_word 48 = .ok (.iload_n 3, 1) := by decide +kernel
theorem dX11_word_49 : decode cX11_word 49 = .ok (.ireturn, 1) := by decide +kernel
theorem dX11_word_50 : decode cX11_word 50 = .ok (.aload_n 0, 1) := by decide +kernel
theorem dX11_word_51 : decode cX11_word 51 = .ok (.getfield 75, 3) := by decide +kernel
theorem dX11_word_54 : decode cX11_word 54 = .ok (.getfield 162, 3) := by decide +kernel
theorem dX11_word_57 : decode cX11_word 57 = .ok (.iload_n 1, 1) := by decide +kernel
theorem dX11_word_58 : decode cX11_word 58 = .ok (.iaload, 1) := by decide +kernel
theorem dX11_word_59 : decode cX11_word 59 = .ok (.ireturn, 1) := by decide +kernel
theorem dX11_word_60 : decode cX11_word 60 = .ok (.aload_n 0, 1) := by decide +kernel
theorem dX11_word_61 : decode cX11_word 61 = .ok (.getfield 26, 3) := by decide +kernel
theorem dX11_word_64 : decode cX11_word 64 = .ok (.aload_n 0, 1) := by decide +kernel
theorem dX11_word_65 : decode cX11_word 65 = .ok (.getfield 75, 3) := by decide +kernel
theorem dX11_word_68 : decode cX11_word 68 = .ok (.getfield 119, 3) := by decide +kernel
theorem dX11_word_71 : decode cX11_word 71 = .ok (.iload_n 1, 1) := by decide +kernel
theorem dX11_word_72 : decode cX11_word 72 = .ok (.invokevirtual 165, 3) := by decide +kernel
theorem dX11_word_75 : decode cX11_word 75 = .ok (.ireturn, 1) := by decide +kernel
theorem dX11_word_76 : decode cX11_word 76 = .ok (.iload_n 2, 1) := by decide +kernel
theorem dX11_word_77 : decode cX11_word 77 = .ok (.bipush 10, 2) := by decide +kernel
theorem dX11_word_79 : decode cX11_word 79 = .ok (.if_icmp .lt 29, 3) := by decide +kernel
theorem dX11_word_82 : decode cX11_word 82 = .ok (.iload_n 2, 1) := by decide +kernel
theorem dX11_word_83 : decode cX11_word 83 = .ok (.bipush 10, 2) := by decide +kernel
theorem dX11_word_85 : decode cX11_word 85 = .ok (.isub, 1) := by decide +kernel
theorem dX11_word_86 : decode cX11_word 86 = .ok (.iload_n 3, 1) := by decide +kernel
theorem dX11_word_87 : decode cX11_word 87 = .ok (.if_icmp .ge 21, 3) := by decide +kernel
theorem dX11_word_90 : decode cX11_word 90 = .ok (.aload_n 0, 1) := by decide +kernel
theorem dX11_word_91 : decode cX11_word 91 = .ok (.getfield 75, 3) := by decide +kernel
theorem dX11_word_94 : decode cX11_word 94 = .ok (.getfield 119, 3) := by decide +kernel
theorem dX11_word_97 : decode cX11_word 97 = .ok (.iload_n 1, 1) := by decide +kernel
theorem dX11_word_98 : decode cX11_word 98 = .ok (.iload_n 2, 1) := by decide +kernel
theorem dX11_word_99 : decode cX11_word 99 = .ok (.bipush 10, 2) := by decide +kernel
theorem dX11_word_101 : decode cX11_word 101 = .ok (.isub, 1) := by decide +kernel
theorem dX11_word_102 : decode cX11_word 102 = .ok (.invokevirtual 169, 3) := by decide +kernel
theorem dX11_word_105 : decode cX11_word 105 = .ok (.goto 4, 3) := by decide +kernel
theorem dX11_word_108 : decode cX11_word 108 = .ok (.iconst (-1), 1) := by decide +kernel
theorem dX11_word_109 : decode cX11_word 109 = .ok (.ireturn, 1) := by decide +kernel
set_option maxRecDepth 20000 in
theorem ggX11_swap_X11_isPlace : GoodIn wsX11_swap wsX11_isPlace := goodIn_r _ [6] (by decide +kernel) (by decide +kernel)
set_option maxRecDepth 20000 in
theorem gX11_swap_X11_isPlace : GoodIn wsX11_swap (va_wsS RX11 147 yX11_isPlace wsX11_isPlace) := goodIn_app (goodIn_of _ (by decide +kernel)) ggX11_swap_X11_isPlace
set_option maxRecDepth 20000 in
theorem ggX11_swap_X2_put : GoodIn wsX11_swap wsX2_put := goodIn_r _ [11, 12, 13, 4, 5, 6, 14, 15, 16, 17, 32, 33, 34, 35, 36, 37] (by decide +kernel) (by decide +kernel)
set_option maxRecDepth 20000 in
theorem gX11_swap_X2_put : GoodIn wsX11_swap (wsV RX11 173 RX2 yX2_put wsX2_put) := goodIn_app (goodIn_of _ (by decide +kernel)) ggX11_swap_X2_put
theorem dX11_swap_0 : decode cX11_swap 0 = .ok (.iload_n 1, 1) := by decide +kernel
theorem dX11_swap_1 : decode cX11_swap 1 = .ok (.invokestatic 147, 3) := by decide +kernel
theorem dX11_swap_4 : decode cX11_swap 4 = .ok (.ifCond .eq 10, 3) := by decide +kernel
theorem dX11_swap_7 : decode cX11_swap 7 = .ok (.iload_n 2, 1) := by decide +kernel
theorem dX11_swap_8 : decode cX11_swap 8 = .ok (.invokestatic 147, 3) := by decide +kernel
theorem dX11_swap_11 : decode cX11_swap 11 = .ok (.ifCond .ne 5, 3) := by decide +kernel
theorem dX11_swap_14 : decode cX11_swap 14 = .ok (.iconst (-1), 1) := by decide +kernel
theorem dX11_swap_15 : decode cX11_swap 15 = .ok (.ireturn, 1) := by decide +kernel
theorem dX11_swap_16 : decode cX11_swap 16 = .ok (.iload_n 1, 1) := by decide +kernel
theorem dX11_swap_17 : decode cX11_swap 17 = .ok (.iload_n 2, 1) := by decide +kernel
theorem dX11_swap_18 : decode cX11_swap 18 = .ok (.if_icmp .ne 5, 3) := by decide +kernel
theorem dX11_swap_21 : decode cX11_swap 21 = .ok (.iconst 0, 1) := by decide +kernel
theorem dX11_swap_22 : decode cX11_swap 22 = .ok (.ireturn, 1) := by decide +kernel
theorem dX11_swap_23 : decode cX11_swap 23 = .ok (.aload_n 0, 1) := by decide +kernel
theorem dX11_swap_24 : decode cX11_swap 24 = .ok (.getfield 26, 3) := by decide +kernel
theorem dX11_swap_27 : decode cX11_swap 27 = .ok (.getfield 151, 3) := by decide +kernel
theorem dX11_swap_30 : decode cX11_swap 30 = .ok (.iload_n 1, 1) := by decide +kernel
theorem dX11_swap_31 : decode cX11_swap 31 = .ok (.baload, 1) := by decide +kernel
theorem dX11_swap_32 : decode cX11_swap 32 = .ok (.istore_n 3, 1) := by decide +kernel
theorem dX11_swap_33 : decode cX11_swap 33 = .ok (.aload_n 0, 1) := by decide +kernel
theorem dX11_swap_34 : decode cX11_swap 34 = .ok (.getfield 26, 3) := by decide +kernel
theorem dX11_swap_37 : decode cX11_swap 37 = .ok (.iload_n 1, 1) := by decide +kernel
theorem dX11_swap_38 : decode cX11_swap 38 = .ok (.aload_n 0, 1) := by decide +kernel
theorem dX11_swap_39 : decode cX11_swap 39 = .ok (.getfield 26, 3) := by decide +kernel
theorem dX11_swap_42 : decode cX11_swap 42 = .ok (.getfield 151, 3) := by decide +kernel
theorem dX11_swap_45 : decode cX11_swap 45 = .ok (.iload_n 2, 1) := by decide +kernel
theorem dX11_swap_46 : decode cX11_swap 46 = .ok (.baload, 1) := by decide +kernel
theorem dX11_swap_47 : decode cX11_swap 47 = .ok (.invokevirtual 173, 3) := by decide +kernel
theorem dX11_swap_50 : decode cX11_swap 50 = .ok (.aload_n 0, 1) := by decide +kernel
theorem dX11_swap_51 : decode cX11_swap 51 = .ok (.getfield 26, 3) := by decide +kernel
theorem dX11_swap_54 : decode cX11_swap 54 = .ok (.iload_n 2, 1) := by decide +kernel
theorem dX11_swap_55 : decode cX11_swap 55 = .ok (.iload_n 3, 1) := by decide +kernel
theorem dX11_swap_56 : decode cX11_swap 56 = .ok (.invokevirtual 173, 3) := by decide +kernel
theorem dX11_swap_59 : decode cX11_swap 59 = .ok (.iconst 1, 1) := by decide +kernel
theorem dX11_swap_60 : decode cX11_swap 60 = .ok (.ireturn, 1) := by decide +kernel
set_option maxRecDepth 20000 in
theorem ggX11_takes_X9_firstWrong : GoodIn wsX11_takes wsX9_firstWrong := goodIn_r _ [16, 17, 18, 19, 20, 21, 22, 23, 24, 25, 26, 15, 27, 109, 110, 111, 112, 113, 114, 115, 116, 117, 118, 119, 120] (by decide +kernel) (by decide +kernel)
set_option maxRecDepth 20000 in
theorem gX11_takes_X9_firstWrong : GoodIn wsX11_takes (wsV RX11 177 RX9 yX9_firstWrong wsX9_firstWrong) := goodIn_app (goodIn_of _ (by decide +kernel)) ggX11_takes_X9_firstWrong
set_option maxRecDepth 20000 in
theorem ggX11_takes_X7_measure : GoodIn wsX11_takes wsX7_measure := goodIn_r _ [32, 33, 34, 35, 36, 37, 38, 39, 40, 41, 42, 43, 44, 31, 45, 46, 47, 48, 49, 50, 51, 22, 52, 53, 20, 21, 23, 24, 25, 26, 15, 27, 54, 55, 56, 57, 58, 59, 60, 61, 62, 63, 64, 65, 66, 67, 68, 69, 70, 71, 72, 73, 74, 75, 76, 77, 78, 79, 80, 81, 82, 83, 84, 85, 86, 87, 102, 103, 104, 105, 106, 107, 108, 109, 110, 111, 112, 113, 114, 121, 122, 123, 124, 125, 126, 127, 128, 129, 130, 131, 132, 133, 134, 135, 115, 116, 117, 118, 119, 120, 136, 137, 138, 139, 140, 141] (by decide +kernel) (by decide +kernel)
set_option maxRecDepth 20000 in
theorem gX11_takes_X7_measure : GoodIn wsX11_takes (wsV RX11 181 RX7 yX7_measure wsX7_measure) := goodIn_app (goodIn_of _ (by decide +kernel)) ggX11_takes_X7_measure
theorem dX11_takes_0 : decode cX11_takes 0 = .ok (.iload_n 1, 1) := by decide +kernel
theorem dX11_takes_1 : decode cX11_takes 1 = .ok (.ifCond .lt 9, 3) := by decide +kernel
theorem dX11_takes_4 : decode cX11_takes 4 = .ok (.iload_n 1, 1) := by decide +kernel
theorem dX11_takes_5 : decode cX11_takes 5 = .ok (.bipush 6, 2) := by decide +kernel
theorem dX11_takes_7 : decode cX11_takes 7 = .ok (.if_icmp .le 5, 3) := by decide +kernel
theorem dX11_takes_10 : decode cX11_takes 10 = .ok (.iconst (-1), 1) := by decide +kernel
theorem dX11_takes_11 : decode cX11_takes 11 = .ok (.ireturn, 1) := by decide +kernel
theorem dX11_takes_12 : decode cX11_takes 12 = .ok (.aload_n 0, 1) := by decide +kernel
theorem dX11_takes_13 : decode cX11_takes 13 = .ok (.getfield 10, 3) := by decide +kernel
theorem dX11_takes_16 : decode cX11_takes 16 = .ok (.aload_n 0, 1) := by decide +kernel
theorem dX11_takes_17 : decode cX11_takes 17 = .ok (.getfield 26, 3) := by decide +kernel
theorem dX11_takes_20 : decode cX11_takes 20 = .ok (.invokevirtual 177, 3) := by decide +kernel
theorem dX11_takes_23 : decode cX11_takes 23 = .ok (.ifCond .lt 6, 3) := by decide +kernel
theorem dX11_takes_26 : decode cX11_takes 26 = .ok (.bipush (-2), 2) := by decide +kernel
theorem dX11_takes_28 : decode cX11_takes 28 = .ok (.ireturn, 1) := by decide +kernel
theorem dX11_takes_29 : decode cX11_takes 29 = .ok (.aload_n 0, 1) := by decide +kernel
theorem dX11_takes_30 : decode cX11_takes 30 = .ok (.getfield 43, 3) := by decide +kernel
theorem dX11_takes_33 : decode cX11_takes 33 = .ok (.aload_n 0, 1) := by decide +kernel
theorem dX11_takes_34 : decode cX11_takes 34 = .ok (.getfield 10, 3) := by decide +kernel
theorem dX11_takes_37 : decode cX11_takes 37 = .ok (.aload_n 0, 1) := by decide +kernel
theorem dX11_takes_38 : decode cX11_takes 38 = .ok (.getfield 75, 3) := by decide +kernel
theorem dX11_takes_41 : decode cX11_takes 41 = .ok (.aload_n 0, 1) := by decide +kernel
theorem dX11_takes_42 : decode cX11_takes 42 = .ok (.getfield 26, 3) := by decide +kernel
theorem dX11_takes_45 : decode cX11_takes 45 = .ok (.invokevirtual 181, 3) := by decide +kernel
theorem dX11_takes_48 : decode cX11_takes 48 = .ok (.iload_n 1, 1) := by decide +kernel
theorem dX11_takes_49 : decode cX11_takes 49 = .ok (.tableswitch 87 0 5 #[39, 47, 55, 63, 71, 79], 39) := by decide +kernel
theorem dX11_takes_88 : decode cX11_takes 88 = .ok (.aload_n 0, 1) := by decide +kernel
theorem dX11_takes_89 : decode cX11_takes 89 = .ok (.getfield 43, 3) := by decide +kernel
theorem dX11_takes_92 : decode cX11_takes 92 = .ok (.getfield 185, 3) := by decide +kernel
theorem dX11_takes_95 : decode cX11_takes 95 = .ok (.ireturn, 1) := by decide +kernel
theorem dX11_takes_96 : decode cX11_takes 96 = .ok (.aload_n 0, 1) := by decide +kernel
theorem dX11_takes_97 : decode cX11_takes 97 = .ok (.getfield 43, 3) := by decide +kernel
theorem dX11_takes_100 : decode cX11_takes 100 = .ok (.getfield 187, 3) := by decide +kernel
theorem dX11_takes_103 : decode cX11_takes 103 = .ok (.ireturn, 1) := by decide +kernel
theorem dX11_takes_104 : decode cX11_takes 104 = .ok (.aload_n 0, 1) := by decide +kernel
theorem dX11_takes_105 : decode cX11_takes 105 = .ok (.getfield 43, 3) := by decide +kernel
theorem dX11_takes_108 : decode cX11_takes 108 = .ok (.getfield 190, 3) := by decide +kernel
theorem dX11_takes_111 : decode cX11_takes 111 = .ok (.ireturn, 1) := by decide +kernel
theorem dX11_takes_112 : decode cX11_takes 112 = .ok (.aload_n 0, 1) := by decide +kernel
theorem dX11_takes_113 : decode cX11_takes 113 = .ok (.getfield 43, 3) := by decide +kernel
theorem dX11_takes_116 : decode cX11_takes 116 = .ok (.getfield 193, 3) := by decide +kernel
theorem dX11_takes_119 : decode cX11_takes 119 = .ok (.ireturn, 1) := by decide +kernel
theorem dX11_takes_120 : decode cX11_takes 120 = .ok (.aload_n 0, 1) := by decide +kernel
theorem dX11_takes_121 : decode cX11_takes 121 = .ok (.getfield 43, 3) := by decide +kernel
theorem dX11_takes_124 : decode cX11_takes 124 = .ok (.getfield 196, 3) := by decide +kernel
theorem dX11_takes_127 : decode cX11_takes 127 = .ok (.ireturn, 1) := by decide +kernel
theorem dX11_takes_128 : decode cX11_takes 128 = .ok (.aload_n 0, 1) := by decide +kernel
theorem dX11_takes_129 : decode cX11_takes 129 = .ok (.getfield 43, 3) := by decide +kernel
theorem dX11_takes_132 : decode cX11_takes 132 = .ok (.getfield 199, 3) := by decide +kernel
theorem dX11_takes_135 : decode cX11_takes 135 = .ok (.ireturn, 1) := by decide +kernel
theorem dX11_takes_136 : decode cX11_takes 136 = .ok (.aload_n 0, 1) := by decide +kernel
theorem dX11_takes_137 : decode cX11_takes 137 = .ok (.getfield 43, 3) := by decide +kernel
theorem dX11_takes_140 : decode cX11_takes 140 = .ok (.getfield 202, 3) := by decide +kernel
theorem dX11_takes_143 : decode cX11_takes 143 = .ok (.ireturn, 1) := by decide +kernel
set_option maxRecDepth 20000 in
theorem ggX11_wrong_X9_firstWrong : GoodIn wsX11_wrong wsX9_firstWrong := goodIn_r _ [7, 8, 9, 10, 11, 12, 13, 14, 15, 16, 17, 6, 18, 33, 34, 35, 36, 37, 38, 39, 40, 41, 42, 43, 44] (by decide +kernel) (by decide +kernel)
set_option maxRecDepth 20000 in
theorem gX11_wrong_X9_firstWrong : GoodIn wsX11_wrong (wsV RX11 177 RX9 yX9_firstWrong wsX9_firstWrong) := goodIn_app (goodIn_of _ (by decide +kernel)) ggX11_wrong_X9_firstWrong
theorem dX11_wrong_0 : decode cX11_wrong 0 = .ok (.aload_n 0, 1) := by decide +kernel
theorem dX11_wrong_1 : decode cX11_wrong 1 = .ok (.getfield 10, 3) := by decide +kernel
theorem dX11_wrong_4 : decode cX11_wrong 4 = .ok (.aload_n 0, 1) := by decide +kernel
theorem dX11_wrong_5 : decode cX11_wrong 5 = .ok (.getfield 26, 3) := by decide +kernel
theorem dX11_wrong_8 : decode cX11_wrong 8 = .ok (.invokevirtual 177, 3) := by decide +kernel
theorem dX11_wrong_11 : decode cX11_wrong 11 = .ok (.istore_n 1, 1) := by decide +kernel
theorem dX11_wrong_12 : decode cX11_wrong 12 = .ok (.iload_n 1, 1) := by decide +kernel
theorem dX11_wrong_13 : decode cX11_wrong 13 = .ok (.ifCond .ge 8, 3) := by decide +kernel
theorem dX11_wrong_16 : decode cX11_wrong 16 = .ok (.bipush (-4), 2) := by decide +kernel
theorem dX11_wrong_18 : decode cX11_wrong 18 = .ok (.goto 4, 3) := by decide +kernel
theorem dX11_wrong_21 : decode cX11_wrong 21 = .ok (.iload_n 1, 1) := by decide +kernel
theorem dX11_wrong_22 : decode cX11_wrong 22 = .ok (.ireturn, 1) := by decide +kernel
set_option maxRecDepth 20000 in
theorem ggX11_mean_X10_learn : GoodIn wsX11_mean wsX10_learn := goodIn_r _ [10, 11, 12, 13, 14, 15, 16, 17, 18, 19, 20, 21, 22, 23, 24, 25, 26, 27, 28, 29, 30, 31, 32, 33, 34, 35, 36, 37, 9, 38, 39, 40, 41, 42, 43, 44, 45, 46, 47, 48, 49, 50, 51, 52, 53, 54, 55, 56, 57, 82, 83, 84, 85, 86, 87, 88, 89, 90, 91, 92, 93, 94, 95, 96, 97, 98, 99, 100, 101, 102, 103, 104, 105, 76, 77, 78, 79, 80, 81] (by decide +kernel) (by decide +kernel)
set_option maxRecDepth 20000 in
theorem gX11_mean_X10_learn : GoodIn wsX11_mean (wsV RX11 205 RX10 yX10_learn wsX10_learn) := goodIn_app (goodIn_of _ (by decide +kernel)) ggX11_mean_X10_learn
set_option maxRecDepth 20000 in
theorem ggX11_mean_X10_meanBy : GoodIn wsX11_mean wsX10_meanBy := goodIn_r _ [61, 54, 55, 56, 9, 57, 11, 39, 40, 41, 42, 82, 83, 84] (by decide +kernel) (by decide +kernel)
set_option maxRecDepth 20000 in
theorem gX11_mean_X10_meanBy : GoodIn wsX11_mean (wsV RX11 209 RX10 yX10_meanBy wsX10_meanBy) := goodIn_app (goodIn_of _ (by decide +kernel)) ggX11_mean_X10_meanBy
theorem dX11_mean_0 : decode cX11_mean 0 = .ok (.iload_n 1, 1) := by decide +kernel
theorem dX11_mean_1 : decode cX11_mean 1 = .ok (.ifCond .eq 10, 3) := by decide +kernel
theorem dX11_mean_4 : decode cX11_mean 4 = .ok (.iload_n 1, 1) := by decide +kernel
theorem dX11_mean_5 : decode cX11_mean 5 = .ok (.iconst 1, 1) := by decide +kernel
theorem dX11_mean_6 : decode cX11_mean 6 = .ok (.if_icmp .eq 5, 3) := by decide +kernel
theorem dX11_mean_9 : decode cX11_mean 9 = .ok (.iconst (-1), 1) := by decide +kernel
theorem dX11_mean_10 : decode cX11_mean 10 = .ok (.ireturn, 1) := by decide +kernel
theorem dX11_mean_11 : decode cX11_mean 11 = .ok (.aload_n 0, 1) := by decide +kernel
theorem dX11_mean_12 : decode cX11_mean 12 = .ok (.getfield 50, 3) := by decide +kernel
theorem dX11_mean_15 : decode cX11_mean 15 = .ok (.aload_n 0, 1) := by decide +kernel
theorem dX11_mean_16 : decode cX11_mean 16 = .ok (.getfield 75, 3) := by decide +kernel
theorem dX11_mean_19 : decode cX11_mean 19 = .ok (.aload_n 0, 1) := by decide +kernel
theorem dX11_mean_20 : decode cX11_mean 20 = .ok (.getfield 26, 3) := by decide +kernel
theorem dX11_mean_23 : decode cX11_mean 23 = .ok (.invokevirtual 205, 3) := by decide +kernel
theorem dX11_mean_26 : decode cX11_mean 26 = .ok (.iload_n 1, 1) := by decide +kernel
theorem dX11_mean_27 : decode cX11_mean 27 = .ok (.ifCond .ne 20, 3) := by decide +kernel
theorem dX11_mean_30 : decode cX11_mean 30 = .ok (.aload_n 0, 1) := by decide +kernel
theorem dX11_mean_31 : decode cX11_mean 31 = .ok (.getfield 50, 3) := by decide +kernel
theorem dX11_mean_34 : decode cX11_mean 34 = .ok (.aload_n 0, 1) := by decide +kernel
theorem dX11_mean_35 : decode cX11_mean 35 = .ok (.getfield 26, 3) := by decide +kernel
theorem dX11_mean_38 : decode cX11_mean 38 = .ok (.getfield 151, 3) := by decide +kernel
theorem dX11_mean_41 : decode cX11_mean 41 = .ok (.invokevirtual 209, 3) := by decide +kernel
theorem dX11_mean_44 : decode cX11_mean 44 = .ok (.goto 17, 3) := by decide +kernel
theorem dX11_mean_47 : decode cX11_mean 47 = .ok (.aload_n 0, 1) := by decide +kernel
theorem dX11_mean_48 : decode cX11_mean 48 = .ok (.getfield 50, 3) := by decide +kernel
theorem dX11_mean_51 : decode cX11_mean 51 = .ok (.aload_n 0, 1) := by decide +kernel
theorem dX11_mean_52 : decode cX11_mean 52 = .ok (.getfield 50, 3) := by decide +kernel
theorem dX11_mean_55 : decode cX11_mean 55 = .ok (.getfield 213, 3) := by decide +kernel
theorem dX11_mean_58 : decode cX11_mean 58 = .ok (.invokevirtual 209, 3) := by decide +kernel
theorem dX11_mean_61 : decode cX11_mean 61 = .ok (.ireturn, 1) := by decide +kernel
set_option maxRecDepth 20000 in
theorem ggX11_best_X11_isPlace : GoodIn wsX11_best wsX11_isPlace := goodIn_r _ [8] (by decide +kernel) (by decide +kernel)
set_option maxRecDepth 20000 in
theorem gX11_best_X11_isPlace : GoodIn wsX11_best (va_wsS RX11 147 yX11_isPlace wsX11_isPlace) := goodIn_app (goodIn_of _ (by decide +kernel)) ggX11_best_X11_isPlace
set_option maxRecDepth 20000 in
theorem ggX11_best_X10_learn : GoodIn wsX11_best wsX10_learn := goodIn_r _ [13, 14, 15, 16, 17, 18, 19, 20, 21, 22, 23, 24, 25, 26, 27, 28, 29, 30, 31, 32, 33, 34, 35, 36, 37, 38, 39, 40, 12, 41, 42, 43, 44, 45, 46, 47, 48, 49, 50, 51, 52, 53, 54, 55, 56, 57, 58, 59, 60, 75, 76, 77, 78, 79, 80, 81, 82, 83, 84, 85, 86, 87, 88, 89, 90, 91, 92, 93, 94, 95, 96, 97, 98, 99, 100, 101, 102, 103, 104] (by decide +kernel) (by decide +kernel)
set_option maxRecDepth 20000 in
theorem gX11_best_X10_learn : GoodIn wsX11_best (wsV RX11 205 RX10 yX10_learn wsX10_learn) := goodIn_app (goodIn_of _ (by decide +kernel)) ggX11_best_X10_learn
theorem dX11_best_0 : decode cX11_best 0 = .ok (.iload_n 1, 1) := by decide +kernel
theorem dX11_best_1 : decode cX11_best 1 = .ok (.invokestatic 147, 3) := by decide +kernel
theorem dX11_best_4 : decode cX11_best 4 = .ok (.ifCond .ne 5, 3) := by decide +kernel
theorem dX11_best_7 : decode cX11_best 7 = .ok (.iconst (-1), 1) := by decide +kernel
theorem dX11_best_8 : decode cX11_best 8 = .ok (.ireturn, 1) := by decide +kernel
theorem dX11_best_9 : decode cX11_best 9 = .ok (.aload_n 0, 1) := by decide +kernel
theorem dX11_best_10 : decode cX11_best 10 = .ok (.getfield 50, 3) := by decide +kernel
theorem dX11_best_13 : decode cX11_best 13 = .ok (.aload_n 0, 1) := by decide +kernel
theorem dX11_best_14 : decode cX11_best 14 = .ok (.getfield 75, 3) := by decide +kernel
theorem dX11_best_17 : decode cX11_best 17 = .ok (.aload_n 0, 1) := by decide +kernel
theorem dX11_best_18 : decode cX11_best 18 = .ok (.getfield 26, 3) := by decide +kernel
theorem dX11_best_21 : decode cX11_best 21 = .ok (.invokevirtual 205, 3) := by decide +kernel
theorem dX11_best_24 : decode cX11_best 24 = .ok (.aload_n 0, 1) := by decide +kernel
theorem dX11_best_25 : decode cX11_best 25 = .ok (.getfield 50, 3) := by decide +kernel
theorem dX11_best_28 : decode cX11_best 28 = .ok (.getfield 213, 3) := by decide +kernel
theorem dX11_best_31 : decode cX11_best 31 = .ok (.iload_n 1, 1) := by decide +kernel
theorem dX11_best_32 : decode cX11_best 32 = .ok (.baload, 1) := by decide +kernel
theorem dX11_best_33 : decode cX11_best 33 = .ok (.ireturn, 1) := by decide +kernel
set_option maxRecDepth 20000 in
theorem ggX11_adopt_X10_learn : GoodIn wsX11_adopt wsX10_learn := goodIn_r _ [10, 11, 12, 13, 14, 15, 16, 17, 18, 19, 20, 21, 22, 23, 24, 25, 26, 27, 28, 29, 30, 31, 32, 33, 34, 35, 36, 37, 9, 38, 39, 40, 41, 42, 43, 44, 45, 46, 47, 48, 49, 50, 51, 52, 53, 54, 55, 56, 57, 86, 87, 88, 89, 90, 91, 92, 93, 94, 95, 96, 97, 98, 99, 100, 101, 102, 103, 104, 105, 106, 107, 108, 109, 80, 81, 82, 83, 84, 85] (by decide +kernel) (by decide +kernel)
set_option maxRecDepth 20000 in
theorem gX11_adopt_X10_learn : GoodIn wsX11_adopt (wsV RX11 205 RX10 yX10_learn wsX10_learn) := goodIn_app (goodIn_of _ (by decide +kernel)) ggX11_adopt_X10_learn
set_option maxRecDepth 20000 in
theorem ggX11_adopt_X2_put : GoodIn wsX11_adopt wsX2_put := goodIn_r _ [61, 62, 48, 63, 64, 65, 49, 40, 41, 42, 80, 81, 82, 83, 84, 85] (by decide +kernel) (by decide +kernel)
set_option maxRecDepth 20000 in
theorem gX11_adopt_X2_put : GoodIn wsX11_adopt (wsV RX11 173 RX2 yX2_put wsX2_put) := goodIn_app (goodIn_of _ (by decide +kernel)) ggX11_adopt_X2_put
theorem dX11_adopt_0 : decode cX11_adopt 0 = .ok (.aload_n 0, 1) := by decide +kernel
theorem dX11_adopt_1 : decode cX11_adopt 1 = .ok (.getfield 50, 3) := by decide +kernel
theorem dX11_adopt_4 : decode cX11_adopt 4 = .ok (.aload_n 0, 1) := by decide +kernel
theorem dX11_adopt_5 : decode cX11_adopt 5 = .ok (.getfield 75, 3) := by decide +kernel
theorem dX11_adopt_8 : decode cX11_adopt 8 = .ok (.aload_n 0, 1) := by decide +kernel
theorem dX11_adopt_9 : decode cX11_adopt 9 = .ok (.getfield 26, 3) := by decide +kernel
theorem dX11_adopt_12 : decode cX11_adopt 12 = .ok (.invokevirtual 205, 3) := by decide +kernel
theorem dX11_adopt_15 : decode cX11_adopt 15 = .ok (.iconst 0, 1) := by decide +kernel
theorem dX11_adopt_16 : decode cX11_adopt 16 = .ok (.istore_n 1, 1) := by decide +kernel
theorem dX11_adopt_17 : decode cX11_adopt 17 = .ok (.iconst 0, 1) := by decide +kernel
theorem dX11_adopt_18 : decode cX11_adopt 18 = .ok (.istore_n 2, 1) := by decide +kernel
theorem dX11_adopt_19 : decode cX11_adopt 19 = .ok (.iload_n 2, 1) := by decide +kernel
theorem dX11_adopt_20 : decode cX11_adopt 20 = .ok (.bipush 25, 2) := by decide +kernel
theorem dX11_adopt_22 : decode cX11_adopt 22 = .ok (.if_icmp .ge 33, 3) := by decide +kernel
theorem dX11_adopt_25 : decode cX11_adopt 25 = .ok (.aload_n 0, 1) := by decide +kernel
theorem dX11_adopt_26 : decode cX11_adopt 26 = .ok (.getfield 26, 3) := by decide +kernel
theorem dX11_adopt_29 : decode cX11_adopt 29 = .ok (.getfield 151, 3) := by decide +kernel
theorem dX11_adopt_32 : decode cX11_adopt 32 = .ok (.iload_n 2, 1) := by decide +kernel
theorem dX11_adopt_33 : decode cX11_adopt 33 = .ok (.baload, 1) := by decide +kernel
theorem dX11_adopt_34 : decode cX11_adopt 34 = .ok (.aload_n 0, 1) := by decide +kernel
theorem dX11_adopt_35 : decode cX11_adopt 35 = .ok (.getfield 50, 3) := by decide +kernel
theorem dX11_adopt_38 : decode cX11_adopt 38 = .ok (.getfield 213, 3) := by decide +kernel
theorem dX11_adopt_41 : decode cX11_adopt 41 = .ok (.iload_n 2, 1) := by decide +kernel
theorem dX11_adopt_42 : decode cX11_adopt 42 = .ok (.baload, 1) := by decide +kernel
theorem dX11_adopt_43 : decode cX11_adopt 43 = .ok (.if_icmp .eq 6, 3) := by decide +kernel
theorem dX11_adopt_46 : decode cX11_adopt 46 = .ok (.iinc 1 1, 3) := by decide +kernel
theorem dX11_adopt_49 : decode cX11_adopt 49 = .ok (.iinc 2 1, 3) := by decide +kernel
theorem dX11_adopt_52 : decode cX11_adopt 52 = .ok (.goto (-33), 3) := by decide +kernel
theorem dX11_adopt_55 : decode cX11_adopt 55 = .ok (.iconst 0, 1) := by decide +kernel
theorem dX11_adopt_56 : decode cX11_adopt 56 = .ok (.istore_n 2, 1) := by decide +kernel
theorem dX11_adopt_57 : decode cX11_adopt 57 = .ok (.iload_n 2, 1) := by decide +kernel
theorem dX11_adopt_58 : decode cX11_adopt 58 = .ok (.bipush 25, 2) := by decide +kernel
theorem dX11_adopt_60 : decode cX11_adopt 60 = .ok (.if_icmp .ge 26, 3) := by decide +kernel
theorem dX11_adopt_63 : decode cX11_adopt 63 = .ok (.aload_n 0, 1) := by decide +kernel
theorem dX11_adopt_64 : decode cX11_adopt 64 = .ok (.getfield 26, 3) := by decide +kernel
theorem dX11_adopt_67 : decode cX11_adopt 67 = .ok (.iload_n 2, 1) := by decide +kernel
theorem dX11_adopt_68 : decode cX11_adopt 68 = .ok (.aload_n 0, 1) := by decide +kernel
theorem dX11_adopt_69 : decode cX11_adopt 69 = .ok (.getfield 50, 3) := by decide +kernel
theorem dX11_adopt_72 : decode cX11_adopt 72 = .ok (.getfield 213, 3) := by decide +kernel
theorem dX11_adopt_75 : decode cX11_adopt 75 = .ok (.iload_n 2, 1) := by decide +kernel
theorem dX11_adopt_76 : decode cX11_adopt 76 = .ok (.baload, 1) := by decide +kernel
theorem dX11_adopt_77 : decode cX11_adopt 77 = .ok (.invokevirtual 173, 3) := by decide +kernel
theorem dX11_adopt_80 : decode cX11_adopt 80 = .ok (.iinc 2 1, 3) := by decide +kernel
theorem dX11_adopt_83 : decode cX11_adopt 83 = .ok (.goto (-26), 3) := by decide +kernel
theorem dX11_adopt_86 : decode cX11_adopt 86 = .ok (.iload_n 1, 1) := by decide +kernel
theorem dX11_adopt_87 : decode cX11_adopt 87 = .ok (.ireturn, 1) := by decide +kernel
set_option maxRecDepth 20000 in
theorem ggX11_hear_X11_isHearable : GoodIn wsX11_hear wsX11_isHearable := goodIn_r _ [7] (by decide +kernel) (by decide +kernel)
set_option maxRecDepth 20000 in
theorem gX11_hear_X11_isHearable : GoodIn wsX11_hear (va_wsS RX11 216 yX11_isHearable wsX11_isHearable) := goodIn_app (goodIn_of _ (by decide +kernel)) ggX11_hear_X11_isHearable
theorem dX11_hear_0 : decode cX11_hear 0 = .ok (.iload_n 1, 1) := by decide +kernel
theorem dX11_hear_1 : decode cX11_hear 1 = .ok (.invokestatic 216, 3) := by decide +kernel
theorem dX11_hear_4 : decode cX11_hear 4 = .ok (.ifCond .ne 5, 3) := by decide +kernel
theorem dX11_hear_7 : decode cX11_hear 7 = .ok (.iconst (-1), 1) := by decide +kernel
theorem dX11_hear_8 : decode cX11_hear 8 = .ok (.ireturn, 1) := by decide +kernel
theorem dX11_hear_9 : decode cX11_hear 9 = .ok (.aload_n 0, 1) := by decide +kernel
theorem dX11_hear_10 : decode cX11_hear 10 = .ok (.getfield 26, 3) := by decide +kernel
theorem dX11_hear_13 : decode cX11_hear 13 = .ok (.getfield 219, 3) := by decide +kernel
theorem dX11_hear_16 : decode cX11_hear 16 = .ok (.bipush 24, 2) := by decide +kernel
theorem dX11_hear_18 : decode cX11_hear 18 = .ok (.if_icmp .lt 6, 3) := by decide +kernel
theorem dX11_hear_21 : decode cX11_hear 21 = .ok (.bipush (-3), 2) := by decide +kernel
theorem dX11_hear_23 : decode cX11_hear 23 = .ok (.ireturn, 1) := by decide +kernel
theorem dX11_hear_24 : decode cX11_hear 24 = .ok (.aload_n 0, 1) := by decide +kernel
theorem dX11_hear_25 : decode cX11_hear 25 = .ok (.getfield 26, 3) := by decide +kernel
theorem dX11_hear_28 : decode cX11_hear 28 = .ok (.getfield 222, 3) := by decide +kernel
theorem dX11_hear_31 : decode cX11_hear 31 = .ok (.aload_n 0, 1) := by decide +kernel
theorem dX11_hear_32 : decode cX11_hear 32 = .ok (.getfield 26, 3) := by decide +kernel
theorem dX11_hear_35 : decode cX11_hear 35 = .ok (.getfield 219, 3) := by decide +kernel
theorem dX11_hear_38 : decode cX11_hear 38 = .ok (.iload_n 1, 1) := by decide +kernel
theorem dX11_hear_39 : decode cX11_hear 39 = .ok (.iastore, 1) := by decide +kernel
theorem dX11_hear_40 : decode cX11_hear 40 = .ok (.aload_n 0, 1) := by decide +kernel
theorem dX11_hear_41 : decode cX11_hear 41 = .ok (.getfield 26, 3) := by decide +kernel
theorem dX11_hear_44 : decode cX11_hear 44 = .ok (.dup, 1) := by decide +kernel
theorem dX11_hear_45 : decode cX11_hear 45 = .ok (.getfield 219, 3) := by decide +kernel
theorem dX11_hear_48 : decode cX11_hear 48 = .ok (.iconst 1, 1) := by decide +kernel
theorem dX11_hear_49 : decode cX11_hear 49 = .ok (.iadd, 1) := by decide +kernel
theorem dX11_hear_50 : decode cX11_hear 50 = .ok (.putfield 219, 3) := by decide +kernel
theorem dX11_hear_53 : decode cX11_hear 53 = .ok (.aload_n 0, 1) := by decide +kernel
theorem dX11_hear_54 : decode cX11_hear 54 = .ok (.getfield 26, 3) := by decide +kernel
theorem dX11_hear_57 : decode cX11_hear 57 = .ok (.getfield 219, 3) := by decide +kernel
theorem dX11_hear_60 : decode cX11_hear 60 = .ok (.ireturn, 1) := by decide +kernel
theorem dX11_hush_0 : decode cX11_hush 0 = .ok (.aload_n 0, 1) := by decide +kernel
theorem dX11_hush_1 : decode cX11_hush 1 = .ok (.getfield 26, 3) := by decide +kernel
theorem dX11_hush_4 : decode cX11_hush 4 = .ok (.getfield 219, 3) := by decide +kernel
theorem dX11_hush_7 : decode cX11_hush 7 = .ok (.istore_n 1, 1) := by decide +kernel
theorem dX11_hush_8 : decode cX11_hush 8 = .ok (.aload_n 0, 1) := by decide +kernel
theorem dX11_hush_9 : decode cX11_hush 9 = .ok (.getfield 26, 3) := by decide +kernel
theorem dX11_hush_12 : decode cX11_hush 12 = .ok (.iconst 0, 1) := by decide +kernel
theorem dX11_hush_13 : decode cX11_hush 13 = .ok (.putfield 219, 3) := by decide +kernel
theorem dX11_hush_16 : decode cX11_hush 16 = .ok (.iload_n 1, 1) := by decide +kernel
theorem dX11_hush_17 : decode cX11_hush 17 = .ok (.ireturn, 1) := by decide +kernel
theorem dX11_heard_0 : decode cX11_heard 0 = .ok (.iload_n 1, 1) := by decide +kernel
theorem dX11_heard_1 : decode cX11_heard 1 = .ok (.ifCond .lt 26, 3) := by decide +kernel
theorem dX11_heard_4 : decode cX11_heard 4 = .ok (.iload_n 1, 1) := by decide +kernel
theorem dX11_heard_5 : decode cX11_heard 5 = .ok (.aload_n 0, 1) := by decide +kernel
theorem dX11_heard_6 : decode cX11_heard 6 = .ok (.getfield 26, 3) := by decide +kernel
theorem dX11_heard_9 : decode cX11_heard 9 = .ok (.getfield 219, 3) := by decide +kernel
theorem dX11_heard_12 : decode cX11_heard 12 = .ok (.if_icmp .ge 15, 3) := by decide +kernel
theorem dX11_heard_15 : decode cX11_heard 15 = .ok (.aload_n 0, 1) := by decide +kernel
theorem dX11_heard_16 : decode cX11_heard 16 = .ok (.getfield 26, 3) := by decide +kernel
theorem dX11_heard_19 : decode cX11_heard 19 = .ok (.getfield 222, 3) := by decide +kernel
theorem dX11_heard_22 : decode cX11_heard 22 = .ok (.iload_n 1, 1) := by decide +kernel
theorem dX11_heard_23 : decode cX11_heard 23 = .ok (.iaload, 1) := by decide +kernel
theorem dX11_heard_24 : decode cX11_heard 24 = .ok (.goto 4, 3) := by decide +kernel
theorem dX11_heard_27 : decode cX11_heard 27 = .ok (.iconst (-1), 1) := by decide +kernel
theorem dX11_heard_28 : decode cX11_heard 28 = .ok (.ireturn, 1) := by decide +kernel
set_option maxRecDepth 20000 in
theorem ggX11_chance_X11_isWord : GoodIn wsX11_chance wsX11_isWord := goodIn_r _ [12, 4, 13, 14, 77, 78, 79, 80, 81, 82, 83, 84, 85, 86, 87, 88, 89, 90, 96, 97, 98, 99, 100, 101, 102, 103, 104, 105, 106, 107, 108, 109, 110, 111, 112, 113, 114, 115, 116] (by decide +kernel) (by decide +kernel)
set_option maxRecDepth 20000 in
theorem gX11_chance_X11_isWord : GoodIn wsX11_chance (wsV RX11 156 RX11 yX11_isWord wsX11_isWord) := goodIn_app (goodIn_of _ (by decide +kernel)) ggX11_chance_X11_isWord
set_option maxRecDepth 20000 in
theorem ggX11_chance_X11_isHalf : GoodIn wsX11_chance wsX11_isHalf := goodIn_r _ [17] (by decide +kernel) (by decide +kernel)
set_option maxRecDepth 20000 in
theorem gX11_chance_X11_isHalf : GoodIn wsX11_chance (va_wsS RX11 225 yX11_isHalf wsX11_isHalf) := goodIn_app (goodIn_of _ (by decide +kernel)) ggX11_chance_X11_isHalf
set_option maxRecDepth 20000 in
theorem ggX11_chance_X11_canWeigh : GoodIn wsX11_chance wsX11_canWeigh := goodIn_r _ [21, 5, 22, 77, 78, 79, 80, 81, 82, 83, 84, 85, 86, 87, 88, 89, 90, 117, 118, 119, 120, 121, 122] (by decide +kernel) (by decide +kernel)
set_option maxRecDepth 20000 in
theorem gX11_chance_X11_canWeigh : GoodIn wsX11_chance (wsV RX11 230 RX11 yX11_canWeigh wsX11_canWeigh) := goodIn_app (goodIn_of _ (by decide +kernel)) ggX11_chance_X11_canWeigh
set_option maxRecDepth 20000 in
theorem ggX11_chance_X1_weigh : GoodIn wsX11_chance wsX1_weigh := goodIn_r _ [27, 28, 29, 30, 31, 32, 33, 34, 26, 35, 36, 37, 38, 39, 40, 41, 42, 43, 44, 45, 46, 47, 48, 49, 50, 51, 52, 53, 54, 55, 56, 57, 58, 59, 60, 61, 62, 63, 64, 65, 66, 67, 68, 69, 70, 71, 72, 73, 74, 75, 76, 91, 92, 93, 94, 95, 96, 97, 98, 99, 100, 101, 102, 103, 104, 105, 106, 107, 108, 109, 110, 111, 112, 113, 114, 115, 116, 117, 118, 119, 120, 121, 122] (by decide +kernel) (by decide +kernel)
set_option maxRecDepth 20000 in
theorem gX11_chance_X1_weigh : GoodIn wsX11_chance (wsV RX11 236 RX1 yX1_weigh wsX1_weigh) := goodIn_app (goodIn_of _ (by decide +kernel)) ggX11_chance_X1_weigh
theorem dX11_chance_0 : decode cX11_chance 0 = .ok (.aload_n 0, 1) := by decide +kernel
theorem dX11_chance_1 : decode cX11_chance 1 = .ok (.iload_n 1, 1) := by decide +kernel
theorem dX11_chance_2 : decode cX11_chance 2 = .ok (.invokevirtual 156, 3) := by decide +kernel
theorem dX11_chance_5 : decode cX11_chance 5 = .ok (.ifCond .eq 10, 3) := by decide +kernel
theorem dX11_chance_8 : decode cX11_chance 8 = .ok (.iload_n 2, 1) := by decide +kernel
theorem dX11_chance_9 : decode cX11_chance 9 = .ok (.invokestatic 225, 3) := by decide +kernel
theorem dX11_chance_12 : decode cX11_chance 12 = .ok (.ifCond .ne 7, 3) := by decide +kernel
theorem dX11_chance_15 : decode cX11_chance 15 = .ok (.ldc2_w 228, 3) := by decide +kernel
theorem dX11_chance_18 : decode cX11_chance 18 = .ok (.lreturn, 1) := by decide +kernel
theorem dX11_chance_19 : decode cX11_chance 19 = .ok (.aload_n 0, 1) := by decide +kernel
theorem dX11_chance_20 : decode cX11_chance 20 = .ok (.invokevirtual 230, 3) := by decide +kernel
theorem dX11_chance_23 : decode cX11_chance 23 = .ok (.ifCond .ne 7, 3) := by decide +kernel
theorem dX11_chance_26 : decode cX11_chance 26 = .ok (.ldc2_w 234, 3) := by decide +kernel
theorem dX11_chance_29 : decode cX11_chance 29 = .ok (.lreturn, 1) := by decide +kernel
theorem dX11_chance_30 : decode cX11_chance 30 = .ok (.aload_n 0, 1) := by decide +kernel
theorem dX11_chance_31 : decode cX11_chance 31 = .ok (.getfield 57, 3) := by decide +kernel
theorem dX11_chance_34 : decode cX11_chance 34 = .ok (.aload_n 0, 1) := by decide +kernel
theorem dX11_chance_35 : decode cX11_chance 35 = .ok (.getfield 75, 3) := by decide +kernel
theorem dX11_chance_38 : decode cX11_chance 38 = .ok (.aload_n 0, 1) := by decide +kernel
theorem dX11_chance_39 : decode cX11_chance 39 = .ok (.getfield 26, 3) := by decide +kernel
theorem dX11_chance_42 : decode cX11_chance 42 = .ok (.invokevirtual 236, 3) := by decide +kernel
theorem dX11_chance_45 : decode cX11_chance 45 = .ok (.iload_n 2, 1) := by decide +kernel
theorem dX11_chance_46 : decode cX11_chance 46 = .ok (.ifCond .ne 15, 3) := by decide +kernel
theorem dX11_chance_49 : decode cX11_chance 49 = .ok (.aload_n 0, 1) := by decide +kernel
theorem dX11_chance_50 : decode cX11_chance 50 = .ok (.getfield 57, 3) := by decide +kernel
theorem dX11_chance_53 : decode cX11_chance 53 = .ok (.getfield 239, 3) := by decide +kernel
theorem dX11_chance_56 : decode cX11_chance 56 = .ok (.iload_n 1, 1) := by decide +kernel
theorem dX11_chance_57 : decode cX11_chance 57 = .ok (.laload, 1) := by decide +kernel
theorem dX11_chance_58 : decode cX11_chance 58 = .ok (.goto 10, 3) := by decide +kernel
theorem dX11_chance_61 : decode cX11_chance 61 = .ok (.aload_n 0, 1) := by decide +kernel
theorem dX11_chance_62 : decode cX11_chance 62 = .ok (.getfield 57, 3) := by decide +kernel
theorem dX11_chance_65 : decode cX11_chance 65 = .ok (.getfield 243, 3) := by decide +kernel
theorem dX11_chance_68 : decode cX11_chance 68 = .ok (.lreturn, 1) := by decide +kernel
set_option maxRecDepth 20000 in
theorem ggX11_likeliest_X11_canWeigh : GoodIn wsX11_likeliest wsX11_canWeigh := goodIn_r _ [9, 3, 10, 65, 66, 67, 68, 69, 70, 71, 72, 73, 74, 75, 76, 77, 78, 84, 85, 86, 87, 88, 89] (by decide +kernel) (by decide +kernel)
set_option maxRecDepth 20000 in
theorem gX11_likeliest_X11_canWeigh : GoodIn wsX11_likeliest (wsV RX11 230 RX11 yX11_canWeigh wsX11_canWeigh) := goodIn_app (goodIn_of _ (by decide +kernel)) ggX11_likeliest_X11_canWeigh
set_option maxRecDepth 20000 in
theorem ggX11_likeliest_X1_weigh : GoodIn wsX11_likeliest wsX1_weigh := goodIn_r _ [15, 16, 17, 18, 19, 20, 21, 22, 14, 23, 24, 25, 26, 27, 28, 29, 30, 31, 32, 33, 34, 35, 36, 37, 38, 39, 40, 41, 42, 43, 44, 45, 46, 47, 48, 49, 50, 51, 52, 53, 54, 55, 56, 57, 58, 59, 60, 61, 62, 63, 64, 79, 80, 81, 82, 83, 90, 91, 92, 93, 94, 95, 96, 97, 98, 99, 100, 101, 102, 103, 104, 105, 106, 107, 108, 109, 110, 84, 85, 86, 87, 88, 89] (by decide +kernel) (by decide +kernel)
set_option maxRecDepth 20000 in
theorem gX11_likeliest_X1_weigh : GoodIn wsX11_likeliest (wsV RX11 236 RX1 yX1_weigh wsX1_weigh) := goodIn_app (goodIn_of _ (by decide +kernel)) ggX11_likeliest_X1_weigh
theorem dX11_likeliest_0 : decode cX11_likeliest 0 = .ok (.aload_n 0, 1) := by decide +kernel
theorem dX11_likeliest_1 : decode cX11_likeliest 1 = .ok (.invokevirtual 230, 3) := by decide +kernel
theorem dX11_likeliest_4 : decode cX11_likeliest 4 = .ok (.ifCond .ne 6, 3) := by decide +kernel
theorem dX11_likeliest_7 : decode cX11_likeliest 7 = .ok (.bipush (-2), 2) := by decide +kernel
theorem dX11_likeliest_9 : decode cX11_likeliest 9 = .ok (.ireturn, 1) := by decide +kernel
theorem dX11_likeliest_10 : decode cX11_likeliest 10 = .ok (.aload_n 0, 1) := by decide +kernel
theorem dX11_likeliest_11 : decode cX11_likeliest 11 = .ok (.getfield 57, 3) := by decide +kernel
theorem dX11_likeliest_14 : decode cX11_likeliest 14 = .ok (.aload_n 0, 1) := by decide +kernel
theorem dX11_likeliest_15 : decode cX11_likeliest 15 = .ok (.getfield 75, 3) := by decide +kernel
theorem dX11_likeliest_18 : decode cX11_likeliest 18 = .ok (.aload_n 0, 1) := by decide +kernel
theorem dX11_likeliest_19 : decode cX11_likeliest 19 = .ok (.getfield 26, 3) := by decide +kernel
theorem dX11_likeliest_22 : decode cX11_likeliest 22 = .ok (.invokevirtual 236, 3) := by decide +kernel
theorem dX11_likeliest_25 : decode cX11_likeliest 25 = .ok (.aload_n 0, 1) := by decide +kernel
theorem dX11_likeliest_26 : decode cX11_likeliest 26 = .ok (.getfield 57, 3) := by decide +kernel
theorem dX11_likeliest_29 : decode cX11_likeliest 29 = .ok (.getfield 247, 3) := by decide +kernel
theorem dX11_likeliest_32 : decode cX11_likeliest 32 = .ok (.ifCond .ge 8, 3) := by decide +kernel
theorem dX11_likeliest_35 : decode cX11_likeliest 35 = .ok (.bipush (-4), 2) := by decide +kernel
theorem dX11_likeliest_37 : decode cX11_likeliest 37 = .ok (.goto 10, 3) := by decide +kernel
theorem dX11_likeliest_40 : decode cX11_likeliest 40 = .ok (.aload_n 0, 1) := by decide +kernel
theorem dX11_likeliest_41 : decode cX11_likeliest 41 = .ok (.getfield 57, 3) := by decide +kernel
theorem dX11_likeliest_44 : decode cX11_likeliest 44 = .ok (.getfield 247, 3) := by decide +kernel
theorem dX11_likeliest_47 : decode cX11_likeliest 47 = .ok (.ireturn, 1) := by decide +kernel
set_option maxRecDepth 20000 in
theorem ggX11_sure_X11_isHalf : GoodIn wsX11_sure wsX11_isHalf := goodIn_r _ [13] (by decide +kernel) (by decide +kernel)
set_option maxRecDepth 20000 in
theorem gX11_sure_X11_isHalf : GoodIn wsX11_sure (va_wsS RX11 225 yX11_isHalf wsX11_isHalf) := goodIn_app (goodIn_of _ (by decide +kernel)) ggX11_sure_X11_isHalf
set_option maxRecDepth 20000 in
theorem ggX11_sure_X11_canWeigh : GoodIn wsX11_sure wsX11_canWeigh := goodIn_r _ [17, 5, 18, 76, 77, 78, 79, 80, 81, 82, 83, 84, 85, 86, 87, 88, 89, 95, 96, 97, 98, 99, 100] (by decide +kernel) (by decide +kernel)
set_option maxRecDepth 20000 in
theorem gX11_sure_X11_canWeigh : GoodIn wsX11_sure (wsV RX11 230 RX11 yX11_canWeigh wsX11_canWeigh) := goodIn_app (goodIn_of _ (by decide +kernel)) ggX11_sure_X11_canWeigh
set_option maxRecDepth 20000 in
theorem ggX11_sure_X1_weigh : GoodIn wsX11_sure wsX1_weigh := goodIn_r _ [23, 24, 25, 26, 27, 28, 29, 30, 22, 31, 32, 33, 34, 35, 36, 37, 38, 39, 40, 41, 42, 43, 44, 45, 46, 47, 48, 49, 50, 51, 52, 53, 54, 55, 56, 57, 58, 59, 60, 61, 62, 63, 64, 65, 66, 67, 68, 69, 70, 71, 72, 90, 91, 92, 93, 94, 101, 102, 103, 104, 105, 106, 107, 108, 109, 110, 111, 112, 113, 114, 115, 116, 117, 118, 119, 120, 121, 95, 96, 97, 98, 99, 100] (by decide +kernel) (by decide +kernel)
set_option maxRecDepth 20000 in
theorem gX11_sure_X1_weigh : GoodIn wsX11_sure (wsV RX11 236 RX1 yX1_weigh wsX1_weigh) := goodIn_app (goodIn_of _ (by decide +kernel)) ggX11_sure_X1_weigh
set_option maxRecDepth 20000 in
theorem ggX11_sure_X11_lowest : GoodIn wsX11_sure wsX11_lowest := goodIn_r _ [75] (by decide +kernel) (by decide +kernel)
set_option maxRecDepth 20000 in
theorem gX11_sure_X11_lowest : GoodIn wsX11_sure (va_wsS RX11 252 yX11_lowest wsX11_lowest) := goodIn_app (goodIn_of _ (by decide +kernel)) ggX11_sure_X11_lowest
theorem dX11_sure_0 : decode cX11_sure 0 = .ok (.iload_n 1, 1) := by decide +kernel
theorem dX11_sure_1 : decode cX11_sure 1 = .ok (.invokestatic 225, 3) := by decide +kernel
theorem dX11_sure_4 : decode cX11_sure 4 = .ok (.ifCond .ne 7, 3) := by decide +kernel
theorem dX11_sure_7 : decode cX11_sure 7 = .ok (.ldc2_w 228, 3) := by decide +kernel
theorem dX11_sure_10 : decode cX11_sure 10 = .ok (.lreturn, 1) := by decide +kernel
theorem dX11_sure_11 : decode cX11_sure 11 = .ok (.aload_n 0, 1) := by decide +kernel
theorem dX11_sure_12 : decode cX11_sure 12 = .ok (.invokevirtual 230, 3) := by decide +kernel
theorem dX11_sure_15 : decode cX11_sure 15 = .ok (.ifCond .ne 7, 3) := by decide +kernel
theorem dX11_sure_18 : decode cX11_sure 18 = .ok (.ldc2_w 234, 3) := by decide +kernel
theorem dX11_sure_21 : decode cX11_sure 21 = .ok (.lreturn, 1) := by decide +kernel
theorem dX11_sure_22 : decode cX11_sure 22 = .ok (.aload_n 0, 1) := by decide +kernel
theorem dX11_sure_23 : decode cX11_sure 23 = .ok (.getfield 57, 3) := by decide +kernel
theorem dX11_sure_26 : decode cX11_sure 26 = .ok (.aload_n 0, 1) := by decide +kernel
theorem dX11_sure_27 : decode cX11_sure 27 = .ok (.getfield 75, 3) := by decide +kernel
theorem dX11_sure_30 : decode cX11_sure 30 = .ok (.aload_n 0, 1) := by decide +kernel
theorem dX11_sure_31 : decode cX11_sure 31 = .ok (.getfield 26, 3) := by decide +kernel
theorem dX11_sure_34 : decode cX11_sure 34 = .ok (.invokevirtual 236, 3) := by decide +kernel
theorem dX11_sure_37 : decode cX11_sure 37 = .ok (.aload_n 0, 1) := by decide +kernel
theorem dX11_sure_38 : decode cX11_sure 38 = .ok (.getfield 57, 3) := by decide +kernel
theorem dX11_sure_41 : decode cX11_sure 41 = .ok (.getfield 247, 3) := by decide +kernel
theorem dX11_sure_44 : decode cX11_sure 44 = .ok (.ifCond .ge 7, 3) := by decide +kernel
theorem dX11_sure_47 : decode cX11_sure 47 = .ok (.ldc2_w 250, 3) := by decide +kernel
theorem dX11_sure_50 : decode cX11_sure 50 = .ok (.lreturn, 1) := by decide +kernel
theorem dX11_sure_51 : decode cX11_sure 51 = .ok (.aload_n 0, 1) := by decide +kernel
theorem dX11_sure_52 : decode cX11_sure 52 = .ok (.getfield 57, 3) := by decide +kernel
theorem dX11_sure_55 : decode cX11_sure 55 = .ok (.getfield 239, 3) := by decide +kernel
theorem dX11_sure_58 : decode cX11_sure 58 = .ok (.aload_n 0, 1) := by decide +kernel
theorem dX11_sure_59 : decode cX11_sure 59 = .ok (.getfield 57, 3) := by decide +kernel
theorem dX11_sure_62 : decode cX11_sure 62 = .ok (.getfield 247, 3) := by decide +kernel
theorem dX11_sure_65 : decode cX11_sure 65 = .ok (.laload, 1) := by decide +kernel
theorem dX11_sure_66 : decode cX11_sure 66 = .ok (.aload_n 0, 1) := by decide +kernel
theorem dX11_sure_67 : decode cX11_sure 67 = .ok (.getfield 57, 3) := by decide +kernel
theorem dX11_sure_70 : decode cX11_sure 70 = .ok (.getfield 243, 3) := by decide +kernel
theorem dX11_sure_73 : decode cX11_sure 73 = .ok (.iload_n 1, 1) := by decide +kernel
theorem dX11_sure_74 : decode cX11_sure 74 = .ok (.invokestatic 252, 3) := by decide +kernel
theorem dX11_sure_77 : decode cX11_sure 77 = .ok (.lreturn, 1) := by decide +kernel
set_option maxRecDepth 20000 in
theorem ggX11_fits_X11_canWeigh : GoodIn wsX11_fits wsX11_canWeigh := goodIn_r _ [11, 3, 12, 67, 68, 69, 70, 71, 72, 73, 74, 75, 76, 77, 78, 79, 80, 107, 108, 109, 110, 111, 112] (by decide +kernel) (by decide +kernel)
set_option maxRecDepth 20000 in
theorem gX11_fits_X11_canWeigh : GoodIn wsX11_fits (wsV RX11 230 RX11 yX11_canWeigh wsX11_canWeigh) := goodIn_app (goodIn_of _ (by decide +kernel)) ggX11_fits_X11_canWeigh
set_option maxRecDepth 20000 in
theorem ggX11_fits_X1_weigh : GoodIn wsX11_fits wsX1_weigh := goodIn_r _ [17, 18, 19, 20, 21, 22, 23, 24, 16, 25, 26, 27, 28, 29, 30, 31, 32, 33, 34, 35, 36, 37, 38, 39, 40, 41, 42, 43, 44, 45, 46, 47, 48, 49, 50, 51, 52, 53, 54, 55, 56, 57, 58, 59, 60, 61, 62, 63, 64, 65, 66, 102, 103, 104, 105, 106, 81, 82, 83, 84, 85, 86, 87, 88, 89, 90, 91, 92, 93, 94, 95, 96, 97, 98, 99, 100, 101, 107, 108, 109, 110, 111, 112] (by decide +kernel) (by decide +kernel)
set_option maxRecDepth 20000 in
theorem gX11_fits_X1_weigh : GoodIn wsX11_fits (wsV RX11 236 RX1 yX1_weigh wsX1_weigh) := goodIn_app (goodIn_of _ (by decide +kernel)) ggX11_fits_X1_weigh
theorem dX11_fits_0 : decode cX11_fits 0 = .ok (.aload_n 0, 1) := by decide +kernel
theorem dX11_fits_1 : decode cX11_fits 1 = .ok (.invokevirtual 230, 3) := by decide +kernel
theorem dX11_fits_4 : decode cX11_fits 4 = .ok (.ifCond .ne 6, 3) := by decide +kernel
theorem dX11_fits_7 : decode cX11_fits 7 = .ok (.bipush (-2), 2) := by decide +kernel
theorem dX11_fits_9 : decode cX11_fits 9 = .ok (.ireturn, 1) := by decide +kernel
theorem dX11_fits_10 : decode cX11_fits 10 = .ok (.aload_n 0, 1) := by decide +kernel
theorem dX11_fits_11 : decode cX11_fits 11 = .ok (.getfield 57, 3) := by decide +kernel
theorem dX11_fits_14 : decode cX11_fits 14 = .ok (.aload_n 0, 1) := by decide +kernel
theorem dX11_fits_15 : decode cX11_fits 15 = .ok (.getfield 75, 3) := by decide +kernel
theorem dX11_fits_18 : decode cX11_fits 18 = .ok (.aload_n 0, 1) := by decide +kernel
theorem dX11_fits_19 : decode cX11_fits 19 = .ok (.getfield 26, 3) := by decide +kernel
theorem dX11_fits_22 : decode cX11_fits 22 = .ok (.invokevirtual 236, 3) := by decide +kernel
theorem dX11_fits_25 : decode cX11_fits 25 = .ok (.iconst 0, 1) := by decide +kernel
theorem dX11_fits_26 : decode cX11_fits 26 = .ok (.istore_n 1, 1) := by decide +kernel
theorem dX11_fits_27 : decode cX11_fits 27 = .ok (.iconst 0, 1) := by decide +kernel
theorem dX11_fits_28 : decode cX11_fits 28 = .ok (.istore_n 2, 1) := by decide +kernel
theorem dX11_fits_29 : decode cX11_fits 29 = .ok (.iload_n 2, 1) := by decide +kernel
theorem dX11_fits_30 : decode cX11_fits 30 = .ok (.aload_n 0, 1) := by decide +kernel
theorem dX11_fits_31 : decode cX11_fits 31 = .ok (.getfield 75, 3) := by decide +kernel
theorem dX11_fits_34 : decode cX11_fits 34 = .ok (.getfield 119, 3) := by decide +kernel
theorem dX11_fits_37 : decode cX11_fits 37 = .ok (.getfield 123, 3) := by decide +kernel
theorem dX11_fits_40 : decode cX11_fits 40 = .ok (.if_icmp .ge 29, 3) := by decide +kernel
theorem dX11_fits_43 : decode cX11_fits 43 = .ok (.aload_n 0, 1) := by decide +kernel
theorem dX11_fits_44 : decode cX11_fits 44 = .ok (.getfield 57, 3) := by decide +kernel
theorem dX11_fits_47 : decode cX11_fits 47 = .ok (.getfield 239, 3) := by decide +kernel
theorem dX11_fits_50 : decode cX11_fits 50 = .ok (.iload_n 2, 1) := by decide +kernel
theorem dX11_fits_51 : decode cX11_fits 51 = .ok (.laload, 1) := by decide +kernel
theorem dX11_fits_52 : decode cX11_fits 52 = .ok (.lconst 0, 1) := by decide +kernel
theorem dX11_fits_53 : decode cX11_fits 53 = .ok (.lcmp, 1) := by decide +kernel
theorem dX11_fits_54 : decode cX11_fits 54 = .ok (.ifCond .le 9, 3) := by decide +kernel
theorem dX11_fits_57 : decode cX11_fits 57 = .ok (.iload_n 1, 1) := by decide +kernel
theorem dX11_fits_58 : decode cX11_fits 58 = .ok (.iconst 1, 1) := by decide +kernel
theorem dX11_fits_59 : decode cX11_fits 59 = .ok (.iload_n 2, 1) := by decide +kernel
theorem dX11_fits_60 : decode cX11_fits 60 = .ok (.ishl, 1) := by decide +kernel
theorem dX11_fits_61 : decode cX11_fits 61 = .ok (.ior, 1) := by decide +kernel
theorem dX11_fits_62 : decode cX11_fits 62 = .ok (.istore_n 1, 1) := by decide +kernel
theorem dX11_fits_63 : decode cX11_fits 63 = .ok (.iinc 2 1, 3) := by decide +kernel
theorem dX11_fits_66 : decode cX11_fits 66 = .ok (.goto (-37), 3) := by decide +kernel
theorem dX11_fits_69 : decode cX11_fits 69 = .ok (.iload_n 1, 1) := by decide +kernel
theorem dX11_fits_70 : decode cX11_fits 70 = .ok (.ireturn, 1) := by decide +kernel
set_option maxRecDepth 20000 in
theorem ggX11_right_X11_isWord : GoodIn wsX11_right wsX11_isWord := goodIn_r _ [13, 2, 3, 14, 81, 82, 83, 84, 85, 86, 87, 88, 89, 90, 91, 92, 93, 94, 95, 96, 97, 98, 99, 100, 101, 102, 103, 104, 105, 106, 107, 108, 109, 110, 111, 112, 113, 114, 115] (by decide +kernel) (by decide +kernel)
set_option maxRecDepth 20000 in
theorem gX11_right_X11_isWord : GoodIn wsX11_right (wsV RX11 156 RX11 yX11_isWord wsX11_isWord) := goodIn_app (goodIn_of _ (by decide +kernel)) ggX11_right_X11_isWord
set_option maxRecDepth 20000 in
theorem ggX11_right_X11_isHalf : GoodIn wsX11_right wsX11_isHalf := goodIn_r _ [17] (by decide +kernel) (by decide +kernel)
set_option maxRecDepth 20000 in
theorem gX11_right_X11_isHalf : GoodIn wsX11_right (va_wsS RX11 225 yX11_isHalf wsX11_isHalf) := goodIn_app (goodIn_of _ (by decide +kernel)) ggX11_right_X11_isHalf
set_option maxRecDepth 20000 in
theorem ggX11_right_X4_lengthOf : GoodIn wsX11_right wsX4_lengthOf := goodIn_r _ [22, 23, 24, 110, 111, 112, 113, 114, 115] (by decide +kernel) (by decide +kernel)
set_option maxRecDepth 20000 in
theorem gX11_right_X4_lengthOf : GoodIn wsX11_right (wsV RX11 159 RX4 yX4_lengthOf wsX4_lengthOf) := goodIn_app (goodIn_of _ (by decide +kernel)) ggX11_right_X4_lengthOf
set_option maxRecDepth 20000 in
theorem ggX11_right_X1_readRight : GoodIn wsX11_right wsX1_readRight := goodIn_r _ [29, 30, 31, 32, 33, 34, 35, 19, 20, 21, 22, 23, 24, 36, 37, 38, 39, 40, 41, 42, 43, 44, 45, 46, 47, 48, 49, 50, 51, 52, 53, 54, 55, 56, 57, 58, 59, 28, 60, 61, 62, 63, 64, 65, 66, 67, 68, 69, 70, 71, 72, 73, 74, 95, 96, 97, 98, 99, 100, 101, 102, 103, 104, 105, 106, 107, 108, 109, 110, 111, 112, 113, 114, 115, 116, 117, 118, 119, 120, 121, 122, 123, 124, 125, 126] (by decide +kernel) (by decide +kernel)
set_option maxRecDepth 20000 in
theorem gX11_right_X1_readRight : GoodIn wsX11_right (wsV RX11 256 RX1 yX1_readRight wsX1_readRight) := goodIn_app (goodIn_of _ (by decide +kernel)) ggX11_right_X1_readRight
set_option maxRecDepth 20000 in
theorem ggX11_right_X11_power : GoodIn wsX11_right wsX11_power := goodIn_r _ [77] (by decide +kernel) (by decide +kernel)
set_option maxRecDepth 20000 in
theorem gX11_right_X11_power : GoodIn wsX11_right (va_wsS RX11 262 yX11_power wsX11_power) := goodIn_app (goodIn_of _ (by decide +kernel)) ggX11_right_X11_power
set_option maxRecDepth 20000 in
theorem ggX11_right_X11_lowest : GoodIn wsX11_right wsX11_lowest := goodIn_r _ [80] (by decide +kernel) (by decide +kernel)
set_option maxRecDepth 20000 in
theorem gX11_right_X11_lowest : GoodIn wsX11_right (va_wsS RX11 252 yX11_lowest wsX11_lowest) := goodIn_app (goodIn_of _ (by decide +kernel)) ggX11_right_X11_lowest
theorem dX11_right_0 : decode cX11_right 0 = .ok (.aload_n 0, 1) := by decide +kernel
theorem dX11_right_1 : decode cX11_right 1 = .ok (.iload_n 1, 1) := by decide +kernel
theorem dX11_right_2 : decode cX11_right 2 = .ok (.invokevirtual 156, 3) := by decide +kernel
theorem dX11_right_5 : decode cX11_right 5 = .ok (.ifCond .eq 20, 3) := by decide +kernel
theorem dX11_right_8 : decode cX11_right 8 = .ok (.iload_n 2, 1) := by decide +kernel
theorem dX11_right_9 : decode cX11_right 9 = .ok (.iconst 1, 1) := by decide +kernel
theorem dX11_right_10 : decode cX11_right 10 = .ok (.if_icmp .lt 15, 3) := by decide +kernel
theorem dX11_right_13 : decode cX11_right 13 = .ok (.iload_n 2, 1) := by decide +kernel
theorem dX11_right_14 : decode cX11_right 14 = .ok (.iconst 3, 1) := by decide +kernel
theorem dX11_right_15 : decode cX11_right 15 = .ok (.if_icmp .gt 10, 3) := by decide +kernel
theorem dX11_right_18 : decode cX11_right 18 = .ok (.iload_n 3, 1) := by decide +kernel
theorem dX11_right_19 : decode cX11_right 19 = .ok (.invokestatic 225, 3) := by decide +kernel
theorem dX11_right_22 : decode cX11_right 22 = .ok (.ifCond .ne 7, 3) := by decide +kernel
theorem dX11_right_25 : decode cX11_right 25 = .ok (.ldc2_w 228, 3) := by decide +kernel
theorem dX11_right_28 : decode cX11_right 28 = .ok (.lreturn, 1) := by decide +kernel
theorem dX11_right_29 : decode cX11_right 29 = .ok (.aload_n 0, 1) := by decide +kernel
theorem dX11_right_30 : decode cX11_right 30 = .ok (.getfield 75, 3) := by decide +kernel
theorem dX11_right_33 : decode cX11_right 33 = .ok (.getfield 119, 3) := by decide +kernel
theorem dX11_right_36 : decode cX11_right 36 = .ok (.iload_n 1, 1) := by decide +kernel
theorem dX11_right_37 : decode cX11_right 37 = .ok (.invokevirtual 159, 3) := by decide +kernel
theorem dX11_right_40 : decode cX11_right 40 = .ok (.iload_n 2, 1) := by decide +kernel
theorem dX11_right_41 : decode cX11_right 41 = .ok (.imul, 1) := by decide +kernel
theorem dX11_right_42 : decode cX11_right 42 = .ok (.istore 4, 2) := by decide +kernel
theorem dX11_right_44 : decode cX11_right 44 = .ok (.iload 4, 2) := by decide +kernel
theorem dX11_right_46 : decode cX11_right 46 = .ok (.iconst 3, 1) := by decide +kernel
theorem dX11_right_47 : decode cX11_right 47 = .ok (.if_icmp .le 7, 3) := by decide +kernel
theorem dX11_right_50 : decode cX11_right 50 = .ok (.ldc2_w 234, 3) := by decide +kernel
theorem dX11_right_53 : decode cX11_right 53 = .ok (.lreturn, 1) := by decide +kernel
theorem dX11_right_54 : decode cX11_right 54 = .ok (.aload_n 0, 1) := by decide +kernel
theorem dX11_right_55 : decode cX11_right 55 = .ok (.getfield 57, 3) := by decide +kernel
theorem dX11_right_58 : decode cX11_right 58 = .ok (.aload_n 0, 1) := by decide +kernel
theorem dX11_right_59 : decode cX11_right 59 = .ok (.getfield 75, 3) := by decide +kernel
theorem dX11_right_62 : decode cX11_right 62 = .ok (.aload_n 0, 1) := by decide +kernel
theorem dX11_right_63 : decode cX11_right 63 = .ok (.getfield 26, 3) := by decide +kernel
theorem dX11_right_66 : decode cX11_right 66 = .ok (.iload_n 1, 1) := by decide +kernel
theorem dX11_right_67 : decode cX11_right 67 = .ok (.iload_n 2, 1) := by decide +kernel
theorem dX11_right_68 : decode cX11_right 68 = .ok (.invokevirtual 256, 3) := by decide +kernel
theorem dX11_right_71 : decode cX11_right 71 = .ok (.lstore 5, 2) := by decide +kernel
theorem dX11_right_73 : decode cX11_right 73 = .ok (.lload 5, 2) := by decide +kernel
theorem dX11_right_75 : decode cX11_right 75 = .ok (.aload_n 0, 1) := by decide +kernel
theorem dX11_right_76 : decode cX11_right 76 = .ok (.getfield 75, 3) := by decide +kernel
theorem dX11_right_79 : decode cX11_right 79 = .ok (.getfield 162, 3) := by decide +kernel
theorem dX11_right_82 : decode cX11_right 82 = .ok (.iload_n 1, 1) := by decide +kernel
theorem dX11_right_83 : decode cX11_right 83 = .ok (.iaload, 1) := by decide +kernel
theorem dX11_right_84 : decode cX11_right 84 = .ok (.i2l, 1) := by decide +kernel
theorem dX11_right_85 : decode cX11_right 85 = .ok (.ldc2_w 260, 3) := by decide +kernel
theorem dX11_right_88 : decode cX11_right 88 = .ok (.iconst 2, 1) := by decide +kernel
theorem dX11_right_89 : decode cX11_right 89 = .ok (.iload 4, 2) := by decide +kernel
theorem dX11_right_91 : decode cX11_right 91 = .ok (.imul, 1) := by decide +kernel
theorem dX11_right_92 : decode cX11_right 92 = .ok (.invokestatic 262, 3) := by decide +kernel
theorem dX11_right_95 : decode cX11_right 95 = .ok (.lmul, 1) := by decide +kernel
theorem dX11_right_96 : decode cX11_right 96 = .ok (.iload_n 3, 1) := by decide +kernel
theorem dX11_right_97 : decode cX11_right 97 = .ok (.invokestatic 252, 3) := by decide +kernel
theorem dX11_right_100 : decode cX11_right 100 = .ok (.lreturn, 1) := by decide +kernel
set_option maxRecDepth 20000 in
theorem ggX11_mouths_X11_isKnockable : GoodIn wsX11_mouths wsX11_isKnockable := goodIn_r _ [9] (by decide +kernel) (by decide +kernel)
set_option maxRecDepth 20000 in
theorem gX11_mouths_X11_isKnockable : GoodIn wsX11_mouths (va_wsS RX11 266 yX11_isKnockable wsX11_isKnockable) := goodIn_app (goodIn_of _ (by decide +kernel)) ggX11_mouths_X11_isKnockable
set_option maxRecDepth 20000 in
theorem ggX11_mouths_X11_isHalf : GoodIn wsX11_mouths wsX11_isHalf := goodIn_r _ [12] (by decide +kernel) (by decide +kernel)
set_option maxRecDepth 20000 in
theorem gX11_mouths_X11_isHalf : GoodIn wsX11_mouths (va_wsS RX11 225 yX11_isHalf wsX11_isHalf) := goodIn_app (goodIn_of _ (by decide +kernel)) ggX11_mouths_X11_isHalf
set_option maxRecDepth 20000 in
theorem ggX11_mouths_X3_pass : GoodIn wsX11_mouths wsX3_pass := goodIn_r _ [17, 18, 19, 20, 21, 22, 23, 24, 25, 26, 27, 28, 29, 30, 31, 32, 33, 34, 35, 36, 37, 38, 39, 40, 41, 62, 63, 64, 65, 66, 67, 68, 69, 70, 71, 72, 73, 74, 75, 76, 77, 78] (by decide +kernel) (by decide +kernel)
set_option maxRecDepth 20000 in
theorem gX11_mouths_X3_pass : GoodIn wsX11_mouths (wsV RX11 269 RX3 yX3_pass wsX3_pass) := goodIn_app (goodIn_of _ (by decide +kernel)) ggX11_mouths_X3_pass
set_option maxRecDepth 20000 in
theorem ggX11_mouths_X11_power : GoodIn wsX11_mouths wsX11_power := goodIn_r _ [44] (by decide +kernel) (by decide +kernel)
set_option maxRecDepth 20000 in
theorem gX11_mouths_X11_power : GoodIn wsX11_mouths (va_wsS RX11 262 yX11_power wsX11_power) := goodIn_app (goodIn_of _ (by decide +kernel)) ggX11_mouths_X11_power
set_option maxRecDepth 20000 in
theorem ggX11_mouths_X11_lowest : GoodIn wsX11_mouths wsX11_lowest := goodIn_r _ [47] (by decide +kernel) (by decide +kernel)
set_option maxRecDepth 20000 in
theorem gX11_mouths_X11_lowest : GoodIn wsX11_mouths (va_wsS RX11 252 yX11_lowest wsX11_lowest) := goodIn_app (goodIn_of _ (by decide +kernel)) ggX11_mouths_X11_lowest
theorem dX11_mouths_0 : decode cX11_mouths 0 = .ok (.iload_n 1, 1) := by decide +kernel
theorem dX11_mouths_1 : decode cX11_mouths 1 = .ok (.invokestatic 266, 3) := by decide +kernel
theorem dX11_mouths_4 : decode cX11_mouths 4 = .ok (.ifCond .eq 28, 3) := by decide +kernel
theorem dX11_mouths_7 : decode cX11_mouths 7 = .ok (.iload_n 2, 1) := by decide +kernel
theorem dX11_mouths_8 : decode cX11_mouths 8 = .ok (.invokestatic 266, 3) := by decide +kernel
theorem dX11_mouths_11 : decode cX11_mouths 11 = .ok (.ifCond .eq 21, 3) := by decide +kernel
theorem dX11_mouths_14 : decode cX11_mouths 14 = .ok (.iload_n 3, 1) := by decide +kernel
theorem dX11_mouths_15 : decode cX11_mouths 15 = .ok (.ifCond .lt 17, 3) := by decide +kernel
theorem dX11_mouths_18 : decode cX11_mouths 18 = .ok (.iload_n 3, 1) := by decide +kernel
theorem dX11_mouths_19 : decode cX11_mouths 19 = .ok (.bipush 10, 2) := by decide +kernel
theorem dX11_mouths_21 : decode cX11_mouths 21 = .ok (.if_icmp .gt 11, 3) := by decide +kernel
theorem dX11_mouths_24 : decode cX11_mouths 24 = .ok (.iload 4, 2) := by decide +kernel
theorem dX11_mouths_26 : decode cX11_mouths 26 = .ok (.invokestatic 225, 3) := by decide +kernel
theorem dX11_mouths_29 : decode cX11_mouths 29 = .ok (.ifCond .ne 7, 3) := by decide +kernel
theorem dX11_mouths_32 : decode cX11_mouths 32 = .ok (.ldc2_w 228, 3) := by decide +kernel
theorem dX11_mouths_35 : decode cX11_mouths 35 = .ok (.lreturn, 1) := by decide +kernel
theorem dX11_mouths_36 : decode cX11_mouths 36 = .ok (.aload_n 0, 1) := by decide +kernel
theorem dX11_mouths_37 : decode cX11_mouths 37 = .ok (.getfield 64, 3) := by decide +kernel
theorem dX11_mouths_40 : decode cX11_mouths 40 = .ok (.aload_n 0, 1) := by decide +kernel
theorem dX11_mouths_41 : decode cX11_mouths 41 = .ok (.getfield 75, 3) := by decide +kernel
theorem dX11_mouths_44 : decode cX11_mouths 44 = .ok (.iload_n 1, 1) := by decide +kernel
theorem dX11_mouths_45 : decode cX11_mouths 45 = .ok (.iload_n 3, 1) := by decide +kernel
theorem dX11_mouths_46 : decode cX11_mouths 46 = .ok (.invokevirtual 269, 3) := by decide +kernel
theorem dX11_mouths_49 : decode cX11_mouths 49 = .ok (.aload_n 0, 1) := by decide +kernel
theorem dX11_mouths_50 : decode cX11_mouths 50 = .ok (.getfield 64, 3) := by decide +kernel
theorem dX11_mouths_53 : decode cX11_mouths 53 = .ok (.getfield 273, 3) := by decide +kernel
theorem dX11_mouths_56 : decode cX11_mouths 56 = .ok (.iload_n 2, 1) := by decide +kernel
theorem dX11_mouths_57 : decode cX11_mouths 57 = .ok (.iconst 1, 1) := by decide +kernel
theorem dX11_mouths_58 : decode cX11_mouths 58 = .ok (.isub, 1) := by decide +kernel
theorem dX11_mouths_59 : decode cX11_mouths 59 = .ok (.laload, 1) := by decide +kernel
theorem dX11_mouths_60 : decode cX11_mouths 60 = .ok (.ldc2_w 260, 3) := by decide +kernel
theorem dX11_mouths_63 : decode cX11_mouths 63 = .ok (.iload_n 3, 1) := by decide +kernel
theorem dX11_mouths_64 : decode cX11_mouths 64 = .ok (.invokestatic 262, 3) := by decide +kernel
theorem dX11_mouths_67 : decode cX11_mouths 67 = .ok (.iload 4, 2) := by decide +kernel
theorem dX11_mouths_69 : decode cX11_mouths 69 = .ok (.invokestatic 252, 3) := by decide +kernel
theorem dX11_mouths_72 : decode cX11_mouths 72 = .ok (.lreturn, 1) := by decide +kernel
set_option maxRecDepth 20000 in
theorem ggX11_letter_X11_isPlace : GoodIn wsX11_letter wsX11_isPlace := goodIn_r _ [9] (by decide +kernel) (by decide +kernel)
set_option maxRecDepth 20000 in
theorem gX11_letter_X11_isPlace : GoodIn wsX11_letter (va_wsS RX11 147 yX11_isPlace wsX11_isPlace) := goodIn_app (goodIn_of _ (by decide +kernel)) ggX11_letter_X11_isPlace
set_option maxRecDepth 20000 in
theorem ggX11_letter_X11_isHalf : GoodIn wsX11_letter wsX11_isHalf := goodIn_r _ [12] (by decide +kernel) (by decide +kernel)
set_option maxRecDepth 20000 in
theorem gX11_letter_X11_isHalf : GoodIn wsX11_letter (va_wsS RX11 225 yX11_isHalf wsX11_isHalf) := goodIn_app (goodIn_of _ (by decide +kernel)) ggX11_letter_X11_isHalf
set_option maxRecDepth 20000 in
theorem ggX11_letter_X3_pass : GoodIn wsX11_letter wsX3_pass := goodIn_r _ [17, 18, 19, 20, 21, 22, 23, 24, 25, 26, 27, 28, 29, 30, 31, 32, 33, 34, 35, 36, 37, 38, 39, 40, 41, 62, 63, 64, 65, 66, 67, 68, 69, 70, 71, 72, 73, 74, 75, 76, 77, 78] (by decide +kernel) (by decide +kernel)
set_option maxRecDepth 20000 in
theorem gX11_letter_X3_pass : GoodIn wsX11_letter (wsV RX11 269 RX3 yX3_pass wsX3_pass) := goodIn_app (goodIn_of _ (by decide +kernel)) ggX11_letter_X3_pass
set_option maxRecDepth 20000 in
theorem ggX11_letter_X11_power : GoodIn wsX11_letter wsX11_power := goodIn_r _ [44] (by decide +kernel) (by decide +kernel)
set_option maxRecDepth 20000 in
theorem gX11_letter_X11_power : GoodIn wsX11_letter (va_wsS RX11 262 yX11_power wsX11_power) := goodIn_app (goodIn_of _ (by decide +kernel)) ggX11_letter_X11_power
set_option maxRecDepth 20000 in
theorem ggX11_letter_X11_lowest : GoodIn wsX11_letter wsX11_lowest := goodIn_r _ [47] (by decide +kernel) (by decide +kernel)
set_option maxRecDepth 20000 in
theorem gX11_letter_X11_lowest : GoodIn wsX11_letter (va_wsS RX11 252 yX11_lowest wsX11_lowest) := goodIn_app (goodIn_of _ (by decide +kernel)) ggX11_letter_X11_lowest
theorem dX11_letter_0 : decode cX11_letter 0 = .ok (.iload_n 1, 1) := by decide +kernel
theorem dX11_letter_1 : decode cX11_letter 1 = .ok (.invokestatic 147, 3) := by decide +kernel
theorem dX11_letter_4 : decode cX11_letter 4 = .ok (.ifCond .eq 27, 3) := by decide +kernel
theorem dX11_letter_7 : decode cX11_letter 7 = .ok (.iload_n 2, 1) := by decide +kernel
theorem dX11_letter_8 : decode cX11_letter 8 = .ok (.invokestatic 147, 3) := by decide +kernel
theorem dX11_letter_11 : decode cX11_letter 11 = .ok (.ifCond .eq 20, 3) := by decide +kernel
theorem dX11_letter_14 : decode cX11_letter 14 = .ok (.iload_n 3, 1) := by decide +kernel
theorem dX11_letter_15 : decode cX11_letter 15 = .ok (.ifCond .lt 16, 3) := by decide +kernel
theorem dX11_letter_18 : decode cX11_letter 18 = .ok (.iload_n 3, 1) := by decide +kernel
theorem dX11_letter_19 : decode cX11_letter 19 = .ok (.iconst 5, 1) := by decide +kernel
theorem dX11_letter_20 : decode cX11_letter 20 = .ok (.if_icmp .gt 11, 3) := by decide +kernel
theorem dX11_letter_23 : decode cX11_letter 23 = .ok (.iload 4, 2) := by decide +kernel
theorem dX11_letter_25 : decode cX11_letter 25 = .ok (.invokestatic 225, 3) := by decide +kernel
theorem dX11_letter_28 : decode cX11_letter 28 = .ok (.ifCond .ne 7, 3) := by decide +kernel
theorem dX11_letter_31 : decode cX11_letter 31 = .ok (.ldc2_w 228, 3) := by decide +kernel
theorem dX11_letter_34 : decode cX11_letter 34 = .ok (.lreturn, 1) := by decide +kernel
theorem dX11_letter_35 : decode cX11_letter 35 = .ok (.aload_n 0, 1) := by decide +kernel
theorem dX11_letter_36 : decode cX11_letter 36 = .ok (.getfield 64, 3) := by decide +kernel
theorem dX11_letter_39 : decode cX11_letter 39 = .ok (.aload_n 0, 1) := by decide +kernel
theorem dX11_letter_40 : decode cX11_letter 40 = .ok (.getfield 75, 3) := by decide +kernel
theorem dX11_letter_43 : decode cX11_letter 43 = .ok (.iload_n 1, 1) := by decide +kernel
theorem dX11_letter_44 : decode cX11_letter 44 = .ok (.iconst 5, 1) := by decide +kernel
theorem dX11_letter_45 : decode cX11_letter 45 = .ok (.idiv, 1) := by decide +kernel
theorem dX11_letter_46 : decode cX11_letter 46 = .ok (.iconst 1, 1) := by decide +kernel
theorem dX11_letter_47 : decode cX11_letter 47 = .ok (.iadd, 1) := by decide +kernel
theorem dX11_letter_48 : decode cX11_letter 48 = .ok (.iload_n 3, 1) := by decide +kernel
theorem dX11_letter_49 : decode cX11_letter 49 = .ok (.invokevirtual 269, 3) := by decide +kernel
theorem dX11_letter_52 : decode cX11_letter 52 = .ok (.aload_n 0, 1) := by decide +kernel
theorem dX11_letter_53 : decode cX11_letter 53 = .ok (.getfield 64, 3) := by decide +kernel
theorem dX11_letter_56 : decode cX11_letter 56 = .ok (.getfield 273, 3) := by decide +kernel
theorem dX11_letter_59 : decode cX11_letter 59 = .ok (.iload_n 2, 1) := by decide +kernel
theorem dX11_letter_60 : decode cX11_letter 60 = .ok (.iconst 5, 1) := by decide +kernel
theorem dX11_letter_61 : decode cX11_letter 61 = .ok (.idiv, 1) := by decide +kernel
theorem dX11_letter_62 : decode cX11_letter 62 = .ok (.laload, 1) := by decide +kernel
theorem dX11_letter_63 : decode cX11_letter 63 = .ok (.lstore 5, 2) := by decide +kernel
theorem dX11_letter_65 : decode cX11_letter 65 = .ok (.aload_n 0, 1) := by decide +kernel
theorem dX11_letter_66 : decode cX11_letter 66 = .ok (.getfield 64, 3) := by decide +kernel
theorem dX11_letter_69 : decode cX11_letter 69 = .ok (.aload_n 0, 1) := by decide +kernel
theorem dX11_letter_70 : decode cX11_letter 70 = .ok (.getfield 75, 3) := by decide +kernel
theorem dX11_letter_73 : decode cX11_letter 73 = .ok (.iload_n 1, 1) := by decide +kernel
theorem dX11_letter_74 : decode cX11_letter 74 = .ok (.iconst 5, 1) := by decide +kernel
theorem dX11_letter_75 : decode cX11_letter 75 = .ok (.irem, 1) := by decide +kernel
theorem dX11_letter_76 : decode cX11_letter 76 = .ok (.iconst 1, 1) := by decide +kernel
theorem dX11_letter_77 : decode cX11_letter 77 = .ok (.iadd, 1) := by decide +kernel
theorem dX11_letter_78 : decode cX11_letter 78 = .ok (.iload_n 3, 1) := by decide +kernel
theorem dX11_letter_79 : decode cX11_letter 79 = .ok (.invokevirtual 269, 3) := by decide +kernel
theorem dX11_letter_82 : decode cX11_letter 82 = .ok (.aload_n 0, 1) := by decide +kernel
theorem dX11_letter_83 : decode cX11_letter 83 = .ok (.getfield 64, 3) := by decide +kernel
theorem dX11_letter_86 : decode cX11_letter 86 = .ok (.getfield 273, 3) := by decide +kernel
theorem dX11_letter_89 : decode cX11_letter 89 = .ok (.iload_n 2, 1) := by decide +kernel
theorem dX11_letter_90 : decode cX11_letter 90 = .ok (.iconst 5, 1) := by decide +kernel
theorem dX11_letter_91 : decode cX11_letter 91 = .ok (.irem, 1) := by decide +kernel
theorem dX11_letter_92 : decode cX11_letter 92 = .ok (.laload, 1) := by decide +kernel
theorem dX11_letter_93 : decode cX11_letter 93 = .ok (.lstore 7, 2) := by decide +kernel
theorem dX11_letter_95 : decode cX11_letter 95 = .ok (.lload 5, 2) := by decide +kernel
theorem dX11_letter_97 : decode cX11_letter 97 = .ok (.lload 7, 2) := by decide +kernel
theorem dX11_letter_99 : decode cX11_letter 99 = .ok (.lmul, 1) := by decide +kernel
theorem dX11_letter_100 : decode cX11_letter 100 = .ok (.ldc2_w 260, 3) := by decide +kernel
theorem dX11_letter_103 : decode cX11_letter 103 = .ok (.iconst 2, 1) := by decide +kernel
theorem dX11_letter_104 : decode cX11_letter 104 = .ok (.iload_n 3, 1) := by decide +kernel
theorem dX11_letter_105 : decode cX11_letter 105 = .ok (.imul, 1) := by decide +kernel
theorem dX11_letter_106 : decode cX11_letter 106 = .ok (.invokestatic 262, 3) := by decide +kernel
theorem dX11_letter_109 : decode cX11_letter 109 = .ok (.iload 4, 2) := by decide +kernel
theorem dX11_letter_111 : decode cX11_letter 111 = .ok (.invokestatic 252, 3) := by decide +kernel
theorem dX11_letter_114 : decode cX11_letter 114 = .ok (.lreturn, 1) := by decide +kernel
set_option maxRecDepth 20000 in
theorem ggX11_becomes_X11_isPlace : GoodIn wsX11_becomes wsX11_isPlace := goodIn_r _ [6] (by decide +kernel) (by decide +kernel)
set_option maxRecDepth 20000 in
theorem gX11_becomes_X11_isPlace : GoodIn wsX11_becomes (va_wsS RX11 147 yX11_isPlace wsX11_isPlace) := goodIn_app (goodIn_of _ (by decide +kernel)) ggX11_becomes_X11_isPlace
set_option maxRecDepth 20000 in
theorem ggX11_becomes_X3_pass : GoodIn wsX11_becomes wsX3_pass := goodIn_r _ [11, 12, 13, 14, 15, 16, 17, 18, 19, 20, 21, 22, 23, 24, 25, 26, 27, 28, 29, 30, 31, 32, 33, 34, 35, 54, 55, 56, 57, 58, 59, 60, 61, 62, 63, 64, 65, 66, 67, 68, 69, 70] (by decide +kernel) (by decide +kernel)
set_option maxRecDepth 20000 in
theorem gX11_becomes_X3_pass : GoodIn wsX11_becomes (wsV RX11 269 RX3 yX3_pass wsX3_pass) := goodIn_app (goodIn_of _ (by decide +kernel)) ggX11_becomes_X3_pass
set_option maxRecDepth 20000 in
theorem ggX11_becomes_X3_mostWays : GoodIn wsX11_becomes wsX3_mostWays := goodIn_r _ [39, 12, 54, 55] (by decide +kernel) (by decide +kernel)
set_option maxRecDepth 20000 in
theorem gX11_becomes_X3_mostWays : GoodIn wsX11_becomes (wsV RX11 276 RX3 yX3_mostWays wsX3_mostWays) := goodIn_app (goodIn_of _ (by decide +kernel)) ggX11_becomes_X3_mostWays
theorem dX11_becomes_0 : decode cX11_becomes 0 = .ok (.iload_n 1, 1) := by decide +kernel
theorem dX11_becomes_1 : decode cX11_becomes 1 = .ok (.invokestatic 147, 3) := by decide +kernel
theorem dX11_becomes_4 : decode cX11_becomes 4 = .ok (.ifCond .eq 12, 3) := by decide +kernel
theorem dX11_becomes_7 : decode cX11_becomes 7 = .ok (.iload_n 2, 1) := by decide +kernel
theorem dX11_becomes_8 : decode cX11_becomes 8 = .ok (.ifCond .lt 8, 3) := by decide +kernel
theorem dX11_becomes_11 : decode cX11_becomes 11 = .ok (.iload_n 2, 1) := by decide +kernel
theorem dX11_becomes_12 : decode cX11_becomes 12 = .ok (.iconst 5, 1) := by decide +kernel
theorem dX11_becomes_13 : decode cX11_becomes 13 = .ok (.if_icmp .le 5, 3) := by decide +kernel
theorem dX11_becomes_16 : decode cX11_becomes 16 = .ok (.iconst (-1), 1) := by decide +kernel
theorem dX11_becomes_17 : decode cX11_becomes 17 = .ok (.ireturn, 1) := by decide +kernel
theorem dX11_becomes_18 : decode cX11_becomes 18 = .ok (.aload_n 0, 1) := by decide +kernel
theorem dX11_becomes_19 : decode cX11_becomes 19 = .ok (.getfield 64, 3) := by decide +kernel
theorem dX11_becomes_22 : decode cX11_becomes 22 = .ok (.aload_n 0, 1) := by decide +kernel
theorem dX11_becomes_23 : decode cX11_becomes 23 = .ok (.getfield 75, 3) := by decide +kernel
theorem dX11_becomes_26 : decode cX11_becomes 26 = .ok (.iload_n 1, 1) := by decide +kernel
theorem dX11_becomes_27 : decode cX11_becomes 27 = .ok (.iconst 5, 1) := by decide +kernel
theorem dX11_becomes_28 : decode cX11_becomes 28 = .ok (.idiv, 1) := by decide +kernel
theorem dX11_becomes_29 : decode cX11_becomes 29 = .ok (.iconst 1, 1) := by decide +kernel
theorem dX11_becomes_30 : decode cX11_becomes 30 = .ok (.iadd, 1) := by decide +kernel
theorem dX11_becomes_31 : decode cX11_becomes 31 = .ok (.iload_n 2, 1) := by decide +kernel
theorem dX11_becomes_32 : decode cX11_becomes 32 = .ok (.invokevirtual 269, 3) := by decide +kernel
theorem dX11_becomes_35 : decode cX11_becomes 35 = .ok (.aload_n 0, 1) := by decide +kernel
theorem dX11_becomes_36 : decode cX11_becomes 36 = .ok (.getfield 64, 3) := by decide +kernel
theorem dX11_becomes_39 : decode cX11_becomes 39 = .ok (.invokevirtual 276, 3) := by decide +kernel
theorem dX11_becomes_42 : decode cX11_becomes 42 = .ok (.istore_n 3, 1) := by decide +kernel
theorem dX11_becomes_43 : decode cX11_becomes 43 = .ok (.aload_n 0, 1) := by decide +kernel
theorem dX11_becomes_44 : decode cX11_becomes 44 = .ok (.getfield 64, 3) := by decide +kernel
theorem dX11_becomes_47 : decode cX11_becomes 47 = .ok (.aload_n 0, 1) := by decide +kernel
theorem dX11_becomes_48 : decode cX11_becomes 48 = .ok (.getfield 75, 3) := by decide +kernel
theorem dX11_becomes_51 : decode cX11_becomes 51 = .ok (.iload_n 1, 1) := by decide +kernel
theorem dX11_becomes_52 : decode cX11_becomes 52 = .ok (.iconst 5, 1) := by decide +kernel
theorem dX11_becomes_53 : decode cX11_becomes 53 = .ok (.irem, 1) := by decide +kernel
theorem dX11_becomes_54 : decode cX11_becomes 54 = .ok (.iconst 1, 1) := by decide +kernel
theorem dX11_becomes_55 : decode cX11_becomes 55 = .ok (.iadd, 1) := by decide +kernel
theorem dX11_becomes_56 : decode cX11_becomes 56 = .ok (.iload_n 2, 1) := by decide +kernel
theorem dX11_becomes_57 : decode cX11_becomes 57 = .ok (.invokevirtual 269, 3) := by decide +kernel
theorem dX11_becomes_60 : decode cX11_becomes 60 = .ok (.iconst 5, 1) := by decide +kernel
theorem dX11_becomes_61 : decode cX11_becomes 61 = .ok (.iload_n 3, 1) := by decide +kernel
theorem dX11_becomes_62 : decode cX11_becomes 62 = .ok (.imul, 1) := by decide +kernel
theorem dX11_becomes_63 : decode cX11_becomes 63 = .ok (.aload_n 0, 1) := by decide +kernel
theorem dX11_becomes_64 : decode cX11_becomes 64 = .ok (.getfield 64, 3) := by decide +kernel
theorem dX11_becomes_67 : decode cX11_becomes 67 = .ok (.invokevirtual 276, 3) := by decide +kernel
theorem dX11_becomes_70 : decode cX11_becomes 70 = .ok (.iadd, 1) := by decide +kernel
theorem dX11_becomes_71 : decode cX11_becomes 71 = .ok (.ireturn, 1) := by decide +kernel
set_option maxRecDepth 20000 in
theorem ggX11_pipe_X11_isHalf : GoodIn wsX11_pipe wsX11_isHalf := goodIn_r _ [6] (by decide +kernel) (by decide +kernel)
set_option maxRecDepth 20000 in
theorem gX11_pipe_X11_isHalf : GoodIn wsX11_pipe (va_wsS RX11 225 yX11_isHalf wsX11_isHalf) := goodIn_app (goodIn_of _ (by decide +kernel)) ggX11_pipe_X11_isHalf
set_option maxRecDepth 20000 in
theorem ggX11_pipe_X11_justOne : GoodIn wsX11_pipe wsX11_justOne := goodIn_r _ [9, 10, 11, 5, 12] (by decide +kernel) (by decide +kernel)
set_option maxRecDepth 20000 in
theorem gX11_pipe_X11_justOne : GoodIn wsX11_pipe (va_wsS RX11 280 yX11_justOne wsX11_justOne) := goodIn_app (goodIn_of _ (by decide +kernel)) ggX11_pipe_X11_justOne
set_option maxRecDepth 20000 in
theorem ggX11_pipe_X11_power : GoodIn wsX11_pipe wsX11_power := goodIn_r _ [12] (by decide +kernel) (by decide +kernel)
set_option maxRecDepth 20000 in
theorem gX11_pipe_X11_power : GoodIn wsX11_pipe (va_wsS RX11 262 yX11_power wsX11_power) := goodIn_app (goodIn_of _ (by decide +kernel)) ggX11_pipe_X11_power
set_option maxRecDepth 20000 in
theorem ggX11_pipe_X11_lowest : GoodIn wsX11_pipe wsX11_lowest := goodIn_r _ [15] (by decide +kernel) (by decide +kernel)
set_option maxRecDepth 20000 in
theorem gX11_pipe_X11_lowest : GoodIn wsX11_pipe (va_wsS RX11 252 yX11_lowest wsX11_lowest) := goodIn_app (goodIn_of _ (by decide +kernel)) ggX11_pipe_X11_lowest
theorem dX11_pipe_0 : decode cX11_pipe 0 = .ok (.iload_n 1, 1) := by decide +kernel
theorem dX11_pipe_1 : decode cX11_pipe 1 = .ok (.iconst 1, 1) := by decide +kernel
theorem dX11_pipe_2 : decode cX11_pipe 2 = .ok (.if_icmp .lt 26, 3) := by decide +kernel
theorem dX11_pipe_5 : decode cX11_pipe 5 = .ok (.iload_n 1, 1) := by decide +kernel
theorem dX11_pipe_6 : decode cX11_pipe 6 = .ok (.bipush 10, 2) := by decide +kernel
theorem dX11_pipe_8 : decode cX11_pipe 8 = .ok (.if_icmp .gt 20, 3) := by decide +kernel
theorem dX11_pipe_11 : decode cX11_pipe 11 = .ok (.iload_n 2, 1) := by decide +kernel
theorem dX11_pipe_12 : decode cX11_pipe 12 = .ok (.ifCond .lt 16, 3) := by decide +kernel
theorem dX11_pipe_15 : decode cX11_pipe 15 = .ok (.iload_n 2, 1) := by decide +kernel
theorem dX11_pipe_16 : decode cX11_pipe 16 = .ok (.bipush 20, 2) := by decide +kernel
theorem dX11_pipe_18 : decode cX11_pipe 18 = .ok (.if_icmp .gt 10, 3) := by decide +kernel
theorem dX11_pipe_21 : decode cX11_pipe 21 = .ok (.iload_n 3, 1) := by decide +kernel
theorem dX11_pipe_22 : decode cX11_pipe 22 = .ok (.invokestatic 225, 3) := by decide +kernel
theorem dX11_pipe_25 : decode cX11_pipe 25 = .ok (.ifCond .ne 7, 3) := by decide +kernel
theorem dX11_pipe_28 : decode cX11_pipe 28 = .ok (.ldc2_w 228, 3) := by decide +kernel
theorem dX11_pipe_31 : decode cX11_pipe 31 = .ok (.lreturn, 1) := by decide +kernel
theorem dX11_pipe_32 : decode cX11_pipe 32 = .ok (.iload_n 1, 1) := by decide +kernel
theorem dX11_pipe_33 : decode cX11_pipe 33 = .ok (.iload_n 2, 1) := by decide +kernel
theorem dX11_pipe_34 : decode cX11_pipe 34 = .ok (.invokestatic 280, 3) := by decide +kernel
theorem dX11_pipe_37 : decode cX11_pipe 37 = .ok (.ldc2_w 260, 3) := by decide +kernel
theorem dX11_pipe_40 : decode cX11_pipe 40 = .ok (.iload_n 1, 1) := by decide +kernel
theorem dX11_pipe_41 : decode cX11_pipe 41 = .ok (.invokestatic 262, 3) := by decide +kernel
theorem dX11_pipe_44 : decode cX11_pipe 44 = .ok (.iload_n 3, 1) := by decide +kernel
theorem dX11_pipe_45 : decode cX11_pipe 45 = .ok (.invokestatic 252, 3) := by decide +kernel
theorem dX11_pipe_48 : decode cX11_pipe 48 = .ok (.lreturn, 1) := by decide +kernel
set_option maxRecDepth 20000 in
theorem ggX11_turns_X11_justOne : GoodIn wsX11_turns wsX11_justOne := goodIn_r _ [4, 5, 6, 3, 7] (by decide +kernel) (by decide +kernel)
set_option maxRecDepth 20000 in
theorem gX11_turns_X11_justOne : GoodIn wsX11_turns (va_wsS RX11 280 yX11_justOne wsX11_justOne) := goodIn_app (goodIn_of _ (by decide +kernel)) ggX11_turns_X11_justOne
theorem dX11_turns_0 : decode cX11_turns 0 = .ok (.iload_n 1, 1) := by decide +kernel
theorem dX11_turns_1 : decode cX11_turns 1 = .ok (.iconst 1, 1) := by decide +kernel
theorem dX11_turns_2 : decode cX11_turns 2 = .ok (.if_icmp .lt 9, 3) := by decide +kernel
theorem dX11_turns_5 : decode cX11_turns 5 = .ok (.iload_n 1, 1) := by decide +kernel
theorem dX11_turns_6 : decode cX11_turns 6 = .ok (.bipush 10, 2) := by decide +kernel
theorem dX11_turns_8 : decode cX11_turns 8 = .ok (.if_icmp .le 5, 3) := by decide +kernel
theorem dX11_turns_11 : decode cX11_turns 11 = .ok (.iconst (-1), 1) := by decide +kernel
theorem dX11_turns_12 : decode cX11_turns 12 = .ok (.ireturn, 1) := by decide +kernel
theorem dX11_turns_13 : decode cX11_turns 13 = .ok (.iconst 0, 1) := by decide +kernel
theorem dX11_turns_14 : decode cX11_turns 14 = .ok (.istore_n 2, 1) := by decide +kernel
theorem dX11_turns_15 : decode cX11_turns 15 = .ok (.lconst 0, 1) := by decide +kernel
theorem dX11_turns_16 : decode cX11_turns 16 = .ok (.lstore_n 3, 1) := by decide +kernel
theorem dX11_turns_17 : decode cX11_turns 17 = .ok (.iconst 1, 1) := by decide +kernel
theorem dX11_turns_18 : decode cX11_turns 18 = .ok (.istore 5, 2) := by decide +kernel
theorem dX11_turns_20 : decode cX11_turns 20 = .ok (.iload 5, 2) := by decide +kernel
theorem dX11_turns_22 : decode cX11_turns 22 = .ok (.bipush 20, 2) := by decide +kernel
theorem dX11_turns_24 : decode cX11_turns 24 = .ok (.if_icmp .gt 30, 3) := by decide +kernel
theorem dX11_turns_27 : decode cX11_turns 27 = .ok (.iload_n 1, 1) := by decide +kernel
theorem dX11_turns_28 : decode cX11_turns 28 = .ok (.iload 5, 2) := by decide +kernel
theorem dX11_turns_30 : decode cX11_turns 30 = .ok (.invokestatic 280, 3) := by decide +kernel
theorem dX11_turns_33 : decode cX11_turns 33 = .ok (.lstore 6, 2) := by decide +kernel
theorem dX11_turns_35 : decode cX11_turns 35 = .ok (.lload 6, 2) := by decide +kernel
theorem dX11_turns_37 : decode cX11_turns 37 = .ok (.lload_n 3, 1) := by decide +kernel
theorem dX11_turns_38 : decode cX11_turns 38 = .ok (.lcmp, 1) := by decide +kernel
theorem dX11_turns_39 : decode cX11_turns 39 = .ok (.ifCond .le 9, 3) := by decide +kernel
theorem dX11_turns_42 : decode cX11_turns 42 = .ok (.iload 5, 2) := by decide +kernel
theorem dX11_turns_44 : decode cX11_turns 44 = .ok (.istore_n 2, 1) := by decide +kernel
theorem dX11_turns_45 : decode cX11_turns 45 = .ok (.lload 6, 2) := by decide +kernel
theorem dX11_turns_47 : decode cX11_turns 47 = .ok (.lstore_n 3, 1) := by decide +kernel
theorem dX11_turns_48 : decode cX11_turns 48 = .ok (.iinc 5 1, 3) := by decide +kernel
theorem dX11_turns_51 : decode cX11_turns 51 = .ok (.goto (-31), 3) := by decide +kernel
theorem dX11_turns_54 : decode cX11_turns 54 = .ok (.iload_n 2, 1) := by decide +kernel
theorem dX11_turns_55 : decode cX11_turns 55 = .ok (.ireturn, 1) := by decide +kernel
set_option maxRecDepth 20000 in
theorem ggX11_still_X11_isMinute : GoodIn wsX11_still wsX11_isMinute := goodIn_r _ [7] (by decide +kernel) (by decide +kernel)
set_option maxRecDepth 20000 in
theorem gX11_still_X11_isMinute : GoodIn wsX11_still (va_wsS RX11 284 yX11_isMinute wsX11_isMinute) := goodIn_app (goodIn_of _ (by decide +kernel)) ggX11_still_X11_isMinute
set_option maxRecDepth 20000 in
theorem ggX11_still_X5_firstFrom : GoodIn wsX11_still wsX5_firstFrom := goodIn_r _ [12, 13, 14, 15, 16, 17, 47] (by decide +kernel) (by decide +kernel)
set_option maxRecDepth 20000 in
theorem gX11_still_X5_firstFrom : GoodIn wsX11_still (wsV RX11 296 RX5 yX5_firstFrom wsX5_firstFrom) := goodIn_app (goodIn_of _ (by decide +kernel)) ggX11_still_X5_firstFrom
theorem dX11_still_0 : decode cX11_still 0 = .ok (.iload_n 1, 1) := by decide +kernel
theorem dX11_still_1 : decode cX11_still 1 = .ok (.invokestatic 284, 3) := by decide +kernel
theorem dX11_still_4 : decode cX11_still 4 = .ok (.ifCond .eq 12, 3) := by decide +kernel
theorem dX11_still_7 : decode cX11_still 7 = .ok (.iload_n 2, 1) := by decide +kernel
theorem dX11_still_8 : decode cX11_still 8 = .ok (.ifCond .lt 8, 3) := by decide +kernel
theorem dX11_still_11 : decode cX11_still 11 = .ok (.iload_n 2, 1) := by decide +kernel
theorem dX11_still_12 : decode cX11_still 12 = .ok (.iconst 2, 1) := by decide +kernel
theorem dX11_still_13 : decode cX11_still 13 = .ok (.if_icmp .le 5, 3) := by decide +kernel
theorem dX11_still_16 : decode cX11_still 16 = .ok (.iconst (-1), 1) := by decide +kernel
theorem dX11_still_17 : decode cX11_still 17 = .ok (.ireturn, 1) := by decide +kernel
theorem dX11_still_18 : decode cX11_still 18 = .ok (.iload_n 2, 1) := by decide +kernel
theorem dX11_still_19 : decode cX11_still 19 = .ok (.ifCond .ne 16, 3) := by decide +kernel
theorem dX11_still_22 : decode cX11_still 22 = .ok (.aload_n 0, 1) := by decide +kernel
theorem dX11_still_23 : decode cX11_still 23 = .ok (.getfield 75, 3) := by decide +kernel
theorem dX11_still_26 : decode cX11_still 26 = .ok (.getfield 287, 3) := by decide +kernel
theorem dX11_still_29 : decode cX11_still 29 = .ok (.getfield 291, 3) := by decide +kernel
theorem dX11_still_32 : decode cX11_still 32 = .ok (.iload_n 1, 1) := by decide +kernel
theorem dX11_still_33 : decode cX11_still 33 = .ok (.baload, 1) := by decide +kernel
theorem dX11_still_34 : decode cX11_still 34 = .ok (.ireturn, 1) := by decide +kernel
theorem dX11_still_35 : decode cX11_still 35 = .ok (.aload_n 0, 1) := by decide +kernel
theorem dX11_still_36 : decode cX11_still 36 = .ok (.getfield 75, 3) := by decide +kernel
theorem dX11_still_39 : decode cX11_still 39 = .ok (.getfield 287, 3) := by decide +kernel
theorem dX11_still_42 : decode cX11_still 42 = .ok (.iload_n 1, 1) := by decide +kernel
theorem dX11_still_43 : decode cX11_still 43 = .ok (.iload_n 2, 1) := by decide +kernel
theorem dX11_still_44 : decode cX11_still 44 = .ok (.iconst 1, 1) := by decide +kernel
theorem dX11_still_45 : decode cX11_still 45 = .ok (.isub, 1) := by decide +kernel
theorem dX11_still_46 : decode cX11_still 46 = .ok (.invokevirtual 296, 3) := by decide +kernel
theorem dX11_still_49 : decode cX11_still 49 = .ok (.istore_n 3, 1) := by decide +kernel
theorem dX11_still_50 : decode cX11_still 50 = .ok (.iload_n 3, 1) := by decide +kernel
theorem dX11_still_51 : decode cX11_still 51 = .ok (.ifCond .ge 8, 3) := by decide +kernel
theorem dX11_still_54 : decode cX11_still 54 = .ok (.bipush (-4), 2) := by decide +kernel
theorem dX11_still_56 : decode cX11_still 56 = .ok (.goto 4, 3) := by decide +kernel
theorem dX11_still_59 : decode cX11_still 59 = .ok (.iload_n 3, 1) := by decide +kernel
theorem dX11_still_60 : decode cX11_still 60 = .ok (.ireturn, 1) := by decide +kernel
set_option maxRecDepth 20000 in
theorem ggX11_begin_X11_isMinute : GoodIn wsX11_begin wsX11_isMinute := goodIn_r _ [6] (by decide +kernel) (by decide +kernel)
set_option maxRecDepth 20000 in
theorem gX11_begin_X11_isMinute : GoodIn wsX11_begin (va_wsS RX11 284 yX11_isMinute wsX11_isMinute) := goodIn_app (goodIn_of _ (by decide +kernel)) ggX11_begin_X11_isMinute
set_option maxRecDepth 20000 in
theorem ggX11_begin_X11_isRowLength : GoodIn wsX11_begin wsX11_isRowLength := goodIn_r _ [9] (by decide +kernel) (by decide +kernel)
set_option maxRecDepth 20000 in
theorem gX11_begin_X11_isRowLength : GoodIn wsX11_begin (va_wsS RX11 299 yX11_isRowLength wsX11_isRowLength) := goodIn_app (goodIn_of _ (by decide +kernel)) ggX11_begin_X11_isRowLength
set_option maxRecDepth 20000 in
theorem ggX11_begin_X5_firstRow : GoodIn wsX11_begin wsX5_firstRow := goodIn_r _ [14, 15, 16, 17, 18, 19, 49] (by decide +kernel) (by decide +kernel)
set_option maxRecDepth 20000 in
theorem gX11_begin_X5_firstRow : GoodIn wsX11_begin (wsV RX11 302 RX5 yX5_firstRow wsX5_firstRow) := goodIn_app (goodIn_of _ (by decide +kernel)) ggX11_begin_X5_firstRow
theorem dX11_begin_0 : decode cX11_begin 0 = .ok (.iload_n 1, 1) := by decide +kernel
theorem dX11_begin_1 : decode cX11_begin 1 = .ok (.invokestatic 284, 3) := by decide +kernel
theorem dX11_begin_4 : decode cX11_begin 4 = .ok (.ifCond .eq 10, 3) := by decide +kernel
theorem dX11_begin_7 : decode cX11_begin 7 = .ok (.iload_n 2, 1) := by decide +kernel
theorem dX11_begin_8 : decode cX11_begin 8 = .ok (.invokestatic 299, 3) := by decide +kernel
theorem dX11_begin_11 : decode cX11_begin 11 = .ok (.ifCond .ne 5, 3) := by decide +kernel
theorem dX11_begin_14 : decode cX11_begin 14 = .ok (.iconst (-1), 1) := by decide +kernel
theorem dX11_begin_15 : decode cX11_begin 15 = .ok (.ireturn, 1) := by decide +kernel
theorem dX11_begin_16 : decode cX11_begin 16 = .ok (.aload_n 0, 1) := by decide +kernel
theorem dX11_begin_17 : decode cX11_begin 17 = .ok (.getfield 75, 3) := by decide +kernel
theorem dX11_begin_20 : decode cX11_begin 20 = .ok (.getfield 287, 3) := by decide +kernel
theorem dX11_begin_23 : decode cX11_begin 23 = .ok (.iload_n 1, 1) := by decide +kernel
theorem dX11_begin_24 : decode cX11_begin 24 = .ok (.iload_n 2, 1) := by decide +kernel
theorem dX11_begin_25 : decode cX11_begin 25 = .ok (.invokevirtual 302, 3) := by decide +kernel
theorem dX11_begin_28 : decode cX11_begin 28 = .ok (.istore_n 3, 1) := by decide +kernel
theorem dX11_begin_29 : decode cX11_begin 29 = .ok (.iload_n 3, 1) := by decide +kernel
theorem dX11_begin_30 : decode cX11_begin 30 = .ok (.ifCond .ge 8, 3) := by decide +kernel
theorem dX11_begin_33 : decode cX11_begin 33 = .ok (.bipush (-4), 2) := by decide +kernel
theorem dX11_begin_35 : decode cX11_begin 35 = .ok (.goto 4, 3) := by decide +kernel
theorem dX11_begin_38 : decode cX11_begin 38 = .ok (.iload_n 3, 1) := by decide +kernel
theorem dX11_begin_39 : decode cX11_begin 39 = .ok (.ireturn, 1) := by decide +kernel
