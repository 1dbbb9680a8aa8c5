set_option maxRecDepth 20000 in
theorem ggX12_swap_X12_awake : GoodIn wsX12_swap wsX12_awake := goodIn_r _ [6, 7, 1, 15, 16, 17, 18, 19, 20, 21, 22, 23, 24, 25, 26, 27, 28, 29, 30, 31, 32, 33, 34, 35, 36, 37, 38, 39, 40, 41, 42, 43, 44, 45, 46, 47, 48, 49] (by decide +kernel) (by decide +kernel)
set_option maxRecDepth 20000 in
theorem gX12_swap_X12_awake : GoodIn wsX12_swap (wsV RX12 182 RX12 yX12_awake wsX12_awake) := goodIn_app (goodIn_of _ (by decide +kernel)) ggX12_swap_X12_awake
set_option maxRecDepth 20000 in
theorem ggX12_swap_X12_isPlace : GoodIn wsX12_swap wsX12_isPlace := goodIn_r _ [10, 11, 12, 13, 5, 14] (by decide +kernel) (by decide +kernel)
set_option maxRecDepth 20000 in
theorem gX12_swap_X12_isPlace : GoodIn wsX12_swap (va_wsS RX12 185 yX12_isPlace wsX12_isPlace) := goodIn_app (goodIn_of _ (by decide +kernel)) ggX12_swap_X12_isPlace
theorem dX12_swap_0 : decode cX12_swap 0 = .ok (.aload_n 0, 1) := by decide +kernel
theorem dX12_swap_1 : decode cX12_swap 1 = .ok (.invokevirtual 182, 3) := by decide +kernel
theorem dX12_swap_4 : decode cX12_swap 4 = .ok (.iload_n 1, 1) := by decide +kernel
theorem dX12_swap_5 : decode cX12_swap 5 = .ok (.invokestatic 185, 3) := by decide +kernel
theorem dX12_swap_8 : decode cX12_swap 8 = .ok (.ifCond .eq 10, 3) := by decide +kernel
theorem dX12_swap_11 : decode cX12_swap 11 = .ok (.iload_n 2, 1) := by decide +kernel
theorem dX12_swap_12 : decode cX12_swap 12 = .ok (.invokestatic 185, 3) := by decide +kernel
theorem dX12_swap_15 : decode cX12_swap 15 = .ok (.ifCond .ne 5, 3) := by decide +kernel
theorem dX12_swap_18 : decode cX12_swap 18 = .ok (.iconst (-1), 1) := by decide +kernel
theorem dX12_swap_19 : decode cX12_swap 19 = .ok (.ireturn, 1) := by decide +kernel
theorem dX12_swap_20 : decode cX12_swap 20 = .ok (.aload_n 0, 1) := by decide +kernel
theorem dX12_swap_21 : decode cX12_swap 21 = .ok (.getfield 49, 3) := by decide +kernel
theorem dX12_swap_24 : decode cX12_swap 24 = .ok (.iload_n 1, 1) := by decide +kernel
theorem dX12_swap_25 : decode cX12_swap 25 = .ok (.iaload, 1) := by decide +kernel
theorem dX12_swap_26 : decode cX12_swap 26 = .ok (.istore_n 3, 1) := by decide +kernel
theorem dX12_swap_27 : decode cX12_swap 27 = .ok (.aload_n 0, 1) := by decide +kernel
theorem dX12_swap_28 : decode cX12_swap 28 = .ok (.getfield 49, 3) := by decide +kernel
theorem dX12_swap_31 : decode cX12_swap 31 = .ok (.iload_n 1, 1) := by decide +kernel
theorem dX12_swap_32 : decode cX12_swap 32 = .ok (.aload_n 0, 1) := by decide +kernel
theorem dX12_swap_33 : decode cX12_swap 33 = .ok (.getfield 49, 3) := by decide +kernel
theorem dX12_swap_36 : decode cX12_swap 36 = .ok (.iload_n 2, 1) := by decide +kernel
theorem dX12_swap_37 : decode cX12_swap 37 = .ok (.iaload, 1) := by decide +kernel
theorem dX12_swap_38 : decode cX12_swap 38 = .ok (.iastore, 1) := by decide +kernel
theorem dX12_swap_39 : decode cX12_swap 39 = .ok (.aload_n 0, 1) := by decide +kernel
theorem dX12_swap_40 : decode cX12_swap 40 = .ok (.getfield 49, 3) := by decide +kernel
theorem dX12_swap_43 : decode cX12_swap 43 = .ok (.iload_n 2, 1) := by decide +kernel
theorem dX12_swap_44 : decode cX12_swap 44 = .ok (.iload_n 3, 1) := by decide +kernel
theorem dX12_swap_45 : decode cX12_swap 45 = .ok (.iastore, 1) := by decide +kernel
theorem dX12_swap_46 : decode cX12_swap 46 = .ok (.iload_n 1, 1) := by decide +kernel
theorem dX12_swap_47 : decode cX12_swap 47 = .ok (.iload_n 2, 1) := by decide +kernel
theorem dX12_swap_48 : decode cX12_swap 48 = .ok (.if_icmp .ne 7, 3) := by decide +kernel
theorem dX12_swap_51 : decode cX12_swap 51 = .ok (.iconst 0, 1) := by decide +kernel
theorem dX12_swap_52 : decode cX12_swap 52 = .ok (.goto 4, 3) := by decide +kernel
theorem dX12_swap_55 : decode cX12_swap 55 = .ok (.iconst 1, 1) := by decide +kernel
theorem dX12_swap_56 : decode cX12_swap 56 = .ok (.ireturn, 1) := by decide +kernel
set_option maxRecDepth 20000 in
theorem ggX12_wrongPlace_X12_in : GoodIn wsX12_wrongPlace wsX12_in := goodIn_r _ [8] (by decide +kernel) (by decide +kernel)
set_option maxRecDepth 20000 in
theorem gX12_wrongPlace_X12_in : GoodIn wsX12_wrongPlace (va_wsS RX12 88 yX12_in wsX12_in) := goodIn_app (goodIn_of _ (by decide +kernel)) ggX12_wrongPlace_X12_in
set_option maxRecDepth 20000 in
theorem ggX12_wrongPlace_X12_placeOf : GoodIn wsX12_wrongPlace wsX12_placeOf := goodIn_r _ [12, 13, 14, 15, 16, 17, 18, 19, 20, 21, 22, 23, 24, 25, 26, 27, 28, 29, 30, 31, 32, 33, 34, 35, 36, 37, 38, 39, 40, 41, 42, 43, 44, 45, 46, 47, 48] (by decide +kernel) (by decide +kernel)
set_option maxRecDepth 20000 in
theorem gX12_wrongPlace_X12_placeOf : GoodIn wsX12_wrongPlace (wsV RX12 188 RX12 yX12_placeOf wsX12_placeOf) := goodIn_app (goodIn_of _ (by decide +kernel)) ggX12_wrongPlace_X12_placeOf
theorem dX12_wrongPlace_0 : decode cX12_wrongPlace 0 = .ok (.iconst 0, 1) := by decide +kernel
theorem dX12_wrongPlace_1 : decode cX12_wrongPlace 1 = .ok (.istore_n 1, 1) := by decide +kernel
theorem dX12_wrongPlace_2 : decode cX12_wrongPlace 2 = .ok (.iconst 0, 1) := by decide +kernel
theorem dX12_wrongPlace_3 : decode cX12_wrongPlace 3 = .ok (.istore_n 2, 1) := by decide +kernel
theorem dX12_wrongPlace_4 : decode cX12_wrongPlace 4 = .ok (.iload_n 2, 1) := by decide +kernel
theorem dX12_wrongPlace_5 : decode cX12_wrongPlace 5 = .ok (.aload_n 0, 1) := by decide +kernel
theorem dX12_wrongPlace_6 : decode cX12_wrongPlace 6 = .ok (.getfield 84, 3) := by decide +kernel
theorem dX12_wrongPlace_9 : decode cX12_wrongPlace 9 = .ok (.if_icmp .ge 83, 3) := by decide +kernel
theorem dX12_wrongPlace_12 : decode cX12_wrongPlace 12 = .ok (.aload_n 0, 1) := by decide +kernel
theorem dX12_wrongPlace_13 : decode cX12_wrongPlace 13 = .ok (.getfield 7, 3) := by decide +kernel
theorem dX12_wrongPlace_16 : decode cX12_wrongPlace 16 = .ok (.iload_n 2, 1) := by decide +kernel
theorem dX12_wrongPlace_17 : decode cX12_wrongPlace 17 = .ok (.iaload, 1) := by decide +kernel
theorem dX12_wrongPlace_18 : decode cX12_wrongPlace 18 = .ok (.i2l, 1) := by decide +kernel
theorem dX12_wrongPlace_19 : decode cX12_wrongPlace 19 = .ok (.ldc2_w 114, 3) := by decide +kernel
theorem dX12_wrongPlace_22 : decode cX12_wrongPlace 22 = .ok (.ldc2_w 116, 3) := by decide +kernel
theorem dX12_wrongPlace_25 : decode cX12_wrongPlace 25 = .ok (.invokestatic 88, 3) := by decide +kernel
theorem dX12_wrongPlace_28 : decode cX12_wrongPlace 28 = .ok (.ifCond .eq 25, 3) := by decide +kernel
theorem dX12_wrongPlace_31 : decode cX12_wrongPlace 31 = .ok (.aload_n 0, 1) := by decide +kernel
theorem dX12_wrongPlace_32 : decode cX12_wrongPlace 32 = .ok (.aload_n 0, 1) := by decide +kernel
theorem dX12_wrongPlace_33 : decode cX12_wrongPlace 33 = .ok (.getfield 7, 3) := by decide +kernel
theorem dX12_wrongPlace_36 : decode cX12_wrongPlace 36 = .ok (.iload_n 2, 1) := by decide +kernel
theorem dX12_wrongPlace_37 : decode cX12_wrongPlace 37 = .ok (.iaload, 1) := by decide +kernel
theorem dX12_wrongPlace_38 : decode cX12_wrongPlace 38 = .ok (.bipush 97, 2) := by decide +kernel
theorem dX12_wrongPlace_40 : decode cX12_wrongPlace 40 = .ok (.isub, 1) := by decide +kernel
theorem dX12_wrongPlace_41 : decode cX12_wrongPlace 41 = .ok (.invokevirtual 188, 3) := by decide +kernel
theorem dX12_wrongPlace_44 : decode cX12_wrongPlace 44 = .ok (.bipush (-4), 2) := by decide +kernel
theorem dX12_wrongPlace_46 : decode cX12_wrongPlace 46 = .ok (.if_icmp .eq 7, 3) := by decide +kernel
theorem dX12_wrongPlace_49 : decode cX12_wrongPlace 49 = .ok (.iconst 1, 1) := by decide +kernel
theorem dX12_wrongPlace_50 : decode cX12_wrongPlace 50 = .ok (.goto 4, 3) := by decide +kernel
theorem dX12_wrongPlace_53 : decode cX12_wrongPlace 53 = .ok (.iconst 0, 1) := by decide +kernel
theorem dX12_wrongPlace_54 : decode cX12_wrongPlace 54 = .ok (.istore_n 3, 1) := by decide +kernel
theorem dX12_wrongPlace_55 : decode cX12_wrongPlace 55 = .ok (.iload_n 3, 1) := by decide +kernel
theorem dX12_wrongPlace_56 : decode cX12_wrongPlace 56 = .ok (.ifCond .ne 16, 3) := by decide +kernel
theorem dX12_wrongPlace_59 : decode cX12_wrongPlace 59 = .ok (.aload_n 0, 1) := by decide +kernel
theorem dX12_wrongPlace_60 : decode cX12_wrongPlace 60 = .ok (.getfield 7, 3) := by decide +kernel
theorem dX12_wrongPlace_63 : decode cX12_wrongPlace 63 = .ok (.iload_n 2, 1) := by decide +kernel
theorem dX12_wrongPlace_64 : decode cX12_wrongPlace 64 = .ok (.iaload, 1) := by decide +kernel
theorem dX12_wrongPlace_65 : decode cX12_wrongPlace 65 = .ok (.bipush 32, 2) := by decide +kernel
theorem dX12_wrongPlace_67 : decode cX12_wrongPlace 67 = .ok (.if_icmp .eq 5, 3) := by decide +kernel
theorem dX12_wrongPlace_70 : decode cX12_wrongPlace 70 = .ok (.iload_n 2, 1) := by decide +kernel
theorem dX12_wrongPlace_71 : decode cX12_wrongPlace 71 = .ok (.ireturn, 1) := by decide +kernel
theorem dX12_wrongPlace_72 : decode cX12_wrongPlace 72 = .ok (.iload_n 1, 1) := by decide +kernel
theorem dX12_wrongPlace_73 : decode cX12_wrongPlace 73 = .ok (.ifCond .ne 7, 3) := by decide +kernel
theorem dX12_wrongPlace_76 : decode cX12_wrongPlace 76 = .ok (.iload_n 3, 1) := by decide +kernel
theorem dX12_wrongPlace_77 : decode cX12_wrongPlace 77 = .ok (.ifCond .eq 7, 3) := by decide +kernel
theorem dX12_wrongPlace_80 : decode cX12_wrongPlace 80 = .ok (.iconst 1, 1) := by decide +kernel
theorem dX12_wrongPlace_81 : decode cX12_wrongPlace 81 = .ok (.goto 4, 3) := by decide +kernel
theorem dX12_wrongPlace_84 : decode cX12_wrongPlace 84 = .ok (.iconst 0, 1) := by decide +kernel
theorem dX12_wrongPlace_85 : decode cX12_wrongPlace 85 = .ok (.istore_n 1, 1) := by decide +kernel
theorem dX12_wrongPlace_86 : decode cX12_wrongPlace 86 = .ok (.iinc 2 1, 3) := by decide +kernel
theorem dX12_wrongPlace_89 : decode cX12_wrongPlace 89 = .ok (.goto (-85), 3) := by decide +kernel
theorem dX12_wrongPlace_92 : decode cX12_wrongPlace 92 = .ok (.iload_n 1, 1) := by decide +kernel
theorem dX12_wrongPlace_93 : decode cX12_wrongPlace 93 = .ok (.ifCond .eq 8, 3) := by decide +kernel
theorem dX12_wrongPlace_96 : decode cX12_wrongPlace 96 = .ok (.bipush (-4), 2) := by decide +kernel
theorem dX12_wrongPlace_98 : decode cX12_wrongPlace 98 = .ok (.goto 7, 3) := by decide +kernel
theorem dX12_wrongPlace_101 : decode cX12_wrongPlace 101 = .ok (.aload_n 0, 1) := by decide +kernel
theorem dX12_wrongPlace_102 : decode cX12_wrongPlace 102 = .ok (.getfield 84, 3) := by decide +kernel
theorem dX12_wrongPlace_105 : decode cX12_wrongPlace 105 = .ok (.ireturn, 1) := by decide +kernel
set_option maxRecDepth 20000 in
theorem ggX12_wrong_X12_awake : GoodIn wsX12_wrong wsX12_awake := goodIn_r _ [5, 6, 7, 23, 24, 25, 26, 27, 28, 29, 30, 31, 32, 33, 34, 35, 36, 37, 38, 39, 40, 41, 42, 43, 44, 45, 46, 47, 48, 49, 50, 51, 52, 53, 54, 55, 56, 57] (by decide +kernel) (by decide +kernel)
set_option maxRecDepth 20000 in
theorem gX12_wrong_X12_awake : GoodIn wsX12_wrong (wsV RX12 182 RX12 yX12_awake wsX12_awake) := goodIn_app (goodIn_of _ (by decide +kernel)) ggX12_wrong_X12_awake
set_option maxRecDepth 20000 in
theorem ggX12_wrong_X12_wrongPlace : GoodIn wsX12_wrong wsX12_wrongPlace := goodIn_r _ [11, 12, 13, 14, 15, 16, 17, 4, 18, 19, 20, 21, 22, 7, 23, 24, 25, 26, 27, 28, 29, 30, 31, 32, 33, 34, 35, 36, 37, 38, 39, 40, 41, 42, 43, 44, 45, 46, 47, 48, 49, 50, 51, 52, 53, 54, 55, 56, 57] (by decide +kernel) (by decide +kernel)
set_option maxRecDepth 20000 in
theorem gX12_wrong_X12_wrongPlace : GoodIn wsX12_wrong (wsV RX12 208 RX12 yX12_wrongPlace wsX12_wrongPlace) := goodIn_app (goodIn_of _ (by decide +kernel)) ggX12_wrong_X12_wrongPlace
theorem dX12_wrong_0 : decode cX12_wrong 0 = .ok (.aload_n 0, 1) := by decide +kernel
theorem dX12_wrong_1 : decode cX12_wrong 1 = .ok (.invokevirtual 182, 3) := by decide +kernel
theorem dX12_wrong_4 : decode cX12_wrong 4 = .ok (.aload_n 0, 1) := by decide +kernel
theorem dX12_wrong_5 : decode cX12_wrong 5 = .ok (.invokevirtual 208, 3) := by decide +kernel
theorem dX12_wrong_8 : decode cX12_wrong 8 = .ok (.ireturn, 1) := by decide +kernel
theorem dX12_shortFor_0 : decode cX12_shortFor 0 = .ok (.iconst 0, 1) := by decide +kernel
theorem dX12_shortFor_1 : decode cX12_shortFor 1 = .ok (.istore_n 3, 1) := by decide +kernel
theorem dX12_shortFor_2 : decode cX12_shortFor 2 = .ok (.iload_n 3, 1) := by decide +kernel
theorem dX12_shortFor_3 : decode cX12_shortFor 3 = .ok (.aload_n 0, 1) := by decide +kernel
theorem dX12_shortFor_4 : decode cX12_shortFor 4 = .ok (.getfield 22, 3) := by decide +kernel
theorem dX12_shortFor_7 : decode cX12_shortFor 7 = .ok (.bipush 6, 2) := by decide +kernel
theorem dX12_shortFor_9 : decode cX12_shortFor 9 = .ok (.iaload, 1) := by decide +kernel
theorem dX12_shortFor_10 : decode cX12_shortFor 10 = .ok (.if_icmp .ge 99, 3) := by decide +kernel
theorem dX12_shortFor_13 : decode cX12_shortFor 13 = .ok (.aload_n 0, 1) := by decide +kernel
theorem dX12_shortFor_14 : decode cX12_shortFor 14 = .ok (.getfield 28, 3) := by decide +kernel
theorem dX12_shortFor_17 : decode cX12_shortFor 17 = .ok (.bipush 13, 2) := by decide +kernel
theorem dX12_shortFor_19 : decode cX12_shortFor 19 = .ok (.iload_n 3, 1) := by decide +kernel
theorem dX12_shortFor_20 : decode cX12_shortFor 20 = .ok (.imul, 1) := by decide +kernel
theorem dX12_shortFor_21 : decode cX12_shortFor 21 = .ok (.bipush 12, 2) := by decide +kernel
theorem dX12_shortFor_23 : decode cX12_shortFor 23 = .ok (.iadd, 1) := by decide +kernel
theorem dX12_shortFor_24 : decode cX12_shortFor 24 = .ok (.iaload, 1) := by decide +kernel
theorem dX12_shortFor_25 : decode cX12_shortFor 25 = .ok (.iload_n 2, 1) := by decide +kernel
theorem dX12_shortFor_26 : decode cX12_shortFor 26 = .ok (.iload_n 1, 1) := by decide +kernel
theorem dX12_shortFor_27 : decode cX12_shortFor 27 = .ok (.isub, 1) := by decide +kernel
theorem dX12_shortFor_28 : decode cX12_shortFor 28 = .ok (.if_icmp .ne 7, 3) := by decide +kernel
theorem dX12_shortFor_31 : decode cX12_shortFor 31 = .ok (.iconst 1, 1) := by decide +kernel
theorem dX12_shortFor_32 : decode cX12_shortFor 32 = .ok (.goto 4, 3) := by decide +kernel
theorem dX12_shortFor_35 : decode cX12_shortFor 35 = .ok (.iconst 0, 1) := by decide +kernel
theorem dX12_shortFor_36 : decode cX12_shortFor 36 = .ok (.istore 4, 2) := by decide +kernel
theorem dX12_shortFor_38 : decode cX12_shortFor 38 = .ok (.iconst 0, 1) := by decide +kernel
theorem dX12_shortFor_39 : decode cX12_shortFor 39 = .ok (.istore 5, 2) := by decide +kernel
theorem dX12_shortFor_41 : decode cX12_shortFor 41 = .ok (.iload 4, 2) := by decide +kernel
theorem dX12_shortFor_43 : decode cX12_shortFor 43 = .ok (.ifCond .eq 53, 3) := by decide +kernel
theorem dX12_shortFor_46 : decode cX12_shortFor 46 = .ok (.iload 5, 2) := by decide +kernel
theorem dX12_shortFor_48 : decode cX12_shortFor 48 = .ok (.iload_n 2, 1) := by decide +kernel
theorem dX12_shortFor_49 : decode cX12_shortFor 49 = .ok (.iload_n 1, 1) := by decide +kernel
theorem dX12_shortFor_50 : decode cX12_shortFor 50 = .ok (.isub, 1) := by decide +kernel
theorem dX12_shortFor_51 : decode cX12_shortFor 51 = .ok (.if_icmp .ge 45, 3) := by decide +kernel
theorem dX12_shortFor_54 : decode cX12_shortFor 54 = .ok (.aload_n 0, 1) := by decide +kernel
theorem dX12_shortFor_55 : decode cX12_shortFor 55 = .ok (.getfield 28, 3) := by decide +kernel
theorem dX12_shortFor_58 : decode cX12_shortFor 58 = .ok (.bipush 13, 2) := by decide +kernel
theorem dX12_shortFor_60 : decode cX12_shortFor 60 = .ok (.iload_n 3, 1) := by decide +kernel
theorem dX12_shortFor_61 : decode cX12_shortFor 61 = .ok (.imul, 1) := by decide +kernel
theorem dX12_shortFor_62 : decode cX12_shortFor 62 = .ok (.iconst 4, 1) := by decide +kernel
theorem dX12_shortFor_63 : decode cX12_shortFor 63 = .ok (.iadd, 1) := by decide +kernel
theorem dX12_shortFor_64 : decode cX12_shortFor 64 = .ok (.iload 5, 2) := by decide +kernel
theorem dX12_shortFor_66 : decode cX12_shortFor 66 = .ok (.iadd, 1) := by decide +kernel
theorem dX12_shortFor_67 : decode cX12_shortFor 67 = .ok (.iaload, 1) := by decide +kernel
theorem dX12_shortFor_68 : decode cX12_shortFor 68 = .ok (.aload_n 0, 1) := by decide +kernel
theorem dX12_shortFor_69 : decode cX12_shortFor 69 = .ok (.getfield 7, 3) := by decide +kernel
theorem dX12_shortFor_72 : decode cX12_shortFor 72 = .ok (.iload_n 1, 1) := by decide +kernel
theorem dX12_shortFor_73 : decode cX12_shortFor 73 = .ok (.iload 5, 2) := by decide +kernel
theorem dX12_shortFor_75 : decode cX12_shortFor 75 = .ok (.iadd, 1) := by decide +kernel
theorem dX12_shortFor_76 : decode cX12_shortFor 76 = .ok (.iaload, 1) := by decide +kernel
theorem dX12_shortFor_77 : decode cX12_shortFor 77 = .ok (.bipush 97, 2) := by decide +kernel
theorem dX12_shortFor_79 : decode cX12_shortFor 79 = .ok (.isub, 1) := by decide +kernel
theorem dX12_shortFor_80 : decode cX12_shortFor 80 = .ok (.if_icmp .ne 7, 3) := by decide +kernel
theorem dX12_shortFor_83 : decode cX12_shortFor 83 = .ok (.iconst 1, 1) := by decide +kernel
theorem dX12_shortFor_84 : decode cX12_shortFor 84 = .ok (.goto 4, 3) := by decide +kernel
theorem dX12_shortFor_87 : decode cX12_shortFor 87 = .ok (.iconst 0, 1) := by decide +kernel
theorem dX12_shortFor_88 : decode cX12_shortFor 88 = .ok (.istore 4, 2) := by decide +kernel
theorem dX12_shortFor_90 : decode cX12_shortFor 90 = .ok (.iinc 5 1, 3) := by decide +kernel
theorem dX12_shortFor_93 : decode cX12_shortFor 93 = .ok (.goto (-52), 3) := by decide +kernel
theorem dX12_shortFor_96 : decode cX12_shortFor 96 = .ok (.iload 4, 2) := by decide +kernel
theorem dX12_shortFor_98 : decode cX12_shortFor 98 = .ok (.ifCond .eq 5, 3) := by decide +kernel
theorem dX12_shortFor_101 : decode cX12_shortFor 101 = .ok (.iload_n 3, 1) := by decide +kernel
theorem dX12_shortFor_102 : decode cX12_shortFor 102 = .ok (.ireturn, 1) := by decide +kernel
theorem dX12_shortFor_103 : decode cX12_shortFor 103 = .ok (.iinc 3 1, 3) := by decide +kernel
theorem dX12_shortFor_106 : decode cX12_shortFor 106 = .ok (.goto (-104), 3) := by decide +kernel
theorem dX12_shortFor_109 : decode cX12_shortFor 109 = .ok (.bipush (-4), 2) := by decide +kernel
theorem dX12_shortFor_111 : decode cX12_shortFor 111 = .ok (.ireturn, 1) := by decide +kernel
theorem dX12_takesName_0 : decode cX12_takesName 0 = .ok (.iload_n 2, 1) := by decide +kernel
theorem dX12_takesName_1 : decode cX12_takesName 1 = .ok (.aload_n 0, 1) := by decide +kernel
theorem dX12_takesName_2 : decode cX12_takesName 2 = .ok (.getfield 22, 3) := by decide +kernel
theorem dX12_takesName_5 : decode cX12_takesName 5 = .ok (.iconst 2, 1) := by decide +kernel
theorem dX12_takesName_6 : decode cX12_takesName 6 = .ok (.iaload, 1) := by decide +kernel
theorem dX12_takesName_7 : decode cX12_takesName 7 = .ok (.imul, 1) := by decide +kernel
theorem dX12_takesName_8 : decode cX12_takesName 8 = .ok (.iload_n 1, 1) := by decide +kernel
theorem dX12_takesName_9 : decode cX12_takesName 9 = .ok (.aload_n 0, 1) := by decide +kernel
theorem dX12_takesName_10 : decode cX12_takesName 10 = .ok (.getfield 22, 3) := by decide +kernel
theorem dX12_takesName_13 : decode cX12_takesName 13 = .ok (.iconst 3, 1) := by decide +kernel
theorem dX12_takesName_14 : decode cX12_takesName 14 = .ok (.iaload, 1) := by decide +kernel
theorem dX12_takesName_15 : decode cX12_takesName 15 = .ok (.imul, 1) := by decide +kernel
theorem dX12_takesName_16 : decode cX12_takesName 16 = .ok (.iadd, 1) := by decide +kernel
theorem dX12_takesName_17 : decode cX12_takesName 17 = .ok (.iload_n 1, 1) := by decide +kernel
theorem dX12_takesName_18 : decode cX12_takesName 18 = .ok (.iconst 1, 1) := by decide +kernel
theorem dX12_takesName_19 : decode cX12_takesName 19 = .ok (.isub, 1) := by decide +kernel
theorem dX12_takesName_20 : decode cX12_takesName 20 = .ok (.aload_n 0, 1) := by decide +kernel
theorem dX12_takesName_21 : decode cX12_takesName 21 = .ok (.getfield 22, 3) := by decide +kernel
theorem dX12_takesName_24 : decode cX12_takesName 24 = .ok (.iconst 4, 1) := by decide +kernel
theorem dX12_takesName_25 : decode cX12_takesName 25 = .ok (.iaload, 1) := by decide +kernel
theorem dX12_takesName_26 : decode cX12_takesName 26 = .ok (.imul, 1) := by decide +kernel
theorem dX12_takesName_27 : decode cX12_takesName 27 = .ok (.iadd, 1) := by decide +kernel
theorem dX12_takesName_28 : decode cX12_takesName 28 = .ok (.ireturn, 1) := by decide +kernel
set_option maxRecDepth 20000 in
theorem ggX12_layName_X12_knocks : GoodIn wsX12_layName wsX12_knocks := goodIn_r _ [9, 10, 11, 12, 8, 13, 14, 15, 16, 17, 26, 27, 28, 29, 30, 31, 32, 33, 34, 35, 36, 37, 38, 39, 40, 41, 42, 43, 44, 45, 46, 47, 48, 49, 50, 51, 52, 53, 54, 55, 56, 57, 58, 59, 60] (by decide +kernel) (by decide +kernel)
set_option maxRecDepth 20000 in
theorem gX12_layName_X12_knocks : GoodIn wsX12_layName (wsV RX12 197 RX12 yX12_knocks wsX12_knocks) := goodIn_app (goodIn_of _ (by decide +kernel)) ggX12_layName_X12_knocks
set_option maxRecDepth 20000 in
theorem ggX12_layName_X12_shortFor : GoodIn wsX12_layName wsX12_shortFor := goodIn_r _ [21, 3, 4, 1, 26, 27, 28, 29, 30, 31, 32, 33, 34, 35, 36, 37, 38, 39, 40, 41, 42, 43, 44, 45, 46, 47, 48, 49, 50, 51, 52, 53, 54, 55, 56, 57, 58, 59, 60] (by decide +kernel) (by decide +kernel)
set_option maxRecDepth 20000 in
theorem gX12_layName_X12_shortFor : GoodIn wsX12_layName (wsV RX12 211 RX12 yX12_shortFor wsX12_shortFor) := goodIn_app (goodIn_of _ (by decide +kernel)) ggX12_layName_X12_shortFor
set_option maxRecDepth 20000 in
theorem ggX12_layName_X12_takesName : GoodIn wsX12_layName wsX12_takesName := goodIn_r _ [25, 3, 26, 27, 28, 29, 30, 31, 32, 33, 34, 35, 36, 37, 38, 39, 40, 41, 42, 43, 44, 45, 46, 47, 48, 49, 50, 51, 52, 53, 54, 55, 56, 57, 58, 59, 60] (by decide +kernel) (by decide +kernel)
set_option maxRecDepth 20000 in
theorem gX12_layName_X12_takesName : GoodIn wsX12_layName (wsV RX12 214 RX12 yX12_takesName wsX12_takesName) := goodIn_app (goodIn_of _ (by decide +kernel)) ggX12_layName_X12_takesName
theorem dX12_layName_0 : decode cX12_layName 0 = .ok (.iload_n 2, 1) := by decide +kernel
theorem dX12_layName_1 : decode cX12_layName 1 = .ok (.iload_n 1, 1) := by decide +kernel
theorem dX12_layName_2 : decode cX12_layName 2 = .ok (.isub, 1) := by decide +kernel
theorem dX12_layName_3 : decode cX12_layName 3 = .ok (.istore_n 3, 1) := by decide +kernel
theorem dX12_layName_4 : decode cX12_layName 4 = .ok (.iconst 0, 1) := by decide +kernel
theorem dX12_layName_5 : decode cX12_layName 5 = .ok (.istore 4, 2) := by decide +kernel
theorem dX12_layName_7 : decode cX12_layName 7 = .ok (.iload_n 1, 1) := by decide +kernel
theorem dX12_layName_8 : decode cX12_layName 8 = .ok (.istore 5, 2) := by decide +kernel
theorem dX12_layName_10 : decode cX12_layName 10 = .ok (.iload 5, 2) := by decide +kernel
theorem dX12_layName_12 : decode cX12_layName 12 = .ok (.iload_n 2, 1) := by decide +kernel
theorem dX12_layName_13 : decode cX12_layName 13 = .ok (.if_icmp .ge 28, 3) := by decide +kernel
theorem dX12_layName_16 : decode cX12_layName 16 = .ok (.iload 4, 2) := by decide +kernel
theorem dX12_layName_18 : decode cX12_layName 18 = .ok (.aload_n 0, 1) := by decide +kernel
theorem dX12_layName_19 : decode cX12_layName 19 = .ok (.aload_n 0, 1) := by decide +kernel
theorem dX12_layName_20 : decode cX12_layName 20 = .ok (.getfield 7, 3) := by decide +kernel
theorem dX12_layName_23 : decode cX12_layName 23 = .ok (.iload 5, 2) := by decide +kernel
theorem dX12_layName_25 : decode cX12_layName 25 = .ok (.iaload, 1) := by decide +kernel
theorem dX12_layName_26 : decode cX12_layName 26 = .ok (.bipush 97, 2) := by decide +kernel
theorem dX12_layName_28 : decode cX12_layName 28 = .ok (.isub, 1) := by decide +kernel
theorem dX12_layName_29 : decode cX12_layName 29 = .ok (.invokevirtual 197, 3) := by decide +kernel
theorem dX12_layName_32 : decode cX12_layName 32 = .ok (.iadd, 1) := by decide +kernel
theorem dX12_layName_33 : decode cX12_layName 33 = .ok (.istore 4, 2) := by decide +kernel
theorem dX12_layName_35 : decode cX12_layName 35 = .ok (.iinc 5 1, 3) := by decide +kernel
theorem dX12_layName_38 : decode cX12_layName 38 = .ok (.goto (-28), 3) := by decide +kernel
theorem dX12_layName_41 : decode cX12_layName 41 = .ok (.aload_n 0, 1) := by decide +kernel
theorem dX12_layName_42 : decode cX12_layName 42 = .ok (.getfield 52, 3) := by decide +kernel
theorem dX12_layName_45 : decode cX12_layName 45 = .ok (.iconst 1, 1) := by decide +kernel
theorem dX12_layName_46 : decode cX12_layName 46 = .ok (.iaload, 1) := by decide +kernel
theorem dX12_layName_47 : decode cX12_layName 47 = .ok (.ifCond .le 14, 3) := by decide +kernel
theorem dX12_layName_50 : decode cX12_layName 50 = .ok (.iconst 2, 1) := by decide +kernel
theorem dX12_layName_51 : decode cX12_layName 51 = .ok (.aload_n 0, 1) := by decide +kernel
theorem dX12_layName_52 : decode cX12_layName 52 = .ok (.getfield 22, 3) := by decide +kernel
theorem dX12_layName_55 : decode cX12_layName 55 = .ok (.iconst 4, 1) := by decide +kernel
theorem dX12_layName_56 : decode cX12_layName 56 = .ok (.iaload, 1) := by decide +kernel
theorem dX12_layName_57 : decode cX12_layName 57 = .ok (.imul, 1) := by decide +kernel
theorem dX12_layName_58 : decode cX12_layName 58 = .ok (.goto 4, 3) := by decide +kernel
theorem dX12_layName_61 : decode cX12_layName 61 = .ok (.iconst 0, 1) := by decide +kernel
theorem dX12_layName_62 : decode cX12_layName 62 = .ok (.istore 5, 2) := by decide +kernel
theorem dX12_layName_64 : decode cX12_layName 64 = .ok (.aload_n 0, 1) := by decide +kernel
theorem dX12_layName_65 : decode cX12_layName 65 = .ok (.iload_n 1, 1) := by decide +kernel
theorem dX12_layName_66 : decode cX12_layName 66 = .ok (.iload_n 2, 1) := by decide +kernel
theorem dX12_layName_67 : decode cX12_layName 67 = .ok (.invokevirtual 211, 3) := by decide +kernel
theorem dX12_layName_70 : decode cX12_layName 70 = .ok (.istore 6, 2) := by decide +kernel
theorem dX12_layName_72 : decode cX12_layName 72 = .ok (.iload_n 3, 1) := by decide +kernel
theorem dX12_layName_73 : decode cX12_layName 73 = .ok (.istore 7, 2) := by decide +kernel
theorem dX12_layName_75 : decode cX12_layName 75 = .ok (.iload 4, 2) := by decide +kernel
theorem dX12_layName_77 : decode cX12_layName 77 = .ok (.istore 8, 2) := by decide +kernel
theorem dX12_layName_79 : decode cX12_layName 79 = .ok (.iload 6, 2) := by decide +kernel
theorem dX12_layName_81 : decode cX12_layName 81 = .ok (.bipush (-4), 2) := by decide +kernel
theorem dX12_layName_83 : decode cX12_layName 83 = .ok (.if_icmp .eq 90, 3) := by decide +kernel
theorem dX12_layName_86 : decode cX12_layName 86 = .ok (.iconst 0, 1) := by decide +kernel
theorem dX12_layName_87 : decode cX12_layName 87 = .ok (.istore 9, 2) := by decide +kernel
theorem dX12_layName_89 : decode cX12_layName 89 = .ok (.iconst 0, 1) := by decide +kernel
theorem dX12_layName_90 : decode cX12_layName 90 = .ok (.istore 10, 2) := by decide +kernel
theorem dX12_layName_92 : decode cX12_layName 92 = .ok (.iload 10, 2) := by decide +kernel
theorem dX12_layName_94 : decode cX12_layName 94 = .ok (.aload_n 0, 1) := by decide +kernel
theorem dX12_layName_95 : decode cX12_layName 95 = .ok (.getfield 28, 3) := by decide +kernel
theorem dX12_layName_98 : decode cX12_layName 98 = .ok (.bipush 13, 2) := by decide +kernel
theorem dX12_layName_100 : decode cX12_layName 100 = .ok (.iload 6, 2) := by decide +kernel
theorem dX12_layName_102 : decode cX12_layName 102 = .ok (.imul, 1) := by decide +kernel
theorem dX12_layName_103 : decode cX12_layName 103 = .ok (.iconst 3, 1) := by decide +kernel
theorem dX12_layName_104 : decode cX12_layName 104 = .ok (.iadd, 1) := by decide +kernel
theorem dX12_layName_105 : decode cX12_layName 105 = .ok (.iaload, 1) := by decide +kernel
theorem dX12_layName_106 : decode cX12_layName 106 = .ok (.if_icmp .ge 31, 3) := by decide +kernel
theorem dX12_layName_109 : decode cX12_layName 109 = .ok (.iload 9, 2) := by decide +kernel
theorem dX12_layName_111 : decode cX12_layName 111 = .ok (.aload_n 0, 1) := by decide +kernel
theorem dX12_layName_112 : decode cX12_layName 112 = .ok (.aload_n 0, 1) := by decide +kernel
theorem dX12_layName_113 : decode cX12_layName 113 = .ok (.getfield 28, 3) := by decide +kernel
theorem dX12_layName_116 : decode cX12_layName 116 = .ok (.bipush 13, 2) := by decide +kernel
theorem dX12_layName_118 : decode cX12_layName 118 = .ok (.iload 6, 2) := by decide +kernel
theorem dX12_layName_120 : decode cX12_layName 120 = .ok (.imul, 1) := by decide +kernel
theorem dX12_layName_121 : decode cX12_layName 121 = .ok (.iload 10, 2) := by decide +kernel
theorem dX12_layName_123 : decode cX12_layName 123 = .ok (.iadd, 1) := by decide +kernel
theorem dX12_layName_124 : decode cX12_layName 124 = .ok (.iaload, 1) := by decide +kernel
theorem dX12_layName_125 : decode cX12_layName 125 = .ok (.invokevirtual 197, 3) := by decide +kernel
theorem dX12_layName_128 : decode cX12_layName 128 = .ok (.iadd, 1) := by decide +kernel
theorem dX12_layName_129 : decode cX12_layName 129 = .ok (.istore 9, 2) := by decide +kernel
theorem dX12_layName_131 : decode cX12_layName 131 = .ok (.iinc 10 1, 3) := by decide +kernel
theorem dX12_layName_134 : decode cX12_layName 134 = .ok (.goto (-42), 3) := by decide +kernel
theorem dX12_layName_137 : decode cX12_layName 137 = .ok (.iload 9, 2) := by decide +kernel
theorem dX12_layName_139 : decode cX12_layName 139 = .ok (.iload 4, 2) := by decide +kernel
theorem dX12_layName_141 : decode cX12_layName 141 = .ok (.if_icmp .ge 32, 3) := by decide +kernel
theorem dX12_layName_144 : decode cX12_layName 144 = .ok (.aload_n 0, 1) := by decide +kernel
theorem dX12_layName_145 : decode cX12_layName 145 = .ok (.getfield 28, 3) := by decide +kernel
theorem dX12_layName_148 : decode cX12_layName 148 = .ok (.bipush 13, 2) := by decide +kernel
theorem dX12_layName_150 : decode cX12_layName 150 = .ok (.iload 6, 2) := by decide +kernel
theorem dX12_layName_152 : decode cX12_layName 152 = .ok (.imul, 1) := by decide +kernel
theorem dX12_layName_153 : decode cX12_layName 153 = .ok (.iconst 3, 1) := by decide +kernel
theorem dX12_layName_154 : decode cX12_layName 154 = .ok (.iadd, 1) := by decide +kernel
theorem dX12_layName_155 : decode cX12_layName 155 = .ok (.iaload, 1) := by decide +kernel
theorem dX12_layName_156 : decode cX12_layName 156 = .ok (.istore 7, 2) := by decide +kernel
theorem dX12_layName_158 : decode cX12_layName 158 = .ok (.iload 9, 2) := by decide +kernel
theorem dX12_layName_160 : decode cX12_layName 160 = .ok (.istore 8, 2) := by decide +kernel
theorem dX12_layName_162 : decode cX12_layName 162 = .ok (.aload_n 0, 1) := by decide +kernel
theorem dX12_layName_163 : decode cX12_layName 163 = .ok (.getfield 52, 3) := by decide +kernel
theorem dX12_layName_166 : decode cX12_layName 166 = .ok (.bipush 6, 2) := by decide +kernel
theorem dX12_layName_168 : decode cX12_layName 168 = .ok (.dup2, 1) := by decide +kernel
theorem dX12_layName_169 : decode cX12_layName 169 = .ok (.iaload, 1) := by decide +kernel
theorem dX12_layName_170 : decode cX12_layName 170 = .ok (.iconst 1, 1) := by decide +kernel
theorem dX12_layName_171 : decode cX12_layName 171 = .ok (.iadd, 1) := by decide +kernel
theorem dX12_layName_172 : decode cX12_layName 172 = .ok (.iastore, 1) := by decide +kernel
theorem dX12_layName_173 : decode cX12_layName 173 = .ok (.aload_n 0, 1) := by decide +kernel
theorem dX12_layName_174 : decode cX12_layName 174 = .ok (.getfield 52, 3) := by decide +kernel
theorem dX12_layName_177 : decode cX12_layName 177 = .ok (.iconst 0, 1) := by decide +kernel
theorem dX12_layName_178 : decode cX12_layName 178 = .ok (.dup2, 1) := by decide +kernel
theorem dX12_layName_179 : decode cX12_layName 179 = .ok (.iaload, 1) := by decide +kernel
theorem dX12_layName_180 : decode cX12_layName 180 = .ok (.iload_n 3, 1) := by decide +kernel
theorem dX12_layName_181 : decode cX12_layName 181 = .ok (.iadd, 1) := by decide +kernel
theorem dX12_layName_182 : decode cX12_layName 182 = .ok (.iastore, 1) := by decide +kernel
theorem dX12_layName_183 : decode cX12_layName 183 = .ok (.aload_n 0, 1) := by decide +kernel
theorem dX12_layName_184 : decode cX12_layName 184 = .ok (.getfield 52, 3) := by decide +kernel
theorem dX12_layName_187 : decode cX12_layName 187 = .ok (.iconst 1, 1) := by decide +kernel
theorem dX12_layName_188 : decode cX12_layName 188 = .ok (.dup2, 1) := by decide +kernel
theorem dX12_layName_189 : decode cX12_layName 189 = .ok (.iaload, 1) := by decide +kernel
theorem dX12_layName_190 : decode cX12_layName 190 = .ok (.iconst 1, 1) := by decide +kernel
theorem dX12_layName_191 : decode cX12_layName 191 = .ok (.iadd, 1) := by decide +kernel
theorem dX12_layName_192 : decode cX12_layName 192 = .ok (.iastore, 1) := by decide +kernel
theorem dX12_layName_193 : decode cX12_layName 193 = .ok (.aload_n 0, 1) := by decide +kernel
theorem dX12_layName_194 : decode cX12_layName 194 = .ok (.getfield 52, 3) := by decide +kernel
theorem dX12_layName_197 : decode cX12_layName 197 = .ok (.iconst 2, 1) := by decide +kernel
theorem dX12_layName_198 : decode cX12_layName 198 = .ok (.dup2, 1) := by decide +kernel
theorem dX12_layName_199 : decode cX12_layName 199 = .ok (.iaload, 1) := by decide +kernel
theorem dX12_layName_200 : decode cX12_layName 200 = .ok (.iload 4, 2) := by decide +kernel
theorem dX12_layName_202 : decode cX12_layName 202 = .ok (.iadd, 1) := by decide +kernel
theorem dX12_layName_203 : decode cX12_layName 203 = .ok (.iastore, 1) := by decide +kernel
theorem dX12_layName_204 : decode cX12_layName 204 = .ok (.aload_n 0, 1) := by decide +kernel
theorem dX12_layName_205 : decode cX12_layName 205 = .ok (.getfield 52, 3) := by decide +kernel
theorem dX12_layName_208 : decode cX12_layName 208 = .ok (.iconst 3, 1) := by decide +kernel
theorem dX12_layName_209 : decode cX12_layName 209 = .ok (.dup2, 1) := by decide +kernel
theorem dX12_layName_210 : decode cX12_layName 210 = .ok (.iaload, 1) := by decide +kernel
theorem dX12_layName_211 : decode cX12_layName 211 = .ok (.iload 5, 2) := by decide +kernel
theorem dX12_layName_213 : decode cX12_layName 213 = .ok (.aload_n 0, 1) := by decide +kernel
theorem dX12_layName_214 : decode cX12_layName 214 = .ok (.iload_n 3, 1) := by decide +kernel
theorem dX12_layName_215 : decode cX12_layName 215 = .ok (.iload 4, 2) := by decide +kernel
theorem dX12_layName_217 : decode cX12_layName 217 = .ok (.invokevirtual 214, 3) := by decide +kernel
theorem dX12_layName_220 : decode cX12_layName 220 = .ok (.iadd, 1) := by decide +kernel
theorem dX12_layName_221 : decode cX12_layName 221 = .ok (.iadd, 1) := by decide +kernel
theorem dX12_layName_222 : decode cX12_layName 222 = .ok (.iastore, 1) := by decide +kernel
theorem dX12_layName_223 : decode cX12_layName 223 = .ok (.aload_n 0, 1) := by decide +kernel
theorem dX12_layName_224 : decode cX12_layName 224 = .ok (.getfield 52, 3) := by decide +kernel
theorem dX12_layName_227 : decode cX12_layName 227 = .ok (.iconst 4, 1) := by decide +kernel
theorem dX12_layName_228 : decode cX12_layName 228 = .ok (.dup2, 1) := by decide +kernel
theorem dX12_layName_229 : decode cX12_layName 229 = .ok (.iaload, 1) := by decide +kernel
theorem dX12_layName_230 : decode cX12_layName 230 = .ok (.iload 8, 2) := by decide +kernel
theorem dX12_layName_232 : decode cX12_layName 232 = .ok (.iadd, 1) := by decide +kernel
theorem dX12_layName_233 : decode cX12_layName 233 = .ok (.iastore, 1) := by decide +kernel
theorem dX12_layName_234 : decode cX12_layName 234 = .ok (.aload_n 0, 1) := by decide +kernel
theorem dX12_layName_235 : decode cX12_layName 235 = .ok (.getfield 52, 3) := by decide +kernel
theorem dX12_layName_238 : decode cX12_layName 238 = .ok (.iconst 5, 1) := by decide +kernel
theorem dX12_layName_239 : decode cX12_layName 239 = .ok (.dup2, 1) := by decide +kernel
theorem dX12_layName_240 : decode cX12_layName 240 = .ok (.iaload, 1) := by decide +kernel
theorem dX12_layName_241 : decode cX12_layName 241 = .ok (.iload 5, 2) := by decide +kernel
theorem dX12_layName_243 : decode cX12_layName 243 = .ok (.aload_n 0, 1) := by decide +kernel
theorem dX12_layName_244 : decode cX12_layName 244 = .ok (.iload 7, 2) := by decide +kernel
theorem dX12_layName_246 : decode cX12_layName 246 = .ok (.iload 8, 2) := by decide +kernel
theorem dX12_layName_248 : decode cX12_layName 248 = .ok (.invokevirtual 214, 3) := by decide +kernel
theorem dX12_layName_251 : decode cX12_layName 251 = .ok (.iadd, 1) := by decide +kernel
theorem dX12_layName_252 : decode cX12_layName 252 = .ok (.iadd, 1) := by decide +kernel
theorem dX12_layName_253 : decode cX12_layName 253 = .ok (.iastore, 1) := by decide +kernel
theorem dX12_layName_254 : decode cX12_layName 254 = .ok (.return_, 1) := by decide +kernel
set_option maxRecDepth 20000 in
theorem ggX12_takes_X12_awake : GoodIn wsX12_takes wsX12_awake := goodIn_r _ [8, 9, 10, 50, 51, 52, 53, 54, 55, 56, 57, 58, 59, 60, 61, 62, 63, 64, 65, 66, 67, 68, 69, 70, 71, 72, 73, 74, 75, 76, 77, 78, 79, 80, 81, 82, 83, 84] (by decide +kernel) (by decide +kernel)
set_option maxRecDepth 20000 in
theorem gX12_takes_X12_awake : GoodIn wsX12_takes (wsV RX12 182 RX12 yX12_awake wsX12_awake) := goodIn_app (goodIn_of _ (by decide +kernel)) ggX12_takes_X12_awake
set_option maxRecDepth 20000 in
theorem ggX12_takes_X12_in : GoodIn wsX12_takes wsX12_in := goodIn_r _ [13] (by decide +kernel) (by decide +kernel)
set_option maxRecDepth 20000 in
theorem gX12_takes_X12_in : GoodIn wsX12_takes (va_wsS RX12 88 yX12_in wsX12_in) := goodIn_app (goodIn_of _ (by decide +kernel)) ggX12_takes_X12_in
set_option maxRecDepth 20000 in
theorem ggX12_takes_X12_wrongPlace : GoodIn wsX12_takes wsX12_wrongPlace := goodIn_r _ [17, 3, 18, 19, 20, 11, 12, 7, 13, 21, 22, 23, 24, 10, 50, 51, 52, 53, 54, 55, 56, 57, 58, 59, 60, 61, 62, 63, 64, 65, 66, 67, 68, 69, 70, 71, 72, 73, 74, 75, 76, 77, 78, 79, 80, 81, 82, 83, 84] (by decide +kernel) (by decide +kernel)
set_option maxRecDepth 20000 in
theorem gX12_takes_X12_wrongPlace : GoodIn wsX12_takes (wsV RX12 208 RX12 yX12_wrongPlace wsX12_wrongPlace) := goodIn_app (goodIn_of _ (by decide +kernel)) ggX12_takes_X12_wrongPlace
set_option maxRecDepth 20000 in
theorem ggX12_takes_X12_byteAt : GoodIn wsX12_takes wsX12_byteAt := goodIn_r _ [28, 3, 18, 50, 51, 52, 53, 54, 55, 56, 57, 58, 59, 60, 61, 62, 63, 64, 65, 66, 67, 68, 69, 70, 71, 72, 73, 74, 75, 76, 77, 78, 79, 80, 81, 82, 83, 84] (by decide +kernel) (by decide +kernel)
set_option maxRecDepth 20000 in
theorem gX12_takes_X12_byteAt : GoodIn wsX12_takes (wsV RX12 107 RX12 yX12_byteAt wsX12_byteAt) := goodIn_app (goodIn_of _ (by decide +kernel)) ggX12_takes_X12_byteAt
set_option maxRecDepth 20000 in
theorem ggX12_takes_X12_layName : GoodIn wsX12_takes wsX12_layName := goodIn_r _ [32, 18, 2, 33, 34, 35, 36, 37, 7, 38, 21, 22, 23, 24, 10, 39, 40, 41, 42, 43, 44, 45, 46, 47, 48, 49, 50, 51, 52, 53, 54, 55, 56, 57, 58, 59, 60, 61, 62, 63, 64, 65, 66, 67, 68, 69, 70, 71, 72, 73, 74, 75, 76, 77, 78, 79, 80, 81, 82, 83, 84] (by decide +kernel) (by decide +kernel)
set_option maxRecDepth 20000 in
theorem gX12_takes_X12_layName : GoodIn wsX12_takes (wsV RX12 219 RX12 yX12_layName wsX12_layName) := goodIn_app (goodIn_of _ (by decide +kernel)) ggX12_takes_X12_layName
theorem dX12_takes_0 : decode cX12_takes 0 = .ok (.aload_n 0, 1) := by decide +kernel
theorem dX12_takes_1 : decode cX12_takes 1 = .ok (.invokevirtual 182, 3) := by decide +kernel
theorem dX12_takes_4 : decode cX12_takes 4 = .ok (.iload_n 1, 1) := by decide +kernel
theorem dX12_takes_5 : decode cX12_takes 5 = .ok (.i2l, 1) := by decide +kernel
theorem dX12_takes_6 : decode cX12_takes 6 = .ok (.lconst 0, 1) := by decide +kernel
theorem dX12_takes_7 : decode cX12_takes 7 = .ok (.ldc2_w 217, 3) := by decide +kernel
theorem dX12_takes_10 : decode cX12_takes 10 = .ok (.invokestatic 88, 3) := by decide +kernel
theorem dX12_takes_13 : decode cX12_takes 13 = .ok (.ifCond .ne 5, 3) := by decide +kernel
theorem dX12_takes_16 : decode cX12_takes 16 = .ok (.iconst (-1), 1) := by decide +kernel
theorem dX12_takes_17 : decode cX12_takes 17 = .ok (.ireturn, 1) := by decide +kernel
theorem dX12_takes_18 : decode cX12_takes 18 = .ok (.aload_n 0, 1) := by decide +kernel
theorem dX12_takes_19 : decode cX12_takes 19 = .ok (.invokevirtual 208, 3) := by decide +kernel
theorem dX12_takes_22 : decode cX12_takes 22 = .ok (.bipush (-4), 2) := by decide +kernel
theorem dX12_takes_24 : decode cX12_takes 24 = .ok (.if_icmp .eq 6, 3) := by decide +kernel
theorem dX12_takes_27 : decode cX12_takes 27 = .ok (.bipush (-2), 2) := by decide +kernel
theorem dX12_takes_29 : decode cX12_takes 29 = .ok (.ireturn, 1) := by decide +kernel
theorem dX12_takes_30 : decode cX12_takes 30 = .ok (.iconst 0, 1) := by decide +kernel
theorem dX12_takes_31 : decode cX12_takes 31 = .ok (.istore_n 2, 1) := by decide +kernel
theorem dX12_takes_32 : decode cX12_takes 32 = .ok (.iload_n 2, 1) := by decide +kernel
theorem dX12_takes_33 : decode cX12_takes 33 = .ok (.bipush 7, 2) := by decide +kernel
theorem dX12_takes_35 : decode cX12_takes 35 = .ok (.if_icmp .ge 16, 3) := by decide +kernel
theorem dX12_takes_38 : decode cX12_takes 38 = .ok (.aload_n 0, 1) := by decide +kernel
theorem dX12_takes_39 : decode cX12_takes 39 = .ok (.getfield 52, 3) := by decide +kernel
theorem dX12_takes_42 : decode cX12_takes 42 = .ok (.iload_n 2, 1) := by decide +kernel
theorem dX12_takes_43 : decode cX12_takes 43 = .ok (.iconst 0, 1) := by decide +kernel
theorem dX12_takes_44 : decode cX12_takes 44 = .ok (.iastore, 1) := by decide +kernel
theorem dX12_takes_45 : decode cX12_takes 45 = .ok (.iinc 2 1, 3) := by decide +kernel
theorem dX12_takes_48 : decode cX12_takes 48 = .ok (.goto (-16), 3) := by decide +kernel
theorem dX12_takes_51 : decode cX12_takes 51 = .ok (.iconst 0, 1) := by decide +kernel
theorem dX12_takes_52 : decode cX12_takes 52 = .ok (.istore_n 2, 1) := by decide +kernel
theorem dX12_takes_53 : decode cX12_takes 53 = .ok (.iconst 0, 1) := by decide +kernel
theorem dX12_takes_54 : decode cX12_takes 54 = .ok (.istore_n 3, 1) := by decide +kernel
theorem dX12_takes_55 : decode cX12_takes 55 = .ok (.iload_n 3, 1) := by decide +kernel
theorem dX12_takes_56 : decode cX12_takes 56 = .ok (.aload_n 0, 1) := by decide +kernel
theorem dX12_takes_57 : decode cX12_takes 57 = .ok (.getfield 84, 3) := by decide +kernel
theorem dX12_takes_60 : decode cX12_takes 60 = .ok (.if_icmp .gt 42, 3) := by decide +kernel
theorem dX12_takes_63 : decode cX12_takes 63 = .ok (.aload_n 0, 1) := by decide +kernel
theorem dX12_takes_64 : decode cX12_takes 64 = .ok (.iload_n 3, 1) := by decide +kernel
theorem dX12_takes_65 : decode cX12_takes 65 = .ok (.invokevirtual 107, 3) := by decide +kernel
theorem dX12_takes_68 : decode cX12_takes 68 = .ok (.bipush 32, 2) := by decide +kernel
theorem dX12_takes_70 : decode cX12_takes 70 = .ok (.if_icmp .eq 11, 3) := by decide +kernel
theorem dX12_takes_73 : decode cX12_takes 73 = .ok (.iload_n 3, 1) := by decide +kernel
theorem dX12_takes_74 : decode cX12_takes 74 = .ok (.aload_n 0, 1) := by decide +kernel
theorem dX12_takes_75 : decode cX12_takes 75 = .ok (.getfield 84, 3) := by decide +kernel
theorem dX12_takes_78 : decode cX12_takes 78 = .ok (.if_icmp .ne 18, 3) := by decide +kernel
theorem dX12_takes_81 : decode cX12_takes 81 = .ok (.iload_n 3, 1) := by decide +kernel
theorem dX12_takes_82 : decode cX12_takes 82 = .ok (.iload_n 2, 1) := by decide +kernel
theorem dX12_takes_83 : decode cX12_takes 83 = .ok (.if_icmp .le 9, 3) := by decide +kernel
theorem dX12_takes_86 : decode cX12_takes 86 = .ok (.aload_n 0, 1) := by decide +kernel
theorem dX12_takes_87 : decode cX12_takes 87 = .ok (.iload_n 2, 1) := by decide +kernel
theorem dX12_takes_88 : decode cX12_takes 88 = .ok (.iload_n 3, 1) := by decide +kernel
theorem dX12_takes_89 : decode cX12_takes 89 = .ok (.invokevirtual 219, 3) := by decide +kernel
theorem dX12_takes_92 : decode cX12_takes 92 = .ok (.iload_n 3, 1) := by decide +kernel
theorem dX12_takes_93 : decode cX12_takes 93 = .ok (.iconst 1, 1) := by decide +kernel
theorem dX12_takes_94 : decode cX12_takes 94 = .ok (.iadd, 1) := by decide +kernel
theorem dX12_takes_95 : decode cX12_takes 95 = .ok (.istore_n 2, 1) := by decide +kernel
theorem dX12_takes_96 : decode cX12_takes 96 = .ok (.iinc 3 1, 3) := by decide +kernel
theorem dX12_takes_99 : decode cX12_takes 99 = .ok (.goto (-44), 3) := by decide +kernel
theorem dX12_takes_102 : decode cX12_takes 102 = .ok (.aload_n 0, 1) := by decide +kernel
theorem dX12_takes_103 : decode cX12_takes 103 = .ok (.getfield 52, 3) := by decide +kernel
theorem dX12_takes_106 : decode cX12_takes 106 = .ok (.iload_n 1, 1) := by decide +kernel
theorem dX12_takes_107 : decode cX12_takes 107 = .ok (.iaload, 1) := by decide +kernel
theorem dX12_takes_108 : decode cX12_takes 108 = .ok (.ireturn, 1) := by decide +kernel
set_option maxRecDepth 20000 in
theorem ggX12_layBest_X12_size : GoodIn wsX12_layBest wsX12_size := goodIn_r _ [9, 3, 18, 19, 20, 21, 22, 23, 24, 25, 26, 27, 28, 29, 30, 31, 32, 33, 34, 35, 36, 37, 38, 39, 40, 41, 42, 43, 44, 45, 46, 47, 48, 49, 50, 51, 52] (by decide +kernel) (by decide +kernel)
set_option maxRecDepth 20000 in
theorem gX12_layBest_X12_size : GoodIn wsX12_layBest (wsV RX12 194 RX12 yX12_size wsX12_size) := goodIn_app (goodIn_of _ (by decide +kernel)) ggX12_layBest_X12_size
set_option maxRecDepth 20000 in
theorem ggX12_layBest_X12_placeOf : GoodIn wsX12_layBest wsX12_placeOf := goodIn_r _ [13, 14, 18, 19, 20, 21, 22, 23, 24, 25, 26, 27, 28, 29, 30, 31, 32, 33, 34, 35, 36, 37, 38, 39, 40, 41, 42, 43, 44, 45, 46, 47, 48, 49, 50, 51, 52] (by decide +kernel) (by decide +kernel)
set_option maxRecDepth 20000 in
theorem gX12_layBest_X12_placeOf : GoodIn wsX12_layBest (wsV RX12 188 RX12 yX12_placeOf wsX12_placeOf) := goodIn_app (goodIn_of _ (by decide +kernel)) ggX12_layBest_X12_placeOf
set_option maxRecDepth 20000 in
theorem ggX12_layBest_X12_knocksAt : GoodIn wsX12_layBest wsX12_knocksAt := goodIn_r _ [17] (by decide +kernel) (by decide +kernel)
set_option maxRecDepth 20000 in
theorem gX12_layBest_X12_knocksAt : GoodIn wsX12_layBest (va_wsS RX12 191 yX12_knocksAt wsX12_knocksAt) := goodIn_app (goodIn_of _ (by decide +kernel)) ggX12_layBest_X12_knocksAt
theorem dX12_layBest_0 : decode cX12_layBest 0 = .ok (.iconst 0, 1) := by decide +kernel
theorem dX12_layBest_1 : decode cX12_layBest 1 = .ok (.istore_n 1, 1) := by decide +kernel
theorem dX12_layBest_2 : decode cX12_layBest 2 = .ok (.iload_n 1, 1) := by decide +kernel
theorem dX12_layBest_3 : decode cX12_layBest 3 = .ok (.bipush 26, 2) := by decide +kernel
theorem dX12_layBest_5 : decode cX12_layBest 5 = .ok (.if_icmp .ge 16, 3) := by decide +kernel
theorem dX12_layBest_8 : decode cX12_layBest 8 = .ok (.aload_n 0, 1) := by decide +kernel
theorem dX12_layBest_9 : decode cX12_layBest 9 = .ok (.getfield 55, 3) := by decide +kernel
theorem dX12_layBest_12 : decode cX12_layBest 12 = .ok (.iload_n 1, 1) := by decide +kernel
theorem dX12_layBest_13 : decode cX12_layBest 13 = .ok (.iconst 0, 1) := by decide +kernel
theorem dX12_layBest_14 : decode cX12_layBest 14 = .ok (.iastore, 1) := by decide +kernel
theorem dX12_layBest_15 : decode cX12_layBest 15 = .ok (.iinc 1 1, 3) := by decide +kernel
theorem dX12_layBest_18 : decode cX12_layBest 18 = .ok (.goto (-16), 3) := by decide +kernel
theorem dX12_layBest_21 : decode cX12_layBest 21 = .ok (.iconst 0, 1) := by decide +kernel
theorem dX12_layBest_22 : decode cX12_layBest 22 = .ok (.istore_n 1, 1) := by decide +kernel
theorem dX12_layBest_23 : decode cX12_layBest 23 = .ok (.iload_n 1, 1) := by decide +kernel
theorem dX12_layBest_24 : decode cX12_layBest 24 = .ok (.aload_n 0, 1) := by decide +kernel
theorem dX12_layBest_25 : decode cX12_layBest 25 = .ok (.getfield 22, 3) := by decide +kernel
theorem dX12_layBest_28 : decode cX12_layBest 28 = .ok (.iconst 5, 1) := by decide +kernel
theorem dX12_layBest_29 : decode cX12_layBest 29 = .ok (.iaload, 1) := by decide +kernel
theorem dX12_layBest_30 : decode cX12_layBest 30 = .ok (.if_icmp .ge 57, 3) := by decide +kernel
theorem dX12_layBest_33 : decode cX12_layBest 33 = .ok (.iconst 0, 1) := by decide +kernel
theorem dX12_layBest_34 : decode cX12_layBest 34 = .ok (.istore_n 2, 1) := by decide +kernel
theorem dX12_layBest_35 : decode cX12_layBest 35 = .ok (.iload_n 2, 1) := by decide +kernel
theorem dX12_layBest_36 : decode cX12_layBest 36 = .ok (.aload_n 0, 1) := by decide +kernel
theorem dX12_layBest_37 : decode cX12_layBest 37 = .ok (.iload_n 1, 1) := by decide +kernel
theorem dX12_layBest_38 : decode cX12_layBest 38 = .ok (.invokevirtual 194, 3) := by decide +kernel
theorem dX12_layBest_41 : decode cX12_layBest 41 = .ok (.if_icmp .ge 40, 3) := by decide +kernel
theorem dX12_layBest_44 : decode cX12_layBest 44 = .ok (.aload_n 0, 1) := by decide +kernel
theorem dX12_layBest_45 : decode cX12_layBest 45 = .ok (.getfield 55, 3) := by decide +kernel
theorem dX12_layBest_48 : decode cX12_layBest 48 = .ok (.aload_n 0, 1) := by decide +kernel
theorem dX12_layBest_49 : decode cX12_layBest 49 = .ok (.getfield 25, 3) := by decide +kernel
theorem dX12_layBest_52 : decode cX12_layBest 52 = .ok (.bipush 10, 2) := by decide +kernel
theorem dX12_layBest_54 : decode cX12_layBest 54 = .ok (.iload_n 1, 1) := by decide +kernel
theorem dX12_layBest_55 : decode cX12_layBest 55 = .ok (.imul, 1) := by decide +kernel
theorem dX12_layBest_56 : decode cX12_layBest 56 = .ok (.iload_n 2, 1) := by decide +kernel
theorem dX12_layBest_57 : decode cX12_layBest 57 = .ok (.iadd, 1) := by decide +kernel
theorem dX12_layBest_58 : decode cX12_layBest 58 = .ok (.iaload, 1) := by decide +kernel
theorem dX12_layBest_59 : decode cX12_layBest 59 = .ok (.dup2, 1) := by decide +kernel
theorem dX12_layBest_60 : decode cX12_layBest 60 = .ok (.iaload, 1) := by decide +kernel
theorem dX12_layBest_61 : decode cX12_layBest 61 = .ok (.aload_n 0, 1) := by decide +kernel
theorem dX12_layBest_62 : decode cX12_layBest 62 = .ok (.getfield 25, 3) := by decide +kernel
theorem dX12_layBest_65 : decode cX12_layBest 65 = .ok (.bipush 10, 2) := by decide +kernel
theorem dX12_layBest_67 : decode cX12_layBest 67 = .ok (.iload_n 1, 1) := by decide +kernel
theorem dX12_layBest_68 : decode cX12_layBest 68 = .ok (.imul, 1) := by decide +kernel
theorem dX12_layBest_69 : decode cX12_layBest 69 = .ok (.bipush 9, 2) := by decide +kernel
theorem dX12_layBest_71 : decode cX12_layBest 71 = .ok (.iadd, 1) := by decide +kernel
theorem dX12_layBest_72 : decode cX12_layBest 72 = .ok (.iaload, 1) := by decide +kernel
theorem dX12_layBest_73 : decode cX12_layBest 73 = .ok (.iadd, 1) := by decide +kernel
theorem dX12_layBest_74 : decode cX12_layBest 74 = .ok (.iastore, 1) := by decide +kernel
theorem dX12_layBest_75 : decode cX12_layBest 75 = .ok (.iinc 2 1, 3) := by decide +kernel
theorem dX12_layBest_78 : decode cX12_layBest 78 = .ok (.goto (-43), 3) := by decide +kernel
theorem dX12_layBest_81 : decode cX12_layBest 81 = .ok (.iinc 1 1, 3) := by decide +kernel
theorem dX12_layBest_84 : decode cX12_layBest 84 = .ok (.goto (-61), 3) := by decide +kernel
theorem dX12_layBest_87 : decode cX12_layBest 87 = .ok (.iconst 0, 1) := by decide +kernel
theorem dX12_layBest_88 : decode cX12_layBest 88 = .ok (.istore_n 1, 1) := by decide +kernel
theorem dX12_layBest_89 : decode cX12_layBest 89 = .ok (.iconst 0, 1) := by decide +kernel
theorem dX12_layBest_90 : decode cX12_layBest 90 = .ok (.istore_n 2, 1) := by decide +kernel
theorem dX12_layBest_91 : decode cX12_layBest 91 = .ok (.iconst 0, 1) := by decide +kernel
theorem dX12_layBest_92 : decode cX12_layBest 92 = .ok (.istore_n 3, 1) := by decide +kernel
theorem dX12_layBest_93 : decode cX12_layBest 93 = .ok (.iload_n 3, 1) := by decide +kernel
theorem dX12_layBest_94 : decode cX12_layBest 94 = .ok (.bipush 25, 2) := by decide +kernel
theorem dX12_layBest_96 : decode cX12_layBest 96 = .ok (.if_icmp .ge 187, 3) := by decide +kernel
theorem dX12_layBest_99 : decode cX12_layBest 99 = .ok (.bipush (-4), 2) := by decide +kernel
theorem dX12_layBest_101 : decode cX12_layBest 101 = .ok (.istore 4, 2) := by decide +kernel
theorem dX12_layBest_103 : decode cX12_layBest 103 = .ok (.bipush (-4), 2) := by decide +kernel
theorem dX12_layBest_105 : decode cX12_layBest 105 = .ok (.istore 5, 2) := by decide +kernel
theorem dX12_layBest_107 : decode cX12_layBest 107 = .ok (.iconst 0, 1) := by decide +kernel
theorem dX12_layBest_108 : decode cX12_layBest 108 = .ok (.istore 6, 2) := by decide +kernel
theorem dX12_layBest_110 : decode cX12_layBest 110 = .ok (.iload 6, 2) := by decide +kernel
theorem dX12_layBest_112 : decode cX12_layBest 112 = .ok (.bipush 26, 2) := by decide +kernel
theorem dX12_layBest_114 : decode cX12_layBest 114 = .ok (.if_icmp .ge 74, 3) := by decide +kernel
theorem dX12_layBest_117 : decode cX12_layBest 117 = .ok (.aload_n 0, 1) := by decide +kernel
theorem dX12_layBest_118 : decode cX12_layBest 118 = .ok (.iload 6, 2) := by decide +kernel
theorem dX12_layBest_120 : decode cX12_layBest 120 = .ok (.invokevirtual 188, 3) := by decide +kernel
theorem dX12_layBest_123 : decode cX12_layBest 123 = .ok (.bipush (-4), 2) := by decide +kernel
theorem dX12_layBest_125 : decode cX12_layBest 125 = .ok (.if_icmp .eq 16, 3) := by decide +kernel
theorem dX12_layBest_128 : decode cX12_layBest 128 = .ok (.iload_n 1, 1) := by decide +kernel
theorem dX12_layBest_129 : decode cX12_layBest 129 = .ok (.iload 6, 2) := by decide +kernel
theorem dX12_layBest_131 : decode cX12_layBest 131 = .ok (.ishr, 1) := by decide +kernel
theorem dX12_layBest_132 : decode cX12_layBest 132 = .ok (.iconst 1, 1) := by decide +kernel
theorem dX12_layBest_133 : decode cX12_layBest 133 = .ok (.iand, 1) := by decide +kernel
theorem dX12_layBest_134 : decode cX12_layBest 134 = .ok (.ifCond .ne 7, 3) := by decide +kernel
theorem dX12_layBest_137 : decode cX12_layBest 137 = .ok (.iconst 1, 1) := by decide +kernel
theorem dX12_layBest_138 : decode cX12_layBest 138 = .ok (.goto 4, 3) := by decide +kernel
theorem dX12_layBest_141 : decode cX12_layBest 141 = .ok (.iconst 0, 1) := by decide +kernel
theorem dX12_layBest_142 : decode cX12_layBest 142 = .ok (.istore 7, 2) := by decide +kernel
theorem dX12_layBest_144 : decode cX12_layBest 144 = .ok (.iload 7, 2) := by decide +kernel
theorem dX12_layBest_146 : decode cX12_layBest 146 = .ok (.ifCond .eq 32, 3) := by decide +kernel
theorem dX12_layBest_149 : decode cX12_layBest 149 = .ok (.iload 4, 2) := by decide +kernel
theorem dX12_layBest_151 : decode cX12_layBest 151 = .ok (.bipush (-4), 2) := by decide +kernel
theorem dX12_layBest_153 : decode cX12_layBest 153 = .ok (.if_icmp .eq 20, 3) := by decide +kernel
theorem dX12_layBest_156 : decode cX12_layBest 156 = .ok (.aload_n 0, 1) := by decide +kernel
theorem dX12_layBest_157 : decode cX12_layBest 157 = .ok (.getfield 55, 3) := by decide +kernel
theorem dX12_layBest_160 : decode cX12_layBest 160 = .ok (.iload 6, 2) := by decide +kernel
theorem dX12_layBest_162 : decode cX12_layBest 162 = .ok (.iaload, 1) := by decide +kernel
theorem dX12_layBest_163 : decode cX12_layBest 163 = .ok (.aload_n 0, 1) := by decide +kernel
theorem dX12_layBest_164 : decode cX12_layBest 164 = .ok (.getfield 55, 3) := by decide +kernel
theorem dX12_layBest_167 : decode cX12_layBest 167 = .ok (.iload 4, 2) := by decide +kernel
theorem dX12_layBest_169 : decode cX12_layBest 169 = .ok (.iaload, 1) := by decide +kernel
theorem dX12_layBest_170 : decode cX12_layBest 170 = .ok (.if_icmp .le 8, 3) := by decide +kernel
theorem dX12_layBest_173 : decode cX12_layBest 173 = .ok (.iload 6, 2) := by decide +kernel
theorem dX12_layBest_175 : decode cX12_layBest 175 = .ok (.goto 5, 3) := by decide +kernel
theorem dX12_layBest_178 : decode cX12_layBest 178 = .ok (.iload 4, 2) := by decide +kernel
theorem dX12_layBest_180 : decode cX12_layBest 180 = .ok (.istore 4, 2) := by decide +kernel
theorem dX12_layBest_182 : decode cX12_layBest 182 = .ok (.iinc 6 1, 3) := by decide +kernel
theorem dX12_layBest_185 : decode cX12_layBest 185 = .ok (.goto (-75), 3) := by decide +kernel
theorem dX12_layBest_188 : decode cX12_layBest 188 = .ok (.iconst 0, 1) := by decide +kernel
theorem dX12_layBest_189 : decode cX12_layBest 189 = .ok (.istore 6, 2) := by decide +kernel
theorem dX12_layBest_191 : decode cX12_layBest 191 = .ok (.iload 6, 2) := by decide +kernel
theorem dX12_layBest_193 : decode cX12_layBest 193 = .ok (.bipush 25, 2) := by decide +kernel
theorem dX12_layBest_195 : decode cX12_layBest 195 = .ok (.if_icmp .ge 59, 3) := by decide +kernel
theorem dX12_layBest_198 : decode cX12_layBest 198 = .ok (.iload_n 2, 1) := by decide +kernel
theorem dX12_layBest_199 : decode cX12_layBest 199 = .ok (.iload 6, 2) := by decide +kernel
theorem dX12_layBest_201 : decode cX12_layBest 201 = .ok (.ishr, 1) := by decide +kernel
theorem dX12_layBest_202 : decode cX12_layBest 202 = .ok (.iconst 1, 1) := by decide +kernel
theorem dX12_layBest_203 : decode cX12_layBest 203 = .ok (.iand, 1) := by decide +kernel
theorem dX12_layBest_204 : decode cX12_layBest 204 = .ok (.ifCond .ne 7, 3) := by decide +kernel
theorem dX12_layBest_207 : decode cX12_layBest 207 = .ok (.iconst 1, 1) := by decide +kernel
theorem dX12_layBest_208 : decode cX12_layBest 208 = .ok (.goto 4, 3) := by decide +kernel
theorem dX12_layBest_211 : decode cX12_layBest 211 = .ok (.iconst 0, 1) := by decide +kernel
theorem dX12_layBest_212 : decode cX12_layBest 212 = .ok (.istore 7, 2) := by decide +kernel
theorem dX12_layBest_214 : decode cX12_layBest 214 = .ok (.iload 7, 2) := by decide +kernel
theorem dX12_layBest_216 : decode cX12_layBest 216 = .ok (.ifCond .eq 28, 3) := by decide +kernel
theorem dX12_layBest_219 : decode cX12_layBest 219 = .ok (.iload 5, 2) := by decide +kernel
theorem dX12_layBest_221 : decode cX12_layBest 221 = .ok (.bipush (-4), 2) := by decide +kernel
theorem dX12_layBest_223 : decode cX12_layBest 223 = .ok (.if_icmp .eq 16, 3) := by decide +kernel
theorem dX12_layBest_226 : decode cX12_layBest 226 = .ok (.iload 6, 2) := by decide +kernel
theorem dX12_layBest_228 : decode cX12_layBest 228 = .ok (.invokestatic 191, 3) := by decide +kernel
theorem dX12_layBest_231 : decode cX12_layBest 231 = .ok (.iload 5, 2) := by decide +kernel
theorem dX12_layBest_233 : decode cX12_layBest 233 = .ok (.invokestatic 191, 3) := by decide +kernel
theorem dX12_layBest_236 : decode cX12_layBest 236 = .ok (.if_icmp .ge 8, 3) := by decide +kernel
theorem dX12_layBest_239 : decode cX12_layBest 239 = .ok (.iload 6, 2) := by decide +kernel
theorem dX12_layBest_241 : decode cX12_layBest 241 = .ok (.goto 5, 3) := by decide +kernel
theorem dX12_layBest_244 : decode cX12_layBest 244 = .ok (.iload 5, 2) := by decide +kernel
theorem dX12_layBest_246 : decode cX12_layBest 246 = .ok (.istore 5, 2) := by decide +kernel
theorem dX12_layBest_248 : decode cX12_layBest 248 = .ok (.iinc 6 1, 3) := by decide +kernel
theorem dX12_layBest_251 : decode cX12_layBest 251 = .ok (.goto (-60), 3) := by decide +kernel
theorem dX12_layBest_254 : decode cX12_layBest 254 = .ok (.iload_n 1, 1) := by decide +kernel
theorem dX12_layBest_255 : decode cX12_layBest 255 = .ok (.iconst 1, 1) := by decide +kernel
theorem dX12_layBest_256 : decode cX12_layBest 256 = .ok (.iload 4, 2) := by decide +kernel
theorem dX12_layBest_258 : decode cX12_layBest 258 = .ok (.ishl, 1) := by decide +kernel
theorem dX12_layBest_259 : decode cX12_layBest 259 = .ok (.ior, 1) := by decide +kernel
theorem dX12_layBest_260 : decode cX12_layBest 260 = .ok (.istore_n 1, 1) := by decide +kernel
theorem dX12_layBest_261 : decode cX12_layBest 261 = .ok (.iload_n 2, 1) := by decide +kernel
theorem dX12_layBest_262 : decode cX12_layBest 262 = .ok (.iconst 1, 1) := by decide +kernel
theorem dX12_layBest_263 : decode cX12_layBest 263 = .ok (.iload 5, 2) := by decide +kernel
theorem dX12_layBest_265 : decode cX12_layBest 265 = .ok (.ishl, 1) := by decide +kernel
theorem dX12_layBest_266 : decode cX12_layBest 266 = .ok (.ior, 1) := by decide +kernel
theorem dX12_layBest_267 : decode cX12_layBest 267 = .ok (.istore_n 2, 1) := by decide +kernel
theorem dX12_layBest_268 : decode cX12_layBest 268 = .ok (.aload_n 0, 1) := by decide +kernel
theorem dX12_layBest_269 : decode cX12_layBest 269 = .ok (.getfield 58, 3) := by decide +kernel
theorem dX12_layBest_272 : decode cX12_layBest 272 = .ok (.iload 5, 2) := by decide +kernel
theorem dX12_layBest_274 : decode cX12_layBest 274 = .ok (.iload 4, 2) := by decide +kernel
theorem dX12_layBest_276 : decode cX12_layBest 276 = .ok (.iastore, 1) := by decide +kernel
theorem dX12_layBest_277 : decode cX12_layBest 277 = .ok (.iinc 3 1, 3) := by decide +kernel
theorem dX12_layBest_280 : decode cX12_layBest 280 = .ok (.goto (-187), 3) := by decide +kernel
theorem dX12_layBest_283 : decode cX12_layBest 283 = .ok (.return_, 1) := by decide +kernel
set_option maxRecDepth 20000 in
theorem ggX12_mean_X12_awake : GoodIn wsX12_mean wsX12_awake := goodIn_r _ [8, 9, 2, 30, 31, 32, 33, 34, 35, 36, 37, 38, 39, 40, 41, 42, 43, 44, 45, 46, 47, 48, 49, 50, 51, 52, 53, 54, 55, 56, 57, 58, 59, 60, 61, 62, 63, 64] (by decide +kernel) (by decide +kernel)
set_option maxRecDepth 20000 in
theorem gX12_mean_X12_awake : GoodIn wsX12_mean (wsV RX12 182 RX12 yX12_awake wsX12_awake) := goodIn_app (goodIn_of _ (by decide +kernel)) ggX12_mean_X12_awake
set_option maxRecDepth 20000 in
theorem ggX12_mean_X12_in : GoodIn wsX12_mean wsX12_in := goodIn_r _ [12] (by decide +kernel) (by decide +kernel)
set_option maxRecDepth 20000 in
theorem gX12_mean_X12_in : GoodIn wsX12_mean (va_wsS RX12 88 yX12_in wsX12_in) := goodIn_app (goodIn_of _ (by decide +kernel)) ggX12_mean_X12_in
set_option maxRecDepth 20000 in
theorem ggX12_mean_X12_layBest : GoodIn wsX12_mean wsX12_layBest := goodIn_r _ [16, 1, 17, 18, 3, 19, 20, 21, 7, 22, 23, 24, 25, 26, 2, 27, 28, 29, 30, 31, 32, 33, 34, 35, 36, 37, 38, 39, 40, 41, 42, 43, 44, 45, 46, 47, 48, 49, 50, 51, 52, 53, 54, 55, 56, 57, 58, 59, 60, 61, 62, 63, 64] (by decide +kernel) (by decide +kernel)
set_option maxRecDepth 20000 in
theorem gX12_mean_X12_layBest : GoodIn wsX12_mean (wsV RX12 223 RX12 yX12_layBest wsX12_layBest) := goodIn_app (goodIn_of _ (by decide +kernel)) ggX12_mean_X12_layBest
set_option maxRecDepth 20000 in
theorem ggX12_mean_X12_knocksAt : GoodIn wsX12_mean wsX12_knocksAt := goodIn_r _ [29] (by decide +kernel) (by decide +kernel)
set_option maxRecDepth 20000 in
theorem gX12_mean_X12_knocksAt : GoodIn wsX12_mean (va_wsS RX12 191 yX12_knocksAt wsX12_knocksAt) := goodIn_app (goodIn_of _ (by decide +kernel)) ggX12_mean_X12_knocksAt
theorem dX12_mean_0 : decode cX12_mean 0 = .ok (.aload_n 0, 1) := by decide +kernel
theorem dX12_mean_1 : decode cX12_mean 1 = .ok (.invokevirtual 182, 3) := by decide +kernel
theorem dX12_mean_4 : decode cX12_mean 4 = .ok (.iload_n 1, 1) := by decide +kernel
theorem dX12_mean_5 : decode cX12_mean 5 = .ok (.i2l, 1) := by decide +kernel
theorem dX12_mean_6 : decode cX12_mean 6 = .ok (.lconst 0, 1) := by decide +kernel
theorem dX12_mean_7 : decode cX12_mean 7 = .ok (.lconst 1, 1) := by decide +kernel
theorem dX12_mean_8 : decode cX12_mean 8 = .ok (.invokestatic 88, 3) := by decide +kernel
theorem dX12_mean_11 : decode cX12_mean 11 = .ok (.ifCond .ne 5, 3) := by decide +kernel
theorem dX12_mean_14 : decode cX12_mean 14 = .ok (.iconst (-1), 1) := by decide +kernel
theorem dX12_mean_15 : decode cX12_mean 15 = .ok (.ireturn, 1) := by decide +kernel
theorem dX12_mean_16 : decode cX12_mean 16 = .ok (.aload_n 0, 1) := by decide +kernel
theorem dX12_mean_17 : decode cX12_mean 17 = .ok (.invokevirtual 223, 3) := by decide +kernel
theorem dX12_mean_20 : decode cX12_mean 20 = .ok (.iconst 0, 1) := by decide +kernel
theorem dX12_mean_21 : decode cX12_mean 21 = .ok (.istore_n 2, 1) := by decide +kernel
theorem dX12_mean_22 : decode cX12_mean 22 = .ok (.iconst 0, 1) := by decide +kernel
theorem dX12_mean_23 : decode cX12_mean 23 = .ok (.istore_n 3, 1) := by decide +kernel
theorem dX12_mean_24 : decode cX12_mean 24 = .ok (.iload_n 3, 1) := by decide +kernel
theorem dX12_mean_25 : decode cX12_mean 25 = .ok (.bipush 25, 2) := by decide +kernel
theorem dX12_mean_27 : decode cX12_mean 27 = .ok (.if_icmp .ge 41, 3) := by decide +kernel
theorem dX12_mean_30 : decode cX12_mean 30 = .ok (.iload_n 2, 1) := by decide +kernel
theorem dX12_mean_31 : decode cX12_mean 31 = .ok (.aload_n 0, 1) := by decide +kernel
theorem dX12_mean_32 : decode cX12_mean 32 = .ok (.getfield 55, 3) := by decide +kernel
theorem dX12_mean_35 : decode cX12_mean 35 = .ok (.iload_n 1, 1) := by decide +kernel
theorem dX12_mean_36 : decode cX12_mean 36 = .ok (.ifCond .ne 12, 3) := by decide +kernel
theorem dX12_mean_39 : decode cX12_mean 39 = .ok (.aload_n 0, 1) := by decide +kernel
theorem dX12_mean_40 : decode cX12_mean 40 = .ok (.getfield 49, 3) := by decide +kernel
theorem dX12_mean_43 : decode cX12_mean 43 = .ok (.iload_n 3, 1) := by decide +kernel
theorem dX12_mean_44 : decode cX12_mean 44 = .ok (.iaload, 1) := by decide +kernel
theorem dX12_mean_45 : decode cX12_mean 45 = .ok (.goto 9, 3) := by decide +kernel
theorem dX12_mean_48 : decode cX12_mean 48 = .ok (.aload_n 0, 1) := by decide +kernel
theorem dX12_mean_49 : decode cX12_mean 49 = .ok (.getfield 58, 3) := by decide +kernel
theorem dX12_mean_52 : decode cX12_mean 52 = .ok (.iload_n 3, 1) := by decide +kernel
theorem dX12_mean_53 : decode cX12_mean 53 = .ok (.iaload, 1) := by decide +kernel
theorem dX12_mean_54 : decode cX12_mean 54 = .ok (.iaload, 1) := by decide +kernel
theorem dX12_mean_55 : decode cX12_mean 55 = .ok (.iload_n 3, 1) := by decide +kernel
theorem dX12_mean_56 : decode cX12_mean 56 = .ok (.invokestatic 191, 3) := by decide +kernel
theorem dX12_mean_59 : decode cX12_mean 59 = .ok (.imul, 1) := by decide +kernel
theorem dX12_mean_60 : decode cX12_mean 60 = .ok (.iadd, 1) := by decide +kernel
theorem dX12_mean_61 : decode cX12_mean 61 = .ok (.istore_n 2, 1) := by decide +kernel
theorem dX12_mean_62 : decode cX12_mean 62 = .ok (.iinc 3 1, 3) := by decide +kernel
theorem dX12_mean_65 : decode cX12_mean 65 = .ok (.goto (-41), 3) := by decide +kernel
theorem dX12_mean_68 : decode cX12_mean 68 = .ok (.iload_n 2, 1) := by decide +kernel
theorem dX12_mean_69 : decode cX12_mean 69 = .ok (.ireturn, 1) := by decide +kernel
set_option maxRecDepth 20000 in
theorem ggX12_best_X12_awake : GoodIn wsX12_best wsX12_awake := goodIn_r _ [6, 7, 8, 34, 35, 36, 37, 38, 39, 40, 41, 42, 43, 44, 45, 46, 47, 48, 49, 50, 51, 52, 53, 54, 55, 56, 57, 58, 59, 60, 61, 62, 63, 64, 65, 66, 67, 68] (by decide +kernel) (by decide +kernel)
set_option maxRecDepth 20000 in
theorem gX12_best_X12_awake : GoodIn wsX12_best (wsV RX12 182 RX12 yX12_awake wsX12_awake) := goodIn_app (goodIn_of _ (by decide +kernel)) ggX12_best_X12_awake
set_option maxRecDepth 20000 in
theorem ggX12_best_X12_isPlace : GoodIn wsX12_best wsX12_isPlace := goodIn_r _ [11, 12, 13, 14, 5, 15] (by decide +kernel) (by decide +kernel)
set_option maxRecDepth 20000 in
theorem gX12_best_X12_isPlace : GoodIn wsX12_best (va_wsS RX12 185 yX12_isPlace wsX12_isPlace) := goodIn_app (goodIn_of _ (by decide +kernel)) ggX12_best_X12_isPlace
set_option maxRecDepth 20000 in
theorem ggX12_best_X12_layBest : GoodIn wsX12_best wsX12_layBest := goodIn_r _ [19, 20, 21, 22, 1, 23, 24, 25, 5, 26, 27, 28, 29, 30, 8, 31, 32, 33, 34, 35, 36, 37, 38, 39, 40, 41, 42, 43, 44, 45, 46, 47, 48, 49, 50, 51, 52, 53, 54, 55, 56, 57, 58, 59, 60, 61, 62, 63, 64, 65, 66, 67, 68] (by decide +kernel) (by decide +kernel)
set_option maxRecDepth 20000 in
theorem gX12_best_X12_layBest : GoodIn wsX12_best (wsV RX12 223 RX12 yX12_layBest wsX12_layBest) := goodIn_app (goodIn_of _ (by decide +kernel)) ggX12_best_X12_layBest
theorem dX12_best_0 : decode cX12_best 0 = .ok (.aload_n 0, 1) := by decide +kernel
theorem dX12_best_1 : decode cX12_best 1 = .ok (.invokevirtual 182, 3) := by decide +kernel
theorem dX12_best_4 : decode cX12_best 4 = .ok (.iload_n 1, 1) := by decide +kernel
theorem dX12_best_5 : decode cX12_best 5 = .ok (.invokestatic 185, 3) := by decide +kernel
theorem dX12_best_8 : decode cX12_best 8 = .ok (.ifCond .ne 5, 3) := by decide +kernel
theorem dX12_best_11 : decode cX12_best 11 = .ok (.iconst (-1), 1) := by decide +kernel
theorem dX12_best_12 : decode cX12_best 12 = .ok (.ireturn, 1) := by decide +kernel
theorem dX12_best_13 : decode cX12_best 13 = .ok (.aload_n 0, 1) := by decide +kernel
theorem dX12_best_14 : decode cX12_best 14 = .ok (.invokevirtual 223, 3) := by decide +kernel
theorem dX12_best_17 : decode cX12_best 17 = .ok (.aload_n 0, 1) := by decide +kernel
theorem dX12_best_18 : decode cX12_best 18 = .ok (.getfield 58, 3) := by decide +kernel
theorem dX12_best_21 : decode cX12_best 21 = .ok (.iload_n 1, 1) := by decide +kernel
theorem dX12_best_22 : decode cX12_best 22 = .ok (.iaload, 1) := by decide +kernel
theorem dX12_best_23 : decode cX12_best 23 = .ok (.bipush 97, 2) := by decide +kernel
theorem dX12_best_25 : decode cX12_best 25 = .ok (.iadd, 1) := by decide +kernel
theorem dX12_best_26 : decode cX12_best 26 = .ok (.ireturn, 1) := by decide +kernel
set_option maxRecDepth 20000 in
theorem ggX12_adopt_X12_awake : GoodIn wsX12_adopt wsX12_awake := goodIn_r _ [7, 8, 1, 27, 28, 29, 30, 31, 32, 33, 34, 35, 36, 37, 38, 39, 40, 41, 42, 43, 44, 45, 46, 47, 48, 49, 50, 51, 52, 53, 54, 55, 56, 57, 58, 59, 60, 61] (by decide +kernel) (by decide +kernel)
set_option maxRecDepth 20000 in
theorem gX12_adopt_X12_awake : GoodIn wsX12_adopt (wsV RX12 182 RX12 yX12_awake wsX12_awake) := goodIn_app (goodIn_of _ (by decide +kernel)) ggX12_adopt_X12_awake
set_option maxRecDepth 20000 in
theorem ggX12_adopt_X12_layBest : GoodIn wsX12_adopt wsX12_layBest := goodIn_r _ [12, 13, 14, 15, 2, 16, 17, 18, 6, 19, 20, 21, 22, 23, 1, 24, 25, 26, 27, 28, 29, 30, 31, 32, 33, 34, 35, 36, 37, 38, 39, 40, 41, 42, 43, 44, 45, 46, 47, 48, 49, 50, 51, 52, 53, 54, 55, 56, 57, 58, 59, 60, 61] (by decide +kernel) (by decide +kernel)
set_option maxRecDepth 20000 in
theorem gX12_adopt_X12_layBest : GoodIn wsX12_adopt (wsV RX12 223 RX12 yX12_layBest wsX12_layBest) := goodIn_app (goodIn_of _ (by decide +kernel)) ggX12_adopt_X12_layBest
theorem dX12_adopt_0 : decode cX12_adopt 0 = .ok (.aload_n 0, 1) := by decide +kernel
theorem dX12_adopt_1 : decode cX12_adopt 1 = .ok (.invokevirtual 182, 3) := by decide +kernel
theorem dX12_adopt_4 : decode cX12_adopt 4 = .ok (.aload_n 0, 1) := by decide +kernel
theorem dX12_adopt_5 : decode cX12_adopt 5 = .ok (.invokevirtual 223, 3) := by decide +kernel
theorem dX12_adopt_8 : decode cX12_adopt 8 = .ok (.iconst 0, 1) := by decide +kernel
theorem dX12_adopt_9 : decode cX12_adopt 9 = .ok (.istore_n 1, 1) := by decide +kernel
theorem dX12_adopt_10 : decode cX12_adopt 10 = .ok (.iconst 0, 1) := by decide +kernel
theorem dX12_adopt_11 : decode cX12_adopt 11 = .ok (.istore_n 2, 1) := by decide +kernel
theorem dX12_adopt_12 : decode cX12_adopt 12 = .ok (.iload_n 2, 1) := by decide +kernel
theorem dX12_adopt_13 : decode cX12_adopt 13 = .ok (.bipush 25, 2) := by decide +kernel
theorem dX12_adopt_15 : decode cX12_adopt 15 = .ok (.if_icmp .ge 44, 3) := by decide +kernel
theorem dX12_adopt_18 : decode cX12_adopt 18 = .ok (.iload_n 1, 1) := by decide +kernel
theorem dX12_adopt_19 : decode cX12_adopt 19 = .ok (.aload_n 0, 1) := by decide +kernel
theorem dX12_adopt_20 : decode cX12_adopt 20 = .ok (.getfield 49, 3) := by decide +kernel
theorem dX12_adopt_23 : decode cX12_adopt 23 = .ok (.iload_n 2, 1) := by decide +kernel
theorem dX12_adopt_24 : decode cX12_adopt 24 = .ok (.iaload, 1) := by decide +kernel
theorem dX12_adopt_25 : decode cX12_adopt 25 = .ok (.aload_n 0, 1) := by decide +kernel
theorem dX12_adopt_26 : decode cX12_adopt 26 = .ok (.getfield 58, 3) := by decide +kernel
theorem dX12_adopt_29 : decode cX12_adopt 29 = .ok (.iload_n 2, 1) := by decide +kernel
theorem dX12_adopt_30 : decode cX12_adopt 30 = .ok (.iaload, 1) := by decide +kernel
theorem dX12_adopt_31 : decode cX12_adopt 31 = .ok (.if_icmp .ne 7, 3) := by decide +kernel
theorem dX12_adopt_34 : decode cX12_adopt 34 = .ok (.iconst 0, 1) := by decide +kernel
theorem dX12_adopt_35 : decode cX12_adopt 35 = .ok (.goto 4, 3) := by decide +kernel
theorem dX12_adopt_38 : decode cX12_adopt 38 = .ok (.iconst 1, 1) := by decide +kernel
theorem dX12_adopt_39 : decode cX12_adopt 39 = .ok (.iadd, 1) := by decide +kernel
theorem dX12_adopt_40 : decode cX12_adopt 40 = .ok (.istore_n 1, 1) := by decide +kernel
theorem dX12_adopt_41 : decode cX12_adopt 41 = .ok (.aload_n 0, 1) := by decide +kernel
theorem dX12_adopt_42 : decode cX12_adopt 42 = .ok (.getfield 49, 3) := by decide +kernel
theorem dX12_adopt_45 : decode cX12_adopt 45 = .ok (.iload_n 2, 1) := by decide +kernel
theorem dX12_adopt_46 : decode cX12_adopt 46 = .ok (.aload_n 0, 1) := by decide +kernel
theorem dX12_adopt_47 : decode cX12_adopt 47 = .ok (.getfield 58, 3) := by decide +kernel
theorem dX12_adopt_50 : decode cX12_adopt 50 = .ok (.iload_n 2, 1) := by decide +kernel
theorem dX12_adopt_51 : decode cX12_adopt 51 = .ok (.iaload, 1) := by decide +kernel
theorem dX12_adopt_52 : decode cX12_adopt 52 = .ok (.iastore, 1) := by decide +kernel
theorem dX12_adopt_53 : decode cX12_adopt 53 = .ok (.iinc 2 1, 3) := by decide +kernel
theorem dX12_adopt_56 : decode cX12_adopt 56 = .ok (.goto (-44), 3) := by decide +kernel
theorem dX12_adopt_59 : decode cX12_adopt 59 = .ok (.iload_n 1, 1) := by decide +kernel
theorem dX12_adopt_60 : decode cX12_adopt 60 = .ok (.ireturn, 1) := by decide +kernel
set_option maxRecDepth 20000 in
theorem ggX12_isCount_X12_in : GoodIn wsX12_isCount wsX12_in := goodIn_r _ [5] (by decide +kernel) (by decide +kernel)
set_option maxRecDepth 20000 in
theorem gX12_isCount_X12_in : GoodIn wsX12_isCount (va_wsS RX12 88 yX12_in wsX12_in) := goodIn_app (goodIn_of _ (by decide +kernel)) ggX12_isCount_X12_in
theorem dX12_isCount_0 : decode cX12_isCount 0 = .ok (.iload_n 0, 1) := by decide +kernel
theorem dX12_isCount_1 : decode cX12_isCount 1 = .ok (.i2l, 1) := by decide +kernel
theorem dX12_isCount_2 : decode cX12_isCount 2 = .ok (.lconst 0, 1) := by decide +kernel
theorem dX12_isCount_3 : decode cX12_isCount 3 = .ok (.ldc2_w 217, 3) := by decide +kernel
theorem dX12_isCount_6 : decode cX12_isCount 6 = .ok (.invokestatic 88, 3) := by decide +kernel
theorem dX12_isCount_9 : decode cX12_isCount 9 = .ok (.ireturn, 1) := by decide +kernel
set_option maxRecDepth 20000 in
theorem ggX12_hear_X12_awake : GoodIn wsX12_hear wsX12_awake := goodIn_r _ [6, 7, 1, 15, 16, 17, 18, 19, 20, 21, 22, 23, 24, 25, 26, 27, 28, 29, 30, 31, 32, 33, 34, 35, 36, 37, 38, 39, 40, 41, 42, 43, 44, 45, 46, 47, 48, 49] (by decide +kernel) (by decide +kernel)
set_option maxRecDepth 20000 in
theorem gX12_hear_X12_awake : GoodIn wsX12_hear (wsV RX12 182 RX12 yX12_awake wsX12_awake) := goodIn_app (goodIn_of _ (by decide +kernel)) ggX12_hear_X12_awake
set_option maxRecDepth 20000 in
theorem ggX12_hear_X12_isCount : GoodIn wsX12_hear wsX12_isCount := goodIn_r _ [10, 11, 12, 13, 5, 14] (by decide +kernel) (by decide +kernel)
set_option maxRecDepth 20000 in
theorem gX12_hear_X12_isCount : GoodIn wsX12_hear (va_wsS RX12 226 yX12_isCount wsX12_isCount) := goodIn_app (goodIn_of _ (by decide +kernel)) ggX12_hear_X12_isCount
theorem dX12_hear_0 : decode cX12_hear 0 = .ok (.aload_n 0, 1) := by decide +kernel
theorem dX12_hear_1 : decode cX12_hear 1 = .ok (.invokevirtual 182, 3) := by decide +kernel
theorem dX12_hear_4 : decode cX12_hear 4 = .ok (.iload_n 1, 1) := by decide +kernel
theorem dX12_hear_5 : decode cX12_hear 5 = .ok (.invokestatic 226, 3) := by decide +kernel
theorem dX12_hear_8 : decode cX12_hear 8 = .ok (.ifCond .ne 5, 3) := by decide +kernel
theorem dX12_hear_11 : decode cX12_hear 11 = .ok (.iconst (-1), 1) := by decide +kernel
theorem dX12_hear_12 : decode cX12_hear 12 = .ok (.ireturn, 1) := by decide +kernel
theorem dX12_hear_13 : decode cX12_hear 13 = .ok (.aload_n 0, 1) := by decide +kernel
theorem dX12_hear_14 : decode cX12_hear 14 = .ok (.getfield 49, 3) := by decide +kernel
theorem dX12_hear_17 : decode cX12_hear 17 = .ok (.bipush 49, 2) := by decide +kernel
theorem dX12_hear_19 : decode cX12_hear 19 = .ok (.iaload, 1) := by decide +kernel
theorem dX12_hear_20 : decode cX12_hear 20 = .ok (.bipush 24, 2) := by decide +kernel
theorem dX12_hear_22 : decode cX12_hear 22 = .ok (.if_icmp .ne 6, 3) := by decide +kernel
theorem dX12_hear_25 : decode cX12_hear 25 = .ok (.bipush (-3), 2) := by decide +kernel
theorem dX12_hear_27 : decode cX12_hear 27 = .ok (.ireturn, 1) := by decide +kernel
theorem dX12_hear_28 : decode cX12_hear 28 = .ok (.aload_n 0, 1) := by decide +kernel
theorem dX12_hear_29 : decode cX12_hear 29 = .ok (.getfield 49, 3) := by decide +kernel
theorem dX12_hear_32 : decode cX12_hear 32 = .ok (.bipush 25, 2) := by decide +kernel
theorem dX12_hear_34 : decode cX12_hear 34 = .ok (.aload_n 0, 1) := by decide +kernel
theorem dX12_hear_35 : decode cX12_hear 35 = .ok (.getfield 49, 3) := by decide +kernel
theorem dX12_hear_38 : decode cX12_hear 38 = .ok (.bipush 49, 2) := by decide +kernel
theorem dX12_hear_40 : decode cX12_hear 40 = .ok (.iaload, 1) := by decide +kernel
theorem dX12_hear_41 : decode cX12_hear 41 = .ok (.iadd, 1) := by decide +kernel
theorem dX12_hear_42 : decode cX12_hear 42 = .ok (.iload_n 1, 1) := by decide +kernel
theorem dX12_hear_43 : decode cX12_hear 43 = .ok (.iastore, 1) := by decide +kernel
theorem dX12_hear_44 : decode cX12_hear 44 = .ok (.aload_n 0, 1) := by decide +kernel
theorem dX12_hear_45 : decode cX12_hear 45 = .ok (.getfield 49, 3) := by decide +kernel
theorem dX12_hear_48 : decode cX12_hear 48 = .ok (.bipush 49, 2) := by decide +kernel
theorem dX12_hear_50 : decode cX12_hear 50 = .ok (.dup2, 1) := by decide +kernel
theorem dX12_hear_51 : decode cX12_hear 51 = .ok (.iaload, 1) := by decide +kernel
theorem dX12_hear_52 : decode cX12_hear 52 = .ok (.iconst 1, 1) := by decide +kernel
theorem dX12_hear_53 : decode cX12_hear 53 = .ok (.iadd, 1) := by decide +kernel
theorem dX12_hear_54 : decode cX12_hear 54 = .ok (.iastore, 1) := by decide +kernel
theorem dX12_hear_55 : decode cX12_hear 55 = .ok (.aload_n 0, 1) := by decide +kernel
theorem dX12_hear_56 : decode cX12_hear 56 = .ok (.getfield 49, 3) := by decide +kernel
theorem dX12_hear_59 : decode cX12_hear 59 = .ok (.bipush 49, 2) := by decide +kernel
theorem dX12_hear_61 : decode cX12_hear 61 = .ok (.iaload, 1) := by decide +kernel
theorem dX12_hear_62 : decode cX12_hear 62 = .ok (.ireturn, 1) := by decide +kernel
theorem dX12_hush_0 : decode cX12_hush 0 = .ok (.aload_n 0, 1) := by decide +kernel
theorem dX12_hush_1 : decode cX12_hush 1 = .ok (.getfield 49, 3) := by decide +kernel
theorem dX12_hush_4 : decode cX12_hush 4 = .ok (.bipush 49, 2) := by decide +kernel
theorem dX12_hush_6 : decode cX12_hush 6 = .ok (.iaload, 1) := by decide +kernel
theorem dX12_hush_7 : decode cX12_hush 7 = .ok (.istore_n 1, 1) := by decide +kernel
theorem dX12_hush_8 : decode cX12_hush 8 = .ok (.aload_n 0, 1) := by decide +kernel
theorem dX12_hush_9 : decode cX12_hush 9 = .ok (.getfield 49, 3) := by decide +kernel
theorem dX12_hush_12 : decode cX12_hush 12 = .ok (.bipush 49, 2) := by decide +kernel
theorem dX12_hush_14 : decode cX12_hush 14 = .ok (.iconst 0, 1) := by decide +kernel
theorem dX12_hush_15 : decode cX12_hush 15 = .ok (.iastore, 1) := by decide +kernel
theorem dX12_hush_16 : decode cX12_hush 16 = .ok (.iload_n 1, 1) := by decide +kernel
theorem dX12_hush_17 : decode cX12_hush 17 = .ok (.ireturn, 1) := by decide +kernel
set_option maxRecDepth 20000 in
theorem ggX12_heard_X12_in : GoodIn wsX12_heard wsX12_in := goodIn_r _ [5] (by decide +kernel) (by decide +kernel)
set_option maxRecDepth 20000 in
theorem gX12_heard_X12_in : GoodIn wsX12_heard (va_wsS RX12 88 yX12_in wsX12_in) := goodIn_app (goodIn_of _ (by decide +kernel)) ggX12_heard_X12_in
theorem dX12_heard_0 : decode cX12_heard 0 = .ok (.iload_n 1, 1) := by decide +kernel
theorem dX12_heard_1 : decode cX12_heard 1 = .ok (.i2l, 1) := by decide +kernel
theorem dX12_heard_2 : decode cX12_heard 2 = .ok (.lconst 0, 1) := by decide +kernel
theorem dX12_heard_3 : decode cX12_heard 3 = .ok (.aload_n 0, 1) := by decide +kernel
theorem dX12_heard_4 : decode cX12_heard 4 = .ok (.getfield 49, 3) := by decide +kernel
theorem dX12_heard_7 : decode cX12_heard 7 = .ok (.bipush 49, 2) := by decide +kernel
theorem dX12_heard_9 : decode cX12_heard 9 = .ok (.iaload, 1) := by decide +kernel
theorem dX12_heard_10 : decode cX12_heard 10 = .ok (.iconst 1, 1) := by decide +kernel
theorem dX12_heard_11 : decode cX12_heard 11 = .ok (.isub, 1) := by decide +kernel
theorem dX12_heard_12 : decode cX12_heard 12 = .ok (.i2l, 1) := by decide +kernel
theorem dX12_heard_13 : decode cX12_heard 13 = .ok (.invokestatic 88, 3) := by decide +kernel
theorem dX12_heard_16 : decode cX12_heard 16 = .ok (.ifCond .eq 15, 3) := by decide +kernel
theorem dX12_heard_19 : decode cX12_heard 19 = .ok (.aload_n 0, 1) := by decide +kernel
theorem dX12_heard_20 : decode cX12_heard 20 = .ok (.getfield 49, 3) := by decide +kernel
theorem dX12_heard_23 : decode cX12_heard 23 = .ok (.bipush 25, 2) := by decide +kernel
theorem dX12_heard_25 : decode cX12_heard 25 = .ok (.iload_n 1, 1) := by decide +kernel
theorem dX12_heard_26 : decode cX12_heard 26 = .ok (.iadd, 1) := by decide +kernel
theorem dX12_heard_27 : decode cX12_heard 27 = .ok (.iaload, 1) := by decide +kernel
theorem dX12_heard_28 : decode cX12_heard 28 = .ok (.goto 4, 3) := by decide +kernel
theorem dX12_heard_31 : decode cX12_heard 31 = .ok (.iconst (-1), 1) := by decide +kernel
theorem dX12_heard_32 : decode cX12_heard 32 = .ok (.ireturn, 1) := by decide +kernel
theorem dX12_hears_0 : decode cX12_hears 0 = .ok (.iload_n 2, 1) := by decide +kernel
theorem dX12_hears_1 : decode cX12_hears 1 = .ok (.iload_n 1, 1) := by decide +kernel
theorem dX12_hears_2 : decode cX12_hears 2 = .ok (.if_icmp .ne 22, 3) := by decide +kernel
theorem dX12_hears_5 : decode cX12_hears 5 = .ok (.bipush 20, 2) := by decide +kernel
theorem dX12_hears_7 : decode cX12_hears 7 = .ok (.aload_n 0, 1) := by decide +kernel
theorem dX12_hears_8 : decode cX12_hears 8 = .ok (.getfield 22, 3) := by decide +kernel
theorem dX12_hears_11 : decode cX12_hears 11 = .ok (.iconst 0, 1) := by decide +kernel
theorem dX12_hears_12 : decode cX12_hears 12 = .ok (.iaload, 1) := by decide +kernel
theorem dX12_hears_13 : decode cX12_hears 13 = .ok (.isub, 1) := by decide +kernel
theorem dX12_hears_14 : decode cX12_hears 14 = .ok (.aload_n 0, 1) := by decide +kernel
theorem dX12_hears_15 : decode cX12_hears 15 = .ok (.getfield 22, 3) := by decide +kernel
theorem dX12_hears_18 : decode cX12_hears 18 = .ok (.iconst 1, 1) := by decide +kernel
theorem dX12_hears_19 : decode cX12_hears 19 = .ok (.iaload, 1) := by decide +kernel
theorem dX12_hears_20 : decode cX12_hears 20 = .ok (.isub, 1) := by decide +kernel
theorem dX12_hears_21 : decode cX12_hears 21 = .ok (.goto 36, 3) := by decide +kernel
theorem dX12_hears_24 : decode cX12_hears 24 = .ok (.iload_n 2, 1) := by decide +kernel
theorem dX12_hears_25 : decode cX12_hears 25 = .ok (.iload_n 1, 1) := by decide +kernel
theorem dX12_hears_26 : decode cX12_hears 26 = .ok (.iconst 1, 1) := by decide +kernel
theorem dX12_hears_27 : decode cX12_hears 27 = .ok (.isub, 1) := by decide +kernel
theorem dX12_hears_28 : decode cX12_hears 28 = .ok (.if_icmp .ne 12, 3) := by decide +kernel
theorem dX12_hears_31 : decode cX12_hears 31 = .ok (.aload_n 0, 1) := by decide +kernel
theorem dX12_hears_32 : decode cX12_hears 32 = .ok (.getfield 22, 3) := by decide +kernel
theorem dX12_hears_35 : decode cX12_hears 35 = .ok (.iconst 0, 1) := by decide +kernel
theorem dX12_hears_36 : decode cX12_hears 36 = .ok (.iaload, 1) := by decide +kernel
theorem dX12_hears_37 : decode cX12_hears 37 = .ok (.goto 20, 3) := by decide +kernel
theorem dX12_hears_40 : decode cX12_hears 40 = .ok (.iload_n 2, 1) := by decide +kernel
theorem dX12_hears_41 : decode cX12_hears 41 = .ok (.iload_n 1, 1) := by decide +kernel
theorem dX12_hears_42 : decode cX12_hears 42 = .ok (.iconst 1, 1) := by decide +kernel
theorem dX12_hears_43 : decode cX12_hears 43 = .ok (.iadd, 1) := by decide +kernel
theorem dX12_hears_44 : decode cX12_hears 44 = .ok (.if_icmp .ne 12, 3) := by decide +kernel
theorem dX12_hears_47 : decode cX12_hears 47 = .ok (.aload_n 0, 1) := by decide +kernel
theorem dX12_hears_48 : decode cX12_hears 48 = .ok (.getfield 22, 3) := by decide +kernel
theorem dX12_hears_51 : decode cX12_hears 51 = .ok (.iconst 1, 1) := by decide +kernel
theorem dX12_hears_52 : decode cX12_hears 52 = .ok (.iaload, 1) := by decide +kernel
theorem dX12_hears_53 : decode cX12_hears 53 = .ok (.goto 4, 3) := by decide +kernel
theorem dX12_hears_56 : decode cX12_hears 56 = .ok (.iconst 0, 1) := by decide +kernel
theorem dX12_hears_57 : decode cX12_hears 57 = .ok (.ireturn, 1) := by decide +kernel
set_option maxRecDepth 20000 in
theorem ggX12_countOf_X12_placeOf : GoodIn wsX12_countOf wsX12_placeOf := goodIn_r _ [6, 7, 8, 9, 10, 11, 12, 13, 14, 15, 16, 17, 18, 19, 20, 21, 22, 23, 24, 25, 26, 27, 28, 29, 30, 31, 32, 33, 34, 35, 36, 37, 38, 39, 40, 41, 42] (by decide +kernel) (by decide +kernel)
set_option maxRecDepth 20000 in
theorem gX12_countOf_X12_placeOf : GoodIn wsX12_countOf (wsV RX12 188 RX12 yX12_placeOf wsX12_placeOf) := goodIn_app (goodIn_of _ (by decide +kernel)) ggX12_countOf_X12_placeOf
theorem dX12_countOf_0 : decode cX12_countOf 0 = .ok (.aload_n 0, 1) := by decide +kernel
theorem dX12_countOf_1 : decode cX12_countOf 1 = .ok (.aload_n 0, 1) := by decide +kernel
theorem dX12_countOf_2 : decode cX12_countOf 2 = .ok (.getfield 25, 3) := by decide +kernel
theorem dX12_countOf_5 : decode cX12_countOf 5 = .ok (.bipush 10, 2) := by decide +kernel
theorem dX12_countOf_7 : decode cX12_countOf 7 = .ok (.iload_n 1, 1) := by decide +kernel
theorem dX12_countOf_8 : decode cX12_countOf 8 = .ok (.imul, 1) := by decide +kernel
theorem dX12_countOf_9 : decode cX12_countOf 9 = .ok (.iload_n 2, 1) := by decide +kernel
theorem dX12_countOf_10 : decode cX12_countOf 10 = .ok (.iconst 2, 1) := by decide +kernel
theorem dX12_countOf_11 : decode cX12_countOf 11 = .ok (.idiv, 1) := by decide +kernel
theorem dX12_countOf_12 : decode cX12_countOf 12 = .ok (.iadd, 1) := by decide +kernel
theorem dX12_countOf_13 : decode cX12_countOf 13 = .ok (.iaload, 1) := by decide +kernel
theorem dX12_countOf_14 : decode cX12_countOf 14 = .ok (.invokevirtual 188, 3) := by decide +kernel
theorem dX12_countOf_17 : decode cX12_countOf 17 = .ok (.istore_n 3, 1) := by decide +kernel
theorem dX12_countOf_18 : decode cX12_countOf 18 = .ok (.iload_n 2, 1) := by decide +kernel
theorem dX12_countOf_19 : decode cX12_countOf 19 = .ok (.iconst 2, 1) := by decide +kernel
theorem dX12_countOf_20 : decode cX12_countOf 20 = .ok (.irem, 1) := by decide +kernel
theorem dX12_countOf_21 : decode cX12_countOf 21 = .ok (.ifCond .ne 11, 3) := by decide +kernel
theorem dX12_countOf_24 : decode cX12_countOf 24 = .ok (.iload_n 3, 1) := by decide +kernel
theorem dX12_countOf_25 : decode cX12_countOf 25 = .ok (.iconst 5, 1) := by decide +kernel
theorem dX12_countOf_26 : decode cX12_countOf 26 = .ok (.idiv, 1) := by decide +kernel
theorem dX12_countOf_27 : decode cX12_countOf 27 = .ok (.iconst 1, 1) := by decide +kernel
theorem dX12_countOf_28 : decode cX12_countOf 28 = .ok (.iadd, 1) := by decide +kernel
theorem dX12_countOf_29 : decode cX12_countOf 29 = .ok (.goto 8, 3) := by decide +kernel
theorem dX12_countOf_32 : decode cX12_countOf 32 = .ok (.iload_n 3, 1) := by decide +kernel
theorem dX12_countOf_33 : decode cX12_countOf 33 = .ok (.iconst 5, 1) := by decide +kernel
theorem dX12_countOf_34 : decode cX12_countOf 34 = .ok (.irem, 1) := by decide +kernel
theorem dX12_countOf_35 : decode cX12_countOf 35 = .ok (.iconst 1, 1) := by decide +kernel
theorem dX12_countOf_36 : decode cX12_countOf 36 = .ok (.iadd, 1) := by decide +kernel
theorem dX12_countOf_37 : decode cX12_countOf 37 = .ok (.ireturn, 1) := by decide +kernel
set_option maxRecDepth 20000 in
theorem ggX12_chanceOf_X12_size : GoodIn wsX12_chanceOf wsX12_size := goodIn_r _ [7, 2, 21, 22, 23, 24, 25, 26, 27, 28, 29, 30, 31, 32, 33, 34, 35, 36, 37, 38, 39, 40, 41, 42, 43, 44, 45, 46, 47, 48, 49, 50, 51, 52, 53, 54, 55] (by decide +kernel) (by decide +kernel)
set_option maxRecDepth 20000 in
theorem gX12_chanceOf_X12_size : GoodIn wsX12_chanceOf (wsV RX12 194 RX12 yX12_size wsX12_size) := goodIn_app (goodIn_of _ (by decide +kernel)) ggX12_chanceOf_X12_size
set_option maxRecDepth 20000 in
theorem ggX12_chanceOf_X12_countOf : GoodIn wsX12_chanceOf wsX12_countOf := goodIn_r _ [11, 2, 12, 13, 14, 6, 15, 1, 21, 22, 23, 24, 25, 26, 27, 28, 29, 30, 31, 32, 33, 34, 35, 36, 37, 38, 39, 40, 41, 42, 43, 44, 45, 46, 47, 48, 49, 50, 51, 52, 53, 54, 55] (by decide +kernel) (by decide +kernel)
set_option maxRecDepth 20000 in
theorem gX12_chanceOf_X12_countOf : GoodIn wsX12_chanceOf (wsV RX12 229 RX12 yX12_countOf wsX12_countOf) := goodIn_app (goodIn_of _ (by decide +kernel)) ggX12_chanceOf_X12_countOf
set_option maxRecDepth 20000 in
theorem ggX12_chanceOf_X12_hears : GoodIn wsX12_chanceOf wsX12_hears := goodIn_r _ [19, 20, 21, 22, 23, 24, 25, 26, 27, 28, 29, 30, 31, 32, 33, 34, 35, 36, 37, 38, 39, 40, 41, 42, 43, 44, 45, 46, 47, 48, 49, 50, 51, 52, 53, 54, 55] (by decide +kernel) (by decide +kernel)
set_option maxRecDepth 20000 in
theorem gX12_chanceOf_X12_hears : GoodIn wsX12_chanceOf (wsV RX12 232 RX12 yX12_hears wsX12_hears) := goodIn_app (goodIn_of _ (by decide +kernel)) ggX12_chanceOf_X12_hears
theorem dX12_chanceOf_0 : decode cX12_chanceOf 0 = .ok (.iconst 2, 1) := by decide +kernel
theorem dX12_chanceOf_1 : decode cX12_chanceOf 1 = .ok (.aload_n 0, 1) := by decide +kernel
theorem dX12_chanceOf_2 : decode cX12_chanceOf 2 = .ok (.iload_n 1, 1) := by decide +kernel
theorem dX12_chanceOf_3 : decode cX12_chanceOf 3 = .ok (.invokevirtual 194, 3) := by decide +kernel
theorem dX12_chanceOf_6 : decode cX12_chanceOf 6 = .ok (.imul, 1) := by decide +kernel
theorem dX12_chanceOf_7 : decode cX12_chanceOf 7 = .ok (.aload_n 0, 1) := by decide +kernel
theorem dX12_chanceOf_8 : decode cX12_chanceOf 8 = .ok (.getfield 49, 3) := by decide +kernel
theorem dX12_chanceOf_11 : decode cX12_chanceOf 11 = .ok (.bipush 49, 2) := by decide +kernel
theorem dX12_chanceOf_13 : decode cX12_chanceOf 13 = .ok (.iaload, 1) := by decide +kernel
theorem dX12_chanceOf_14 : decode cX12_chanceOf 14 = .ok (.if_icmp .eq 5, 3) := by decide +kernel
theorem dX12_chanceOf_17 : decode cX12_chanceOf 17 = .ok (.lconst 0, 1) := by decide +kernel
theorem dX12_chanceOf_18 : decode cX12_chanceOf 18 = .ok (.lreturn, 1) := by decide +kernel
theorem dX12_chanceOf_19 : decode cX12_chanceOf 19 = .ok (.aload_n 0, 1) := by decide +kernel
theorem dX12_chanceOf_20 : decode cX12_chanceOf 20 = .ok (.getfield 25, 3) := by decide +kernel
theorem dX12_chanceOf_23 : decode cX12_chanceOf 23 = .ok (.bipush 10, 2) := by decide +kernel
theorem dX12_chanceOf_25 : decode cX12_chanceOf 25 = .ok (.iload_n 1, 1) := by decide +kernel
theorem dX12_chanceOf_26 : decode cX12_chanceOf 26 = .ok (.imul, 1) := by decide +kernel
theorem dX12_chanceOf_27 : decode cX12_chanceOf 27 = .ok (.bipush 9, 2) := by decide +kernel
theorem dX12_chanceOf_29 : decode cX12_chanceOf 29 = .ok (.iadd, 1) := by decide +kernel
theorem dX12_chanceOf_30 : decode cX12_chanceOf 30 = .ok (.iaload, 1) := by decide +kernel
theorem dX12_chanceOf_31 : decode cX12_chanceOf 31 = .ok (.i2l, 1) := by decide +kernel
theorem dX12_chanceOf_32 : decode cX12_chanceOf 32 = .ok (.lstore_n 2, 1) := by decide +kernel
theorem dX12_chanceOf_33 : decode cX12_chanceOf 33 = .ok (.iconst 0, 1) := by decide +kernel
theorem dX12_chanceOf_34 : decode cX12_chanceOf 34 = .ok (.istore 4, 2) := by decide +kernel
theorem dX12_chanceOf_36 : decode cX12_chanceOf 36 = .ok (.iload 4, 2) := by decide +kernel
theorem dX12_chanceOf_38 : decode cX12_chanceOf 38 = .ok (.aload_n 0, 1) := by decide +kernel
theorem dX12_chanceOf_39 : decode cX12_chanceOf 39 = .ok (.getfield 49, 3) := by decide +kernel
theorem dX12_chanceOf_42 : decode cX12_chanceOf 42 = .ok (.bipush 49, 2) := by decide +kernel
theorem dX12_chanceOf_44 : decode cX12_chanceOf 44 = .ok (.iaload, 1) := by decide +kernel
theorem dX12_chanceOf_45 : decode cX12_chanceOf 45 = .ok (.if_icmp .ge 34, 3) := by decide +kernel
theorem dX12_chanceOf_48 : decode cX12_chanceOf 48 = .ok (.lload_n 2, 1) := by decide +kernel
theorem dX12_chanceOf_49 : decode cX12_chanceOf 49 = .ok (.aload_n 0, 1) := by decide +kernel
theorem dX12_chanceOf_50 : decode cX12_chanceOf 50 = .ok (.aload_n 0, 1) := by decide +kernel
theorem dX12_chanceOf_51 : decode cX12_chanceOf 51 = .ok (.iload_n 1, 1) := by decide +kernel
theorem dX12_chanceOf_52 : decode cX12_chanceOf 52 = .ok (.iload 4, 2) := by decide +kernel
theorem dX12_chanceOf_54 : decode cX12_chanceOf 54 = .ok (.invokevirtual 229, 3) := by decide +kernel
theorem dX12_chanceOf_57 : decode cX12_chanceOf 57 = .ok (.aload_n 0, 1) := by decide +kernel
theorem dX12_chanceOf_58 : decode cX12_chanceOf 58 = .ok (.getfield 49, 3) := by decide +kernel
theorem dX12_chanceOf_61 : decode cX12_chanceOf 61 = .ok (.bipush 25, 2) := by decide +kernel
theorem dX12_chanceOf_63 : decode cX12_chanceOf 63 = .ok (.iload 4, 2) := by decide +kernel
theorem dX12_chanceOf_65 : decode cX12_chanceOf 65 = .ok (.iadd, 1) := by decide +kernel
theorem dX12_chanceOf_66 : decode cX12_chanceOf 66 = .ok (.iaload, 1) := by decide +kernel
theorem dX12_chanceOf_67 : decode cX12_chanceOf 67 = .ok (.invokevirtual 232, 3) := by decide +kernel
theorem dX12_chanceOf_70 : decode cX12_chanceOf 70 = .ok (.i2l, 1) := by decide +kernel
theorem dX12_chanceOf_71 : decode cX12_chanceOf 71 = .ok (.lmul, 1) := by decide +kernel
theorem dX12_chanceOf_72 : decode cX12_chanceOf 72 = .ok (.lstore_n 2, 1) := by decide +kernel
theorem dX12_chanceOf_73 : decode cX12_chanceOf 73 = .ok (.iinc 4 1, 3) := by decide +kernel
theorem dX12_chanceOf_76 : decode cX12_chanceOf 76 = .ok (.goto (-40), 3) := by decide +kernel
theorem dX12_chanceOf_79 : decode cX12_chanceOf 79 = .ok (.lload_n 2, 1) := by decide +kernel
theorem dX12_chanceOf_80 : decode cX12_chanceOf 80 = .ok (.lreturn, 1) := by decide +kernel
set_option maxRecDepth 20000 in
theorem ggX12_allChances_X12_chanceOf : GoodIn wsX12_allChances wsX12_chanceOf := goodIn_r _ [6, 7, 8, 9, 10, 11, 5, 12, 13, 14, 15, 16, 17, 18, 19, 20, 21, 22, 23, 24, 1, 25, 26, 27, 28, 29, 30, 31, 32, 33, 34, 35, 36, 37, 38, 39, 40, 41, 42, 43, 44, 45, 46, 47, 48, 49, 50, 51, 52, 53, 54, 55, 56, 57, 58, 59] (by decide +kernel) (by decide +kernel)
set_option maxRecDepth 20000 in
theorem gX12_allChances_X12_chanceOf : GoodIn wsX12_allChances (wsV RX12 235 RX12 yX12_chanceOf wsX12_chanceOf) := goodIn_app (goodIn_of _ (by decide +kernel)) ggX12_allChances_X12_chanceOf
theorem dX12_allChances_0 : decode cX12_allChances 0 = .ok (.lconst 0, 1) := by decide +kernel
theorem dX12_allChances_1 : decode cX12_allChances 1 = .ok (.lstore_n 1, 1) := by decide +kernel
theorem dX12_allChances_2 : decode cX12_allChances 2 = .ok (.iconst 0, 1) := by decide +kernel
theorem dX12_allChances_3 : decode cX12_allChances 3 = .ok (.istore_n 3, 1) := by decide +kernel
theorem dX12_allChances_4 : decode cX12_allChances 4 = .ok (.iload_n 3, 1) := by decide +kernel
theorem dX12_allChances_5 : decode cX12_allChances 5 = .ok (.aload_n 0, 1) := by decide +kernel
theorem dX12_allChances_6 : decode cX12_allChances 6 = .ok (.getfield 22, 3) := by decide +kernel
theorem dX12_allChances_9 : decode cX12_allChances 9 = .ok (.iconst 5, 1) := by decide +kernel
theorem dX12_allChances_10 : decode cX12_allChances 10 = .ok (.iaload, 1) := by decide +kernel
theorem dX12_allChances_11 : decode cX12_allChances 11 = .ok (.if_icmp .ge 17, 3) := by decide +kernel
theorem dX12_allChances_14 : decode cX12_allChances 14 = .ok (.lload_n 1, 1) := by decide +kernel
theorem dX12_allChances_15 : decode cX12_allChances 15 = .ok (.aload_n 0, 1) := by decide +kernel
theorem dX12_allChances_16 : decode cX12_allChances 16 = .ok (.iload_n 3, 1) := by decide +kernel
theorem dX12_allChances_17 : decode cX12_allChances 17 = .ok (.invokevirtual 235, 3) := by decide +kernel
theorem dX12_allChances_20 : decode cX12_allChances 20 = .ok (.ladd, 1) := by decide +kernel
theorem dX12_allChances_21 : decode cX12_allChances 21 = .ok (.lstore_n 1, 1) := by decide +kernel
theorem dX12_allChances_22 : decode cX12_allChances 22 = .ok (.iinc 3 1, 3) := by decide +kernel
theorem dX12_allChances_25 : decode cX12_allChances 25 = .ok (.goto (-21), 3) := by decide +kernel
theorem dX12_allChances_28 : decode cX12_allChances 28 = .ok (.lload_n 1, 1) := by decide +kernel
theorem dX12_allChances_29 : decode cX12_allChances 29 = .ok (.lreturn, 1) := by decide +kernel
set_option maxRecDepth 20000 in
theorem ggX12_isHeard_X12_in : GoodIn wsX12_isHeard wsX12_in := goodIn_r _ [6] (by decide +kernel) (by decide +kernel)
set_option maxRecDepth 20000 in
theorem gX12_isHeard_X12_in : GoodIn wsX12_isHeard (va_wsS RX12 88 yX12_in wsX12_in) := goodIn_app (goodIn_of _ (by decide +kernel)) ggX12_isHeard_X12_in
theorem dX12_isHeard_0 : decode cX12_isHeard 0 = .ok (.aload_n 0, 1) := by decide +kernel
theorem dX12_isHeard_1 : decode cX12_isHeard 1 = .ok (.getfield 49, 3) := by decide +kernel
theorem dX12_isHeard_4 : decode cX12_isHeard 4 = .ok (.bipush 49, 2) := by decide +kernel
theorem dX12_isHeard_6 : decode cX12_isHeard 6 = .ok (.iaload, 1) := by decide +kernel
theorem dX12_isHeard_7 : decode cX12_isHeard 7 = .ok (.iconst 2, 1) := by decide +kernel
theorem dX12_isHeard_8 : decode cX12_isHeard 8 = .ok (.irem, 1) := by decide +kernel
theorem dX12_isHeard_9 : decode cX12_isHeard 9 = .ok (.ifCond .ne 25, 3) := by decide +kernel
theorem dX12_isHeard_12 : decode cX12_isHeard 12 = .ok (.aload_n 0, 1) := by decide +kernel
theorem dX12_isHeard_13 : decode cX12_isHeard 13 = .ok (.getfield 49, 3) := by decide +kernel
theorem dX12_isHeard_16 : decode cX12_isHeard 16 = .ok (.bipush 49, 2) := by decide +kernel
theorem dX12_isHeard_18 : decode cX12_isHeard 18 = .ok (.iaload, 1) := by decide +kernel
theorem dX12_isHeard_19 : decode cX12_isHeard 19 = .ok (.i2l, 1) := by decide +kernel
theorem dX12_isHeard_20 : decode cX12_isHeard 20 = .ok (.lconst 1, 1) := by decide +kernel
theorem dX12_isHeard_21 : decode cX12_isHeard 21 = .ok (.ldc2_w 239, 3) := by decide +kernel
theorem dX12_isHeard_24 : decode cX12_isHeard 24 = .ok (.invokestatic 88, 3) := by decide +kernel
theorem dX12_isHeard_27 : decode cX12_isHeard 27 = .ok (.ifCond .eq 7, 3) := by decide +kernel
theorem dX12_isHeard_30 : decode cX12_isHeard 30 = .ok (.iconst 1, 1) := by decide +kernel
theorem dX12_isHeard_31 : decode cX12_isHeard 31 = .ok (.goto 4, 3) := by decide +kernel
theorem dX12_isHeard_34 : decode cX12_isHeard 34 = .ok (.iconst 0, 1) := by decide +kernel
theorem dX12_isHeard_35 : decode cX12_isHeard 35 = .ok (.ireturn, 1) := by decide +kernel
set_option maxRecDepth 20000 in
theorem ggX12_chance_X12_awake : GoodIn wsX12_chance wsX12_awake := goodIn_r _ [7, 8, 9, 48, 49, 50, 51, 52, 53, 54, 55, 56, 57, 58, 59, 60, 61, 62, 63, 64, 65, 66, 67, 68, 69, 70, 71, 72, 73, 74, 75, 76, 77, 78, 79, 80, 81, 82] (by decide +kernel) (by decide +kernel)
set_option maxRecDepth 20000 in
theorem gX12_chance_X12_awake : GoodIn wsX12_chance (wsV RX12 182 RX12 yX12_awake wsX12_awake) := goodIn_app (goodIn_of _ (by decide +kernel)) ggX12_chance_X12_awake
set_option maxRecDepth 20000 in
theorem ggX12_chance_X12_isWord : GoodIn wsX12_chance wsX12_isWord := goodIn_r _ [13, 14, 15, 16, 6, 17, 48, 49, 50, 51, 52, 53, 54, 55, 56, 57, 58, 59, 60, 61, 62, 63, 64, 65, 66, 67, 68, 69, 70, 71, 72, 73, 74, 75, 76, 77, 78, 79, 80, 81, 82] (by decide +kernel) (by decide +kernel)
set_option maxRecDepth 20000 in
theorem gX12_chance_X12_isWord : GoodIn wsX12_chance (wsV RX12 200 RX12 yX12_isWord wsX12_isWord) := goodIn_app (goodIn_of _ (by decide +kernel)) ggX12_chance_X12_isWord
set_option maxRecDepth 20000 in
theorem ggX12_chance_X12_in : GoodIn wsX12_chance wsX12_in := goodIn_r _ [17] (by decide +kernel) (by decide +kernel)
set_option maxRecDepth 20000 in
theorem gX12_chance_X12_in : GoodIn wsX12_chance (va_wsS RX12 88 yX12_in wsX12_in) := goodIn_app (goodIn_of _ (by decide +kernel)) ggX12_chance_X12_in
set_option maxRecDepth 20000 in
theorem ggX12_chance_X12_isHeard : GoodIn wsX12_chance wsX12_isHeard := goodIn_r _ [21, 9, 22, 15, 16, 6, 17, 48, 49, 50, 51, 52, 53, 54, 55, 56, 57, 58, 59, 60, 61, 62, 63, 64, 65, 66, 67, 68, 69, 70, 71, 72, 73, 74, 75, 76, 77, 78, 79, 80, 81, 82] (by decide +kernel) (by decide +kernel)
set_option maxRecDepth 20000 in
theorem gX12_chance_X12_isHeard : GoodIn wsX12_chance (wsV RX12 243 RX12 yX12_isHeard wsX12_isHeard) := goodIn_app (goodIn_of _ (by decide +kernel)) ggX12_chance_X12_isHeard
set_option maxRecDepth 20000 in
theorem ggX12_chance_X12_chanceOf : GoodIn wsX12_chance wsX12_chanceOf := goodIn_r _ [26, 9, 27, 28, 29, 30, 6, 31, 32, 33, 34, 35, 36, 37, 38, 39, 40, 41, 42, 43, 14, 48, 49, 50, 51, 52, 53, 54, 55, 56, 57, 58, 59, 60, 61, 62, 63, 64, 65, 66, 67, 68, 69, 70, 71, 72, 73, 74, 75, 76, 77, 78, 79, 80, 81, 82] (by decide +kernel) (by decide +kernel)
set_option maxRecDepth 20000 in
theorem gX12_chance_X12_chanceOf : GoodIn wsX12_chance (wsV RX12 235 RX12 yX12_chanceOf wsX12_chanceOf) := goodIn_app (goodIn_of _ (by decide +kernel)) ggX12_chance_X12_chanceOf
set_option maxRecDepth 20000 in
theorem ggX12_chance_X12_allChances : GoodIn wsX12_chance wsX12_allChances := goodIn_r _ [47, 14, 23, 24, 25, 6, 26, 9, 27, 28, 29, 30, 31, 32, 33, 34, 35, 36, 37, 38, 39, 40, 41, 42, 43, 48, 49, 50, 51, 52, 53, 54, 55, 56, 57, 58, 59, 60, 61, 62, 63, 64, 65, 66, 67, 68, 69, 70, 71, 72, 73, 74, 75, 76, 77, 78, 79, 80, 81, 82] (by decide +kernel) (by decide +kernel)
set_option maxRecDepth 20000 in
theorem gX12_chance_X12_allChances : GoodIn wsX12_chance (wsV RX12 248 RX12 yX12_allChances wsX12_allChances) := goodIn_app (goodIn_of _ (by decide +kernel)) ggX12_chance_X12_allChances
theorem dX12_chance_0 : decode cX12_chance 0 = .ok (.aload_n 0, 1) := by decide +kernel
theorem dX12_chance_1 : decode cX12_chance 1 = .ok (.invokevirtual 182, 3) := by decide +kernel
theorem dX12_chance_4 : decode cX12_chance 4 = .ok (.aload_n 0, 1) := by decide +kernel
theorem dX12_chance_5 : decode cX12_chance 5 = .ok (.iload_n 1, 1) := by decide +kernel
theorem dX12_chance_6 : decode cX12_chance 6 = .ok (.invokevirtual 200, 3) := by decide +kernel
theorem dX12_chance_9 : decode cX12_chance 9 = .ok (.ifCond .eq 13, 3) := by decide +kernel
theorem dX12_chance_12 : decode cX12_chance 12 = .ok (.iload_n 2, 1) := by decide +kernel
theorem dX12_chance_13 : decode cX12_chance 13 = .ok (.i2l, 1) := by decide +kernel
theorem dX12_chance_14 : decode cX12_chance 14 = .ok (.lconst 0, 1) := by decide +kernel
theorem dX12_chance_15 : decode cX12_chance 15 = .ok (.lconst 1, 1) := by decide +kernel
theorem dX12_chance_16 : decode cX12_chance 16 = .ok (.invokestatic 88, 3) := by decide +kernel
theorem dX12_chance_19 : decode cX12_chance 19 = .ok (.ifCond .ne 7, 3) := by decide +kernel
theorem dX12_chance_22 : decode cX12_chance 22 = .ok (.ldc2_w 241, 3) := by decide +kernel
theorem dX12_chance_25 : decode cX12_chance 25 = .ok (.lreturn, 1) := by decide +kernel
theorem dX12_chance_26 : decode cX12_chance 26 = .ok (.aload_n 0, 1) := by decide +kernel
theorem dX12_chance_27 : decode cX12_chance 27 = .ok (.invokevirtual 243, 3) := by decide +kernel
theorem dX12_chance_30 : decode cX12_chance 30 = .ok (.ifCond .ne 7, 3) := by decide +kernel
theorem dX12_chance_33 : decode cX12_chance 33 = .ok (.ldc2_w 246, 3) := by decide +kernel
theorem dX12_chance_36 : decode cX12_chance 36 = .ok (.lreturn, 1) := by decide +kernel
theorem dX12_chance_37 : decode cX12_chance 37 = .ok (.iload_n 2, 1) := by decide +kernel
theorem dX12_chance_38 : decode cX12_chance 38 = .ok (.ifCond .ne 11, 3) := by decide +kernel
theorem dX12_chance_41 : decode cX12_chance 41 = .ok (.aload_n 0, 1) := by decide +kernel
theorem dX12_chance_42 : decode cX12_chance 42 = .ok (.iload_n 1, 1) := by decide +kernel
theorem dX12_chance_43 : decode cX12_chance 43 = .ok (.invokevirtual 235, 3) := by decide +kernel
theorem dX12_chance_46 : decode cX12_chance 46 = .ok (.goto 7, 3) := by decide +kernel
theorem dX12_chance_49 : decode cX12_chance 49 = .ok (.aload_n 0, 1) := by decide +kernel
theorem dX12_chance_50 : decode cX12_chance 50 = .ok (.invokevirtual 248, 3) := by decide +kernel
theorem dX12_chance_53 : decode cX12_chance 53 = .ok (.lreturn, 1) := by decide +kernel
set_option maxRecDepth 20000 in
theorem ggX12_likely_X12_chanceOf : GoodIn wsX12_likely wsX12_chanceOf := goodIn_r _ [6, 7, 8, 9, 10, 11, 5, 12, 13, 14, 15, 16, 17, 18, 19, 20, 21, 22, 23, 24, 1, 25, 26, 27, 28, 29, 30, 31, 32, 33, 34, 35, 36, 37, 38, 39, 40, 41, 42, 43, 44, 45, 46, 47, 48, 49, 50, 51, 52, 53, 54, 55, 56, 57, 58, 59] (by decide +kernel) (by decide +kernel)
set_option maxRecDepth 20000 in
theorem gX12_likely_X12_chanceOf : GoodIn wsX12_likely (wsV RX12 235 RX12 yX12_chanceOf wsX12_chanceOf) := goodIn_app (goodIn_of _ (by decide +kernel)) ggX12_likely_X12_chanceOf
theorem dX12_likely_0 : decode cX12_likely 0 = .ok (.bipush (-4), 2) := by decide +kernel
theorem dX12_likely_2 : decode cX12_likely 2 = .ok (.istore_n 1, 1) := by decide +kernel
theorem dX12_likely_3 : decode cX12_likely 3 = .ok (.lconst 0, 1) := by decide +kernel
theorem dX12_likely_4 : decode cX12_likely 4 = .ok (.lstore_n 2, 1) := by decide +kernel
theorem dX12_likely_5 : decode cX12_likely 5 = .ok (.iconst 0, 1) := by decide +kernel
theorem dX12_likely_6 : decode cX12_likely 6 = .ok (.istore 4, 2) := by decide +kernel
theorem dX12_likely_8 : decode cX12_likely 8 = .ok (.iload 4, 2) := by decide +kernel
theorem dX12_likely_10 : decode cX12_likely 10 = .ok (.aload_n 0, 1) := by decide +kernel
theorem dX12_likely_11 : decode cX12_likely 11 = .ok (.getfield 22, 3) := by decide +kernel
theorem dX12_likely_14 : decode cX12_likely 14 = .ok (.iconst 5, 1) := by decide +kernel
theorem dX12_likely_15 : decode cX12_likely 15 = .ok (.iaload, 1) := by decide +kernel
theorem dX12_likely_16 : decode cX12_likely 16 = .ok (.if_icmp .ge 45, 3) := by decide +kernel
theorem dX12_likely_19 : decode cX12_likely 19 = .ok (.aload_n 0, 1) := by decide +kernel
theorem dX12_likely_20 : decode cX12_likely 20 = .ok (.iload 4, 2) := by decide +kernel
theorem dX12_likely_22 : decode cX12_likely 22 = .ok (.invokevirtual 235, 3) := by decide +kernel
theorem dX12_likely_25 : decode cX12_likely 25 = .ok (.lstore 5, 2) := by decide +kernel
theorem dX12_likely_27 : decode cX12_likely 27 = .ok (.lload 5, 2) := by decide +kernel
theorem dX12_likely_29 : decode cX12_likely 29 = .ok (.lload_n 2, 1) := by decide +kernel
theorem dX12_likely_30 : decode cX12_likely 30 = .ok (.lcmp, 1) := by decide +kernel
theorem dX12_likely_31 : decode cX12_likely 31 = .ok (.ifCond .le 8, 3) := by decide +kernel
theorem dX12_likely_34 : decode cX12_likely 34 = .ok (.iload 4, 2) := by decide +kernel
theorem dX12_likely_36 : decode cX12_likely 36 = .ok (.goto 4, 3) := by decide +kernel
theorem dX12_likely_39 : decode cX12_likely 39 = .ok (.iload_n 1, 1) := by decide +kernel
theorem dX12_likely_40 : decode cX12_likely 40 = .ok (.istore_n 1, 1) := by decide +kernel
theorem dX12_likely_41 : decode cX12_likely 41 = .ok (.lload 5, 2) := by decide +kernel
theorem dX12_likely_43 : decode cX12_likely 43 = .ok (.lload_n 2, 1) := by decide +kernel
theorem dX12_likely_44 : decode cX12_likely 44 = .ok (.lcmp, 1) := by decide +kernel
theorem dX12_likely_45 : decode cX12_likely 45 = .ok (.ifCond .le 8, 3) := by decide +kernel
theorem dX12_likely_48 : decode cX12_likely 48 = .ok (.lload 5, 2) := by decide +kernel
theorem dX12_likely_50 : decode cX12_likely 50 = .ok (.goto 4, 3) := by decide +kernel
theorem dX12_likely_53 : decode cX12_likely 53 = .ok (.lload_n 2, 1) := by decide +kernel
theorem dX12_likely_54 : decode cX12_likely 54 = .ok (.lstore_n 2, 1) := by decide +kernel
theorem dX12_likely_55 : decode cX12_likely 55 = .ok (.iinc 4 1, 3) := by decide +kernel
theorem dX12_likely_58 : decode cX12_likely 58 = .ok (.goto (-50), 3) := by decide +kernel
theorem dX12_likely_61 : decode cX12_likely 61 = .ok (.iload_n 1, 1) := by decide +kernel
theorem dX12_likely_62 : decode cX12_likely 62 = .ok (.ireturn, 1) := by decide +kernel
set_option maxRecDepth 20000 in
theorem ggX12_likeliest_X12_awake : GoodIn wsX12_likeliest wsX12_awake := goodIn_r _ [5, 6, 7, 42, 43, 44, 45, 46, 47, 48, 49, 50, 51, 52, 53, 54, 55, 56, 57, 58, 59, 60, 61, 62, 63, 64, 65, 66, 67, 68, 69, 70, 71, 72, 73, 74, 75, 76] (by decide +kernel) (by decide +kernel)
set_option maxRecDepth 20000 in
theorem gX12_likeliest_X12_awake : GoodIn wsX12_likeliest (wsV RX12 182 RX12 yX12_awake wsX12_awake) := goodIn_app (goodIn_of _ (by decide +kernel)) ggX12_likeliest_X12_awake
set_option maxRecDepth 20000 in
theorem ggX12_likeliest_X12_isHeard : GoodIn wsX12_likeliest wsX12_isHeard := goodIn_r _ [11, 7, 12, 13, 14, 4, 15, 42, 43, 44, 45, 46, 47, 48, 49, 50, 51, 52, 53, 54, 55, 56, 57, 58, 59, 60, 61, 62, 63, 64, 65, 66, 67, 68, 69, 70, 71, 72, 73, 74, 75, 76] (by decide +kernel) (by decide +kernel)
set_option maxRecDepth 20000 in
theorem gX12_likeliest_X12_isHeard : GoodIn wsX12_likeliest (wsV RX12 243 RX12 yX12_isHeard wsX12_isHeard) := goodIn_app (goodIn_of _ (by decide +kernel)) ggX12_likeliest_X12_isHeard
set_option maxRecDepth 20000 in
theorem ggX12_likeliest_X12_likely : GoodIn wsX12_likeliest wsX12_likely := goodIn_r _ [19, 20, 21, 22, 23, 4, 24, 7, 25, 26, 27, 28, 29, 30, 31, 32, 33, 34, 35, 36, 37, 38, 39, 40, 41, 42, 43, 44, 45, 46, 47, 48, 49, 50, 51, 52, 53, 54, 55, 56, 57, 58, 59, 60, 61, 62, 63, 64, 65, 66, 67, 68, 69, 70, 71, 72, 73, 74, 75, 76] (by decide +kernel) (by decide +kernel)
set_option maxRecDepth 20000 in
theorem gX12_likeliest_X12_likely : GoodIn wsX12_likeliest (wsV RX12 252 RX12 yX12_likely wsX12_likely) := goodIn_app (goodIn_of _ (by decide +kernel)) ggX12_likeliest_X12_likely
theorem dX12_likeliest_0 : decode cX12_likeliest 0 = .ok (.aload_n 0, 1) := by decide +kernel
theorem dX12_likeliest_1 : decode cX12_likeliest 1 = .ok (.invokevirtual 182, 3) := by decide +kernel
theorem dX12_likeliest_4 : decode cX12_likeliest 4 = .ok (.aload_n 0, 1) := by decide +kernel
theorem dX12_likeliest_5 : decode cX12_likeliest 5 = .ok (.invokevirtual 243, 3) := by decide +kernel
theorem dX12_likeliest_8 : decode cX12_likeliest 8 = .ok (.ifCond .eq 10, 3) := by decide +kernel
theorem dX12_likeliest_11 : decode cX12_likeliest 11 = .ok (.aload_n 0, 1) := by decide +kernel
theorem dX12_likeliest_12 : decode cX12_likeliest 12 = .ok (.invokevirtual 252, 3) := by decide +kernel
theorem dX12_likeliest_15 : decode cX12_likeliest 15 = .ok (.goto 5, 3) := by decide +kernel
theorem dX12_likeliest_18 : decode cX12_likeliest 18 = .ok (.bipush (-2), 2) := by decide +kernel
theorem dX12_likeliest_20 : decode cX12_likeliest 20 = .ok (.ireturn, 1) := by decide +kernel
theorem dX12_lowest_0 : decode cX12_lowest 0 = .ok (.lload_n 0, 1) := by decide +kernel
theorem dX12_lowest_1 : decode cX12_lowest 1 = .ok (.lstore 5, 2) := by decide +kernel
theorem dX12_lowest_3 : decode cX12_lowest 3 = .ok (.lload_n 2, 1) := by decide +kernel
theorem dX12_lowest_4 : decode cX12_lowest 4 = .ok (.lstore 7, 2) := by decide +kernel
theorem dX12_lowest_6 : decode cX12_lowest 6 = .ok (.lload 7, 2) := by decide +kernel
theorem dX12_lowest_8 : decode cX12_lowest 8 = .ok (.lconst 0, 1) := by decide +kernel
theorem dX12_lowest_9 : decode cX12_lowest 9 = .ok (.lcmp, 1) := by decide +kernel
theorem dX12_lowest_10 : decode cX12_lowest 10 = .ok (.ifCond .eq 21, 3) := by decide +kernel
theorem dX12_lowest_13 : decode cX12_lowest 13 = .ok (.lload 5, 2) := by decide +kernel
theorem dX12_lowest_15 : decode cX12_lowest 15 = .ok (.lload 7, 2) := by decide +kernel
theorem dX12_lowest_17 : decode cX12_lowest 17 = .ok (.lrem, 1) := by decide +kernel
theorem dX12_lowest_18 : decode cX12_lowest 18 = .ok (.lstore 9, 2) := by decide +kernel
theorem dX12_lowest_20 : decode cX12_lowest 20 = .ok (.lload 7, 2) := by decide +kernel
theorem dX12_lowest_22 : decode cX12_lowest 22 = .ok (.lstore 5, 2) := by decide +kernel
theorem dX12_lowest_24 : decode cX12_lowest 24 = .ok (.lload 9, 2) := by decide +kernel
theorem dX12_lowest_26 : decode cX12_lowest 26 = .ok (.lstore 7, 2) := by decide +kernel
theorem dX12_lowest_28 : decode cX12_lowest 28 = .ok (.goto (-22), 3) := by decide +kernel
theorem dX12_lowest_31 : decode cX12_lowest 31 = .ok (.iload 4, 2) := by decide +kernel
theorem dX12_lowest_33 : decode cX12_lowest 33 = .ok (.ifCond .ne 7, 3) := by decide +kernel
theorem dX12_lowest_36 : decode cX12_lowest 36 = .ok (.lload_n 0, 1) := by decide +kernel
theorem dX12_lowest_37 : decode cX12_lowest 37 = .ok (.goto 4, 3) := by decide +kernel
theorem dX12_lowest_40 : decode cX12_lowest 40 = .ok (.lload_n 2, 1) := by decide +kernel
theorem dX12_lowest_41 : decode cX12_lowest 41 = .ok (.lload 5, 2) := by decide +kernel
theorem dX12_lowest_43 : decode cX12_lowest 43 = .ok (.ldiv, 1) := by decide +kernel
theorem dX12_lowest_44 : decode cX12_lowest 44 = .ok (.lreturn, 1) := by decide +kernel
set_option maxRecDepth 20000 in
theorem ggX12_sure_X12_awake : GoodIn wsX12_sure wsX12_awake := goodIn_r _ [8, 9, 10, 52, 53, 54, 55, 56, 57, 58, 59, 60, 61, 62, 63, 64, 65, 66, 67, 68, 69, 70, 71, 72, 73, 74, 75, 76, 77, 78, 79, 80, 81, 82, 83, 84, 85, 86] (by decide +kernel) (by decide +kernel)
set_option maxRecDepth 20000 in
theorem gX12_sure_X12_awake : GoodIn wsX12_sure (wsV RX12 182 RX12 yX12_awake wsX12_awake) := goodIn_app (goodIn_of _ (by decide +kernel)) ggX12_sure_X12_awake
set_option maxRecDepth 20000 in
theorem ggX12_sure_X12_in : GoodIn wsX12_sure wsX12_in := goodIn_r _ [13] (by decide +kernel) (by decide +kernel)
set_option maxRecDepth 20000 in
theorem gX12_sure_X12_in : GoodIn wsX12_sure (va_wsS RX12 88 yX12_in wsX12_in) := goodIn_app (goodIn_of _ (by decide +kernel)) ggX12_sure_X12_in
set_option maxRecDepth 20000 in
theorem ggX12_sure_X12_isHeard : GoodIn wsX12_sure wsX12_isHeard := goodIn_r _ [17, 10, 18, 11, 12, 7, 13, 52, 53, 54, 55, 56, 57, 58, 59, 60, 61, 62, 63, 64, 65, 66, 67, 68, 69, 70, 71, 72, 73, 74, 75, 76, 77, 78, 79, 80, 81, 82, 83, 84, 85, 86] (by decide +kernel) (by decide +kernel)
set_option maxRecDepth 20000 in
theorem gX12_sure_X12_isHeard : GoodIn wsX12_sure (wsV RX12 243 RX12 yX12_isHeard wsX12_isHeard) := goodIn_app (goodIn_of _ (by decide +kernel)) ggX12_sure_X12_isHeard
set_option maxRecDepth 20000 in
theorem ggX12_sure_X12_likely : GoodIn wsX12_sure wsX12_likely := goodIn_r _ [22, 23, 24, 25, 26, 7, 27, 10, 28, 29, 30, 31, 32, 33, 34, 35, 36, 37, 38, 39, 40, 41, 42, 43, 44, 52, 53, 54, 55, 56, 57, 58, 59, 60, 61, 62, 63, 64, 65, 66, 67, 68, 69, 70, 71, 72, 73, 74, 75, 76, 77, 78, 79, 80, 81, 82, 83, 84, 85, 86] (by decide +kernel) (by decide +kernel)
set_option maxRecDepth 20000 in
theorem gX12_sure_X12_likely : GoodIn wsX12_sure (wsV RX12 252 RX12 yX12_likely wsX12_likely) := goodIn_app (goodIn_of _ (by decide +kernel)) ggX12_sure_X12_likely
set_option maxRecDepth 20000 in
theorem ggX12_sure_X12_chanceOf : GoodIn wsX12_sure wsX12_chanceOf := goodIn_r _ [27, 10, 28, 29, 30, 31, 7, 32, 33, 34, 35, 36, 37, 38, 39, 40, 41, 42, 43, 44, 23, 52, 53, 54, 55, 56, 57, 58, 59, 60, 61, 62, 63, 64, 65, 66, 67, 68, 69, 70, 71, 72, 73, 74, 75, 76, 77, 78, 79, 80, 81, 82, 83, 84, 85, 86] (by decide +kernel) (by decide +kernel)
set_option maxRecDepth 20000 in
theorem gX12_sure_X12_chanceOf : GoodIn wsX12_sure (wsV RX12 235 RX12 yX12_chanceOf wsX12_chanceOf) := goodIn_app (goodIn_of _ (by decide +kernel)) ggX12_sure_X12_chanceOf
set_option maxRecDepth 20000 in
theorem ggX12_sure_X12_allChances : GoodIn wsX12_sure wsX12_allChances := goodIn_r _ [48, 23, 24, 25, 26, 7, 27, 10, 28, 29, 30, 31, 32, 33, 34, 35, 36, 37, 38, 39, 40, 41, 42, 43, 44, 52, 53, 54, 55, 56, 57, 58, 59, 60, 61, 62, 63, 64, 65, 66, 67, 68, 69, 70, 71, 72, 73, 74, 75, 76, 77, 78, 79, 80, 81, 82, 83, 84, 85, 86] (by decide +kernel) (by decide +kernel)
set_option maxRecDepth 20000 in
theorem gX12_sure_X12_allChances : GoodIn wsX12_sure (wsV RX12 248 RX12 yX12_allChances wsX12_allChances) := goodIn_app (goodIn_of _ (by decide +kernel)) ggX12_sure_X12_allChances
set_option maxRecDepth 20000 in
theorem ggX12_sure_X12_lowest : GoodIn wsX12_sure wsX12_lowest := goodIn_r _ [51] (by decide +kernel) (by decide +kernel)
set_option maxRecDepth 20000 in
theorem gX12_sure_X12_lowest : GoodIn wsX12_sure (va_wsS RX12 257 yX12_lowest wsX12_lowest) := goodIn_app (goodIn_of _ (by decide +kernel)) ggX12_sure_X12_lowest
theorem dX12_sure_0 : decode cX12_sure 0 = .ok (.aload_n 0, 1) := by decide +kernel
theorem dX12_sure_1 : decode cX12_sure 1 = .ok (.invokevirtual 182, 3) := by decide +kernel
theorem dX12_sure_4 : decode cX12_sure 4 = .ok (.iload_n 1, 1) := by decide +kernel
theorem dX12_sure_5 : decode cX12_sure 5 = .ok (.i2l, 1) := by decide +kernel
theorem dX12_sure_6 : decode cX12_sure 6 = .ok (.lconst 0, 1) := by decide +kernel
theorem dX12_sure_7 : decode cX12_sure 7 = .ok (.lconst 1, 1) := by decide +kernel
theorem dX12_sure_8 : decode cX12_sure 8 = .ok (.invokestatic 88, 3) := by decide +kernel
theorem dX12_sure_11 : decode cX12_sure 11 = .ok (.ifCond .ne 7, 3) := by decide +kernel
theorem dX12_sure_14 : decode cX12_sure 14 = .ok (.ldc2_w 241, 3) := by decide +kernel
theorem dX12_sure_17 : decode cX12_sure 17 = .ok (.lreturn, 1) := by decide +kernel
theorem dX12_sure_18 : decode cX12_sure 18 = .ok (.aload_n 0, 1) := by decide +kernel
theorem dX12_sure_19 : decode cX12_sure 19 = .ok (.invokevirtual 243, 3) := by decide +kernel
theorem dX12_sure_22 : decode cX12_sure 22 = .ok (.ifCond .ne 7, 3) := by decide +kernel
theorem dX12_sure_25 : decode cX12_sure 25 = .ok (.ldc2_w 246, 3) := by decide +kernel
theorem dX12_sure_28 : decode cX12_sure 28 = .ok (.lreturn, 1) := by decide +kernel
theorem dX12_sure_29 : decode cX12_sure 29 = .ok (.aload_n 0, 1) := by decide +kernel
theorem dX12_sure_30 : decode cX12_sure 30 = .ok (.invokevirtual 252, 3) := by decide +kernel
theorem dX12_sure_33 : decode cX12_sure 33 = .ok (.istore_n 2, 1) := by decide +kernel
theorem dX12_sure_34 : decode cX12_sure 34 = .ok (.iload_n 2, 1) := by decide +kernel
theorem dX12_sure_35 : decode cX12_sure 35 = .ok (.bipush (-4), 2) := by decide +kernel
theorem dX12_sure_37 : decode cX12_sure 37 = .ok (.if_icmp .ne 9, 3) := by decide +kernel
theorem dX12_sure_40 : decode cX12_sure 40 = .ok (.ldc2_w 255, 3) := by decide +kernel
theorem dX12_sure_43 : decode cX12_sure 43 = .ok (.goto 16, 3) := by decide +kernel
theorem dX12_sure_46 : decode cX12_sure 46 = .ok (.aload_n 0, 1) := by decide +kernel
theorem dX12_sure_47 : decode cX12_sure 47 = .ok (.iload_n 2, 1) := by decide +kernel
theorem dX12_sure_48 : decode cX12_sure 48 = .ok (.invokevirtual 235, 3) := by decide +kernel
theorem dX12_sure_51 : decode cX12_sure 51 = .ok (.aload_n 0, 1) := by decide +kernel
theorem dX12_sure_52 : decode cX12_sure 52 = .ok (.invokevirtual 248, 3) := by decide +kernel
theorem dX12_sure_55 : decode cX12_sure 55 = .ok (.iload_n 1, 1) := by decide +kernel
theorem dX12_sure_56 : decode cX12_sure 56 = .ok (.invokestatic 257, 3) := by decide +kernel
theorem dX12_sure_59 : decode cX12_sure 59 = .ok (.lreturn, 1) := by decide +kernel
set_option maxRecDepth 20000 in
theorem ggX12_fits_X12_awake : GoodIn wsX12_fits wsX12_awake := goodIn_r _ [6, 7, 8, 38, 39, 40, 41, 42, 43, 44, 45, 46, 47, 48, 49, 50, 51, 52, 53, 54, 55, 56, 57, 58, 59, 60, 61, 62, 63, 64, 65, 66, 67, 68, 69, 70, 71, 72] (by decide +kernel) (by decide +kernel)
set_option maxRecDepth 20000 in
theorem gX12_fits_X12_awake : GoodIn wsX12_fits (wsV RX12 182 RX12 yX12_awake wsX12_awake) := goodIn_app (goodIn_of _ (by decide +kernel)) ggX12_fits_X12_awake
set_option maxRecDepth 20000 in
theorem ggX12_fits_X12_isHeard : GoodIn wsX12_fits wsX12_isHeard := goodIn_r _ [12, 8, 13, 14, 15, 5, 16, 38, 39, 40, 41, 42, 43, 44, 45, 46, 47, 48, 49, 50, 51, 52, 53, 54, 55, 56, 57, 58, 59, 60, 61, 62, 63, 64, 65, 66, 67, 68, 69, 70, 71, 72] (by decide +kernel) (by decide +kernel)
set_option maxRecDepth 20000 in
theorem gX12_fits_X12_isHeard : GoodIn wsX12_fits (wsV RX12 243 RX12 yX12_isHeard wsX12_isHeard) := goodIn_app (goodIn_of _ (by decide +kernel)) ggX12_fits_X12_isHeard
set_option maxRecDepth 20000 in
theorem ggX12_fits_X12_chanceOf : GoodIn wsX12_fits wsX12_chanceOf := goodIn_r _ [20, 8, 21, 22, 23, 24, 5, 25, 26, 27, 28, 29, 30, 31, 32, 33, 34, 35, 36, 37, 1, 38, 39, 40, 41, 42, 43, 44, 45, 46, 47, 48, 49, 50, 51, 52, 53, 54, 55, 56, 57, 58, 59, 60, 61, 62, 63, 64, 65, 66, 67, 68, 69, 70, 71, 72] (by decide +kernel) (by decide +kernel)
set_option maxRecDepth 20000 in
theorem gX12_fits_X12_chanceOf : GoodIn wsX12_fits (wsV RX12 235 RX12 yX12_chanceOf wsX12_chanceOf) := goodIn_app (goodIn_of _ (by decide +kernel)) ggX12_fits_X12_chanceOf
theorem dX12_fits_0 : decode cX12_fits 0 = .ok (.aload_n 0, 1) := by decide +kernel
theorem dX12_fits_1 : decode cX12_fits 1 = .ok (.invokevirtual 182, 3) := by decide +kernel
theorem dX12_fits_4 : decode cX12_fits 4 = .ok (.aload_n 0, 1) := by decide +kernel
theorem dX12_fits_5 : decode cX12_fits 5 = .ok (.invokevirtual 243, 3) := by decide +kernel
theorem dX12_fits_8 : decode cX12_fits 8 = .ok (.ifCond .ne 6, 3) := by decide +kernel
theorem dX12_fits_11 : decode cX12_fits 11 = .ok (.bipush (-2), 2) := by decide +kernel
theorem dX12_fits_13 : decode cX12_fits 13 = .ok (.ireturn, 1) := by decide +kernel
theorem dX12_fits_14 : decode cX12_fits 14 = .ok (.iconst 0, 1) := by decide +kernel
theorem dX12_fits_15 : decode cX12_fits 15 = .ok (.istore_n 1, 1) := by decide +kernel
theorem dX12_fits_16 : decode cX12_fits 16 = .ok (.iconst 0, 1) := by decide +kernel
theorem dX12_fits_17 : decode cX12_fits 17 = .ok (.istore_n 2, 1) := by decide +kernel
theorem dX12_fits_18 : decode cX12_fits 18 = .ok (.iload_n 2, 1) := by decide +kernel
theorem dX12_fits_19 : decode cX12_fits 19 = .ok (.aload_n 0, 1) := by decide +kernel
theorem dX12_fits_20 : decode cX12_fits 20 = .ok (.getfield 22, 3) := by decide +kernel
theorem dX12_fits_23 : decode cX12_fits 23 = .ok (.iconst 5, 1) := by decide +kernel
theorem dX12_fits_24 : decode cX12_fits 24 = .ok (.iaload, 1) := by decide +kernel
theorem dX12_fits_25 : decode cX12_fits 25 = .ok (.if_icmp .ge 29, 3) := by decide +kernel
theorem dX12_fits_28 : decode cX12_fits 28 = .ok (.iload_n 1, 1) := by decide +kernel
theorem dX12_fits_29 : decode cX12_fits 29 = .ok (.aload_n 0, 1) := by decide +kernel
theorem dX12_fits_30 : decode cX12_fits 30 = .ok (.iload_n 2, 1) := by decide +kernel
theorem dX12_fits_31 : decode cX12_fits 31 = .ok (.invokevirtual 235, 3) := by decide +kernel
theorem dX12_fits_34 : decode cX12_fits 34 = .ok (.lconst 0, 1) := by decide +kernel
theorem dX12_fits_35 : decode cX12_fits 35 = .ok (.lcmp, 1) := by decide +kernel
theorem dX12_fits_36 : decode cX12_fits 36 = .ok (.ifCond .le 9, 3) := by decide +kernel
theorem dX12_fits_39 : decode cX12_fits 39 = .ok (.iconst 1, 1) := by decide +kernel
theorem dX12_fits_40 : decode cX12_fits 40 = .ok (.iload_n 2, 1) := by decide +kernel
theorem dX12_fits_41 : decode cX12_fits 41 = .ok (.ishl, 1) := by decide +kernel
theorem dX12_fits_42 : decode cX12_fits 42 = .ok (.goto 4, 3) := by decide +kernel
theorem dX12_fits_45 : decode cX12_fits 45 = .ok (.iconst 0, 1) := by decide +kernel
theorem dX12_fits_46 : decode cX12_fits 46 = .ok (.ior, 1) := by decide +kernel
theorem dX12_fits_47 : decode cX12_fits 47 = .ok (.istore_n 1, 1) := by decide +kernel
theorem dX12_fits_48 : decode cX12_fits 48 = .ok (.iinc 2 1, 3) := by decide +kernel
theorem dX12_fits_51 : decode cX12_fits 51 = .ok (.goto (-33), 3) := by decide +kernel
theorem dX12_fits_54 : decode cX12_fits 54 = .ok (.iload_n 1, 1) := by decide +kernel
theorem dX12_fits_55 : decode cX12_fits 55 = .ok (.ireturn, 1) := by decide +kernel
set_option maxRecDepth 20000 in
theorem ggX12_chanceBy_X12_size : GoodIn wsX12_chanceBy wsX12_size := goodIn_r _ [6, 7, 22, 23, 24, 25, 26, 27, 28, 29, 30, 31, 32, 33, 34, 35, 36, 37, 38, 39, 40, 41, 42, 43, 44, 45, 46, 47, 48, 49, 50, 51, 52, 53, 54, 55, 56] (by decide +kernel) (by decide +kernel)
set_option maxRecDepth 20000 in
theorem gX12_chanceBy_X12_size : GoodIn wsX12_chanceBy (wsV RX12 194 RX12 yX12_size wsX12_size) := goodIn_app (goodIn_of _ (by decide +kernel)) ggX12_chanceBy_X12_size
set_option maxRecDepth 20000 in
theorem ggX12_chanceBy_X12_countOf : GoodIn wsX12_chanceBy wsX12_countOf := goodIn_r _ [11, 7, 12, 13, 14, 5, 15, 16, 22, 23, 24, 25, 26, 27, 28, 29, 30, 31, 32, 33, 34, 35, 36, 37, 38, 39, 40, 41, 42, 43, 44, 45, 46, 47, 48, 49, 50, 51, 52, 53, 54, 55, 56] (by decide +kernel) (by decide +kernel)
set_option maxRecDepth 20000 in
theorem gX12_chanceBy_X12_countOf : GoodIn wsX12_chanceBy (wsV RX12 229 RX12 yX12_countOf wsX12_countOf) := goodIn_app (goodIn_of _ (by decide +kernel)) ggX12_chanceBy_X12_countOf
set_option maxRecDepth 20000 in
theorem ggX12_chanceBy_X12_hears : GoodIn wsX12_chanceBy wsX12_hears := goodIn_r _ [20, 21, 22, 23, 24, 25, 26, 27, 28, 29, 30, 31, 32, 33, 34, 35, 36, 37, 38, 39, 40, 41, 42, 43, 44, 45, 46, 47, 48, 49, 50, 51, 52, 53, 54, 55, 56] (by decide +kernel) (by decide +kernel)
set_option maxRecDepth 20000 in
theorem gX12_chanceBy_X12_hears : GoodIn wsX12_chanceBy (wsV RX12 232 RX12 yX12_hears wsX12_hears) := goodIn_app (goodIn_of _ (by decide +kernel)) ggX12_chanceBy_X12_hears
theorem dX12_chanceBy_0 : decode cX12_chanceBy 0 = .ok (.lconst 1, 1) := by decide +kernel
theorem dX12_chanceBy_1 : decode cX12_chanceBy 1 = .ok (.lstore_n 3, 1) := by decide +kernel
theorem dX12_chanceBy_2 : decode cX12_chanceBy 2 = .ok (.iconst 0, 1) := by decide +kernel
theorem dX12_chanceBy_3 : decode cX12_chanceBy 3 = .ok (.istore 5, 2) := by decide +kernel
theorem dX12_chanceBy_5 : decode cX12_chanceBy 5 = .ok (.iload 5, 2) := by decide +kernel
theorem dX12_chanceBy_7 : decode cX12_chanceBy 7 = .ok (.iload_n 2, 1) := by decide +kernel
theorem dX12_chanceBy_8 : decode cX12_chanceBy 8 = .ok (.if_icmp .ge 39, 3) := by decide +kernel
theorem dX12_chanceBy_11 : decode cX12_chanceBy 11 = .ok (.lload_n 3, 1) := by decide +kernel
theorem dX12_chanceBy_12 : decode cX12_chanceBy 12 = .ok (.aload_n 0, 1) := by decide +kernel
theorem dX12_chanceBy_13 : decode cX12_chanceBy 13 = .ok (.aload_n 0, 1) := by decide +kernel
theorem dX12_chanceBy_14 : decode cX12_chanceBy 14 = .ok (.iload_n 1, 1) := by decide +kernel
theorem dX12_chanceBy_15 : decode cX12_chanceBy 15 = .ok (.iload 5, 2) := by decide +kernel
theorem dX12_chanceBy_17 : decode cX12_chanceBy 17 = .ok (.iconst 2, 1) := by decide +kernel
theorem dX12_chanceBy_18 : decode cX12_chanceBy 18 = .ok (.aload_n 0, 1) := by decide +kernel
theorem dX12_chanceBy_19 : decode cX12_chanceBy 19 = .ok (.iload_n 1, 1) := by decide +kernel
theorem dX12_chanceBy_20 : decode cX12_chanceBy 20 = .ok (.invokevirtual 194, 3) := by decide +kernel
theorem dX12_chanceBy_23 : decode cX12_chanceBy 23 = .ok (.imul, 1) := by decide +kernel
theorem dX12_chanceBy_24 : decode cX12_chanceBy 24 = .ok (.irem, 1) := by decide +kernel
theorem dX12_chanceBy_25 : decode cX12_chanceBy 25 = .ok (.invokevirtual 229, 3) := by decide +kernel
theorem dX12_chanceBy_28 : decode cX12_chanceBy 28 = .ok (.aload_n 0, 1) := by decide +kernel
theorem dX12_chanceBy_29 : decode cX12_chanceBy 29 = .ok (.getfield 61, 3) := by decide +kernel
theorem dX12_chanceBy_32 : decode cX12_chanceBy 32 = .ok (.iload 5, 2) := by decide +kernel
theorem dX12_chanceBy_34 : decode cX12_chanceBy 34 = .ok (.iaload, 1) := by decide +kernel
theorem dX12_chanceBy_35 : decode cX12_chanceBy 35 = .ok (.invokevirtual 232, 3) := by decide +kernel
theorem dX12_chanceBy_38 : decode cX12_chanceBy 38 = .ok (.i2l, 1) := by decide +kernel
theorem dX12_chanceBy_39 : decode cX12_chanceBy 39 = .ok (.lmul, 1) := by decide +kernel
theorem dX12_chanceBy_40 : decode cX12_chanceBy 40 = .ok (.lstore_n 3, 1) := by decide +kernel
theorem dX12_chanceBy_41 : decode cX12_chanceBy 41 = .ok (.iinc 5 1, 3) := by decide +kernel
theorem dX12_chanceBy_44 : decode cX12_chanceBy 44 = .ok (.goto (-39), 3) := by decide +kernel
theorem dX12_chanceBy_47 : decode cX12_chanceBy 47 = .ok (.lload_n 3, 1) := by decide +kernel
theorem dX12_chanceBy_48 : decode cX12_chanceBy 48 = .ok (.lreturn, 1) := by decide +kernel
