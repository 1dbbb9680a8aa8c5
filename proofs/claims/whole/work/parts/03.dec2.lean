theorem dX9_append_42 : decode cX9_append 42 = .ok (.l2i, 1) := by decide +kernel
theorem dX9_append_43 : decode cX9_append 43 = .ok (.i2b, 1) := by decide +kernel
theorem dX9_append_44 : decode cX9_append 44 = .ok (.bastore, 1) := by decide +kernel
theorem dX9_append_45 : decode cX9_append 45 = .ok (.iinc 3 1, 3) := by decide +kernel
theorem dX9_append_48 : decode cX9_append 48 = .ok (.goto (-31), 3) := by decide +kernel
theorem dX9_append_51 : decode cX9_append 51 = .ok (.aload_n 0, 1) := by decide +kernel
theorem dX9_append_52 : decode cX9_append 52 = .ok (.dup, 1) := by decide +kernel
theorem dX9_append_53 : decode cX9_append 53 = .ok (.getfield 15, 3) := by decide +kernel
theorem dX9_append_56 : decode cX9_append 56 = .ok (.bipush 8, 2) := by decide +kernel
theorem dX9_append_58 : decode cX9_append 58 = .ok (.iadd, 1) := by decide +kernel
theorem dX9_append_59 : decode cX9_append 59 = .ok (.putfield 15, 3) := by decide +kernel
theorem dX9_append_62 : decode cX9_append 62 = .ok (.iconst 1, 1) := by decide +kernel
theorem dX9_append_63 : decode cX9_append 63 = .ok (.ireturn, 1) := by decide +kernel
theorem dX9_nextToken_0 : decode cX9_nextToken 0 = .ok (.aload_n 0, 1) := by decide +kernel
theorem dX9_nextToken_1 : decode cX9_nextToken 1 = .ok (.getfield 19, 3) := by decide +kernel
theorem dX9_nextToken_4 : decode cX9_nextToken 4 = .ok (.aload_n 0, 1) := by decide +kernel
theorem dX9_nextToken_5 : decode cX9_nextToken 5 = .ok (.getfield 15, 3) := by decide +kernel
theorem dX9_nextToken_8 : decode cX9_nextToken 8 = .ok (.if_icmp .ge 30, 3) := by decide +kernel
theorem dX9_nextToken_11 : decode cX9_nextToken 11 = .ok (.aload_n 0, 1) := by decide +kernel
theorem dX9_nextToken_12 : decode cX9_nextToken 12 = .ok (.getfield 9, 3) := by decide +kernel
theorem dX9_nextToken_15 : decode cX9_nextToken 15 = .ok (.aload_n 0, 1) := by decide +kernel
theorem dX9_nextToken_16 : decode cX9_nextToken 16 = .ok (.getfield 19, 3) := by decide +kernel
theorem dX9_nextToken_19 : decode cX9_nextToken 19 = .ok (.baload, 1) := by decide +kernel
theorem dX9_nextToken_20 : decode cX9_nextToken 20 = .ok (.bipush 32, 2) := by decide +kernel
theorem dX9_nextToken_22 : decode cX9_nextToken 22 = .ok (.if_icmp .ne 16, 3) := by decide +kernel
theorem dX9_nextToken_25 : decode cX9_nextToken 25 = .ok (.aload_n 0, 1) := by decide +kernel
theorem dX9_nextToken_26 : decode cX9_nextToken 26 = .ok (.dup, 1) := by decide +kernel
theorem dX9_nextToken_27 : decode cX9_nextToken 27 = .ok (.getfield 19, 3) := by decide +kernel
theorem dX9_nextToken_30 : decode cX9_nextToken 30 = .ok (.iconst 1, 1) := by decide +kernel
theorem dX9_nextToken_31 : decode cX9_nextToken 31 = .ok (.iadd, 1) := by decide +kernel
theorem dX9_nextToken_32 : decode cX9_nextToken 32 = .ok (.putfield 19, 3) := by decide +kernel
theorem dX9_nextToken_35 : decode cX9_nextToken 35 = .ok (.goto (-35), 3) := by decide +kernel
theorem dX9_nextToken_38 : decode cX9_nextToken 38 = .ok (.aload_n 0, 1) := by decide +kernel
theorem dX9_nextToken_39 : decode cX9_nextToken 39 = .ok (.aload_n 0, 1) := by decide +kernel
theorem dX9_nextToken_40 : decode cX9_nextToken 40 = .ok (.getfield 19, 3) := by decide +kernel
theorem dX9_nextToken_43 : decode cX9_nextToken 43 = .ok (.putfield 22, 3) := by decide +kernel
theorem dX9_nextToken_46 : decode cX9_nextToken 46 = .ok (.aload_n 0, 1) := by decide +kernel
theorem dX9_nextToken_47 : decode cX9_nextToken 47 = .ok (.getfield 19, 3) := by decide +kernel
theorem dX9_nextToken_50 : decode cX9_nextToken 50 = .ok (.aload_n 0, 1) := by decide +kernel
theorem dX9_nextToken_51 : decode cX9_nextToken 51 = .ok (.getfield 15, 3) := by decide +kernel
theorem dX9_nextToken_54 : decode cX9_nextToken 54 = .ok (.if_icmp .lt 11, 3) := by decide +kernel
theorem dX9_nextToken_57 : decode cX9_nextToken 57 = .ok (.aload_n 0, 1) := by decide +kernel
theorem dX9_nextToken_58 : decode cX9_nextToken 58 = .ok (.iconst 1, 1) := by decide +kernel
theorem dX9_nextToken_59 : decode cX9_nextToken 59 = .ok (.putfield 25, 3) := by decide +kernel
theorem dX9_nextToken_62 : decode cX9_nextToken 62 = .ok (.goto 98, 3) := by decide +kernel
theorem dX9_nextToken_65 : decode cX9_nextToken 65 = .ok (.aload_n 0, 1) := by decide +kernel
theorem dX9_nextToken_66 : decode cX9_nextToken 66 = .ok (.getfield 9, 3) := by decide +kernel
theorem dX9_nextToken_69 : decode cX9_nextToken 69 = .ok (.aload_n 0, 1) := by decide +kernel
theorem dX9_nextToken_70 : decode cX9_nextToken 70 = .ok (.getfield 19, 3) := by decide +kernel
theorem dX9_nextToken_73 : decode cX9_nextToken 73 = .ok (.baload, 1) := by decide +kernel
theorem dX9_nextToken_74 : decode cX9_nextToken 74 = .ok (.bipush 59, 2) := by decide +kernel
theorem dX9_nextToken_76 : decode cX9_nextToken 76 = .ok (.if_icmp .ne 21, 3) := by decide +kernel
theorem dX9_nextToken_79 : decode cX9_nextToken 79 = .ok (.aload_n 0, 1) := by decide +kernel
theorem dX9_nextToken_80 : decode cX9_nextToken 80 = .ok (.iconst 4, 1) := by decide +kernel
theorem dX9_nextToken_81 : decode cX9_nextToken 81 = .ok (.putfield 25, 3) := by decide +kernel
theorem dX9_nextToken_84 : decode cX9_nextToken 84 = .ok (.aload_n 0, 1) := by decide +kernel
theorem dX9_nextToken_85 : decode cX9_nextToken 85 = .ok (.dup, 1) := by decide +kernel
theorem dX9_nextToken_86 : decode cX9_nextToken 86 = .ok (.getfield 19, 3) := by decide +kernel
theorem dX9_nextToken_89 : decode cX9_nextToken 89 = .ok (.iconst 1, 1) := by decide +kernel
theorem dX9_nextToken_90 : decode cX9_nextToken 90 = .ok (.iadd, 1) := by decide +kernel
theorem dX9_nextToken_91 : decode cX9_nextToken 91 = .ok (.putfield 19, 3) := by decide +kernel
theorem dX9_nextToken_94 : decode cX9_nextToken 94 = .ok (.goto 66, 3) := by decide +kernel
theorem dX9_nextToken_97 : decode cX9_nextToken 97 = .ok (.aload_n 0, 1) := by decide +kernel
theorem dX9_nextToken_98 : decode cX9_nextToken 98 = .ok (.getfield 9, 3) := by decide +kernel
theorem dX9_nextToken_101 : decode cX9_nextToken 101 = .ok (.aload_n 0, 1) := by decide +kernel
theorem dX9_nextToken_102 : decode cX9_nextToken 102 = .ok (.getfield 19, 3) := by decide +kernel
theorem dX9_nextToken_105 : decode cX9_nextToken 105 = .ok (.baload, 1) := by decide +kernel
theorem dX9_nextToken_106 : decode cX9_nextToken 106 = .ok (.invokestatic 28, 3) := by decide +kernel
theorem dX9_nextToken_109 : decode cX9_nextToken 109 = .ok (.ifCond .eq 47, 3) := by decide +kernel
theorem dX9_nextToken_112 : decode cX9_nextToken 112 = .ok (.aload_n 0, 1) := by decide +kernel
theorem dX9_nextToken_113 : decode cX9_nextToken 113 = .ok (.iconst 2, 1) := by decide +kernel
theorem dX9_nextToken_114 : decode cX9_nextToken 114 = .ok (.putfield 25, 3) := by decide +kernel
theorem dX9_nextToken_117 : decode cX9_nextToken 117 = .ok (.aload_n 0, 1) := by decide +kernel
theorem dX9_nextToken_118 : decode cX9_nextToken 118 = .ok (.getfield 19, 3) := by decide +kernel
theorem dX9_nextToken_121 : decode cX9_nextToken 121 = .ok (.aload_n 0, 1) := by decide +kernel
theorem dX9_nextToken_122 : decode cX9_nextToken 122 = .ok (.getfield 15, 3) := by decide +kernel
theorem dX9_nextToken_125 : decode cX9_nextToken 125 = .ok (.if_icmp .ge 35, 3) := by decide +kernel
theorem dX9_nextToken_128 : decode cX9_nextToken 128 = .ok (.aload_n 0, 1) := by decide +kernel
theorem dX9_nextToken_129 : decode cX9_nextToken 129 = .ok (.getfield 9, 3) := by decide +kernel
theorem dX9_nextToken_132 : decode cX9_nextToken 132 = .ok (.aload_n 0, 1) := by decide +kernel
theorem dX9_nextToken_133 : decode cX9_nextToken 133 = .ok (.getfield 19, 3) := by decide +kernel
theorem dX9_nextToken_136 : decode cX9_nextToken 136 = .ok (.baload, 1) := by decide +kernel
theorem dX9_nextToken_137 : decode cX9_nextToken 137 = .ok (.invokestatic 28, 3) := by decide +kernel
theorem dX9_nextToken_140 : decode cX9_nextToken 140 = .ok (.ifCond .eq 20, 3) := by decide +kernel
theorem dX9_nextToken_143 : decode cX9_nextToken 143 = .ok (.aload_n 0, 1) := by decide +kernel
theorem dX9_nextToken_144 : decode cX9_nextToken 144 = .ok (.dup, 1) := by decide +kernel
theorem dX9_nextToken_145 : decode cX9_nextToken 145 = .ok (.getfield 19, 3) := by decide +kernel
theorem dX9_nextToken_148 : decode cX9_nextToken 148 = .ok (.iconst 1, 1) := by decide +kernel
theorem dX9_nextToken_149 : decode cX9_nextToken 149 = .ok (.iadd, 1) := by decide +kernel
theorem dX9_nextToken_150 : decode cX9_nextToken 150 = .ok (.putfield 19, 3) := by decide +kernel
theorem dX9_nextToken_153 : decode cX9_nextToken 153 = .ok (.goto (-36), 3) := by decide +kernel
theorem dX9_nextToken_156 : decode cX9_nextToken 156 = .ok (.aload_n 0, 1) := by decide +kernel
theorem dX9_nextToken_157 : decode cX9_nextToken 157 = .ok (.invokevirtual 32, 3) := by decide +kernel
theorem dX9_nextToken_160 : decode cX9_nextToken 160 = .ok (.return_, 1) := by decide +kernel
theorem dX9_nextNumber_0 : decode cX9_nextNumber 0 = .ok (.aload_n 0, 1) := by decide +kernel
theorem dX9_nextNumber_1 : decode cX9_nextNumber 1 = .ok (.iconst 0, 1) := by decide +kernel
theorem dX9_nextNumber_2 : decode cX9_nextNumber 2 = .ok (.putfield 35, 3) := by decide +kernel
theorem dX9_nextNumber_5 : decode cX9_nextNumber 5 = .ok (.aload_n 0, 1) := by decide +kernel
theorem dX9_nextNumber_6 : decode cX9_nextNumber 6 = .ok (.getfield 19, 3) := by decide +kernel
theorem dX9_nextNumber_9 : decode cX9_nextNumber 9 = .ok (.aload_n 0, 1) := by decide +kernel
theorem dX9_nextNumber_10 : decode cX9_nextNumber 10 = .ok (.getfield 15, 3) := by decide +kernel
theorem dX9_nextNumber_13 : decode cX9_nextNumber 13 = .ok (.if_icmp .ge 72, 3) := by decide +kernel
theorem dX9_nextNumber_16 : decode cX9_nextNumber 16 = .ok (.aload_n 0, 1) := by decide +kernel
theorem dX9_nextNumber_17 : decode cX9_nextNumber 17 = .ok (.getfield 9, 3) := by decide +kernel
theorem dX9_nextNumber_20 : decode cX9_nextNumber 20 = .ok (.aload_n 0, 1) := by decide +kernel
theorem dX9_nextNumber_21 : decode cX9_nextNumber 21 = .ok (.getfield 19, 3) := by decide +kernel
theorem dX9_nextNumber_24 : decode cX9_nextNumber 24 = .ok (.baload, 1) := by decide +kernel
theorem dX9_nextNumber_25 : decode cX9_nextNumber 25 = .ok (.bipush 48, 2) := by decide +kernel
theorem dX9_nextNumber_27 : decode cX9_nextNumber 27 = .ok (.if_icmp .lt 58, 3) := by decide +kernel
theorem dX9_nextNumber_30 : decode cX9_nextNumber 30 = .ok (.aload_n 0, 1) := by decide +kernel
theorem dX9_nextNumber_31 : decode cX9_nextNumber 31 = .ok (.getfield 9, 3) := by decide +kernel
theorem dX9_nextNumber_34 : decode cX9_nextNumber 34 = .ok (.aload_n 0, 1) := by decide +kernel
theorem dX9_nextNumber_35 : decode cX9_nextNumber 35 = .ok (.getfield 19, 3) := by decide +kernel
theorem dX9_nextNumber_38 : decode cX9_nextNumber 38 = .ok (.baload, 1) := by decide +kernel
theorem dX9_nextNumber_39 : decode cX9_nextNumber 39 = .ok (.bipush 57, 2) := by decide +kernel
theorem dX9_nextNumber_41 : decode cX9_nextNumber 41 = .ok (.if_icmp .gt 44, 3) := by decide +kernel
theorem dX9_nextNumber_44 : decode cX9_nextNumber 44 = .ok (.aload_n 0, 1) := by decide +kernel
theorem dX9_nextNumber_45 : decode cX9_nextNumber 45 = .ok (.bipush 10, 2) := by decide +kernel
theorem dX9_nextNumber_47 : decode cX9_nextNumber 47 = .ok (.aload_n 0, 1) := by decide +kernel
theorem dX9_nextNumber_48 : decode cX9_nextNumber 48 = .ok (.getfield 35, 3) := by decide +kernel
theorem dX9_nextNumber_51 : decode cX9_nextNumber 51 = .ok (.imul, 1) := by decide +kernel
theorem dX9_nextNumber_52 : decode cX9_nextNumber 52 = .ok (.aload_n 0, 1) := by decide +kernel
theorem dX9_nextNumber_53 : decode cX9_nextNumber 53 = .ok (.getfield 9, 3) := by decide +kernel
theorem dX9_nextNumber_56 : decode cX9_nextNumber 56 = .ok (.aload_n 0, 1) := by decide +kernel
theorem dX9_nextNumber_57 : decode cX9_nextNumber 57 = .ok (.getfield 19, 3) := by decide +kernel
theorem dX9_nextNumber_60 : decode cX9_nextNumber 60 = .ok (.baload, 1) := by decide +kernel
theorem dX9_nextNumber_61 : decode cX9_nextNumber 61 = .ok (.iadd, 1) := by decide +kernel
theorem dX9_nextNumber_62 : decode cX9_nextNumber 62 = .ok (.bipush 48, 2) := by decide +kernel
theorem dX9_nextNumber_64 : decode cX9_nextNumber 64 = .ok (.isub, 1) := by decide +kernel
theorem dX9_nextNumber_65 : decode cX9_nextNumber 65 = .ok (.sipush 1000, 3) := by decide +kernel
theorem dX9_nextNumber_68 : decode cX9_nextNumber 68 = .ok (.irem, 1) := by decide +kernel
theorem dX9_nextNumber_69 : decode cX9_nextNumber 69 = .ok (.putfield 35, 3) := by decide +kernel
theorem dX9_nextNumber_72 : decode cX9_nextNumber 72 = .ok (.aload_n 0, 1) := by decide +kernel
theorem dX9_nextNumber_73 : decode cX9_nextNumber 73 = .ok (.dup, 1) := by decide +kernel
theorem dX9_nextNumber_74 : decode cX9_nextNumber 74 = .ok (.getfield 19, 3) := by decide +kernel
theorem dX9_nextNumber_77 : decode cX9_nextNumber 77 = .ok (.iconst 1, 1) := by decide +kernel
theorem dX9_nextNumber_78 : decode cX9_nextNumber 78 = .ok (.iadd, 1) := by decide +kernel
theorem dX9_nextNumber_79 : decode cX9_nextNumber 79 = .ok (.putfield 19, 3) := by decide +kernel
theorem dX9_nextNumber_82 : decode cX9_nextNumber 82 = .ok (.goto (-77), 3) := by decide +kernel
theorem dX9_nextNumber_85 : decode cX9_nextNumber 85 = .ok (.aload_n 0, 1) := by decide +kernel
theorem dX9_nextNumber_86 : decode cX9_nextNumber 86 = .ok (.aload_n 0, 1) := by decide +kernel
theorem dX9_nextNumber_87 : decode cX9_nextNumber 87 = .ok (.getfield 19, 3) := by decide +kernel
theorem dX9_nextNumber_90 : decode cX9_nextNumber 90 = .ok (.aload_n 0, 1) := by decide +kernel
theorem dX9_nextNumber_91 : decode cX9_nextNumber 91 = .ok (.getfield 22, 3) := by decide +kernel
theorem dX9_nextNumber_94 : decode cX9_nextNumber 94 = .ok (.if_icmp .le 20, 3) := by decide +kernel
theorem dX9_nextNumber_97 : decode cX9_nextNumber 97 = .ok (.aload_n 0, 1) := by decide +kernel
theorem dX9_nextNumber_98 : decode cX9_nextNumber 98 = .ok (.getfield 19, 3) := by decide +kernel
theorem dX9_nextNumber_101 : decode cX9_nextNumber 101 = .ok (.aload_n 0, 1) := by decide +kernel
theorem dX9_nextNumber_102 : decode cX9_nextNumber 102 = .ok (.getfield 22, 3) := by decide +kernel
theorem dX9_nextNumber_105 : decode cX9_nextNumber 105 = .ok (.isub, 1) := by decide +kernel
theorem dX9_nextNumber_106 : decode cX9_nextNumber 106 = .ok (.iconst 3, 1) := by decide +kernel
theorem dX9_nextNumber_107 : decode cX9_nextNumber 107 = .ok (.if_icmp .gt 7, 3) := by decide +kernel
theorem dX9_nextNumber_110 : decode cX9_nextNumber 110 = .ok (.iconst 3, 1) := by decide +kernel
theorem dX9_nextNumber_111 : decode cX9_nextNumber 111 = .ok (.goto 4, 3) := by decide +kernel
theorem dX9_nextNumber_114 : decode cX9_nextNumber 114 = .ok (.iconst 0, 1) := by decide +kernel
theorem dX9_nextNumber_115 : decode cX9_nextNumber 115 = .ok (.putfield 25, 3) := by decide +kernel
theorem dX9_nextNumber_118 : decode cX9_nextNumber 118 = .ok (.return_, 1) := by decide +kernel
theorem dX9_isName_0 : decode cX9_isName 0 = .ok (.aload_n 0, 1) := by decide +kernel
theorem dX9_isName_1 : decode cX9_isName 1 = .ok (.getfield 19, 3) := by decide +kernel
theorem dX9_isName_4 : decode cX9_isName 4 = .ok (.aload_n 0, 1) := by decide +kernel
theorem dX9_isName_5 : decode cX9_isName 5 = .ok (.getfield 22, 3) := by decide +kernel
theorem dX9_isName_8 : decode cX9_isName 8 = .ok (.isub, 1) := by decide +kernel
theorem dX9_isName_9 : decode cX9_isName 9 = .ok (.aload_n 1, 1) := by decide +kernel
theorem dX9_isName_10 : decode cX9_isName 10 = .ok (.invokevirtual 38, 3) := by decide +kernel
theorem dX9_isName_13 : decode cX9_isName 13 = .ok (.if_icmp .eq 5, 3) := by decide +kernel
theorem dX9_isName_16 : decode cX9_isName 16 = .ok (.iconst 0, 1) := by decide +kernel
theorem dX9_isName_17 : decode cX9_isName 17 = .ok (.ireturn, 1) := by decide +kernel
theorem dX9_isName_18 : decode cX9_isName 18 = .ok (.iconst 0, 1) := by decide +kernel
theorem dX9_isName_19 : decode cX9_isName 19 = .ok (.istore_n 2, 1) := by decide +kernel
theorem dX9_isName_20 : decode cX9_isName 20 = .ok (.iload_n 2, 1) := by decide +kernel
theorem dX9_isName_21 : decode cX9_isName 21 = .ok (.aload_n 1, 1) := by decide +kernel
theorem dX9_isName_22 : decode cX9_isName 22 = .ok (.invokevirtual 38, 3) := by decide +kernel
theorem dX9_isName_25 : decode cX9_isName 25 = .ok (.if_icmp .ge 30, 3) := by decide +kernel
theorem dX9_isName_28 : decode cX9_isName 28 = .ok (.aload_n 0, 1) := by decide +kernel
theorem dX9_isName_29 : decode cX9_isName 29 = .ok (.getfield 9, 3) := by decide +kernel
theorem dX9_isName_32 : decode cX9_isName 32 = .ok (.aload_n 0, 1) := by decide +kernel
theorem dX9_isName_33 : decode cX9_isName 33 = .ok (.getfield 22, 3) := by decide +kernel
theorem dX9_isName_36 : decode cX9_isName 36 = .ok (.iload_n 2, 1) := by decide +kernel
theorem dX9_isName_37 : decode cX9_isName 37 = .ok (.iadd, 1) := by decide +kernel
theorem dX9_isName_38 : decode cX9_isName 38 = .ok (.baload, 1) := by decide +kernel
theorem dX9_isName_39 : decode cX9_isName 39 = .ok (.aload_n 1, 1) := by decide +kernel
theorem dX9_isName_40 : decode cX9_isName 40 = .ok (.iload_n 2, 1) := by decide +kernel
theorem dX9_isName_41 : decode cX9_isName 41 = .ok (.invokevirtual 44, 3) := by decide +kernel
theorem dX9_isName_44 : decode cX9_isName 44 = .ok (.if_icmp .eq 5, 3) := by decide +kernel
theorem dX9_isName_47 : decode cX9_isName 47 = .ok (.iconst 0, 1) := by decide +kernel
theorem dX9_isName_48 : decode cX9_isName 48 = .ok (.ireturn, 1) := by decide +kernel
theorem dX9_isName_49 : decode cX9_isName 49 = .ok (.iinc 2 1, 3) := by decide +kernel
theorem dX9_isName_52 : decode cX9_isName 52 = .ok (.goto (-32), 3) := by decide +kernel
theorem dX9_isName_55 : decode cX9_isName 55 = .ok (.iconst 1, 1) := by decide +kernel
theorem dX9_isName_56 : decode cX9_isName 56 = .ok (.ireturn, 1) := by decide +kernel
theorem dX9_firstWrong_0 : decode cX9_firstWrong 0 = .ok (.iconst 1, 1) := by decide +kernel
theorem dX9_firstWrong_1 : decode cX9_firstWrong 1 = .ok (.istore_n 2, 1) := by decide +kernel
theorem dX9_firstWrong_2 : decode cX9_firstWrong 2 = .ok (.iconst 0, 1) := by decide +kernel
theorem dX9_firstWrong_3 : decode cX9_firstWrong 3 = .ok (.istore_n 3, 1) := by decide +kernel
theorem dX9_firstWrong_4 : decode cX9_firstWrong 4 = .ok (.iload_n 3, 1) := by decide +kernel
theorem dX9_firstWrong_5 : decode cX9_firstWrong 5 = .ok (.aload_n 0, 1) := by decide +kernel
theorem dX9_firstWrong_6 : decode cX9_firstWrong 6 = .ok (.getfield 15, 3) := by decide +kernel
theorem dX9_firstWrong_9 : decode cX9_firstWrong 9 = .ok (.if_icmp .ge 37, 3) := by decide +kernel
theorem dX9_firstWrong_12 : decode cX9_firstWrong 12 = .ok (.aload_n 0, 1) := by decide +kernel
theorem dX9_firstWrong_13 : decode cX9_firstWrong 13 = .ok (.getfield 9, 3) := by decide +kernel
theorem dX9_firstWrong_16 : decode cX9_firstWrong 16 = .ok (.iload_n 3, 1) := by decide +kernel
theorem dX9_firstWrong_17 : decode cX9_firstWrong 17 = .ok (.baload, 1) := by decide +kernel
theorem dX9_firstWrong_18 : decode cX9_firstWrong 18 = .ok (.bipush 32, 2) := by decide +kernel
theorem dX9_firstWrong_20 : decode cX9_firstWrong 20 = .ok (.if_icmp .eq 20, 3) := by decide +kernel
theorem dX9_firstWrong_23 : decode cX9_firstWrong 23 = .ok (.aload_n 1, 1) := by decide +kernel
theorem dX9_firstWrong_24 : decode cX9_firstWrong 24 = .ok (.aload_n 0, 1) := by decide +kernel
theorem dX9_firstWrong_25 : decode cX9_firstWrong 25 = .ok (.getfield 9, 3) := by decide +kernel
theorem dX9_firstWrong_28 : decode cX9_firstWrong 28 = .ok (.iload_n 3, 1) := by decide +kernel
theorem dX9_firstWrong_29 : decode cX9_firstWrong 29 = .ok (.baload, 1) := by decide +kernel
theorem dX9_firstWrong_30 : decode cX9_firstWrong 30 = .ok (.invokevirtual 48, 3) := by decide +kernel
theorem dX9_firstWrong_33 : decode cX9_firstWrong 33 = .ok (.ifCond .ge 5, 3) := by decide +kernel
theorem dX9_firstWrong_36 : decode cX9_firstWrong 36 = .ok (.iload_n 3, 1) := by decide +kernel
theorem dX9_firstWrong_37 : decode cX9_firstWrong 37 = .ok (.ireturn, 1) := by decide +kernel
theorem dX9_firstWrong_38 : decode cX9_firstWrong 38 = .ok (.iconst 0, 1) := by decide +kernel
theorem dX9_firstWrong_39 : decode cX9_firstWrong 39 = .ok (.istore_n 2, 1) := by decide +kernel
theorem dX9_firstWrong_40 : decode cX9_firstWrong 40 = .ok (.iinc 3 1, 3) := by decide +kernel
theorem dX9_firstWrong_43 : decode cX9_firstWrong 43 = .ok (.goto (-39), 3) := by decide +kernel
theorem dX9_firstWrong_46 : decode cX9_firstWrong 46 = .ok (.iload_n 2, 1) := by decide +kernel
theorem dX9_firstWrong_47 : decode cX9_firstWrong 47 = .ok (.ifCond .eq 10, 3) := by decide +kernel
theorem dX9_firstWrong_50 : decode cX9_firstWrong 50 = .ok (.aload_n 0, 1) := by decide +kernel
theorem dX9_firstWrong_51 : decode cX9_firstWrong 51 = .ok (.getfield 15, 3) := by decide +kernel
theorem dX9_firstWrong_54 : decode cX9_firstWrong 54 = .ok (.goto 4, 3) := by decide +kernel
theorem dX9_firstWrong_57 : decode cX9_firstWrong 57 = .ok (.iconst (-1), 1) := by decide +kernel
theorem dX9_firstWrong_58 : decode cX9_firstWrong 58 = .ok (.ireturn, 1) := by decide +kernel
theorem dX9_isLetter_0 : decode cX9_isLetter 0 = .ok (.iload_n 0, 1) := by decide +kernel
theorem dX9_isLetter_1 : decode cX9_isLetter 1 = .ok (.bipush 97, 2) := by decide +kernel
theorem dX9_isLetter_3 : decode cX9_isLetter 3 = .ok (.if_icmp .lt 13, 3) := by decide +kernel
theorem dX9_isLetter_6 : decode cX9_isLetter 6 = .ok (.iload_n 0, 1) := by decide +kernel
theorem dX9_isLetter_7 : decode cX9_isLetter 7 = .ok (.bipush 122, 2) := by decide +kernel
theorem dX9_isLetter_9 : decode cX9_isLetter 9 = .ok (.if_icmp .gt 7, 3) := by decide +kernel
theorem dX9_isLetter_12 : decode cX9_isLetter 12 = .ok (.iconst 1, 1) := by decide +kernel
theorem dX9_isLetter_13 : decode cX9_isLetter 13 = .ok (.goto 4, 3) := by decide +kernel
theorem dX9_isLetter_16 : decode cX9_isLetter 16 = .ok (.iconst 0, 1) := by decide +kernel
theorem dX9_isLetter_17 : decode cX9_isLetter 17 = .ok (.ireturn, 1) := by decide +kernel
theorem dX10_init_0 : decode cX10_init 0 = .ok (.aload_n 0, 1) := by decide +kernel
theorem dX10_init_1 : decode cX10_init 1 = .ok (.invokespecial 3, 3) := by decide +kernel
theorem dX10_init_4 : decode cX10_init 4 = .ok (.aload_n 0, 1) := by decide +kernel
theorem dX10_init_5 : decode cX10_init 5 = .ok (.bipush 26, 2) := by decide +kernel
theorem dX10_init_7 : decode cX10_init 7 = .ok (.newarray .int, 2) := by decide +kernel
theorem dX10_init_9 : decode cX10_init 9 = .ok (.putfield 9, 3) := by decide +kernel
theorem dX10_init_12 : decode cX10_init 12 = .ok (.aload_n 0, 1) := by decide +kernel
theorem dX10_init_13 : decode cX10_init 13 = .ok (.bipush 25, 2) := by decide +kernel
theorem dX10_init_15 : decode cX10_init 15 = .ok (.newarray .byte, 2) := by decide +kernel
theorem dX10_init_17 : decode cX10_init 17 = .ok (.putfield 15, 3) := by decide +kernel
theorem dX10_init_20 : decode cX10_init 20 = .ok (.aload_n 0, 1) := by decide +kernel
theorem dX10_init_21 : decode cX10_init 21 = .ok (.bipush 25, 2) := by decide +kernel
theorem dX10_init_23 : decode cX10_init 23 = .ok (.newarray .byte, 2) := by decide +kernel
theorem dX10_init_25 : decode cX10_init 25 = .ok (.putfield 19, 3) := by decide +kernel
theorem dX10_init_28 : decode cX10_init 28 = .ok (.return_, 1) := by decide +kernel
theorem dX10_learn_0 : decode cX10_learn 0 = .ok (.aload_n 0, 1) := by decide +kernel
theorem dX10_learn_1 : decode cX10_learn 1 = .ok (.getfield 9, 3) := by decide +kernel
theorem dX10_learn_4 : decode cX10_learn 4 = .ok (.iconst 0, 1) := by decide +kernel
theorem dX10_learn_5 : decode cX10_learn 5 = .ok (.invokestatic 22, 3) := by decide +kernel
theorem dX10_learn_8 : decode cX10_learn 8 = .ok (.iconst 0, 1) := by decide +kernel
theorem dX10_learn_9 : decode cX10_learn 9 = .ok (.istore_n 3, 1) := by decide +kernel
theorem dX10_learn_10 : decode cX10_learn 10 = .ok (.iload_n 3, 1) := by decide +kernel
theorem dX10_learn_11 : decode cX10_learn 11 = .ok (.aload_n 1, 1) := by decide +kernel
theorem dX10_learn_12 : decode cX10_learn 12 = .ok (.getfield 28, 3) := by decide +kernel
theorem dX10_learn_15 : decode cX10_learn 15 = .ok (.getfield 34, 3) := by decide +kernel
theorem dX10_learn_18 : decode cX10_learn 18 = .ok (.if_icmp .ge 51, 3) := by decide +kernel
theorem dX10_learn_21 : decode cX10_learn 21 = .ok (.iconst 0, 1) := by decide +kernel
theorem dX10_learn_22 : decode cX10_learn 22 = .ok (.istore 4, 2) := by decide +kernel
theorem dX10_learn_24 : decode cX10_learn 24 = .ok (.iload 4, 2) := by decide +kernel
theorem dX10_learn_26 : decode cX10_learn 26 = .ok (.aload_n 1, 1) := by decide +kernel
theorem dX10_learn_27 : decode cX10_learn 27 = .ok (.getfield 28, 3) := by decide +kernel
theorem dX10_learn_30 : decode cX10_learn 30 = .ok (.iload_n 3, 1) := by decide +kernel
theorem dX10_learn_31 : decode cX10_learn 31 = .ok (.invokevirtual 40, 3) := by decide +kernel
theorem dX10_learn_34 : decode cX10_learn 34 = .ok (.if_icmp .ge 29, 3) := by decide +kernel
theorem dX10_learn_37 : decode cX10_learn 37 = .ok (.aload_n 0, 1) := by decide +kernel
theorem dX10_learn_38 : decode cX10_learn 38 = .ok (.aload_n 1, 1) := by decide +kernel
theorem dX10_learn_39 : decode cX10_learn 39 = .ok (.getfield 28, 3) := by decide +kernel
theorem dX10_learn_42 : decode cX10_learn 42 = .ok (.iload_n 3, 1) := by decide +kernel
theorem dX10_learn_43 : decode cX10_learn 43 = .ok (.iload 4, 2) := by decide +kernel
theorem dX10_learn_45 : decode cX10_learn 45 = .ok (.invokevirtual 44, 3) := by decide +kernel
theorem dX10_learn_48 : decode cX10_learn 48 = .ok (.aload_n 1, 1) := by decide +kernel
theorem dX10_learn_49 : decode cX10_learn 49 = .ok (.getfield 48, 3) := by decide +kernel
theorem dX10_learn_52 : decode cX10_learn 52 = .ok (.iload_n 3, 1) := by decide +kernel
theorem dX10_learn_53 : decode cX10_learn 53 = .ok (.iaload, 1) := by decide +kernel
theorem dX10_learn_54 : decode cX10_learn 54 = .ok (.invokevirtual 51, 3) := by decide +kernel
theorem dX10_learn_57 : decode cX10_learn 57 = .ok (.iinc 4 1, 3) := by decide +kernel
theorem dX10_learn_60 : decode cX10_learn 60 = .ok (.goto (-36), 3) := by decide +kernel
theorem dX10_learn_63 : decode cX10_learn 63 = .ok (.iinc 3 1, 3) := by decide +kernel
theorem dX10_learn_66 : decode cX10_learn 66 = .ok (.goto (-56), 3) := by decide +kernel
theorem dX10_learn_69 : decode cX10_learn 69 = .ok (.iconst 0, 1) := by decide +kernel
theorem dX10_learn_70 : decode cX10_learn 70 = .ok (.istore_n 3, 1) := by decide +kernel
theorem dX10_learn_71 : decode cX10_learn 71 = .ok (.bipush 97, 2) := by decide +kernel
theorem dX10_learn_73 : decode cX10_learn 73 = .ok (.istore 4, 2) := by decide +kernel
theorem dX10_learn_75 : decode cX10_learn 75 = .ok (.iload 4, 2) := by decide +kernel
theorem dX10_learn_77 : decode cX10_learn 77 = .ok (.bipush 122, 2) := by decide +kernel
theorem dX10_learn_79 : decode cX10_learn 79 = .ok (.if_icmp .gt 38, 3) := by decide +kernel
theorem dX10_learn_82 : decode cX10_learn 82 = .ok (.aload_n 2, 1) := by decide +kernel
theorem dX10_learn_83 : decode cX10_learn 83 = .ok (.iload 4, 2) := by decide +kernel
theorem dX10_learn_85 : decode cX10_learn 85 = .ok (.invokevirtual 55, 3) := by decide +kernel
theorem dX10_learn_88 : decode cX10_learn 88 = .ok (.ifCond .lt 19, 3) := by decide +kernel
theorem dX10_learn_91 : decode cX10_learn 91 = .ok (.iload_n 3, 1) := by decide +kernel
theorem dX10_learn_92 : decode cX10_learn 92 = .ok (.bipush 25, 2) := by decide +kernel
theorem dX10_learn_94 : decode cX10_learn 94 = .ok (.if_icmp .ge 13, 3) := by decide +kernel
theorem dX10_learn_97 : decode cX10_learn 97 = .ok (.aload_n 0, 1) := by decide +kernel
theorem dX10_learn_98 : decode cX10_learn 98 = .ok (.iload 4, 2) := by decide +kernel
theorem dX10_learn_100 : decode cX10_learn 100 = .ok (.iload_n 3, 1) := by decide +kernel
theorem dX10_learn_101 : decode cX10_learn 101 = .ok (.invokevirtual 60, 3) := by decide +kernel
theorem dX10_learn_104 : decode cX10_learn 104 = .ok (.iinc 3 1, 3) := by decide +kernel
theorem dX10_learn_107 : decode cX10_learn 107 = .ok (.iload 4, 2) := by decide +kernel
theorem dX10_learn_109 : decode cX10_learn 109 = .ok (.iconst 1, 1) := by decide +kernel
theorem dX10_learn_110 : decode cX10_learn 110 = .ok (.iadd, 1) := by decide +kernel
theorem dX10_learn_111 : decode cX10_learn 111 = .ok (.i2b, 1) := by decide +kernel
theorem dX10_learn_112 : decode cX10_learn 112 = .ok (.istore 4, 2) := by decide +kernel
theorem dX10_learn_114 : decode cX10_learn 114 = .ok (.goto (-39), 3) := by decide +kernel
theorem dX10_learn_117 : decode cX10_learn 117 = .ok (.iconst 0, 1) := by decide +kernel
theorem dX10_learn_118 : decode cX10_learn 118 = .ok (.istore 4, 2) := by decide +kernel
theorem dX10_learn_120 : decode cX10_learn 120 = .ok (.iload 4, 2) := by decide +kernel
theorem dX10_learn_122 : decode cX10_learn 122 = .ok (.bipush 25, 2) := by decide +kernel
theorem dX10_learn_124 : decode cX10_learn 124 = .ok (.if_icmp .ge 27, 3) := by decide +kernel
theorem dX10_learn_127 : decode cX10_learn 127 = .ok (.aload_n 0, 1) := by decide +kernel
theorem dX10_learn_128 : decode cX10_learn 128 = .ok (.getfield 19, 3) := by decide +kernel
theorem dX10_learn_131 : decode cX10_learn 131 = .ok (.getstatic 64, 3) := by decide +kernel
theorem dX10_learn_134 : decode cX10_learn 134 = .ok (.iload 4, 2) := by decide +kernel
theorem dX10_learn_136 : decode cX10_learn 136 = .ok (.iaload, 1) := by decide +kernel
theorem dX10_learn_137 : decode cX10_learn 137 = .ok (.aload_n 0, 1) := by decide +kernel
theorem dX10_learn_138 : decode cX10_learn 138 = .ok (.getfield 15, 3) := by decide +kernel
theorem dX10_learn_141 : decode cX10_learn 141 = .ok (.iload 4, 2) := by decide +kernel
theorem dX10_learn_143 : decode cX10_learn 143 = .ok (.baload, 1) := by decide +kernel
theorem dX10_learn_144 : decode cX10_learn 144 = .ok (.bastore, 1) := by decide +kernel
theorem dX10_learn_145 : decode cX10_learn 145 = .ok (.iinc 4 1, 3) := by decide +kernel
theorem dX10_learn_148 : decode cX10_learn 148 = .ok (.goto (-28), 3) := by decide +kernel
theorem dX10_learn_151 : decode cX10_learn 151 = .ok (.return_, 1) := by decide +kernel
theorem dX10_addTo_0 : decode cX10_addTo 0 = .ok (.iload_n 1, 1) := by decide +kernel
theorem dX10_addTo_1 : decode cX10_addTo 1 = .ok (.invokestatic 67, 3) := by decide +kernel
theorem dX10_addTo_4 : decode cX10_addTo 4 = .ok (.ifCond .eq 16, 3) := by decide +kernel
theorem dX10_addTo_7 : decode cX10_addTo 7 = .ok (.aload_n 0, 1) := by decide +kernel
theorem dX10_addTo_8 : decode cX10_addTo 8 = .ok (.getfield 9, 3) := by decide +kernel
theorem dX10_addTo_11 : decode cX10_addTo 11 = .ok (.iload_n 1, 1) := by decide +kernel
theorem dX10_addTo_12 : decode cX10_addTo 12 = .ok (.bipush 97, 2) := by decide +kernel
theorem dX10_addTo_14 : decode cX10_addTo 14 = .ok (.isub, 1) := by decide +kernel
theorem dX10_addTo_15 : decode cX10_addTo 15 = .ok (.dup2, 1) := by decide +kernel
theorem dX10_addTo_16 : decode cX10_addTo 16 = .ok (.iaload, 1) := by decide +kernel
theorem dX10_addTo_17 : decode cX10_addTo 17 = .ok (.iload_n 2, 1) := by decide +kernel
theorem dX10_addTo_18 : decode cX10_addTo 18 = .ok (.iadd, 1) := by decide +kernel
theorem dX10_addTo_19 : decode cX10_addTo 19 = .ok (.iastore, 1) := by decide +kernel
theorem dX10_addTo_20 : decode cX10_addTo 20 = .ok (.return_, 1) := by decide +kernel
theorem dX10_oftenOf_0 : decode cX10_oftenOf 0 = .ok (.iload_n 1, 1) := by decide +kernel
theorem dX10_oftenOf_1 : decode cX10_oftenOf 1 = .ok (.invokestatic 67, 3) := by decide +kernel
theorem dX10_oftenOf_4 : decode cX10_oftenOf 4 = .ok (.ifCond .eq 15, 3) := by decide +kernel
theorem dX10_oftenOf_7 : decode cX10_oftenOf 7 = .ok (.aload_n 0, 1) := by decide +kernel
theorem dX10_oftenOf_8 : decode cX10_oftenOf 8 = .ok (.getfield 9, 3) := by decide +kernel
theorem dX10_oftenOf_11 : decode cX10_oftenOf 11 = .ok (.iload_n 1, 1) := by decide +kernel
theorem dX10_oftenOf_12 : decode cX10_oftenOf 12 = .ok (.bipush 97, 2) := by decide +kernel
theorem dX10_oftenOf_14 : decode cX10_oftenOf 14 = .ok (.isub, 1) := by decide +kernel
theorem dX10_oftenOf_15 : decode cX10_oftenOf 15 = .ok (.iaload, 1) := by decide +kernel
theorem dX10_oftenOf_16 : decode cX10_oftenOf 16 = .ok (.goto 4, 3) := by decide +kernel
theorem dX10_oftenOf_19 : decode cX10_oftenOf 19 = .ok (.iconst 0, 1) := by decide +kernel
theorem dX10_oftenOf_20 : decode cX10_oftenOf 20 = .ok (.ireturn, 1) := by decide +kernel
theorem dX10_sortIn_0 : decode cX10_sortIn 0 = .ok (.iload_n 2, 1) := by decide +kernel
theorem dX10_sortIn_1 : decode cX10_sortIn 1 = .ok (.istore_n 3, 1) := by decide +kernel
theorem dX10_sortIn_2 : decode cX10_sortIn 2 = .ok (.iload_n 3, 1) := by decide +kernel
theorem dX10_sortIn_3 : decode cX10_sortIn 3 = .ok (.ifCond .le 43, 3) := by decide +kernel
theorem dX10_sortIn_6 : decode cX10_sortIn 6 = .ok (.aload_n 0, 1) := by decide +kernel
theorem dX10_sortIn_7 : decode cX10_sortIn 7 = .ok (.aload_n 0, 1) := by decide +kernel
theorem dX10_sortIn_8 : decode cX10_sortIn 8 = .ok (.getfield 15, 3) := by decide +kernel
theorem dX10_sortIn_11 : decode cX10_sortIn 11 = .ok (.iload_n 3, 1) := by decide +kernel
theorem dX10_sortIn_12 : decode cX10_sortIn 12 = .ok (.iconst 1, 1) := by decide +kernel
theorem dX10_sortIn_13 : decode cX10_sortIn 13 = .ok (.isub, 1) := by decide +kernel
theorem dX10_sortIn_14 : decode cX10_sortIn 14 = .ok (.baload, 1) := by decide +kernel
theorem dX10_sortIn_15 : decode cX10_sortIn 15 = .ok (.invokevirtual 73, 3) := by decide +kernel
theorem dX10_sortIn_18 : decode cX10_sortIn 18 = .ok (.aload_n 0, 1) := by decide +kernel
theorem dX10_sortIn_19 : decode cX10_sortIn 19 = .ok (.iload_n 1, 1) := by decide +kernel
theorem dX10_sortIn_20 : decode cX10_sortIn 20 = .ok (.invokevirtual 73, 3) := by decide +kernel
theorem dX10_sortIn_23 : decode cX10_sortIn 23 = .ok (.if_icmp .ge 23, 3) := by decide +kernel
theorem dX10_sortIn_26 : decode cX10_sortIn 26 = .ok (.aload_n 0, 1) := by decide +kernel
theorem dX10_sortIn_27 : decode cX10_sortIn 27 = .ok (.getfield 15, 3) := by decide +kernel
theorem dX10_sortIn_30 : decode cX10_sortIn 30 = .ok (.iload_n 3, 1) := by decide +kernel
theorem dX10_sortIn_31 : decode cX10_sortIn 31 = .ok (.aload_n 0, 1) := by decide +kernel
theorem dX10_sortIn_32 : decode cX10_sortIn 32 = .ok (.getfield 15, 3) := by decide +kernel
theorem dX10_sortIn_35 : decode cX10_sortIn 35 = .ok (.iload_n 3, 1) := by decide +kernel
theorem dX10_sortIn_36 : decode cX10_sortIn 36 = .ok (.iconst 1, 1) := by decide +kernel
theorem dX10_sortIn_37 : decode cX10_sortIn 37 = .ok (.isub, 1) := by decide +kernel
theorem dX10_sortIn_38 : decode cX10_sortIn 38 = .ok (.baload, 1) := by decide +kernel
theorem dX10_sortIn_39 : decode cX10_sortIn 39 = .ok (.bastore, 1) := by decide +kernel
theorem dX10_sortIn_40 : decode cX10_sortIn 40 = .ok (.iinc 3 (-1), 3) := by decide +kernel
theorem dX10_sortIn_43 : decode cX10_sortIn 43 = .ok (.goto (-41), 3) := by decide +kernel
theorem dX10_sortIn_46 : decode cX10_sortIn 46 = .ok (.aload_n 0, 1) := by decide +kernel
theorem dX10_sortIn_47 : decode cX10_sortIn 47 = .ok (.getfield 15, 3) := by decide +kernel
theorem dX10_sortIn_50 : decode cX10_sortIn 50 = .ok (.iload_n 3, 1) := by decide +kernel
theorem dX10_sortIn_51 : decode cX10_sortIn 51 = .ok (.iload_n 1, 1) := by decide +kernel
theorem dX10_sortIn_52 : decode cX10_sortIn 52 = .ok (.bastore, 1) := by decide +kernel
theorem dX10_sortIn_53 : decode cX10_sortIn 53 = .ok (.return_, 1) := by decide +kernel
theorem dX10_meanBy_0 : decode cX10_meanBy 0 = .ok (.iconst 0, 1) := by decide +kernel
theorem dX10_meanBy_1 : decode cX10_meanBy 1 = .ok (.istore_n 2, 1) := by decide +kernel
theorem dX10_meanBy_2 : decode cX10_meanBy 2 = .ok (.iconst 0, 1) := by decide +kernel
theorem dX10_meanBy_3 : decode cX10_meanBy 3 = .ok (.istore_n 3, 1) := by decide +kernel
theorem dX10_meanBy_4 : decode cX10_meanBy 4 = .ok (.iload_n 3, 1) := by decide +kernel
theorem dX10_meanBy_5 : decode cX10_meanBy 5 = .ok (.bipush 25, 2) := by decide +kernel
theorem dX10_meanBy_7 : decode cX10_meanBy 7 = .ok (.if_icmp .ge 35, 3) := by decide +kernel
theorem dX10_meanBy_10 : decode cX10_meanBy 10 = .ok (.iload_n 3, 1) := by decide +kernel
theorem dX10_meanBy_11 : decode cX10_meanBy 11 = .ok (.aload_n 1, 1) := by decide +kernel
theorem dX10_meanBy_12 : decode cX10_meanBy 12 = .ok (.arraylength, 1) := by decide +kernel
theorem dX10_meanBy_13 : decode cX10_meanBy 13 = .ok (.if_icmp .ge 29, 3) := by decide +kernel
theorem dX10_meanBy_16 : decode cX10_meanBy 16 = .ok (.iload_n 2, 1) := by decide +kernel
theorem dX10_meanBy_17 : decode cX10_meanBy 17 = .ok (.aload_n 0, 1) := by decide +kernel
theorem dX10_meanBy_18 : decode cX10_meanBy 18 = .ok (.aload_n 1, 1) := by decide +kernel
theorem dX10_meanBy_19 : decode cX10_meanBy 19 = .ok (.iload_n 3, 1) := by decide +kernel
theorem dX10_meanBy_20 : decode cX10_meanBy 20 = .ok (.baload, 1) := by decide +kernel
theorem dX10_meanBy_21 : decode cX10_meanBy 21 = .ok (.invokevirtual 73, 3) := by decide +kernel
theorem dX10_meanBy_24 : decode cX10_meanBy 24 = .ok (.iload_n 3, 1) := by decide +kernel
theorem dX10_meanBy_25 : decode cX10_meanBy 25 = .ok (.iconst 5, 1) := by decide +kernel
theorem dX10_meanBy_26 : decode cX10_meanBy 26 = .ok (.idiv, 1) := by decide +kernel
theorem dX10_meanBy_27 : decode cX10_meanBy 27 = .ok (.iload_n 3, 1) := by decide +kernel
theorem dX10_meanBy_28 : decode cX10_meanBy 28 = .ok (.iconst 5, 1) := by decide +kernel
theorem dX10_meanBy_29 : decode cX10_meanBy 29 = .ok (.irem, 1) := by decide +kernel
theorem dX10_meanBy_30 : decode cX10_meanBy 30 = .ok (.iadd, 1) := by decide +kernel
theorem dX10_meanBy_31 : decode cX10_meanBy 31 = .ok (.iconst 2, 1) := by decide +kernel
theorem dX10_meanBy_32 : decode cX10_meanBy 32 = .ok (.iadd, 1) := by decide +kernel
theorem dX10_meanBy_33 : decode cX10_meanBy 33 = .ok (.imul, 1) := by decide +kernel
theorem dX10_meanBy_34 : decode cX10_meanBy 34 = .ok (.iadd, 1) := by decide +kernel
theorem dX10_meanBy_35 : decode cX10_meanBy 35 = .ok (.istore_n 2, 1) := by decide +kernel
theorem dX10_meanBy_36 : decode cX10_meanBy 36 = .ok (.iinc 3 1, 3) := by decide +kernel
theorem dX10_meanBy_39 : decode cX10_meanBy 39 = .ok (.goto (-35), 3) := by decide +kernel
theorem dX10_meanBy_42 : decode cX10_meanBy 42 = .ok (.iload_n 2, 1) := by decide +kernel
theorem dX10_meanBy_43 : decode cX10_meanBy 43 = .ok (.ireturn, 1) := by decide +kernel
theorem dX11_init_0 : decode cX11_init 0 = .ok (.aload_n 0, 1) := by decide +kernel
theorem dX11_init_1 : decode cX11_init 1 = .ok (.invokespecial 1, 3) := by decide +kernel
theorem dX11_init_4 : decode cX11_init 4 = .ok (.aload_n 0, 1) := by decide +kernel
theorem dX11_init_5 : decode cX11_init 5 = .ok (.new 7, 3) := by decide +kernel
theorem dX11_init_8 : decode cX11_init 8 = .ok (.dup, 1) := by decide +kernel
theorem dX11_init_9 : decode cX11_init 9 = .ok (.invokespecial 9, 3) := by decide +kernel
theorem dX11_init_12 : decode cX11_init 12 = .ok (.putfield 10, 3) := by decide +kernel
theorem dX11_init_15 : decode cX11_init 15 = .ok (.aload_n 0, 1) := by decide +kernel
theorem dX11_init_16 : decode cX11_init 16 = .ok (.new 16, 3) := by decide +kernel
theorem dX11_init_19 : decode cX11_init 19 = .ok (.dup, 1) := by decide +kernel
theorem dX11_init_20 : decode cX11_init 20 = .ok (.invokespecial 18, 3) := by decide +kernel
theorem dX11_init_23 : decode cX11_init 23 = .ok (.putfield 19, 3) := by decide +kernel
theorem dX11_init_26 : decode cX11_init 26 = .ok (.aload_n 0, 1) := by decide +kernel
theorem dX11_init_27 : decode cX11_init 27 = .ok (.new 23, 3) := by decide +kernel
theorem dX11_init_30 : decode cX11_init 30 = .ok (.dup, 1) := by decide +kernel
theorem dX11_init_31 : decode cX11_init 31 = .ok (.invokespecial 25, 3) := by decide +kernel
theorem dX11_init_34 : decode cX11_init 34 = .ok (.putfield 26, 3) := by decide +kernel
theorem dX11_init_37 : decode cX11_init 37 = .ok (.aload_n 0, 1) := by decide +kernel
theorem dX11_init_38 : decode cX11_init 38 = .ok (.iconst 2, 1) := by decide +kernel
theorem dX11_init_39 : decode cX11_init 39 = .ok (.anewarray 23, 3) := by decide +kernel
theorem dX11_init_42 : decode cX11_init 42 = .ok (.putfield 30, 3) := by decide +kernel
theorem dX11_init_45 : decode cX11_init 45 = .ok (.aload_n 0, 1) := by decide +kernel
theorem dX11_init_46 : decode cX11_init 46 = .ok (.iconst 4, 1) := by decide +kernel
theorem dX11_init_47 : decode cX11_init 47 = .ok (.anewarray 34, 3) := by decide +kernel
theorem dX11_init_50 : decode cX11_init 50 = .ok (.putfield 36, 3) := by decide +kernel
theorem dX11_init_53 : decode cX11_init 53 = .ok (.aload_n 0, 1) := by decide +kernel
theorem dX11_init_54 : decode cX11_init 54 = .ok (.new 40, 3) := by decide +kernel
theorem dX11_init_57 : decode cX11_init 57 = .ok (.dup, 1) := by decide +kernel
theorem dX11_init_58 : decode cX11_init 58 = .ok (.invokespecial 42, 3) := by decide +kernel
theorem dX11_init_61 : decode cX11_init 61 = .ok (.putfield 43, 3) := by decide +kernel
theorem dX11_init_64 : decode cX11_init 64 = .ok (.aload_n 0, 1) := by decide +kernel
theorem dX11_init_65 : decode cX11_init 65 = .ok (.new 47, 3) := by decide +kernel
theorem dX11_init_68 : decode cX11_init 68 = .ok (.dup, 1) := by decide +kernel
theorem dX11_init_69 : decode cX11_init 69 = .ok (.invokespecial 49, 3) := by decide +kernel
theorem dX11_init_72 : decode cX11_init 72 = .ok (.putfield 50, 3) := by decide +kernel
theorem dX11_init_75 : decode cX11_init 75 = .ok (.aload_n 0, 1) := by decide +kernel
theorem dX11_init_76 : decode cX11_init 76 = .ok (.new 54, 3) := by decide +kernel
theorem dX11_init_79 : decode cX11_init 79 = .ok (.dup, 1) := by decide +kernel
theorem dX11_init_80 : decode cX11_init 80 = .ok (.invokespecial 56, 3) := by decide +kernel
theorem dX11_init_83 : decode cX11_init 83 = .ok (.putfield 57, 3) := by decide +kernel
theorem dX11_init_86 : decode cX11_init 86 = .ok (.aload_n 0, 1) := by decide +kernel
theorem dX11_init_87 : decode cX11_init 87 = .ok (.new 61, 3) := by decide +kernel
theorem dX11_init_90 : decode cX11_init 90 = .ok (.dup, 1) := by decide +kernel
theorem dX11_init_91 : decode cX11_init 91 = .ok (.invokespecial 63, 3) := by decide +kernel
theorem dX11_init_94 : decode cX11_init 94 = .ok (.putfield 64, 3) := by decide +kernel
theorem dX11_init_97 : decode cX11_init 97 = .ok (.aload_n 0, 1) := by decide +kernel
theorem dX11_init_98 : decode cX11_init 98 = .ok (.bipush 10, 2) := by decide +kernel
theorem dX11_init_100 : decode cX11_init 100 = .ok (.newarray .int, 2) := by decide +kernel
theorem dX11_init_102 : decode cX11_init 102 = .ok (.putfield 68, 3) := by decide +kernel
theorem dX11_init_105 : decode cX11_init 105 = .ok (.aload_n 0, 1) := by decide +kernel
theorem dX11_init_106 : decode cX11_init 106 = .ok (.new 72, 3) := by decide +kernel
theorem dX11_init_109 : decode cX11_init 109 = .ok (.dup, 1) := by decide +kernel
theorem dX11_init_110 : decode cX11_init 110 = .ok (.invokespecial 74, 3) := by decide +kernel
theorem dX11_init_113 : decode cX11_init 113 = .ok (.putfield 75, 3) := by decide +kernel
theorem dX11_init_116 : decode cX11_init 116 = .ok (.aload_n 0, 1) := by decide +kernel
theorem dX11_init_117 : decode cX11_init 117 = .ok (.new 72, 3) := by decide +kernel
theorem dX11_init_120 : decode cX11_init 120 = .ok (.dup, 1) := by decide +kernel
theorem dX11_init_121 : decode cX11_init 121 = .ok (.invokespecial 74, 3) := by decide +kernel
theorem dX11_init_124 : decode cX11_init 124 = .ok (.putfield 79, 3) := by decide +kernel
theorem dX11_init_127 : decode cX11_init 127 = .ok (.iconst 0, 1) := by decide +kernel
theorem dX11_init_128 : decode cX11_init 128 = .ok (.istore_n 1, 1) := by decide +kernel
theorem dX11_init_129 : decode cX11_init 129 = .ok (.iload_n 1, 1) := by decide +kernel
theorem dX11_init_130 : decode cX11_init 130 = .ok (.iconst 2, 1) := by decide +kernel
theorem dX11_init_131 : decode cX11_init 131 = .ok (.if_icmp .ge 22, 3) := by decide +kernel
theorem dX11_init_134 : decode cX11_init 134 = .ok (.aload_n 0, 1) := by decide +kernel
theorem dX11_init_135 : decode cX11_init 135 = .ok (.getfield 30, 3) := by decide +kernel
theorem dX11_init_138 : decode cX11_init 138 = .ok (.iload_n 1, 1) := by decide +kernel
theorem dX11_init_139 : decode cX11_init 139 = .ok (.new 23, 3) := by decide +kernel
theorem dX11_init_142 : decode cX11_init 142 = .ok (.dup, 1) := by decide +kernel
theorem dX11_init_143 : decode cX11_init 143 = .ok (.invokespecial 25, 3) := by decide +kernel
theorem dX11_init_146 : decode cX11_init 146 = .ok (.aastore, 1) := by decide +kernel
theorem dX11_init_147 : decode cX11_init 147 = .ok (.iinc 1 1, 3) := by decide +kernel
theorem dX11_init_150 : decode cX11_init 150 = .ok (.goto (-21), 3) := by decide +kernel
theorem dX11_init_153 : decode cX11_init 153 = .ok (.iconst 0, 1) := by decide +kernel
theorem dX11_init_154 : decode cX11_init 154 = .ok (.istore_n 1, 1) := by decide +kernel
theorem dX11_init_155 : decode cX11_init 155 = .ok (.iload_n 1, 1) := by decide +kernel
theorem dX11_init_156 : decode cX11_init 156 = .ok (.iconst 4, 1) := by decide +kernel
theorem dX11_init_157 : decode cX11_init 157 = .ok (.if_icmp .ge 22, 3) := by decide +kernel
theorem dX11_init_160 : decode cX11_init 160 = .ok (.aload_n 0, 1) := by decide +kernel
theorem dX11_init_161 : decode cX11_init 161 = .ok (.getfield 36, 3) := by decide +kernel
theorem dX11_init_164 : decode cX11_init 164 = .ok (.iload_n 1, 1) := by decide +kernel
theorem dX11_init_165 : decode cX11_init 165 = .ok (.new 34, 3) := by decide +kernel
theorem dX11_init_168 : decode cX11_init 168 = .ok (.dup, 1) := by decide +kernel
theorem dX11_init_169 : decode cX11_init 169 = .ok (.invokespecial 82, 3) := by decide +kernel
theorem dX11_init_172 : decode cX11_init 172 = .ok (.aastore, 1) := by decide +kernel
theorem dX11_init_173 : decode cX11_init 173 = .ok (.iinc 1 1, 3) := by decide +kernel
theorem dX11_init_176 : decode cX11_init 176 = .ok (.goto (-21), 3) := by decide +kernel
theorem dX11_init_179 : decode cX11_init 179 = .ok (.aload_n 0, 1) := by decide +kernel
theorem dX11_init_180 : decode cX11_init 180 = .ok (.getfield 75, 3) := by decide +kernel
theorem dX11_init_183 : decode cX11_init 183 = .ok (.invokevirtual 83, 3) := by decide +kernel
theorem dX11_init_186 : decode cX11_init 186 = .ok (.aload_n 0, 1) := by decide +kernel
theorem dX11_init_187 : decode cX11_init 187 = .ok (.getfield 26, 3) := by decide +kernel
theorem dX11_init_190 : decode cX11_init 190 = .ok (.aload_n 0, 1) := by decide +kernel
theorem dX11_init_191 : decode cX11_init 191 = .ok (.getfield 75, 3) := by decide +kernel
theorem dX11_init_194 : decode cX11_init 194 = .ok (.getfield 86, 3) := by decide +kernel
theorem dX11_init_197 : decode cX11_init 197 = .ok (.invokevirtual 90, 3) := by decide +kernel
theorem dX11_init_200 : decode cX11_init 200 = .ok (.return_, 1) := by decide +kernel
theorem dX11_feed_0 : decode cX11_feed 0 = .ok (.aload_n 0, 1) := by decide +kernel
theorem dX11_feed_1 : decode cX11_feed 1 = .ok (.getfield 10, 3) := by decide +kernel
theorem dX11_feed_4 : decode cX11_feed 4 = .ok (.lload_n 1, 1) := by decide +kernel
theorem dX11_feed_5 : decode cX11_feed 5 = .ok (.invokevirtual 94, 3) := by decide +kernel
theorem dX11_feed_8 : decode cX11_feed 8 = .ok (.ifCond .eq 13, 3) := by decide +kernel
theorem dX11_feed_11 : decode cX11_feed 11 = .ok (.aload_n 0, 1) := by decide +kernel
theorem dX11_feed_12 : decode cX11_feed 12 = .ok (.getfield 10, 3) := by decide +kernel
theorem dX11_feed_15 : decode cX11_feed 15 = .ok (.getfield 98, 3) := by decide +kernel
theorem dX11_feed_18 : decode cX11_feed 18 = .ok (.goto 5, 3) := by decide +kernel
theorem dX11_feed_21 : decode cX11_feed 21 = .ok (.bipush (-3), 2) := by decide +kernel
theorem dX11_feed_23 : decode cX11_feed 23 = .ok (.ireturn, 1) := by decide +kernel
theorem dX11_end_0 : decode cX11_end 0 = .ok (.iload_n 1, 1) := by decide +kernel
theorem dX11_end_1 : decode cX11_end 1 = .ok (.ifCond .lt 14, 3) := by decide +kernel
theorem dX11_end_4 : decode cX11_end 4 = .ok (.iload_n 1, 1) := by decide +kernel
theorem dX11_end_5 : decode cX11_end 5 = .ok (.aload_n 0, 1) := by decide +kernel
theorem dX11_end_6 : decode cX11_end 6 = .ok (.getfield 10, 3) := by decide +kernel
theorem dX11_end_9 : decode cX11_end 9 = .ok (.getfield 98, 3) := by decide +kernel
theorem dX11_end_12 : decode cX11_end 12 = .ok (.if_icmp .le 5, 3) := by decide +kernel
theorem dX11_end_15 : decode cX11_end 15 = .ok (.iconst (-1), 1) := by decide +kernel
theorem dX11_end_16 : decode cX11_end 16 = .ok (.ireturn, 1) := by decide +kernel
theorem dX11_end_17 : decode cX11_end 17 = .ok (.aload_n 0, 1) := by decide +kernel
theorem dX11_end_18 : decode cX11_end 18 = .ok (.getfield 10, 3) := by decide +kernel
theorem dX11_end_21 : decode cX11_end 21 = .ok (.getfield 98, 3) := by decide +kernel
theorem dX11_end_24 : decode cX11_end 24 = .ok (.istore_n 2, 1) := by decide +kernel
theorem dX11_end_25 : decode cX11_end 25 = .ok (.aload_n 0, 1) := by decide +kernel
theorem dX11_end_26 : decode cX11_end 26 = .ok (.getfield 10, 3) := by decide +kernel
theorem dX11_end_29 : decode cX11_end 29 = .ok (.iload_n 1, 1) := by decide +kernel
theorem dX11_end_30 : decode cX11_end 30 = .ok (.putfield 98, 3) := by decide +kernel
theorem dX11_end_33 : decode cX11_end 33 = .ok (.iload_n 2, 1) := by decide +kernel
theorem dX11_end_34 : decode cX11_end 34 = .ok (.ireturn, 1) := by decide +kernel
theorem dX11_code_0 : decode cX11_code 0 = .ok (.aload_n 0, 1) := by decide +kernel
theorem dX11_code_1 : decode cX11_code 1 = .ok (.getfield 79, 3) := by decide +kernel
theorem dX11_code_4 : decode cX11_code 4 = .ok (.invokevirtual 83, 3) := by decide +kernel
theorem dX11_code_7 : decode cX11_code 7 = .ok (.aload_n 0, 1) := by decide +kernel
theorem dX11_code_8 : decode cX11_code 8 = .ok (.getfield 19, 3) := by decide +kernel
theorem dX11_code_11 : decode cX11_code 11 = .ok (.aload_n 0, 1) := by decide +kernel
theorem dX11_code_12 : decode cX11_code 12 = .ok (.getfield 10, 3) := by decide +kernel
theorem dX11_code_15 : decode cX11_code 15 = .ok (.aload_n 0, 1) := by decide +kernel
theorem dX11_code_16 : decode cX11_code 16 = .ok (.getfield 79, 3) := by decide +kernel
theorem dX11_code_19 : decode cX11_code 19 = .ok (.invokevirtual 102, 3) := by decide +kernel
theorem dX11_code_22 : decode cX11_code 22 = .ok (.istore_n 1, 1) := by decide +kernel
theorem dX11_code_23 : decode cX11_code 23 = .ok (.aload_n 0, 1) := by decide +kernel
theorem dX11_code_24 : decode cX11_code 24 = .ok (.aload_n 0, 1) := by decide +kernel
theorem dX11_code_25 : decode cX11_code 25 = .ok (.getfield 19, 3) := by decide +kernel
theorem dX11_code_28 : decode cX11_code 28 = .ok (.getfield 106, 3) := by decide +kernel
theorem dX11_code_31 : decode cX11_code 31 = .ok (.putfield 109, 3) := by decide +kernel
theorem dX11_code_34 : decode cX11_code 34 = .ok (.aload_n 0, 1) := by decide +kernel
theorem dX11_code_35 : decode cX11_code 35 = .ok (.getfield 10, 3) := by decide +kernel
theorem dX11_code_38 : decode cX11_code 38 = .ok (.iconst 0, 1) := by decide +kernel
theorem dX11_code_39 : decode cX11_code 39 = .ok (.putfield 98, 3) := by decide +kernel
theorem dX11_code_42 : decode cX11_code 42 = .ok (.aload_n 0, 1) := by decide +kernel
theorem dX11_code_43 : decode cX11_code 43 = .ok (.getfield 19, 3) := by decide +kernel
theorem dX11_code_46 : decode cX11_code 46 = .ok (.getfield 106, 3) := by decide +kernel
theorem dX11_code_49 : decode cX11_code 49 = .ok (.ifCond .eq 14, 3) := by decide +kernel
theorem dX11_code_52 : decode cX11_code 52 = .ok (.bipush (-10), 2) := by decide +kernel
theorem dX11_code_54 : decode cX11_code 54 = .ok (.aload_n 0, 1) := by decide +kernel
theorem dX11_code_55 : decode cX11_code 55 = .ok (.getfield 19, 3) := by decide +kernel
theorem dX11_code_58 : decode cX11_code 58 = .ok (.getfield 112, 3) := by decide +kernel
theorem dX11_code_61 : decode cX11_code 61 = .ok (.isub, 1) := by decide +kernel
theorem dX11_code_62 : decode cX11_code 62 = .ok (.ireturn, 1) := by decide +kernel
theorem dX11_code_63 : decode cX11_code 63 = .ok (.aload_n 0, 1) := by decide +kernel
theorem dX11_code_64 : decode cX11_code 64 = .ok (.getfield 75, 3) := by decide +kernel
theorem dX11_code_67 : decode cX11_code 67 = .ok (.astore_n 2, 1) := by decide +kernel
theorem dX11_code_68 : decode cX11_code 68 = .ok (.aload_n 0, 1) := by decide +kernel
theorem dX11_code_69 : decode cX11_code 69 = .ok (.aload_n 0, 1) := by decide +kernel
theorem dX11_code_70 : decode cX11_code 70 = .ok (.getfield 79, 3) := by decide +kernel
theorem dX11_code_73 : decode cX11_code 73 = .ok (.putfield 75, 3) := by decide +kernel
theorem dX11_code_76 : decode cX11_code 76 = .ok (.aload_n 0, 1) := by decide +kernel
theorem dX11_code_77 : decode cX11_code 77 = .ok (.aload_n 2, 1) := by decide +kernel
theorem dX11_code_78 : decode cX11_code 78 = .ok (.putfield 79, 3) := by decide +kernel
theorem dX11_code_81 : decode cX11_code 81 = .ok (.aload_n 0, 1) := by decide +kernel
theorem dX11_code_82 : decode cX11_code 82 = .ok (.getfield 26, 3) := by decide +kernel
theorem dX11_code_85 : decode cX11_code 85 = .ok (.aload_n 0, 1) := by decide +kernel
theorem dX11_code_86 : decode cX11_code 86 = .ok (.getfield 75, 3) := by decide +kernel
theorem dX11_code_89 : decode cX11_code 89 = .ok (.getfield 86, 3) := by decide +kernel
theorem dX11_code_92 : decode cX11_code 92 = .ok (.invokevirtual 90, 3) := by decide +kernel
theorem dX11_code_95 : decode cX11_code 95 = .ok (.iconst 0, 1) := by decide +kernel
theorem dX11_code_96 : decode cX11_code 96 = .ok (.istore_n 3, 1) := by decide +kernel
theorem dX11_code_97 : decode cX11_code 97 = .ok (.iload_n 3, 1) := by decide +kernel
theorem dX11_code_98 : decode cX11_code 98 = .ok (.iconst 2, 1) := by decide +kernel
theorem dX11_code_99 : decode cX11_code 99 = .ok (.if_icmp .ge 19, 3) := by decide +kernel
theorem dX11_code_102 : decode cX11_code 102 = .ok (.aload_n 0, 1) := by decide +kernel
theorem dX11_code_103 : decode cX11_code 103 = .ok (.getfield 30, 3) := by decide +kernel
theorem dX11_code_106 : decode cX11_code 106 = .ok (.iload_n 3, 1) := by decide +kernel
theorem dX11_code_107 : decode cX11_code 107 = .ok (.aaload, 1) := by decide +kernel
theorem dX11_code_108 : decode cX11_code 108 = .ok (.iconst 0, 1) := by decide +kernel
theorem dX11_code_109 : decode cX11_code 109 = .ok (.putfield 115, 3) := by decide +kernel
theorem dX11_code_112 : decode cX11_code 112 = .ok (.iinc 3 1, 3) := by decide +kernel
theorem dX11_code_115 : decode cX11_code 115 = .ok (.goto (-18), 3) := by decide +kernel
theorem dX11_code_118 : decode cX11_code 118 = .ok (.iload_n 1, 1) := by decide +kernel
theorem dX11_code_119 : decode cX11_code 119 = .ok (.ireturn, 1) := by decide +kernel
theorem dX11_fault_0 : decode cX11_fault 0 = .ok (.aload_n 0, 1) := by decide +kernel
theorem dX11_fault_1 : decode cX11_fault 1 = .ok (.getfield 109, 3) := by decide +kernel
theorem dX11_fault_4 : decode cX11_fault 4 = .ok (.ireturn, 1) := by decide +kernel
theorem dX11_told_0 : decode cX11_told 0 = .ok (.iload_n 1, 1) := by decide +kernel
theorem dX11_told_1 : decode cX11_told 1 = .ok (.tableswitch 117 0 7 #[47, 58, 69, 77, 85, 93, 101, 109], 47) := by decide +kernel
theorem dX11_told_48 : decode cX11_told 48 = .ok (.aload_n 0, 1) := by decide +kernel
theorem dX11_told_49 : decode cX11_told 49 = .ok (.getfield 75, 3) := by decide +kernel
theorem dX11_told_52 : decode cX11_told 52 = .ok (.getfield 119, 3) := by decide +kernel
theorem dX11_told_55 : decode cX11_told 55 = .ok (.getfield 123, 3) := by decide +kernel
theorem dX11_told_58 : decode cX11_told 58 = .ok (.ireturn, 1) := by decide +kernel
theorem dX11_told_59 : decode cX11_told 59 = .ok (.aload_n 0, 1) := by decide +kernel
theorem dX11_told_60 : decode cX11_told 60 = .ok (.getfield 75, 3) := by decide +kernel
theorem dX11_told_63 : decode cX11_told 63 = .ok (.getfield 126, 3) := by decide +kernel
theorem dX11_told_66 : decode cX11_told 66 = .ok (.getfield 123, 3) := by decide +kernel
theorem dX11_told_69 : decode cX11_told 69 = .ok (.ireturn, 1) := by decide +kernel
theorem dX11_told_70 : decode cX11_told 70 = .ok (.aload_n 0, 1) := by decide +kernel
theorem dX11_told_71 : decode cX11_told 71 = .ok (.getfield 75, 3) := by decide +kernel
theorem dX11_told_74 : decode cX11_told 74 = .ok (.getfield 129, 3) := by decide +kernel
theorem dX11_told_77 : decode cX11_told 77 = .ok (.ireturn, 1) := by decide +kernel
theorem dX11_told_78 : decode cX11_told 78 = .ok (.aload_n 0, 1) := by decide +kernel
theorem dX11_told_79 : decode cX11_told 79 = .ok (.getfield 75, 3) := by decide +kernel
theorem dX11_told_82 : decode cX11_told 82 = .ok (.getfield 132, 3) := by decide +kernel
theorem dX11_told_85 : decode cX11_told 85 = .ok (.ireturn, 1) := by decide +kernel
theorem dX11_told_86 : decode cX11_told 86 = .ok (.aload_n 0, 1) := by decide +kernel
theorem dX11_told_87 : decode cX11_told 87 = .ok (.getfield 75, 3) := by decide +kernel
theorem dX11_told_90 : decode cX11_told 90 = .ok (.getfield 135, 3) := by decide +kernel
theorem dX11_told_93 : decode cX11_told 93 = .ok (.ireturn, 1) := by decide +kernel
theorem dX11_told_94 : decode cX11_told 94 = .ok (.aload_n 0, 1) := by decide +kernel
theorem dX11_told_95 : decode cX11_told 95 = .ok (.getfield 75, 3) := by decide +kernel
theorem dX11_told_98 : decode cX11_told 98 = .ok (.getfield 138, 3) := by decide +kernel
theorem dX11_told_101 : decode cX11_told 101 = .ok (.ireturn, 1) := by decide +kernel
theorem dX11_told_102 : decode cX11_told 102 = .ok (.aload_n 0, 1) := by decide +kernel
theorem dX11_told_103 : decode cX11_told 103 = .ok (.getfield 75, 3) := by decide +kernel
theorem dX11_told_106 : decode cX11_told 106 = .ok (.getfield 141, 3) := by decide +kernel
theorem dX11_told_109 : decode cX11_told 109 = .ok (.ireturn, 1) := by decide +kernel
theorem dX11_told_110 : decode cX11_told 110 = .ok (.aload_n 0, 1) := by decide +kernel
theorem dX11_told_111 : decode cX11_told 111 = .ok (.getfield 75, 3) := by decide +kernel
theorem dX11_told_114 : decode cX11_told 114 = .ok (.getfield 144, 3) := by decide +kernel
theorem dX11_told_117 : decode cX11_told 117 = .ok (.ireturn, 1) := by decide +kernel
theorem dX11_told_118 : decode cX11_told 118 = .ok (.iconst (-1), 1) := by decide +kernel
theorem dX11_told_119 : decode cX11_told 119 = .ok (.ireturn, 1) := by decide +kernel
theorem dX11_table_0 : decode cX11_table 0 = .ok (.iload_n 1, 1) := by decide +kernel
theorem dX11_table_1 : decode cX11_table 1 = .ok (.invokestatic 147, 3) := by decide +kernel
theorem dX11_table_4 : decode cX11_table 4 = .ok (.ifCond .eq 15, 3) := by decide +kernel
theorem dX11_table_7 : decode cX11_table 7 = .ok (.aload_n 0, 1) := by decide +kernel
theorem dX11_table_8 : decode cX11_table 8 = .ok (.getfield 26, 3) := by decide +kernel
theorem dX11_table_11 : decode cX11_table 11 = .ok (.getfield 151, 3) := by decide +kernel
theorem dX11_table_14 : decode cX11_table 14 = .ok (.iload_n 1, 1) := by decide +kernel
theorem dX11_table_15 : decode cX11_table 15 = .ok (.baload, 1) := by decide +kernel
theorem dX11_table_16 : decode cX11_table 16 = .ok (.goto 4, 3) := by decide +kernel
theorem dX11_table_19 : decode cX11_table 19 = .ok (.iconst (-1), 1) := by decide +kernel
theorem dX11_table_20 : decode cX11_table 20 = .ok (.ireturn, 1) := by decide +kernel
theorem dX11_place_0 : decode cX11_place 0 = .ok (.iload_n 1, 1) := by decide +kernel
theorem dX11_place_1 : decode cX11_place 1 = .ok (.bipush 97, 2) := by decide +kernel
theorem dX11_place_3 : decode cX11_place 3 = .ok (.if_icmp .lt 9, 3) := by decide +kernel
theorem dX11_place_6 : decode cX11_place 6 = .ok (.iload_n 1, 1) := by decide +kernel
theorem dX11_place_7 : decode cX11_place 7 = .ok (.bipush 122, 2) := by decide +kernel
theorem dX11_place_9 : decode cX11_place 9 = .ok (.if_icmp .le 5, 3) := by decide +kernel
theorem dX11_place_12 : decode cX11_place 12 = .ok (.iconst (-1), 1) := by decide +kernel
theorem dX11_place_13 : decode cX11_place 13 = .ok (.ireturn, 1) := by decide +kernel
theorem dX11_place_14 : decode cX11_place 14 = .ok (.aload_n 0, 1) := by decide +kernel
theorem dX11_place_15 : decode cX11_place 15 = .ok (.getfield 26, 3) := by decide +kernel
theorem dX11_place_18 : decode cX11_place 18 = .ok (.iload_n 1, 1) := by decide +kernel
theorem dX11_place_19 : decode cX11_place 19 = .ok (.invokevirtual 152, 3) := by decide +kernel
theorem dX11_place_22 : decode cX11_place 22 = .ok (.istore_n 2, 1) := by decide +kernel
theorem dX11_place_23 : decode cX11_place 23 = .ok (.iload_n 2, 1) := by decide +kernel
theorem dX11_place_24 : decode cX11_place 24 = .ok (.ifCond .ge 8, 3) := by decide +kernel
theorem dX11_place_27 : decode cX11_place 27 = .ok (.bipush (-4), 2) := by decide +kernel
theorem dX11_place_29 : decode cX11_place 29 = .ok (.goto 4, 3) := by decide +kernel
theorem dX11_place_32 : decode cX11_place 32 = .ok (.iload_n 2, 1) := by decide +kernel
theorem dX11_place_33 : decode cX11_place 33 = .ok (.ireturn, 1) := by decide +kernel
theorem dX11_word_0 : decode cX11_word 0 = .ok (.aload_n 0, 1) := by decide +kernel
theorem dX11_word_1 : decode cX11_word 1 = .ok (.iload_n 1, 1) := by decide +kernel
theorem dX11_word_2 : decode cX11_word 2 = .ok (.invokevirtual 156, 3) := by decide +kernel
theorem dX11_word_5 : decode cX11_word 5 = .ok (.ifCond .ne 5, 3) := by decide +kernel
theorem dX11_word_8 : decode cX11_word 8 = .ok (.iconst (-1), 1) := by decide +kernel
theorem dX11_word_9 : decode cX11_word 9 = .ok (.ireturn, 1) := by decide +kernel
theorem dX11_word_10 : decode cX11_word 10 = .ok (.aload_n 0, 1) := by decide +kernel
theorem dX11_word_11 : decode cX11_word 11 = .ok (.getfield 75, 3) := by decide +kernel
theorem dX11_word_14 : decode cX11_word 14 = .ok (.getfield 119, 3) := by decide +kernel
theorem dX11_word_17 : decode cX11_word 17 = .ok (.iload_n 1, 1) := by decide +kernel
theorem dX11_word_18 : decode cX11_word 18 = .ok (.invokevirtual 159, 3) := by decide +kernel
theorem dX11_word_21 : decode cX11_word 21 = .ok (.istore_n 3, 1) := by decide +kernel
theorem dX11_word_22 : decode cX11_word 22 = .ok (.iload_n 2, 1) := by decide +kernel
theorem dX11_word_23 : decode cX11_word 23 = .ok (.tableswitch 53 0 2 #[25, 27, 37], 25) := by decide +kernel
theorem dX11_word_48 : decode cX11_word 48 = .ok (.iload_n 3, 1) := by decide +kernel
theorem dX11_word_49 : decode cX11_word 49 = .ok (.ireturn, 1) := by decide +kernel
theorem dX11_word_50 : decode cX11_word 50 = .ok (.aload_n 0, 1) := by decide +kernel
theorem dX11_word_51 : decode cX11_word 51 = .ok (.getfield 75, 3) := by decide +kernel
theorem dX11_word_54 : decode cX11_word 54 = .ok (.getfield 162, 3) := by decide +kernel
theorem dX11_word_57 : decode cX11_word 57 = .ok (.iload_n 1, 1) := by decide +kernel
theorem dX11_word_58 : decode cX11_word 58 = .ok (.iaload, 1) := by decide +kernel
theorem dX11_word_59 : decode cX11_word 59 = .ok (.ireturn, 1) := by decide +kernel
theorem dX11_word_60 : decode cX11_word 60 = .ok (.aload_n 0, 1) := by decide +kernel
theorem dX11_word_61 : decode cX11_word 61 = .ok (.getfield 26, 3) := by decide +kernel
theorem dX11_word_64 : decode cX11_word 64 = .ok (.aload_n 0, 1) := by decide +kernel
theorem dX11_word_65 : decode cX11_word 65 = .ok (.getfield 75, 3) := by decide +kernel
theorem dX11_word_68 : decode cX11_word 68 = .ok (.getfield 119, 3) := by decide +kernel
theorem dX11_word_71 : decode cX11_word 71 = .ok (.iload_n 1, 1) := by decide +kernel
theorem dX11_word_72 : decode cX11_word 72 = .ok (.invokevirtual 165, 3) := by decide +kernel
theorem dX11_word_75 : decode cX11_word 75 = .ok (.ireturn, 1) := by decide +kernel
theorem dX11_word_76 : decode cX11_word 76 = .ok (.iload_n 2, 1) := by decide +kernel
theorem dX11_word_77 : decode cX11_word 77 = .ok (.bipush 10, 2) := by decide +kernel
theorem dX11_word_79 : decode cX11_word 79 = .ok (.if_icmp .lt 29, 3) := by decide +kernel
theorem dX11_word_82 : decode cX11_word 82 = .ok (.iload_n 2, 1) := by decide +kernel
theorem dX11_word_83 : decode cX11_word 83 = .ok (.bipush 10, 2) := by decide +kernel
theorem dX11_word_85 : decode cX11_word 85 = .ok (.isub, 1) := by decide +kernel
theorem dX11_word_86 : decode cX11_word 86 = .ok (.iload_n 3, 1) := by decide +kernel
theorem dX11_word_87 : decode cX11_word 87 = .ok (.if_icmp .ge 21, 3) := by decide +kernel
theorem dX11_word_90 : decode cX11_word 90 = .ok (.aload_n 0, 1) := by decide +kernel
theorem dX11_word_91 : decode cX11_word 91 = .ok (.getfield 75, 3) := by decide +kernel
theorem dX11_word_94 : decode cX11_word 94 = .ok (.getfield 119, 3) := by decide +kernel
theorem dX11_word_97 : decode cX11_word 97 = .ok (.iload_n 1, 1) := by decide +kernel
theorem dX11_word_98 : decode cX11_word 98 = .ok (.iload_n 2, 1) := by decide +kernel
theorem dX11_word_99 : decode cX11_word 99 = .ok (.bipush 10, 2) := by decide +kernel
theorem dX11_word_101 : decode cX11_word 101 = .ok (.isub, 1) := by decide +kernel
theorem dX11_word_102 : decode cX11_word 102 = .ok (.invokevirtual 169, 3) := by decide +kernel
theorem dX11_word_105 : decode cX11_word 105 = .ok (.goto 4, 3) := by decide +kernel
theorem dX11_word_108 : decode cX11_word 108 = .ok (.iconst (-1), 1) := by decide +kernel
theorem dX11_word_109 : decode cX11_word 109 = .ok (.ireturn, 1) := by decide +kernel
theorem dX11_swap_0 : decode cX11_swap 0 = .ok (.iload_n 1, 1) := by decide +kernel
theorem dX11_swap_1 : decode cX11_swap 1 = .ok (.invokestatic 147, 3) := by decide +kernel
theorem dX11_swap_4 : decode cX11_swap 4 = .ok (.ifCond .eq 10, 3) := by decide +kernel
theorem dX11_swap_7 : decode cX11_swap 7 = .ok (.iload_n 2, 1) := by decide +kernel
theorem dX11_swap_8 : decode cX11_swap 8 = .ok (.invokestatic 147, 3) := by decide +kernel
theorem dX11_swap_11 : decode cX11_swap 11 = .ok (.ifCond .ne 5, 3) := by decide +kernel
theorem dX11_swap_14 : decode cX11_swap 14 = .ok (.iconst (-1), 1) := by decide +kernel
theorem dX11_swap_15 : decode cX11_swap 15 = .ok (.ireturn, 1) := by decide +kernel
theorem dX11_swap_16 : decode cX11_swap 16 = .ok (.iload_n 1, 1) := by decide +kernel
theorem dX11_swap_17 : decode cX11_swap 17 = .ok (.iload_n 2, 1) := by decide +kernel
theorem dX11_swap_18 : decode cX11_swap 18 = .ok (.if_icmp .ne 5, 3) := by decide +kernel
theorem dX11_swap_21 : decode cX11_swap 21 = .ok (.iconst 0, 1) := by decide +kernel
theorem dX11_swap_22 : decode cX11_swap 22 = .ok (.ireturn, 1) := by decide +kernel
theorem dX11_swap_23 : decode cX11_swap 23 = .ok (.aload_n 0, 1) := by decide +kernel
theorem dX11_swap_24 : decode cX11_swap 24 = .ok (.getfield 26, 3) := by decide +kernel
theorem dX11_swap_27 : decode cX11_swap 27 = .ok (.getfield 151, 3) := by decide +kernel
theorem dX11_swap_30 : decode cX11_swap 30 = .ok (.iload_n 1, 1) := by decide +kernel
theorem dX11_swap_31 : decode cX11_swap 31 = .ok (.baload, 1) := by decide +kernel
theorem dX11_swap_32 : decode cX11_swap 32 = .ok (.istore_n 3, 1) := by decide +kernel
theorem dX11_swap_33 : decode cX11_swap 33 = .ok (.aload_n 0, 1) := by decide +kernel
theorem dX11_swap_34 : decode cX11_swap 34 = .ok (.getfield 26, 3) := by decide +kernel
theorem dX11_swap_37 : decode cX11_swap 37 = .ok (.iload_n 1, 1) := by decide +kernel
theorem dX11_swap_38 : decode cX11_swap 38 = .ok (.aload_n 0, 1) := by decide +kernel
theorem dX11_swap_39 : decode cX11_swap 39 = .ok (.getfield 26, 3) := by decide +kernel
theorem dX11_swap_42 : decode cX11_swap 42 = .ok (.getfield 151, 3) := by decide +kernel
theorem dX11_swap_45 : decode cX11_swap 45 = .ok (.iload_n 2, 1) := by decide +kernel
theorem dX11_swap_46 : decode cX11_swap 46 = .ok (.baload, 1) := by decide +kernel
theorem dX11_swap_47 : decode cX11_swap 47 = .ok (.invokevirtual 173, 3) := by decide +kernel
theorem dX11_swap_50 : decode cX11_swap 50 = .ok (.aload_n 0, 1) := by decide +kernel
theorem dX11_swap_51 : decode cX11_swap 51 = .ok (.getfield 26, 3) := by decide +kernel
theorem dX11_swap_54 : decode cX11_swap 54 = .ok (.iload_n 2, 1) := by decide +kernel
theorem dX11_swap_55 : decode cX11_swap 55 = .ok (.iload_n 3, 1) := by decide +kernel
theorem dX11_swap_56 : decode cX11_swap 56 = .ok (.invokevirtual 173, 3) := by decide +kernel
theorem dX11_swap_59 : decode cX11_swap 59 = .ok (.iconst 1, 1) := by decide +kernel
theorem dX11_swap_60 : decode cX11_swap 60 = .ok (.ireturn, 1) := by decide +kernel
theorem dX11_takes_0 : decode cX11_takes 0 = .ok (.iload_n 1, 1) := by decide +kernel
theorem dX11_takes_1 : decode cX11_takes 1 = .ok (.ifCond .lt 9, 3) := by decide +kernel
theorem dX11_takes_4 : decode cX11_takes 4 = .ok (.iload_n 1, 1) := by decide +kernel
theorem dX11_takes_5 : decode cX11_takes 5 = .ok (.bipush 6, 2) := by decide +kernel
theorem dX11_takes_7 : decode cX11_takes 7 = .ok (.if_icmp .le 5, 3) := by decide +kernel
theorem dX11_takes_10 : decode cX11_takes 10 = .ok (.iconst (-1), 1) := by decide +kernel
theorem dX11_takes_11 : decode cX11_takes 11 = .ok (.ireturn, 1) := by decide +kernel
theorem dX11_takes_12 : decode cX11_takes 12 = .ok (.aload_n 0, 1) := by decide +kernel
theorem dX11_takes_13 : decode cX11_takes 13 = .ok (.getfield 10, 3) := by decide +kernel
theorem dX11_takes_16 : decode cX11_takes 16 = .ok (.aload_n 0, 1) := by decide +kernel
theorem dX11_takes_17 : decode cX11_takes 17 = .ok (.getfield 26, 3) := by decide +kernel
theorem dX11_takes_20 : decode cX11_takes 20 = .ok (.invokevirtual 177, 3) := by decide +kernel
theorem dX11_takes_23 : decode cX11_takes 23 = .ok (.ifCond .lt 6, 3) := by decide +kernel
theorem dX11_takes_26 : decode cX11_takes 26 = .ok (.bipush (-2), 2) := by decide +kernel
theorem dX11_takes_28 : decode cX11_takes 28 = .ok (.ireturn, 1) := by decide +kernel
theorem dX11_takes_29 : decode cX11_takes 29 = .ok (.aload_n 0, 1) := by decide +kernel
theorem dX11_takes_30 : decode cX11_takes 30 = .ok (.getfield 43, 3) := by decide +kernel
theorem dX11_takes_33 : decode cX11_takes 33 = .ok (.aload_n 0, 1) := by decide +kernel
theorem dX11_takes_34 : decode cX11_takes 34 = .ok (.getfield 10, 3) := by decide +kernel
theorem dX11_takes_37 : decode cX11_takes 37 = .ok (.aload_n 0, 1) := by decide +kernel
theorem dX11_takes_38 : decode cX11_takes 38 = .ok (.getfield 75, 3) := by decide +kernel
theorem dX11_takes_41 : decode cX11_takes 41 = .ok (.aload_n 0, 1) := by decide +kernel
theorem dX11_takes_42 : decode cX11_takes 42 = .ok (.getfield 26, 3) := by decide +kernel
theorem dX11_takes_45 : decode cX11_takes 45 = .ok (.invokevirtual 181, 3) := by decide +kernel
theorem dX11_takes_48 : decode cX11_takes 48 = .ok (.iload_n 1, 1) := by decide +kernel
theorem dX11_takes_49 : decode cX11_takes 49 = .ok (.tableswitch 87 0 5 #[39, 47, 55, 63, 71, 79], 39) := by decide +kernel
theorem dX11_takes_88 : decode cX11_takes 88 = .ok (.aload_n 0, 1) := by decide +kernel
theorem dX11_takes_89 : decode cX11_takes 89 = .ok (.getfield 43, 3) := by decide +kernel
theorem dX11_takes_92 : decode cX11_takes 92 = .ok (.getfield 185, 3) := by decide +kernel
theorem dX11_takes_95 : decode cX11_takes 95 = .ok (.ireturn, 1) := by decide +kernel
theorem dX11_takes_96 : decode cX11_takes 96 = .ok (.aload_n 0, 1) := by decide +kernel
theorem dX11_takes_97 : decode cX11_takes 97 = .ok (.getfield 43, 3) := by decide +kernel
theorem dX11_takes_100 : decode cX11_takes 100 = .ok (.getfield 187, 3) := by decide +kernel
theorem dX11_takes_103 : decode cX11_takes 103 = .ok (.ireturn, 1) := by decide +kernel
theorem dX11_takes_104 : decode cX11_takes 104 = .ok (.aload_n 0, 1) := by decide +kernel
theorem dX11_takes_105 : decode cX11_takes 105 = .ok (.getfield 43, 3) := by decide +kernel
theorem dX11_takes_108 : decode cX11_takes 108 = .ok (.getfield 190, 3) := by decide +kernel
theorem dX11_takes_111 : decode cX11_takes 111 = .ok (.ireturn, 1) := by decide +kernel
theorem dX11_takes_112 : decode cX11_takes 112 = .ok (.aload_n 0, 1) := by decide +kernel
theorem dX11_takes_113 : decode cX11_takes 113 = .ok (.getfield 43, 3) := by decide +kernel
theorem dX11_takes_116 : decode cX11_takes 116 = .ok (.getfield 193, 3) := by decide +kernel
theorem dX11_takes_119 : decode cX11_takes 119 = .ok (.ireturn, 1) := by decide +kernel
theorem dX11_takes_120 : decode cX11_takes 120 = .ok (.aload_n 0, 1) := by decide +kernel
theorem dX11_takes_121 : decode cX11_takes 121 = .ok (.getfield 43, 3) := by decide +kernel
theorem dX11_takes_124 : decode cX11_takes 124 = .ok (.getfield 196, 3) := by decide +kernel
theorem dX11_takes_127 : decode cX11_takes 127 = .ok (.ireturn, 1) := by decide +kernel
theorem dX11_takes_128 : decode cX11_takes 128 = .ok (.aload_n 0, 1) := by decide +kernel
theorem dX11_takes_129 : decode cX11_takes 129 = .ok (.getfield 43, 3) := by decide +kernel
theorem dX11_takes_132 : decode cX11_takes 132 = .ok (.getfield 199, 3) := by decide +kernel
theorem dX11_takes_135 : decode cX11_takes 135 = .ok (.ireturn, 1) := by decide +kernel
theorem dX11_takes_136 : decode cX11_takes 136 = .ok (.aload_n 0, 1) := by decide +kernel
theorem dX11_takes_137 : decode cX11_takes 137 = .ok (.getfield 43, 3) := by decide +kernel
theorem dX11_takes_140 : decode cX11_takes 140 = .ok (.getfield 202, 3) := by decide +kernel
theorem dX11_takes_143 : decode cX11_takes 143 = .ok (.ireturn, 1) := by decide +kernel
theorem dX11_wrong_0 : decode cX11_wrong 0 = .ok (.aload_n 0, 1) := by decide +kernel
theorem dX11_wrong_1 : decode cX11_wrong 1 = .ok (.getfield 10, 3) := by decide +kernel
theorem dX11_wrong_4 : decode cX11_wrong 4 = .ok (.aload_n 0, 1) := by decide +kernel
theorem dX11_wrong_5 : decode cX11_wrong 5 = .ok (.getfield 26, 3) := by decide +kernel
theorem dX11_wrong_8 : decode cX11_wrong 8 = .ok (.invokevirtual 177, 3) := by decide +kernel
theorem dX11_wrong_11 : decode cX11_wrong 11 = .ok (.istore_n 1, 1) := by decide +kernel
theorem dX11_wrong_12 : decode cX11_wrong 12 = .ok (.iload_n 1, 1) := by decide +kernel
theorem dX11_wrong_13 : decode cX11_wrong 13 = .ok (.ifCond .ge 8, 3) := by decide +kernel
theorem dX11_wrong_16 : decode cX11_wrong 16 = .ok (.bipush (-4), 2) := by decide +kernel
theorem dX11_wrong_18 : decode cX11_wrong 18 = .ok (.goto 4, 3) := by decide +kernel
theorem dX11_wrong_21 : decode cX11_wrong 21 = .ok (.iload_n 1, 1) := by decide +kernel
theorem dX11_wrong_22 : decode cX11_wrong 22 = .ok (.ireturn, 1) := by decide +kernel
theorem dX11_mean_0 : decode cX11_mean 0 = .ok (.iload_n 1, 1) := by decide +kernel
theorem dX11_mean_1 : decode cX11_mean 1 = .ok (.ifCond .eq 10, 3) := by decide +kernel
theorem dX11_mean_4 : decode cX11_mean 4 = .ok (.iload_n 1, 1) := by decide +kernel
theorem dX11_mean_5 : decode cX11_mean 5 = .ok (.iconst 1, 1) := by decide +kernel
theorem dX11_mean_6 : decode cX11_mean 6 = .ok (.if_icmp .eq 5, 3) := by decide +kernel
theorem dX11_mean_9 : decode cX11_mean 9 = .ok (.iconst (-1), 1) := by decide +kernel
theorem dX11_mean_10 : decode cX11_mean 10 = .ok (.ireturn, 1) := by decide +kernel
theorem dX11_mean_11 : decode cX11_mean 11 = .ok (.aload_n 0, 1) := by decide +kernel
theorem dX11_mean_12 : decode cX11_mean 12 = .ok (.getfield 50, 3) := by decide +kernel
theorem dX11_mean_15 : decode cX11_mean 15 = .ok (.aload_n 0, 1) := by decide +kernel
theorem dX11_mean_16 : decode cX11_mean 16 = .ok (.getfield 75, 3) := by decide +kernel
theorem dX11_mean_19 : decode cX11_mean 19 = .ok (.aload_n 0, 1) := by decide +kernel
theorem dX11_mean_20 : decode cX11_mean 20 = .ok (.getfield 26, 3) := by decide +kernel
theorem dX11_mean_23 : decode cX11_mean 23 = .ok (.invokevirtual 205, 3) := by decide +kernel
theorem dX11_mean_26 : decode cX11_mean 26 = .ok (.iload_n 1, 1) := by decide +kernel
theorem dX11_mean_27 : decode cX11_mean 27 = .ok (.ifCond .ne 20, 3) := by decide +kernel
theorem dX11_mean_30 : decode cX11_mean 30 = .ok (.aload_n 0, 1) := by decide +kernel
theorem dX11_mean_31 : decode cX11_mean 31 = .ok (.getfield 50, 3) := by decide +kernel
theorem dX11_mean_34 : decode cX11_mean 34 = .ok (.aload_n 0, 1) := by decide +kernel
theorem dX11_mean_35 : decode cX11_mean 35 = .ok (.getfield 26, 3) := by decide +kernel
theorem dX11_mean_38 : decode cX11_mean 38 = .ok (.getfield 151, 3) := by decide +kernel
theorem dX11_mean_41 : decode cX11_mean 41 = .ok (.invokevirtual 209, 3) := by decide +kernel
theorem dX11_mean_44 : decode cX11_mean 44 = .ok (.goto 17, 3) := by decide +kernel
theorem dX11_mean_47 : decode cX11_mean 47 = .ok (.aload_n 0, 1) := by decide +kernel
theorem dX11_mean_48 : decode cX11_mean 48 = .ok (.getfield 50, 3) := by decide +kernel
theorem dX11_mean_51 : decode cX11_mean 51 = .ok (.aload_n 0, 1) := by decide +kernel
theorem dX11_mean_52 : decode cX11_mean 52 = .ok (.getfield 50, 3) := by decide +kernel
theorem dX11_mean_55 : decode cX11_mean 55 = .ok (.getfield 213, 3) := by decide +kernel
theorem dX11_mean_58 : decode cX11_mean 58 = .ok (.invokevirtual 209, 3) := by decide +kernel
theorem dX11_mean_61 : decode cX11_mean 61 = .ok (.ireturn, 1) := by decide +kernel
theorem dX11_best_0 : decode cX11_best 0 = .ok (.iload_n 1, 1) := by decide +kernel
theorem dX11_best_1 : decode cX11_best 1 = .ok (.invokestatic 147, 3) := by decide +kernel
theorem dX11_best_4 : decode cX11_best 4 = .ok (.ifCond .ne 5, 3) := by decide +kernel
theorem dX11_best_7 : decode cX11_best 7 = .ok (.iconst (-1), 1) := by decide +kernel
theorem dX11_best_8 : decode cX11_best 8 = .ok (.ireturn, 1) := by decide +kernel
theorem dX11_best_9 : decode cX11_best 9 = .ok (.aload_n 0, 1) := by decide +kernel
theorem dX11_best_10 : decode cX11_best 10 = .ok (.getfield 50, 3) := by decide +kernel
theorem dX11_best_13 : decode cX11_best 13 = .ok (.aload_n 0, 1) := by decide +kernel
theorem dX11_best_14 : decode cX11_best 14 = .ok (.getfield 75, 3) := by decide +kernel
theorem dX11_best_17 : decode cX11_best 17 = .ok (.aload_n 0, 1) := by decide +kernel
theorem dX11_best_18 : decode cX11_best 18 = .ok (.getfield 26, 3) := by decide +kernel
theorem dX11_best_21 : decode cX11_best 21 = .ok (.invokevirtual 205, 3) := by decide +kernel
theorem dX11_best_24 : decode cX11_best 24 = .ok (.aload_n 0, 1) := by decide +kernel
theorem dX11_best_25 : decode cX11_best 25 = .ok (.getfield 50, 3) := by decide +kernel
theorem dX11_best_28 : decode cX11_best 28 = .ok (.getfield 213, 3) := by decide +kernel
theorem dX11_best_31 : decode cX11_best 31 = .ok (.iload_n 1, 1) := by decide +kernel
theorem dX11_best_32 : decode cX11_best 32 = .ok (.baload, 1) := by decide +kernel
theorem dX11_best_33 : decode cX11_best 33 = .ok (.ireturn, 1) := by decide +kernel
theorem dX11_adopt_0 : decode cX11_adopt 0 = .ok (.aload_n 0, 1) := by decide +kernel
theorem dX11_adopt_1 : decode cX11_adopt 1 = .ok (.getfield 50, 3) := by decide +kernel
theorem dX11_adopt_4 : decode cX11_adopt 4 = .ok (.aload_n 0, 1) := by decide +kernel
theorem dX11_adopt_5 : decode cX11_adopt 5 = .ok (.getfield 75, 3) := by decide +kernel
theorem dX11_adopt_8 : decode cX11_adopt 8 = .ok (.aload_n 0, 1) := by decide +kernel
theorem dX11_adopt_9 : decode cX11_adopt 9 = .ok (.getfield 26, 3) := by decide +kernel
theorem dX11_adopt_12 : decode cX11_adopt 12 = .ok (.invokevirtual 205, 3) := by decide +kernel
theorem dX11_adopt_15 : decode cX11_adopt 15 = .ok (.iconst 0, 1) := by decide +kernel
theorem dX11_adopt_16 : decode cX11_adopt 16 = .ok (.istore_n 1, 1) := by decide +kernel
theorem dX11_adopt_17 : decode cX11_adopt 17 = .ok (.iconst 0, 1) := by decide +kernel
theorem dX11_adopt_18 : decode cX11_adopt 18 = .ok (.istore_n 2, 1) := by decide +kernel
theorem dX11_adopt_19 : decode cX11_adopt 19 = .ok (.iload_n 2, 1) := by decide +kernel
theorem dX11_adopt_20 : decode cX11_adopt 20 = .ok (.bipush 25, 2) := by decide +kernel
theorem dX11_adopt_22 : decode cX11_adopt 22 = .ok (.if_icmp .ge 33, 3) := by decide +kernel
theorem dX11_adopt_25 : decode cX11_adopt 25 = .ok (.aload_n 0, 1) := by decide +kernel
theorem dX11_adopt_26 : decode cX11_adopt 26 = .ok (.getfield 26, 3) := by decide +kernel
theorem dX11_adopt_29 : decode cX11_adopt 29 = .ok (.getfield 151, 3) := by decide +kernel
theorem dX11_adopt_32 : decode cX11_adopt 32 = .ok (.iload_n 2, 1) := by decide +kernel
theorem dX11_adopt_33 : decode cX11_adopt 33 = .ok (.baload, 1) := by decide +kernel
theorem dX11_adopt_34 : decode cX11_adopt 34 = .ok (.aload_n 0, 1) := by decide +kernel
theorem dX11_adopt_35 : decode cX11_adopt 35 = .ok (.getfield 50, 3) := by decide +kernel
theorem dX11_adopt_38 : decode cX11_adopt 38 = .ok (.getfield 213, 3) := by decide +kernel
theorem dX11_adopt_41 : decode cX11_adopt 41 = .ok (.iload_n 2, 1) := by decide +kernel
theorem dX11_adopt_42 : decode cX11_adopt 42 = .ok (.baload, 1) := by decide +kernel
theorem dX11_adopt_43 : decode cX11_adopt 43 = .ok (.if_icmp .eq 6, 3) := by decide +kernel
theorem dX11_adopt_46 : decode cX11_adopt 46 = .ok (.iinc 1 1, 3) := by decide +kernel
theorem dX11_adopt_49 : decode cX11_adopt 49 = .ok (.iinc 2 1, 3) := by decide +kernel
theorem dX11_adopt_52 : decode cX11_adopt 52 = .ok (.goto (-33), 3) := by decide +kernel
theorem dX11_adopt_55 : decode cX11_adopt 55 = .ok (.iconst 0, 1) := by decide +kernel
theorem dX11_adopt_56 : decode cX11_adopt 56 = .ok (.istore_n 2, 1) := by decide +kernel
theorem dX11_adopt_57 : decode cX11_adopt 57 = .ok (.iload_n 2, 1) := by decide +kernel
theorem dX11_adopt_58 : decode cX11_adopt 58 = .ok (.bipush 25, 2) := by decide +kernel
theorem dX11_adopt_60 : decode cX11_adopt 60 = .ok (.if_icmp .ge 26, 3) := by decide +kernel
theorem dX11_adopt_63 : decode cX11_adopt 63 = .ok (.aload_n 0, 1) := by decide +kernel
theorem dX11_adopt_64 : decode cX11_adopt 64 = .ok (.getfield 26, 3) := by decide +kernel
theorem dX11_adopt_67 : decode cX11_adopt 67 = .ok (.iload_n 2, 1) := by decide +kernel
theorem dX11_adopt_68 : decode cX11_adopt 68 = .ok (.aload_n 0, 1) := by decide +kernel
theorem dX11_adopt_69 : decode cX11_adopt 69 = .ok (.getfield 50, 3) := by decide +kernel
theorem dX11_adopt_72 : decode cX11_adopt 72 = .ok (.getfield 213, 3) := by decide +kernel
theorem dX11_adopt_75 : decode cX11_adopt 75 = .ok (.iload_n 2, 1) := by decide +kernel
theorem dX11_adopt_76 : decode cX11_adopt 76 = .ok (.baload, 1) := by decide +kernel
theorem dX11_adopt_77 : decode cX11_adopt 77 = .ok (.invokevirtual 173, 3) := by decide +kernel
theorem dX11_adopt_80 : decode cX11_adopt 80 = .ok (.iinc 2 1, 3) := by decide +kernel
theorem dX11_adopt_83 : decode cX11_adopt 83 = .ok (.goto (-26), 3) := by decide +kernel
theorem dX11_adopt_86 : decode cX11_adopt 86 = .ok (.iload_n 1, 1) := by decide +kernel
theorem dX11_adopt_87 : decode cX11_adopt 87 = .ok (.ireturn, 1) := by decide +kernel
theorem dX11_hear_0 : decode cX11_hear 0 = .ok (.iload_n 1, 1) := by decide +kernel
theorem dX11_hear_1 : decode cX11_hear 1 = .ok (.invokestatic 216, 3) := by decide +kernel
theorem dX11_hear_4 : decode cX11_hear 4 = .ok (.ifCond .ne 5, 3) := by decide +kernel
theorem dX11_hear_7 : decode cX11_hear 7 = .ok (.iconst (-1), 1) := by decide +kernel
theorem dX11_hear_8 : decode cX11_hear 8 = .ok (.ireturn, 1) := by decide +kernel
theorem dX11_hear_9 : decode cX11_hear 9 = .ok (.aload_n 0, 1) := by decide +kernel
theorem dX11_hear_10 : decode cX11_hear 10 = .ok (.getfield 26, 3) := by decide +kernel
theorem dX11_hear_13 : decode cX11_hear 13 = .ok (.getfield 219, 3) := by decide +kernel
theorem dX11_hear_16 : decode cX11_hear 16 = .ok (.bipush 24, 2) := by decide +kernel
theorem dX11_hear_18 : decode cX11_hear 18 = .ok (.if_icmp .lt 6, 3) := by decide +kernel
theorem dX11_hear_21 : decode cX11_hear 21 = .ok (.bipush (-3), 2) := by decide +kernel
theorem dX11_hear_23 : decode cX11_hear 23 = .ok (.ireturn, 1) := by decide +kernel
theorem dX11_hear_24 : decode cX11_hear 24 = .ok (.aload_n 0, 1) := by decide +kernel
theorem dX11_hear_25 : decode cX11_hear 25 = .ok (.getfield 26, 3) := by decide +kernel
theorem dX11_hear_28 : decode cX11_hear 28 = .ok (.getfield 222, 3) := by decide +kernel
theorem dX11_hear_31 : decode cX11_hear 31 = .ok (.aload_n 0, 1) := by decide +kernel
theorem dX11_hear_32 : decode cX11_hear 32 = .ok (.getfield 26, 3) := by decide +kernel
theorem dX11_hear_35 : decode cX11_hear 35 = .ok (.getfield 219, 3) := by decide +kernel
theorem dX11_hear_38 : decode cX11_hear 38 = .ok (.iload_n 1, 1) := by decide +kernel
theorem dX11_hear_39 : decode cX11_hear 39 = .ok (.iastore, 1) := by decide +kernel
theorem dX11_hear_40 : decode cX11_hear 40 = .ok (.aload_n 0, 1) := by decide +kernel
theorem dX11_hear_41 : decode cX11_hear 41 = .ok (.getfield 26, 3) := by decide +kernel
theorem dX11_hear_44 : decode cX11_hear 44 = .ok (.dup, 1) := by decide +kernel
theorem dX11_hear_45 : decode cX11_hear 45 = .ok (.getfield 219, 3) := by decide +kernel
theorem dX11_hear_48 : decode cX11_hear 48 = .ok (.iconst 1, 1) := by decide +kernel
theorem dX11_hear_49 : decode cX11_hear 49 = .ok (.iadd, 1) := by decide +kernel
theorem dX11_hear_50 : decode cX11_hear 50 = .ok (.putfield 219, 3) := by decide +kernel
theorem dX11_hear_53 : decode cX11_hear 53 = .ok (.aload_n 0, 1) := by decide +kernel
theorem dX11_hear_54 : decode cX11_hear 54 = .ok (.getfield 26, 3) := by decide +kernel
theorem dX11_hear_57 : decode cX11_hear 57 = .ok (.getfield 219, 3) := by decide +kernel
theorem dX11_hear_60 : decode cX11_hear 60 = .ok (.ireturn, 1) := by decide +kernel
theorem dX11_hush_0 : decode cX11_hush 0 = .ok (.aload_n 0, 1) := by decide +kernel
theorem dX11_hush_1 : decode cX11_hush 1 = .ok (.getfield 26, 3) := by decide +kernel
theorem dX11_hush_4 : decode cX11_hush 4 = .ok (.getfield 219, 3) := by decide +kernel
theorem dX11_hush_7 : decode cX11_hush 7 = .ok (.istore_n 1, 1) := by decide +kernel
theorem dX11_hush_8 : decode cX11_hush 8 = .ok (.aload_n 0, 1) := by decide +kernel
theorem dX11_hush_9 : decode cX11_hush 9 = .ok (.getfield 26, 3) := by decide +kernel
theorem dX11_hush_12 : decode cX11_hush 12 = .ok (.iconst 0, 1) := by decide +kernel
theorem dX11_hush_13 : decode cX11_hush 13 = .ok (.putfield 219, 3) := by decide +kernel
theorem dX11_hush_16 : decode cX11_hush 16 = .ok (.iload_n 1, 1) := by decide +kernel
theorem dX11_hush_17 : decode cX11_hush 17 = .ok (.ireturn, 1) := by decide +kernel
theorem dX11_heard_0 : decode cX11_heard 0 = .ok (.iload_n 1, 1) := by decide +kernel
theorem dX11_heard_1 : decode cX11_heard 1 = .ok (.ifCond .lt 26, 3) := by decide +kernel
theorem dX11_heard_4 : decode cX11_heard 4 = .ok (.iload_n 1, 1) := by decide +kernel
theorem dX11_heard_5 : decode cX11_heard 5 = .ok (.aload_n 0, 1) := by decide +kernel
theorem dX11_heard_6 : decode cX11_heard 6 = .ok (.getfield 26, 3) := by decide +kernel
theorem dX11_heard_9 : decode cX11_heard 9 = .ok (.getfield 219, 3) := by decide +kernel
theorem dX11_heard_12 : decode cX11_heard 12 = .ok (.if_icmp .ge 15, 3) := by decide +kernel
theorem dX11_heard_15 : decode cX11_heard 15 = .ok (.aload_n 0, 1) := by decide +kernel
theorem dX11_heard_16 : decode cX11_heard 16 = .ok (.getfield 26, 3) := by decide +kernel
theorem dX11_heard_19 : decode cX11_heard 19 = .ok (.getfield 222, 3) := by decide +kernel
theorem dX11_heard_22 : decode cX11_heard 22 = .ok (.iload_n 1, 1) := by decide +kernel
theorem dX11_heard_23 : decode cX11_heard 23 = .ok (.iaload, 1) := by decide +kernel
theorem dX11_heard_24 : decode cX11_heard 24 = .ok (.goto 4, 3) := by decide +kernel
theorem dX11_heard_27 : decode cX11_heard 27 = .ok (.iconst (-1), 1) := by decide +kernel
theorem dX11_heard_28 : decode cX11_heard 28 = .ok (.ireturn, 1) := by decide +kernel
theorem dX11_chance_0 : decode cX11_chance 0 = .ok (.aload_n 0, 1) := by decide +kernel
theorem dX11_chance_1 : decode cX11_chance 1 = .ok (.iload_n 1, 1) := by decide +kernel
theorem dX11_chance_2 : decode cX11_chance 2 = .ok (.invokevirtual 156, 3) := by decide +kernel
theorem dX11_chance_5 : decode cX11_chance 5 = .ok (.ifCond .eq 10, 3) := by decide +kernel
theorem dX11_chance_8 : decode cX11_chance 8 = .ok (.iload_n 2, 1) := by decide +kernel
theorem dX11_chance_9 : decode cX11_chance 9 = .ok (.invokestatic 225, 3) := by decide +kernel
theorem dX11_chance_12 : decode cX11_chance 12 = .ok (.ifCond .ne 7, 3) := by decide +kernel
theorem dX11_chance_15 : decode cX11_chance 15 = .ok (.ldc2_w 228, 3) := by decide +kernel
theorem dX11_chance_18 : decode cX11_chance 18 = .ok (.lreturn, 1) := by decide +kernel
theorem dX11_chance_19 : decode cX11_chance 19 = .ok (.aload_n 0, 1) := by decide +kernel
theorem dX11_chance_20 : decode cX11_chance 20 = .ok (.invokevirtual 230, 3) := by decide +kernel
theorem dX11_chance_23 : decode cX11_chance 23 = .ok (.ifCond .ne 7, 3) := by decide +kernel
theorem dX11_chance_26 : decode cX11_chance 26 = .ok (.ldc2_w 234, 3) := by decide +kernel
theorem dX11_chance_29 : decode cX11_chance 29 = .ok (.lreturn, 1) := by decide +kernel
theorem dX11_chance_30 : decode cX11_chance 30 = .ok (.aload_n 0, 1) := by decide +kernel
theorem dX11_chance_31 : decode cX11_chance 31 = .ok (.getfield 57, 3) := by decide +kernel
theorem dX11_chance_34 : decode cX11_chance 34 = .ok (.aload_n 0, 1) := by decide +kernel
theorem dX11_chance_35 : decode cX11_chance 35 = .ok (.getfield 75, 3) := by decide +kernel
theorem dX11_chance_38 : decode cX11_chance 38 = .ok (.aload_n 0, 1) := by decide +kernel
theorem dX11_chance_39 : decode cX11_chance 39 = .ok (.getfield 26, 3) := by decide +kernel
theorem dX11_chance_42 : decode cX11_chance 42 = .ok (.invokevirtual 236, 3) := by decide +kernel
theorem dX11_chance_45 : decode cX11_chance 45 = .ok (.iload_n 2, 1) := by decide +kernel
theorem dX11_chance_46 : decode cX11_chance 46 = .ok (.ifCond .ne 15, 3) := by decide +kernel
theorem dX11_chance_49 : decode cX11_chance 49 = .ok (.aload_n 0, 1) := by decide +kernel
theorem dX11_chance_50 : decode cX11_chance 50 = .ok (.getfield 57, 3) := by decide +kernel
theorem dX11_chance_53 : decode cX11_chance 53 = .ok (.getfield 239, 3) := by decide +kernel
theorem dX11_chance_56 : decode cX11_chance 56 = .ok (.iload_n 1, 1) := by decide +kernel
theorem dX11_chance_57 : decode cX11_chance 57 = .ok (.laload, 1) := by decide +kernel
theorem dX11_chance_58 : decode cX11_chance 58 = .ok (.goto 10, 3) := by decide +kernel
theorem dX11_chance_61 : decode cX11_chance 61 = .ok (.aload_n 0, 1) := by decide +kernel
theorem dX11_chance_62 : decode cX11_chance 62 = .ok (.getfield 57, 3) := by decide +kernel
theorem dX11_chance_65 : decode cX11_chance 65 = .ok (.getfield 243, 3) := by decide +kernel
theorem dX11_chance_68 : decode cX11_chance 68 = .ok (.lreturn, 1) := by decide +kernel
theorem dX11_likeliest_0 : decode cX11_likeliest 0 = .ok (.aload_n 0, 1) := by decide +kernel
theorem dX11_likeliest_1 : decode cX11_likeliest 1 = .ok (.invokevirtual 230, 3) := by decide +kernel
theorem dX11_likeliest_4 : decode cX11_likeliest 4 = .ok (.ifCond .ne 6, 3) := by decide +kernel
theorem dX11_likeliest_7 : decode cX11_likeliest 7 = .ok (.bipush (-2), 2) := by decide +kernel
theorem dX11_likeliest_9 : decode cX11_likeliest 9 = .ok (.ireturn, 1) := by decide +kernel
theorem dX11_likeliest_10 : decode cX11_likeliest 10 = .ok (.aload_n 0, 1) := by decide +kernel
theorem dX11_likeliest_11 : decode cX11_likeliest 11 = .ok (.getfield 57, 3) := by decide +kernel
theorem dX11_likeliest_14 : decode cX11_likeliest 14 = .ok (.aload_n 0, 1) := by decide +kernel
theorem dX11_likeliest_15 : decode cX11_likeliest 15 = .ok (.getfield 75, 3) := by decide +kernel
theorem dX11_likeliest_18 : decode cX11_likeliest 18 = .ok (.aload_n 0, 1) := by decide +kernel
theorem dX11_likeliest_19 : decode cX11_likeliest 19 = .ok (.getfield 26, 3) := by decide +kernel
theorem dX11_likeliest_22 : decode cX11_likeliest 22 = .ok (.invokevirtual 236, 3) := by decide +kernel
theorem dX11_likeliest_25 : decode cX11_likeliest 25 = .ok (.aload_n 0, 1) := by decide +kernel
theorem dX11_likeliest_26 : decode cX11_likeliest 26 = .ok (.getfield 57, 3) := by decide +kernel
theorem dX11_likeliest_29 : decode cX11_likeliest 29 = .ok (.getfield 247, 3) := by decide +kernel
theorem dX11_likeliest_32 : decode cX11_likeliest 32 = .ok (.ifCond .ge 8, 3) := by decide +kernel
theorem dX11_likeliest_35 : decode cX11_likeliest 35 = .ok (.bipush (-4), 2) := by decide +kernel
theorem dX11_likeliest_37 : decode cX11_likeliest 37 = .ok (.goto 10, 3) := by decide +kernel
theorem dX11_likeliest_40 : decode cX11_likeliest 40 = .ok (.aload_n 0, 1) := by decide +kernel
theorem dX11_likeliest_41 : decode cX11_likeliest 41 = .ok (.getfield 57, 3) := by decide +kernel
theorem dX11_likeliest_44 : decode cX11_likeliest 44 = .ok (.getfield 247, 3) := by decide +kernel
theorem dX11_likeliest_47 : decode cX11_likeliest 47 = .ok (.ireturn, 1) := by decide +kernel
theorem dX11_sure_0 : decode cX11_sure 0 = .ok (.iload_n 1, 1) := by decide +kernel
theorem dX11_sure_1 : decode cX11_sure 1 = .ok (.invokestatic 225, 3) := by decide +kernel
theorem dX11_sure_4 : decode cX11_sure 4 = .ok (.ifCond .ne 7, 3) := by decide +kernel
theorem dX11_sure_7 : decode cX11_sure 7 = .ok (.ldc2_w 228, 3) := by decide +kernel
theorem dX11_sure_10 : decode cX11_sure 10 = .ok (.lreturn, 1) := by decide +kernel
theorem dX11_sure_11 : decode cX11_sure 11 = .ok (.aload_n 0, 1) := by decide +kernel
theorem dX11_sure_12 : decode cX11_sure 12 = .ok (.invokevirtual 230, 3) := by decide +kernel
theorem dX11_sure_15 : decode cX11_sure 15 = .ok (.ifCond .ne 7, 3) := by decide +kernel
theorem dX11_sure_18 : decode cX11_sure 18 = .ok (.ldc2_w 234, 3) := by decide +kernel
theorem dX11_sure_21 : decode cX11_sure 21 = .ok (.lreturn, 1) := by decide +kernel
theorem dX11_sure_22 : decode cX11_sure 22 = .ok (.aload_n 0, 1) := by decide +kernel
theorem dX11_sure_23 : decode cX11_sure 23 = .ok (.getfield 57, 3) := by decide +kernel
theorem dX11_sure_26 : decode cX11_sure 26 = .ok (.aload_n 0, 1) := by decide +kernel
theorem dX11_sure_27 : decode cX11_sure 27 = .ok (.getfield 75, 3) := by decide +kernel
theorem dX11_sure_30 : decode cX11_sure 30 = .ok (.aload_n 0, 1) := by decide +kernel
theorem dX11_sure_31 : decode cX11_sure 31 = .ok (.getfield 26, 3) := by decide +kernel
theorem dX11_sure_34 : decode cX11_sure 34 = .ok (.invokevirtual 236, 3) := by decide +kernel
theorem dX11_sure_37 : decode cX11_sure 37 = .ok (.aload_n 0, 1) := by decide +kernel
theorem dX11_sure_38 : decode cX11_sure 38 = .ok (.getfield 57, 3) := by decide +kernel
theorem dX11_sure_41 : decode cX11_sure 41 = .ok (.getfield 247, 3) := by decide +kernel
theorem dX11_sure_44 : decode cX11_sure 44 = .ok (.ifCond .ge 7, 3) := by decide +kernel
theorem dX11_sure_47 : decode cX11_sure 47 = .ok (.ldc2_w 250, 3) := by decide +kernel
theorem dX11_sure_50 : decode cX11_sure 50 = .ok (.lreturn, 1) := by decide +kernel
theorem dX11_sure_51 : decode cX11_sure 51 = .ok (.aload_n 0, 1) := by decide +kernel
theorem dX11_sure_52 : decode cX11_sure 52 = .ok (.getfield 57, 3) := by decide +kernel
theorem dX11_sure_55 : decode cX11_sure 55 = .ok (.getfield 239, 3) := by decide +kernel
theorem dX11_sure_58 : decode cX11_sure 58 = .ok (.aload_n 0, 1) := by decide +kernel
theorem dX11_sure_59 : decode cX11_sure 59 = .ok (.getfield 57, 3) := by decide +kernel
theorem dX11_sure_62 : decode cX11_sure 62 = .ok (.getfield 247, 3) := by decide +kernel
theorem dX11_sure_65 : decode cX11_sure 65 = .ok (.laload, 1) := by decide +kernel
theorem dX11_sure_66 : decode cX11_sure 66 = .ok (.aload_n 0, 1) := by decide +kernel
theorem dX11_sure_67 : decode cX11_sure 67 = .ok (.getfield 57, 3) := by decide +kernel
theorem dX11_sure_70 : decode cX11_sure 70 = .ok (.getfield 243, 3) := by decide +kernel
theorem dX11_sure_73 : decode cX11_sure 73 = .ok (.iload_n 1, 1) := by decide +kernel
theorem dX11_sure_74 : decode cX11_sure 74 = .ok (.invokestatic 252, 3) := by decide +kernel
theorem dX11_sure_77 : decode cX11_sure 77 = .ok (.lreturn, 1) := by decide +kernel
theorem dX11_fits_0 : decode cX11_fits 0 = .ok (.aload_n 0, 1) := by decide +kernel
theorem dX11_fits_1 : decode cX11_fits 1 = .ok (.invokevirtual 230, 3) := by decide +kernel
theorem dX11_fits_4 : decode cX11_fits 4 = .ok (.ifCond .ne 6, 3) := by decide +kernel
theorem dX11_fits_7 : decode cX11_fits 7 = .ok (.bipush (-2), 2) := by decide +kernel
theorem dX11_fits_9 : decode cX11_fits 9 = .ok (.ireturn, 1) := by decide +kernel
theorem dX11_fits_10 : decode cX11_fits 10 = .ok (.aload_n 0, 1) := by decide +kernel
theorem dX11_fits_11 : decode cX11_fits 11 = .ok (.getfield 57, 3) := by decide +kernel
theorem dX11_fits_14 : decode cX11_fits 14 = .ok (.aload_n 0, 1) := by decide +kernel
theorem dX11_fits_15 : decode cX11_fits 15 = .ok (.getfield 75, 3) := by decide +kernel
theorem dX11_fits_18 : decode cX11_fits 18 = .ok (.aload_n 0, 1) := by decide +kernel
theorem dX11_fits_19 : decode cX11_fits 19 = .ok (.getfield 26, 3) := by decide +kernel
theorem dX11_fits_22 : decode cX11_fits 22 = .ok (.invokevirtual 236, 3) := by decide +kernel
theorem dX11_fits_25 : decode cX11_fits 25 = .ok (.iconst 0, 1) := by decide +kernel
theorem dX11_fits_26 : decode cX11_fits 26 = .ok (.istore_n 1, 1) := by decide +kernel
theorem dX11_fits_27 : decode cX11_fits 27 = .ok (.iconst 0, 1) := by decide +kernel
theorem dX11_fits_28 : decode cX11_fits 28 = .ok (.istore_n 2, 1) := by decide +kernel
theorem dX11_fits_29 : decode cX11_fits 29 = .ok (.iload_n 2, 1) := by decide +kernel
theorem dX11_fits_30 : decode cX11_fits 30 = .ok (.aload_n 0, 1) := by decide +kernel
theorem dX11_fits_31 : decode cX11_fits 31 = .ok (.getfield 75, 3) := by decide +kernel
theorem dX11_fits_34 : decode cX11_fits 34 = .ok (.getfield 119, 3) := by decide +kernel
theorem dX11_fits_37 : decode cX11_fits 37 = .ok (.getfield 123, 3) := by decide +kernel
theorem dX11_fits_40 : decode cX11_fits 40 = .ok (.if_icmp .ge 29, 3) := by decide +kernel
theorem dX11_fits_43 : decode cX11_fits 43 = .ok (.aload_n 0, 1) := by decide +kernel
theorem dX11_fits_44 : decode cX11_fits 44 = .ok (.getfield 57, 3) := by decide +kernel
theorem dX11_fits_47 : decode cX11_fits 47 = .ok (.getfield 239, 3) := by decide +kernel
theorem dX11_fits_50 : decode cX11_fits 50 = .ok (.iload_n 2, 1) := by decide +kernel
theorem dX11_fits_51 : decode cX11_fits 51 = .ok (.laload, 1) := by decide +kernel
theorem dX11_fits_52 : decode cX11_fits 52 = .ok (.lconst 0, 1) := by decide +kernel
theorem dX11_fits_53 : decode cX11_fits 53 = .ok (.lcmp, 1) := by decide +kernel
theorem dX11_fits_54 : decode cX11_fits 54 = .ok (.ifCond .le 9, 3) := by decide +kernel
theorem dX11_fits_57 : decode cX11_fits 57 = .ok (.iload_n 1, 1) := by decide +kernel
theorem dX11_fits_58 : decode cX11_fits 58 = .ok (.iconst 1, 1) := by decide +kernel
theorem dX11_fits_59 : decode cX11_fits 59 = .ok (.iload_n 2, 1) := by decide +kernel
theorem dX11_fits_60 : decode cX11_fits 60 = .ok (.ishl, 1) := by decide +kernel
theorem dX11_fits_61 : decode cX11_fits 61 = .ok (.ior, 1) := by decide +kernel
theorem dX11_fits_62 : decode cX11_fits 62 = .ok (.istore_n 1, 1) := by decide +kernel
theorem dX11_fits_63 : decode cX11_fits 63 = .ok (.iinc 2 1, 3) := by decide +kernel
theorem dX11_fits_66 : decode cX11_fits 66 = .ok (.goto (-37), 3) := by decide +kernel
theorem dX11_fits_69 : decode cX11_fits 69 = .ok (.iload_n 1, 1) := by decide +kernel
theorem dX11_fits_70 : decode cX11_fits 70 = .ok (.ireturn, 1) := by decide +kernel
theorem dX11_right_0 : decode cX11_right 0 = .ok (.aload_n 0, 1) := by decide +kernel
theorem dX11_right_1 : decode cX11_right 1 = .ok (.iload_n 1, 1) := by decide +kernel
theorem dX11_right_2 : decode cX11_right 2 = .ok (.invokevirtual 156, 3) := by decide +kernel
theorem dX11_right_5 : decode cX11_right 5 = .ok (.ifCond .eq 20, 3) := by decide +kernel
theorem dX11_right_8 : decode cX11_right 8 = .ok (.iload_n 2, 1) := by decide +kernel
theorem dX11_right_9 : decode cX11_right 9 = .ok (.iconst 1, 1) := by decide +kernel
theorem dX11_right_10 : decode cX11_right 10 = .ok (.if_icmp .lt 15, 3) := by decide +kernel
theorem dX11_right_13 : decode cX11_right 13 = .ok (.iload_n 2, 1) := by decide +kernel
theorem dX11_right_14 : decode cX11_right 14 = .ok (.iconst 3, 1) := by decide +kernel
theorem dX11_right_15 : decode cX11_right 15 = .ok (.if_icmp .gt 10, 3) := by decide +kernel
theorem dX11_right_18 : decode cX11_right 18 = .ok (.iload_n 3, 1) := by decide +kernel
theorem dX11_right_19 : decode cX11_right 19 = .ok (.invokestatic 225, 3) := by decide +kernel
theorem dX11_right_22 : decode cX11_right 22 = .ok (.ifCond .ne 7, 3) := by decide +kernel
theorem dX11_right_25 : decode cX11_right 25 = .ok (.ldc2_w 228, 3) := by decide +kernel
theorem dX11_right_28 : decode cX11_right 28 = .ok (.lreturn, 1) := by decide +kernel
theorem dX11_right_29 : decode cX11_right 29 = .ok (.aload_n 0, 1) := by decide +kernel
theorem dX11_right_30 : decode cX11_right 30 = .ok (.getfield 75, 3) := by decide +kernel
theorem dX11_right_33 : decode cX11_right 33 = .ok (.getfield 119, 3) := by decide +kernel
theorem dX11_right_36 : decode cX11_right 36 = .ok (.iload_n 1, 1) := by decide +kernel
theorem dX11_right_37 : decode cX11_right 37 = .ok (.invokevirtual 159, 3) := by decide +kernel
theorem dX11_right_40 : decode cX11_right 40 = .ok (.iload_n 2, 1) := by decide +kernel
theorem dX11_right_41 : decode cX11_right 41 = .ok (.imul, 1) := by decide +kernel
theorem dX11_right_42 : decode cX11_right 42 = .ok (.istore 4, 2) := by decide +kernel
theorem dX11_right_44 : decode cX11_right 44 = .ok (.iload 4, 2) := by decide +kernel
theorem dX11_right_46 : decode cX11_right 46 = .ok (.iconst 3, 1) := by decide +kernel
theorem dX11_right_47 : decode cX11_right 47 = .ok (.if_icmp .le 7, 3) := by decide +kernel
theorem dX11_right_50 : decode cX11_right 50 = .ok (.ldc2_w 234, 3) := by decide +kernel
theorem dX11_right_53 : decode cX11_right 53 = .ok (.lreturn, 1) := by decide +kernel
theorem dX11_right_54 : decode cX11_right 54 = .ok (.aload_n 0, 1) := by decide +kernel
theorem dX11_right_55 : decode cX11_right 55 = .ok (.getfield 57, 3) := by decide +kernel
theorem dX11_right_58 : decode cX11_right 58 = .ok (.aload_n 0, 1) := by decide +kernel
theorem dX11_right_59 : decode cX11_right 59 = .ok (.getfield 75, 3) := by decide +kernel
theorem dX11_right_62 : decode cX11_right 62 = .ok (.aload_n 0, 1) := by decide +kernel
theorem dX11_right_63 : decode cX11_right 63 = .ok (.getfield 26, 3) := by decide +kernel
theorem dX11_right_66 : decode cX11_right 66 = .ok (.iload_n 1, 1) := by decide +kernel
theorem dX11_right_67 : decode cX11_right 67 = .ok (.iload_n 2, 1) := by decide +kernel
theorem dX11_right_68 : decode cX11_right 68 = .ok (.invokevirtual 256, 3) := by decide +kernel
theorem dX11_right_71 : decode cX11_right 71 = .ok (.lstore 5, 2) := by decide +kernel
theorem dX11_right_73 : decode cX11_right 73 = .ok (.lload 5, 2) := by decide +kernel
theorem dX11_right_75 : decode cX11_right 75 = .ok (.aload_n 0, 1) := by decide +kernel
theorem dX11_right_76 : decode cX11_right 76 = .ok (.getfield 75, 3) := by decide +kernel
theorem dX11_right_79 : decode cX11_right 79 = .ok (.getfield 162, 3) := by decide +kernel
theorem dX11_right_82 : decode cX11_right 82 = .ok (.iload_n 1, 1) := by decide +kernel
theorem dX11_right_83 : decode cX11_right 83 = .ok (.iaload, 1) := by decide +kernel
theorem dX11_right_84 : decode cX11_right 84 = .ok (.i2l, 1) := by decide +kernel
theorem dX11_right_85 : decode cX11_right 85 = .ok (.ldc2_w 260, 3) := by decide +kernel
theorem dX11_right_88 : decode cX11_right 88 = .ok (.iconst 2, 1) := by decide +kernel
theorem dX11_right_89 : decode cX11_right 89 = .ok (.iload 4, 2) := by decide +kernel
theorem dX11_right_91 : decode cX11_right 91 = .ok (.imul, 1) := by decide +kernel
theorem dX11_right_92 : decode cX11_right 92 = .ok (.invokestatic 262, 3) := by decide +kernel
theorem dX11_right_95 : decode cX11_right 95 = .ok (.lmul, 1) := by decide +kernel
theorem dX11_right_96 : decode cX11_right 96 = .ok (.iload_n 3, 1) := by decide +kernel
theorem dX11_right_97 : decode cX11_right 97 = .ok (.invokestatic 252, 3) := by decide +kernel
theorem dX11_right_100 : decode cX11_right 100 = .ok (.lreturn, 1) := by decide +kernel
theorem dX11_mouths_0 : decode cX11_mouths 0 = .ok (.iload_n 1, 1) := by decide +kernel
theorem dX11_mouths_1 : decode cX11_mouths 1 = .ok (.invokestatic 266, 3) := by decide +kernel
theorem dX11_mouths_4 : decode cX11_mouths 4 = .ok (.ifCond .eq 28, 3) := by decide +kernel
theorem dX11_mouths_7 : decode cX11_mouths 7 = .ok (.iload_n 2, 1) := by decide +kernel
theorem dX11_mouths_8 : decode cX11_mouths 8 = .ok (.invokestatic 266, 3) := by decide +kernel
theorem dX11_mouths_11 : decode cX11_mouths 11 = .ok (.ifCond .eq 21, 3) := by decide +kernel
theorem dX11_mouths_14 : decode cX11_mouths 14 = .ok (.iload_n 3, 1) := by decide +kernel
theorem dX11_mouths_15 : decode cX11_mouths 15 = .ok (.ifCond .lt 17, 3) := by decide +kernel
theorem dX11_mouths_18 : decode cX11_mouths 18 = .ok (.iload_n 3, 1) := by decide +kernel
theorem dX11_mouths_19 : decode cX11_mouths 19 = .ok (.bipush 10, 2) := by decide +kernel
theorem dX11_mouths_21 : decode cX11_mouths 21 = .ok (.if_icmp .gt 11, 3) := by decide +kernel
theorem dX11_mouths_24 : decode cX11_mouths 24 = .ok (.iload 4, 2) := by decide +kernel
theorem dX11_mouths_26 : decode cX11_mouths 26 = .ok (.invokestatic 225, 3) := by decide +kernel
theorem dX11_mouths_29 : decode cX11_mouths 29 = .ok (.ifCond .ne 7, 3) := by decide +kernel
theorem dX11_mouths_32 : decode cX11_mouths 32 = .ok (.ldc2_w 228, 3) := by decide +kernel
theorem dX11_mouths_35 : decode cX11_mouths 35 = .ok (.lreturn, 1) := by decide +kernel
theorem dX11_mouths_36 : decode cX11_mouths 36 = .ok (.aload_n 0, 1) := by decide +kernel
theorem dX11_mouths_37 : decode cX11_mouths 37 = .ok (.getfield 64, 3) := by decide +kernel
theorem dX11_mouths_40 : decode cX11_mouths 40 = .ok (.aload_n 0, 1) := by decide +kernel
theorem dX11_mouths_41 : decode cX11_mouths 41 = .ok (.getfield 75, 3) := by decide +kernel
theorem dX11_mouths_44 : decode cX11_mouths 44 = .ok (.iload_n 1, 1) := by decide +kernel
theorem dX11_mouths_45 : decode cX11_mouths 45 = .ok (.iload_n 3, 1) := by decide +kernel
theorem dX11_mouths_46 : decode cX11_mouths 46 = .ok (.invokevirtual 269, 3) := by decide +kernel
theorem dX11_mouths_49 : decode cX11_mouths 49 = .ok (.aload_n 0, 1) := by decide +kernel
theorem dX11_mouths_50 : decode cX11_mouths 50 = .ok (.getfield 64, 3) := by decide +kernel
theorem dX11_mouths_53 : decode cX11_mouths 53 = .ok (.getfield 273, 3) := by decide +kernel
theorem dX11_mouths_56 : decode cX11_mouths 56 = .ok (.iload_n 2, 1) := by decide +kernel
theorem dX11_mouths_57 : decode cX11_mouths 57 = .ok (.iconst 1, 1) := by decide +kernel
theorem dX11_mouths_58 : decode cX11_mouths 58 = .ok (.isub, 1) := by decide +kernel
theorem dX11_mouths_59 : decode cX11_mouths 59 = .ok (.laload, 1) := by decide +kernel
theorem dX11_mouths_60 : decode cX11_mouths 60 = .ok (.ldc2_w 260, 3) := by decide +kernel
theorem dX11_mouths_63 : decode cX11_mouths 63 = .ok (.iload_n 3, 1) := by decide +kernel
theorem dX11_mouths_64 : decode cX11_mouths 64 = .ok (.invokestatic 262, 3) := by decide +kernel
theorem dX11_mouths_67 : decode cX11_mouths 67 = .ok (.iload 4, 2) := by decide +kernel
theorem dX11_mouths_69 : decode cX11_mouths 69 = .ok (.invokestatic 252, 3) := by decide +kernel
theorem dX11_mouths_72 : decode cX11_mouths 72 = .ok (.lreturn, 1) := by decide +kernel
theorem dX11_letter_0 : decode cX11_letter 0 = .ok (.iload_n 1, 1) := by decide +kernel
theorem dX11_letter_1 : decode cX11_letter 1 = .ok (.invokestatic 147, 3) := by decide +kernel
theorem dX11_letter_4 : decode cX11_letter 4 = .ok (.ifCond .eq 27, 3) := by decide +kernel
theorem dX11_letter_7 : decode cX11_letter 7 = .ok (.iload_n 2, 1) := by decide +kernel
theorem dX11_letter_8 : decode cX11_letter 8 = .ok (.invokestatic 147, 3) := by decide +kernel
theorem dX11_letter_11 : decode cX11_letter 11 = .ok (.ifCond .eq 20, 3) := by decide +kernel
theorem dX11_letter_14 : decode cX11_letter 14 = .ok (.iload_n 3, 1) := by decide +kernel
theorem dX11_letter_15 : decode cX11_letter 15 = .ok (.ifCond .lt 16, 3) := by decide +kernel
theorem dX11_letter_18 : decode cX11_letter 18 = .ok (.iload_n 3, 1) := by decide +kernel
theorem dX11_letter_19 : decode cX11_letter 19 = .ok (.iconst 5, 1) := by decide +kernel
theorem dX11_letter_20 : decode cX11_letter 20 = .ok (.if_icmp .gt 11, 3) := by decide +kernel
theorem dX11_letter_23 : decode cX11_letter 23 = .ok (.iload 4, 2) := by decide +kernel
theorem dX11_letter_25 : decode cX11_letter 25 = .ok (.invokestatic 225, 3) := by decide +kernel
theorem dX11_letter_28 : decode cX11_letter 28 = .ok (.ifCond .ne 7, 3) := by decide +kernel
theorem dX11_letter_31 : decode cX11_letter 31 = .ok (.ldc2_w 228, 3) := by decide +kernel
theorem dX11_letter_34 : decode cX11_letter 34 = .ok (.lreturn, 1) := by decide +kernel
theorem dX11_letter_35 : decode cX11_letter 35 = .ok (.aload_n 0, 1) := by decide +kernel
theorem dX11_letter_36 : decode cX11_letter 36 = .ok (.getfield 64, 3) := by decide +kernel
theorem dX11_letter_39 : decode cX11_letter 39 = .ok (.aload_n 0, 1) := by decide +kernel
theorem dX11_letter_40 : decode cX11_letter 40 = .ok (.getfield 75, 3) := by decide +kernel
theorem dX11_letter_43 : decode cX11_letter 43 = .ok (.iload_n 1, 1) := by decide +kernel
theorem dX11_letter_44 : decode cX11_letter 44 = .ok (.iconst 5, 1) := by decide +kernel
theorem dX11_letter_45 : decode cX11_letter 45 = .ok (.idiv, 1) := by decide +kernel
theorem dX11_letter_46 : decode cX11_letter 46 = .ok (.iconst 1, 1) := by decide +kernel
theorem dX11_letter_47 : decode cX11_letter 47 = .ok (.iadd, 1) := by decide +kernel
theorem dX11_letter_48 : decode cX11_letter 48 = .ok (.iload_n 3, 1) := by decide +kernel
theorem dX11_letter_49 : decode cX11_letter 49 = .ok (.invokevirtual 269, 3) := by decide +kernel
theorem dX11_letter_52 : decode cX11_letter 52 = .ok (.aload_n 0, 1) := by decide +kernel
theorem dX11_letter_53 : decode cX11_letter 53 = .ok (.getfield 64, 3) := by decide +kernel
theorem dX11_letter_56 : decode cX11_letter 56 = .ok (.getfield 273, 3) := by decide +kernel
theorem dX11_letter_59 : decode cX11_letter 59 = .ok (.iload_n 2, 1) := by decide +kernel
theorem dX11_letter_60 : decode cX11_letter 60 = .ok (.iconst 5, 1) := by decide +kernel
theorem dX11_letter_61 : decode cX11_letter 61 = .ok (.idiv, 1) := by decide +kernel
theorem dX11_letter_62 : decode cX11_letter 62 = .ok (.laload, 1) := by decide +kernel
theorem dX11_letter_63 : decode cX11_letter 63 = .ok (.lstore 5, 2) := by decide +kernel
theorem dX11_letter_65 : decode cX11_letter 65 = .ok (.aload_n 0, 1) := by decide +kernel
theorem dX11_letter_66 : decode cX11_letter 66 = .ok (.getfield 64, 3) := by decide +kernel
theorem dX11_letter_69 : decode cX11_letter 69 = .ok (.aload_n 0, 1) := by decide +kernel
theorem dX11_letter_70 : decode cX11_letter 70 = .ok (.getfield 75, 3) := by decide +kernel
theorem dX11_letter_73 : decode cX11_letter 73 = .ok (.iload_n 1, 1) := by decide +kernel
theorem dX11_letter_74 : decode cX11_letter 74 = .ok (.iconst 5, 1) := by decide +kernel
theorem dX11_letter_75 : decode cX11_letter 75 = .ok (.irem, 1) := by decide +kernel
theorem dX11_letter_76 : decode cX11_letter 76 = .ok (.iconst 1, 1) := by decide +kernel
theorem dX11_letter_77 : decode cX11_letter 77 = .ok (.iadd, 1) := by decide +kernel
theorem dX11_letter_78 : decode cX11_letter 78 = .ok (.iload_n 3, 1) := by decide +kernel
theorem dX11_letter_79 : decode cX11_letter 79 = .ok (.invokevirtual 269, 3) := by decide +kernel
theorem dX11_letter_82 : decode cX11_letter 82 = .ok (.aload_n 0, 1) := by decide +kernel
theorem dX11_letter_83 : decode cX11_letter 83 = .ok (.getfield 64, 3) := by decide +kernel
theorem dX11_letter_86 : decode cX11_letter 86 = .ok (.getfield 273, 3) := by decide +kernel
theorem dX11_letter_89 : decode cX11_letter 89 = .ok (.iload_n 2, 1) := by decide +kernel
theorem dX11_letter_90 : decode cX11_letter 90 = .ok (.iconst 5, 1) := by decide +kernel
theorem dX11_letter_91 : decode cX11_letter 91 = .ok (.irem, 1) := by decide +kernel
theorem dX11_letter_92 : decode cX11_letter 92 = .ok (.laload, 1) := by decide +kernel
theorem dX11_letter_93 : decode cX11_letter 93 = .ok (.lstore 7, 2) := by decide +kernel
theorem dX11_letter_95 : decode cX11_letter 95 = .ok (.lload 5, 2) := by decide +kernel
theorem dX11_letter_97 : decode cX11_letter 97 = .ok (.lload 7, 2) := by decide +kernel
theorem dX11_letter_99 : decode cX11_letter 99 = .ok (.lmul, 1) := by decide +kernel
theorem dX11_letter_100 : decode cX11_letter 100 = .ok (.ldc2_w 260, 3) := by decide +kernel
theorem dX11_letter_103 : decode cX11_letter 103 = .ok (.iconst 2, 1) := by decide +kernel
theorem dX11_letter_104 : decode cX11_letter 104 = .ok (.iload_n 3, 1) := by decide +kernel
theorem dX11_letter_105 : decode cX11_letter 105 = .ok (.imul, 1) := by decide +kernel
theorem dX11_letter_106 : decode cX11_letter 106 = .ok (.invokestatic 262, 3) := by decide +kernel
theorem dX11_letter_109 : decode cX11_letter 109 = .ok (.iload 4, 2) := by decide +kernel
theorem dX11_letter_111 : decode cX11_letter 111 = .ok (.invokestatic 252, 3) := by decide +kernel
theorem dX11_letter_114 : decode cX11_letter 114 = .ok (.lreturn, 1) := by decide +kernel
theorem dX11_becomes_0 : decode cX11_becomes 0 = .ok (.iload_n 1, 1) := by decide +kernel
theorem dX11_becomes_1 : decode cX11_becomes 1 = .ok (.invokestatic 147, 3) := by decide +kernel
theorem dX11_becomes_4 : decode cX11_becomes 4 = .ok (.ifCond .eq 12, 3) := by decide +kernel
theorem dX11_becomes_7 : decode cX11_becomes 7 = .ok (.iload_n 2, 1) := by decide +kernel
theorem dX11_becomes_8 : decode cX11_becomes 8 = .ok (.ifCond .lt 8, 3) := by decide +kernel
theorem dX11_becomes_11 : decode cX11_becomes 11 = .ok (.iload_n 2, 1) := by decide +kernel
theorem dX11_becomes_12 : decode cX11_becomes 12 = .ok (.iconst 5, 1) := by decide +kernel
theorem dX11_becomes_13 : decode cX11_becomes 13 = .ok (.if_icmp .le 5, 3) := by decide +kernel
theorem dX11_becomes_16 : decode cX11_becomes 16 = .ok (.iconst (-1), 1) := by decide +kernel
theorem dX11_becomes_17 : decode cX11_becomes 17 = .ok (.ireturn, 1) := by decide +kernel
theorem dX11_becomes_18 : decode cX11_becomes 18 = .ok (.aload_n 0, 1) := by decide +kernel
theorem dX11_becomes_19 : decode cX11_becomes 19 = .ok (.getfield 64, 3) := by decide +kernel
theorem dX11_becomes_22 : decode cX11_becomes 22 = .ok (.aload_n 0, 1) := by decide +kernel
theorem dX11_becomes_23 : decode cX11_becomes 23 = .ok (.getfield 75, 3) := by decide +kernel
theorem dX11_becomes_26 : decode cX11_becomes 26 = .ok (.iload_n 1, 1) := by decide +kernel
theorem dX11_becomes_27 : decode cX11_becomes 27 = .ok (.iconst 5, 1) := by decide +kernel
theorem dX11_becomes_28 : decode cX11_becomes 28 = .ok (.idiv, 1) := by decide +kernel
theorem dX11_becomes_29 : decode cX11_becomes 29 = .ok (.iconst 1, 1) := by decide +kernel
theorem dX11_becomes_30 : decode cX11_becomes 30 = .ok (.iadd, 1) := by decide +kernel
theorem dX11_becomes_31 : decode cX11_becomes 31 = .ok (.iload_n 2, 1) := by decide +kernel
theorem dX11_becomes_32 : decode cX11_becomes 32 = .ok (.invokevirtual 269, 3) := by decide +kernel
theorem dX11_becomes_35 : decode cX11_becomes 35 = .ok (.aload_n 0, 1) := by decide +kernel
theorem dX11_becomes_36 : decode cX11_becomes 36 = .ok (.getfield 64, 3) := by decide +kernel
theorem dX11_becomes_39 : decode cX11_becomes 39 = .ok (.invokevirtual 276, 3) := by decide +kernel
theorem dX11_becomes_42 : decode cX11_becomes 42 = .ok (.istore_n 3, 1) := by decide +kernel
theorem dX11_becomes_43 : decode cX11_becomes 43 = .ok (.aload_n 0, 1) := by decide +kernel
theorem dX11_becomes_44 : decode cX11_becomes 44 = .ok (.getfield 64, 3) := by decide +kernel
theorem dX11_becomes_47 : decode cX11_becomes 47 = .ok (.aload_n 0, 1) := by decide +kernel
theorem dX11_becomes_48 : decode cX11_becomes 48 = .ok (.getfield 75, 3) := by decide +kernel
theorem dX11_becomes_51 : decode cX11_becomes 51 = .ok (.iload_n 1, 1) := by decide +kernel
theorem dX11_becomes_52 : decode cX11_becomes 52 = .ok (.iconst 5, 1) := by decide +kernel
theorem dX11_becomes_53 : decode cX11_becomes 53 = .ok (.irem, 1) := by decide +kernel
theorem dX11_becomes_54 : decode cX11_becomes 54 = .ok (.iconst 1, 1) := by decide +kernel
theorem dX11_becomes_55 : decode cX11_becomes 55 = .ok (.iadd, 1) := by decide +kernel
theorem dX11_becomes_56 : decode cX11_becomes 56 = .ok (.iload_n 2, 1) := by decide +kernel
theorem dX11_becomes_57 : decode cX11_becomes 57 = .ok (.invokevirtual 269, 3) := by decide +kernel
theorem dX11_becomes_60 : decode cX11_becomes 60 = .ok (.iconst 5, 1) := by decide +kernel
theorem dX11_becomes_61 : decode cX11_becomes 61 = .ok (.iload_n 3, 1) := by decide +kernel
theorem dX11_becomes_62 : decode cX11_becomes 62 = .ok (.imul, 1) := by decide +kernel
theorem dX11_becomes_63 : decode cX11_becomes 63 = .ok (.aload_n 0, 1) := by decide +kernel
theorem dX11_becomes_64 : decode cX11_becomes 64 = .ok (.getfield 64, 3) := by decide +kernel
theorem dX11_becomes_67 : decode cX11_becomes 67 = .ok (.invokevirtual 276, 3) := by decide +kernel
theorem dX11_becomes_70 : decode cX11_becomes 70 = .ok (.iadd, 1) := by decide +kernel
theorem dX11_becomes_71 : decode cX11_becomes 71 = .ok (.ireturn, 1) := by decide +kernel
theorem dX11_pipe_0 : decode cX11_pipe 0 = .ok (.iload_n 1, 1) := by decide +kernel
theorem dX11_pipe_1 : decode cX11_pipe 1 = .ok (.iconst 1, 1) := by decide +kernel
theorem dX11_pipe_2 : decode cX11_pipe 2 = .ok (.if_icmp .lt 26, 3) := by decide +kernel
theorem dX11_pipe_5 : decode cX11_pipe 5 = .ok (.iload_n 1, 1) := by decide +kernel
theorem dX11_pipe_6 : decode cX11_pipe 6 = .ok (.bipush 10, 2) := by decide +kernel
theorem dX11_pipe_8 : decode cX11_pipe 8 = .ok (.if_icmp .gt 20, 3) := by decide +kernel
theorem dX11_pipe_11 : decode cX11_pipe 11 = .ok (.iload_n 2, 1) := by decide +kernel
theorem dX11_pipe_12 : decode cX11_pipe 12 = .ok (.ifCond .lt 16, 3) := by decide +kernel
theorem dX11_pipe_15 : decode cX11_pipe 15 = .ok (.iload_n 2, 1) := by decide +kernel
theorem dX11_pipe_16 : decode cX11_pipe 16 = .ok (.bipush 20, 2) := by decide +kernel
theorem dX11_pipe_18 : decode cX11_pipe 18 = .ok (.if_icmp .gt 10, 3) := by decide +kernel
theorem dX11_pipe_21 : decode cX11_pipe 21 = .ok (.iload_n 3, 1) := by decide +kernel
theorem dX11_pipe_22 : decode cX11_pipe 22 = .ok (.invokestatic 225, 3) := by decide +kernel
theorem dX11_pipe_25 : decode cX11_pipe 25 = .ok (.ifCond .ne 7, 3) := by decide +kernel
theorem dX11_pipe_28 : decode cX11_pipe 28 = .ok (.ldc2_w 228, 3) := by decide +kernel
theorem dX11_pipe_31 : decode cX11_pipe 31 = .ok (.lreturn, 1) := by decide +kernel
theorem dX11_pipe_32 : decode cX11_pipe 32 = .ok (.iload_n 1, 1) := by decide +kernel
theorem dX11_pipe_33 : decode cX11_pipe 33 = .ok (.iload_n 2, 1) := by decide +kernel
theorem dX11_pipe_34 : decode cX11_pipe 34 = .ok (.invokestatic 280, 3) := by decide +kernel
theorem dX11_pipe_37 : decode cX11_pipe 37 = .ok (.ldc2_w 260, 3) := by decide +kernel
theorem dX11_pipe_40 : decode cX11_pipe 40 = .ok (.iload_n 1, 1) := by decide +kernel
theorem dX11_pipe_41 : decode cX11_pipe 41 = .ok (.invokestatic 262, 3) := by decide +kernel
theorem dX11_pipe_44 : decode cX11_pipe 44 = .ok (.iload_n 3, 1) := by decide +kernel
theorem dX11_pipe_45 : decode cX11_pipe 45 = .ok (.invokestatic 252, 3) := by decide +kernel
theorem dX11_pipe_48 : decode cX11_pipe 48 = .ok (.lreturn, 1) := by decide +kernel
theorem dX11_turns_0 : decode cX11_turns 0 = .ok (.iload_n 1, 1) := by decide +kernel
theorem dX11_turns_1 : decode cX11_turns 1 = .ok (.iconst 1, 1) := by decide +kernel
theorem dX11_turns_2 : decode cX11_turns 2 = .ok (.if_icmp .lt 9, 3) := by decide +kernel
theorem dX11_turns_5 : decode cX11_turns 5 = .ok (.iload_n 1, 1) := by decide +kernel
theorem dX11_turns_6 : decode cX11_turns 6 = .ok (.bipush 10, 2) := by decide +kernel
theorem dX11_turns_8 : decode cX11_turns 8 = .ok (.if_icmp .le 5, 3) := by decide +kernel
theorem dX11_turns_11 : decode cX11_turns 11 = .ok (.iconst (-1), 1) := by decide +kernel
theorem dX11_turns_12 : decode cX11_turns 12 = .ok (.ireturn, 1) := by decide +kernel
theorem dX11_turns_13 : decode cX11_turns 13 = .ok (.iconst 0, 1) := by decide +kernel
theorem dX11_turns_14 : decode cX11_turns 14 = .ok (.istore_n 2, 1) := by decide +kernel
theorem dX11_turns_15 : decode cX11_turns 15 = .ok (.lconst 0, 1) := by decide +kernel
theorem dX11_turns_16 : decode cX11_turns 16 = .ok (.lstore_n 3, 1) := by decide +kernel
theorem dX11_turns_17 : decode cX11_turns 17 = .ok (.iconst 1, 1) := by decide +kernel
theorem dX11_turns_18 : decode cX11_turns 18 = .ok (.istore 5, 2) := by decide +kernel
theorem dX11_turns_20 : decode cX11_turns 20 = .ok (.iload 5, 2) := by decide +kernel
theorem dX11_turns_22 : decode cX11_turns 22 = .ok (.bipush 20, 2) := by decide +kernel
theorem dX11_turns_24 : decode cX11_turns 24 = .ok (.if_icmp .gt 30, 3) := by decide +kernel
theorem dX11_turns_27 : decode cX11_turns 27 = .ok (.iload_n 1, 1) := by decide +kernel
theorem dX11_turns_28 : decode cX11_turns 28 = .ok (.iload 5, 2) := by decide +kernel
theorem dX11_turns_30 : decode cX11_turns 30 = .ok (.invokestatic 280, 3) := by decide +kernel
theorem dX11_turns_33 : decode cX11_turns 33 = .ok (.lstore 6, 2) := by decide +kernel
theorem dX11_turns_35 : decode cX11_turns 35 = .ok (.lload 6, 2) := by decide +kernel
theorem dX11_turns_37 : decode cX11_turns 37 = .ok (.lload_n 3, 1) := by decide +kernel
theorem dX11_turns_38 : decode cX11_turns 38 = .ok (.lcmp, 1) := by decide +kernel
theorem dX11_turns_39 : decode cX11_turns 39 = .ok (.ifCond .le 9, 3) := by decide +kernel
theorem dX11_turns_42 : decode cX11_turns 42 = .ok (.iload 5, 2) := by decide +kernel
theorem dX11_turns_44 : decode cX11_turns 44 = .ok (.istore_n 2, 1) := by decide +kernel
theorem dX11_turns_45 : decode cX11_turns 45 = .ok (.lload 6, 2) := by decide +kernel
theorem dX11_turns_47 : decode cX11_turns 47 = .ok (.lstore_n 3, 1) := by decide +kernel
theorem dX11_turns_48 : decode cX11_turns 48 = .ok (.iinc 5 1, 3) := by decide +kernel
theorem dX11_turns_51 : decode cX11_turns 51 = .ok (.goto (-31), 3) := by decide +kernel
theorem dX11_turns_54 : decode cX11_turns 54 = .ok (.iload_n 2, 1) := by decide +kernel
theorem dX11_turns_55 : decode cX11_turns 55 = .ok (.ireturn, 1) := by decide +kernel
theorem dX11_still_0 : decode cX11_still 0 = .ok (.iload_n 1, 1) := by decide +kernel
theorem dX11_still_1 : decode cX11_still 1 = .ok (.invokestatic 284, 3) := by decide +kernel
theorem dX11_still_4 : decode cX11_still 4 = .ok (.ifCond .eq 12, 3) := by decide +kernel
theorem dX11_still_7 : decode cX11_still 7 = .ok (.iload_n 2, 1) := by decide +kernel
theorem dX11_still_8 : decode cX11_still 8 = .ok (.ifCond .lt 8, 3) := by decide +kernel
theorem dX11_still_11 : decode cX11_still 11 = .ok (.iload_n 2, 1) := by decide +kernel
theorem dX11_still_12 : decode cX11_still 12 = .ok (.iconst 2, 1) := by decide +kernel
theorem dX11_still_13 : decode cX11_still 13 = .ok (.if_icmp .le 5, 3) := by decide +kernel
theorem dX11_still_16 : decode cX11_still 16 = .ok (.iconst (-1), 1) := by decide +kernel
theorem dX11_still_17 : decode cX11_still 17 = .ok (.ireturn, 1) := by decide +kernel
theorem dX11_still_18 : decode cX11_still 18 = .ok (.iload_n 2, 1) := by decide +kernel
theorem dX11_still_19 : decode cX11_still 19 = .ok (.ifCond .ne 16, 3) := by decide +kernel
theorem dX11_still_22 : decode cX11_still 22 = .ok (.aload_n 0, 1) := by decide +kernel
theorem dX11_still_23 : decode cX11_still 23 = .ok (.getfield 75, 3) := by decide +kernel
theorem dX11_still_26 : decode cX11_still 26 = .ok (.getfield 287, 3) := by decide +kernel
theorem dX11_still_29 : decode cX11_still 29 = .ok (.getfield 291, 3) := by decide +kernel
theorem dX11_still_32 : decode cX11_still 32 = .ok (.iload_n 1, 1) := by decide +kernel
theorem dX11_still_33 : decode cX11_still 33 = .ok (.baload, 1) := by decide +kernel
theorem dX11_still_34 : decode cX11_still 34 = .ok (.ireturn, 1) := by decide +kernel
theorem dX11_still_35 : decode cX11_still 35 = .ok (.aload_n 0, 1) := by decide +kernel
theorem dX11_still_36 : decode cX11_still 36 = .ok (.getfield 75, 3) := by decide +kernel
theorem dX11_still_39 : decode cX11_still 39 = .ok (.getfield 287, 3) := by decide +kernel
theorem dX11_still_42 : decode cX11_still 42 = .ok (.iload_n 1, 1) := by decide +kernel
theorem dX11_still_43 : decode cX11_still 43 = .ok (.iload_n 2, 1) := by decide +kernel
theorem dX11_still_44 : decode cX11_still 44 = .ok (.iconst 1, 1) := by decide +kernel
theorem dX11_still_45 : decode cX11_still 45 = .ok (.isub, 1) := by decide +kernel
theorem dX11_still_46 : decode cX11_still 46 = .ok (.invokevirtual 296, 3) := by decide +kernel
theorem dX11_still_49 : decode cX11_still 49 = .ok (.istore_n 3, 1) := by decide +kernel
theorem dX11_still_50 : decode cX11_still 50 = .ok (.iload_n 3, 1) := by decide +kernel
theorem dX11_still_51 : decode cX11_still 51 = .ok (.ifCond .ge 8, 3) := by decide +kernel
theorem dX11_still_54 : decode cX11_still 54 = .ok (.bipush (-4), 2) := by decide +kernel
theorem dX11_still_56 : decode cX11_still 56 = .ok (.goto 4, 3) := by decide +kernel
theorem dX11_still_59 : decode cX11_still 59 = .ok (.iload_n 3, 1) := by decide +kernel
theorem dX11_still_60 : decode cX11_still 60 = .ok (.ireturn, 1) := by decide +kernel
theorem dX11_begin_0 : decode cX11_begin 0 = .ok (.iload_n 1, 1) := by decide +kernel
theorem dX11_begin_1 : decode cX11_begin 1 = .ok (.invokestatic 284, 3) := by decide +kernel
theorem dX11_begin_4 : decode cX11_begin 4 = .ok (.ifCond .eq 10, 3) := by decide +kernel
theorem dX11_begin_7 : decode cX11_begin 7 = .ok (.iload_n 2, 1) := by decide +kernel
theorem dX11_begin_8 : decode cX11_begin 8 = .ok (.invokestatic 299, 3) := by decide +kernel
theorem dX11_begin_11 : decode cX11_begin 11 = .ok (.ifCond .ne 5, 3) := by decide +kernel
theorem dX11_begin_14 : decode cX11_begin 14 = .ok (.iconst (-1), 1) := by decide +kernel
theorem dX11_begin_15 : decode cX11_begin 15 = .ok (.ireturn, 1) := by decide +kernel
theorem dX11_begin_16 : decode cX11_begin 16 = .ok (.aload_n 0, 1) := by decide +kernel
theorem dX11_begin_17 : decode cX11_begin 17 = .ok (.getfield 75, 3) := by decide +kernel
theorem dX11_begin_20 : decode cX11_begin 20 = .ok (.getfield 287, 3) := by decide +kernel
theorem dX11_begin_23 : decode cX11_begin 23 = .ok (.iload_n 1, 1) := by decide +kernel
theorem dX11_begin_24 : decode cX11_begin 24 = .ok (.iload_n 2, 1) := by decide +kernel
theorem dX11_begin_25 : decode cX11_begin 25 = .ok (.invokevirtual 302, 3) := by decide +kernel
theorem dX11_begin_28 : decode cX11_begin 28 = .ok (.istore_n 3, 1) := by decide +kernel
theorem dX11_begin_29 : decode cX11_begin 29 = .ok (.iload_n 3, 1) := by decide +kernel
theorem dX11_begin_30 : decode cX11_begin 30 = .ok (.ifCond .ge 8, 3) := by decide +kernel
theorem dX11_begin_33 : decode cX11_begin 33 = .ok (.bipush (-4), 2) := by decide +kernel
theorem dX11_begin_35 : decode cX11_begin 35 = .ok (.goto 4, 3) := by decide +kernel
theorem dX11_begin_38 : decode cX11_begin 38 = .ok (.iload_n 3, 1) := by decide +kernel
theorem dX11_begin_39 : decode cX11_begin 39 = .ok (.ireturn, 1) := by decide +kernel
theorem dX11_nights_0 : decode cX11_nights 0 = .ok (.iload_n 1, 1) := by decide +kernel
theorem dX11_nights_1 : decode cX11_nights 1 = .ok (.invokestatic 299, 3) := by decide +kernel
theorem dX11_nights_4 : decode cX11_nights 4 = .ok (.ifCond .eq 17, 3) := by decide +kernel
theorem dX11_nights_7 : decode cX11_nights 7 = .ok (.aload_n 0, 1) := by decide +kernel
theorem dX11_nights_8 : decode cX11_nights 8 = .ok (.getfield 75, 3) := by decide +kernel
theorem dX11_nights_11 : decode cX11_nights 11 = .ok (.getfield 287, 3) := by decide +kernel
theorem dX11_nights_14 : decode cX11_nights 14 = .ok (.iload_n 1, 1) := by decide +kernel
theorem dX11_nights_15 : decode cX11_nights 15 = .ok (.invokevirtual 305, 3) := by decide +kernel
theorem dX11_nights_18 : decode cX11_nights 18 = .ok (.goto 4, 3) := by decide +kernel
theorem dX11_nights_21 : decode cX11_nights 21 = .ok (.iconst (-1), 1) := by decide +kernel
theorem dX11_nights_22 : decode cX11_nights 22 = .ok (.ireturn, 1) := by decide +kernel
theorem dX11_longest_0 : decode cX11_longest 0 = .ok (.iload_n 1, 1) := by decide +kernel
theorem dX11_longest_1 : decode cX11_longest 1 = .ok (.invokestatic 225, 3) := by decide +kernel
theorem dX11_longest_4 : decode cX11_longest 4 = .ok (.ifCond .ne 5, 3) := by decide +kernel
theorem dX11_longest_7 : decode cX11_longest 7 = .ok (.iconst (-1), 1) := by decide +kernel
theorem dX11_longest_8 : decode cX11_longest 8 = .ok (.ireturn, 1) := by decide +kernel
theorem dX11_longest_9 : decode cX11_longest 9 = .ok (.aload_n 0, 1) := by decide +kernel
theorem dX11_longest_10 : decode cX11_longest 10 = .ok (.getfield 75, 3) := by decide +kernel
theorem dX11_longest_13 : decode cX11_longest 13 = .ok (.getfield 287, 3) := by decide +kernel
theorem dX11_longest_16 : decode cX11_longest 16 = .ok (.invokevirtual 308, 3) := by decide +kernel
theorem dX11_longest_19 : decode cX11_longest 19 = .ok (.istore_n 2, 1) := by decide +kernel
theorem dX11_longest_20 : decode cX11_longest 20 = .ok (.iload_n 1, 1) := by decide +kernel
theorem dX11_longest_21 : decode cX11_longest 21 = .ok (.ifCond .ne 5, 3) := by decide +kernel
theorem dX11_longest_24 : decode cX11_longest 24 = .ok (.iload_n 2, 1) := by decide +kernel
theorem dX11_longest_25 : decode cX11_longest 25 = .ok (.ireturn, 1) := by decide +kernel
theorem dX11_longest_26 : decode cX11_longest 26 = .ok (.iload_n 2, 1) := by decide +kernel
theorem dX11_longest_27 : decode cX11_longest 27 = .ok (.ifCond .ne 8, 3) := by decide +kernel
theorem dX11_longest_30 : decode cX11_longest 30 = .ok (.bipush (-4), 2) := by decide +kernel
theorem dX11_longest_32 : decode cX11_longest 32 = .ok (.goto 15, 3) := by decide +kernel
theorem dX11_longest_35 : decode cX11_longest 35 = .ok (.aload_n 0, 1) := by decide +kernel
theorem dX11_longest_36 : decode cX11_longest 36 = .ok (.getfield 75, 3) := by decide +kernel
theorem dX11_longest_39 : decode cX11_longest 39 = .ok (.getfield 287, 3) := by decide +kernel
theorem dX11_longest_42 : decode cX11_longest 42 = .ok (.iconst 0, 1) := by decide +kernel
theorem dX11_longest_43 : decode cX11_longest 43 = .ok (.iload_n 2, 1) := by decide +kernel
theorem dX11_longest_44 : decode cX11_longest 44 = .ok (.invokevirtual 302, 3) := by decide +kernel
theorem dX11_longest_47 : decode cX11_longest 47 = .ok (.ireturn, 1) := by decide +kernel
theorem dX11_teach_0 : decode cX11_teach 0 = .ok (.iload_n 1, 1) := by decide +kernel
theorem dX11_teach_1 : decode cX11_teach 1 = .ok (.ifCond .lt 8, 3) := by decide +kernel
theorem dX11_teach_4 : decode cX11_teach 4 = .ok (.iload_n 1, 1) := by decide +kernel
theorem dX11_teach_5 : decode cX11_teach 5 = .ok (.iconst 2, 1) := by decide +kernel
theorem dX11_teach_6 : decode cX11_teach 6 = .ok (.if_icmp .le 5, 3) := by decide +kernel
theorem dX11_teach_9 : decode cX11_teach 9 = .ok (.iconst (-1), 1) := by decide +kernel
theorem dX11_teach_10 : decode cX11_teach 10 = .ok (.ireturn, 1) := by decide +kernel
theorem dX11_teach_11 : decode cX11_teach 11 = .ok (.iconst 0, 1) := by decide +kernel
theorem dX11_teach_12 : decode cX11_teach 12 = .ok (.istore_n 2, 1) := by decide +kernel
theorem dX11_teach_13 : decode cX11_teach 13 = .ok (.iload_n 2, 1) := by decide +kernel
theorem dX11_teach_14 : decode cX11_teach 14 = .ok (.aload_n 0, 1) := by decide +kernel
theorem dX11_teach_15 : decode cX11_teach 15 = .ok (.getfield 75, 3) := by decide +kernel
theorem dX11_teach_18 : decode cX11_teach 18 = .ok (.getfield 119, 3) := by decide +kernel
theorem dX11_teach_21 : decode cX11_teach 21 = .ok (.getfield 123, 3) := by decide +kernel
theorem dX11_teach_24 : decode cX11_teach 24 = .ok (.if_icmp .ge 30, 3) := by decide +kernel
theorem dX11_teach_27 : decode cX11_teach 27 = .ok (.aload_n 0, 1) := by decide +kernel
theorem dX11_teach_28 : decode cX11_teach 28 = .ok (.getfield 68, 3) := by decide +kernel
theorem dX11_teach_31 : decode cX11_teach 31 = .ok (.iload_n 2, 1) := by decide +kernel
theorem dX11_teach_32 : decode cX11_teach 32 = .ok (.aload_n 0, 1) := by decide +kernel
theorem dX11_teach_33 : decode cX11_teach 33 = .ok (.getfield 26, 3) := by decide +kernel
theorem dX11_teach_36 : decode cX11_teach 36 = .ok (.aload_n 0, 1) := by decide +kernel
theorem dX11_teach_37 : decode cX11_teach 37 = .ok (.getfield 75, 3) := by decide +kernel
theorem dX11_teach_40 : decode cX11_teach 40 = .ok (.getfield 119, 3) := by decide +kernel
theorem dX11_teach_43 : decode cX11_teach 43 = .ok (.iload_n 2, 1) := by decide +kernel
theorem dX11_teach_44 : decode cX11_teach 44 = .ok (.invokevirtual 165, 3) := by decide +kernel
theorem dX11_teach_47 : decode cX11_teach 47 = .ok (.iastore, 1) := by decide +kernel
theorem dX11_teach_48 : decode cX11_teach 48 = .ok (.iinc 2 1, 3) := by decide +kernel
theorem dX11_teach_51 : decode cX11_teach 51 = .ok (.goto (-38), 3) := by decide +kernel
theorem dX11_teach_54 : decode cX11_teach 54 = .ok (.aload_n 0, 1) := by decide +kernel
theorem dX11_teach_55 : decode cX11_teach 55 = .ok (.getfield 75, 3) := by decide +kernel
theorem dX11_teach_58 : decode cX11_teach 58 = .ok (.getfield 119, 3) := by decide +kernel
theorem dX11_teach_61 : decode cX11_teach 61 = .ok (.aload_n 0, 1) := by decide +kernel
theorem dX11_teach_62 : decode cX11_teach 62 = .ok (.getfield 68, 3) := by decide +kernel
theorem dX11_teach_65 : decode cX11_teach 65 = .ok (.iconst 0, 1) := by decide +kernel
theorem dX11_teach_66 : decode cX11_teach 66 = .ok (.aload_n 0, 1) := by decide +kernel
theorem dX11_teach_67 : decode cX11_teach 67 = .ok (.getfield 75, 3) := by decide +kernel
theorem dX11_teach_70 : decode cX11_teach 70 = .ok (.getfield 119, 3) := by decide +kernel
theorem dX11_teach_73 : decode cX11_teach 73 = .ok (.invokevirtual 311, 3) := by decide +kernel
theorem dX11_teach_76 : decode cX11_teach 76 = .ok (.lconst 0, 1) := by decide +kernel
theorem dX11_teach_77 : decode cX11_teach 77 = .ok (.invokestatic 314, 3) := by decide +kernel
theorem dX11_teach_80 : decode cX11_teach 80 = .ok (.lstore_n 2, 1) := by decide +kernel
theorem dX11_teach_81 : decode cX11_teach 81 = .ok (.lload_n 2, 1) := by decide +kernel
theorem dX11_teach_82 : decode cX11_teach 82 = .ok (.ldc2_w 318, 3) := by decide +kernel
theorem dX11_teach_85 : decode cX11_teach 85 = .ok (.land, 1) := by decide +kernel
theorem dX11_teach_86 : decode cX11_teach 86 = .ok (.l2i, 1) := by decide +kernel
theorem dX11_teach_87 : decode cX11_teach 87 = .ok (.istore 4, 2) := by decide +kernel
theorem dX11_teach_89 : decode cX11_teach 89 = .ok (.iload_n 1, 1) := by decide +kernel
theorem dX11_teach_90 : decode cX11_teach 90 = .ok (.lookupswitch 38 #[(0, 26), (1, 32)], 26) := by decide +kernel
theorem dX11_teach_116 : decode cX11_teach 116 = .ok (.lload_n 2, 1) := by decide +kernel
theorem dX11_teach_117 : decode cX11_teach 117 = .ok (.bipush 20, 2) := by decide +kernel
theorem dX11_teach_119 : decode cX11_teach 119 = .ok (.lshr, 1) := by decide +kernel
theorem dX11_teach_120 : decode cX11_teach 120 = .ok (.l2i, 1) := by decide +kernel
theorem dX11_teach_121 : decode cX11_teach 121 = .ok (.ireturn, 1) := by decide +kernel
theorem dX11_teach_122 : decode cX11_teach 122 = .ok (.iload 4, 2) := by decide +kernel
theorem dX11_teach_124 : decode cX11_teach 124 = .ok (.invokestatic 320, 3) := by decide +kernel
theorem dX11_teach_127 : decode cX11_teach 127 = .ok (.ireturn, 1) := by decide +kernel
theorem dX11_teach_128 : decode cX11_teach 128 = .ok (.iload 4, 2) := by decide +kernel
theorem dX11_teach_130 : decode cX11_teach 130 = .ok (.ireturn, 1) := by decide +kernel
theorem dX11_said_0 : decode cX11_said 0 = .ok (.aload_n 0, 1) := by decide +kernel
theorem dX11_said_1 : decode cX11_said 1 = .ok (.iload_n 1, 1) := by decide +kernel
theorem dX11_said_2 : decode cX11_said 2 = .ok (.invokevirtual 156, 3) := by decide +kernel
theorem dX11_said_5 : decode cX11_said 5 = .ok (.ifCond .eq 17, 3) := by decide +kernel
theorem dX11_said_8 : decode cX11_said 8 = .ok (.iload_n 2, 1) := by decide +kernel
theorem dX11_said_9 : decode cX11_said 9 = .ok (.invokestatic 325, 3) := by decide +kernel
theorem dX11_said_12 : decode cX11_said 12 = .ok (.ifCond .eq 10, 3) := by decide +kernel
theorem dX11_said_15 : decode cX11_said 15 = .ok (.iload_n 3, 1) := by decide +kernel
theorem dX11_said_16 : decode cX11_said 16 = .ok (.invokestatic 325, 3) := by decide +kernel
theorem dX11_said_19 : decode cX11_said 19 = .ok (.ifCond .ne 5, 3) := by decide +kernel
theorem dX11_said_22 : decode cX11_said 22 = .ok (.iconst (-1), 1) := by decide +kernel
theorem dX11_said_23 : decode cX11_said 23 = .ok (.ireturn, 1) := by decide +kernel
theorem dX11_said_24 : decode cX11_said 24 = .ok (.iload_n 2, 1) := by decide +kernel
theorem dX11_said_25 : decode cX11_said 25 = .ok (.iload_n 3, 1) := by decide +kernel
theorem dX11_said_26 : decode cX11_said 26 = .ok (.invokestatic 328, 3) := by decide +kernel
theorem dX11_said_29 : decode cX11_said 29 = .ok (.istore 4, 2) := by decide +kernel
theorem dX11_said_31 : decode cX11_said 31 = .ok (.iload 4, 2) := by decide +kernel
theorem dX11_said_33 : decode cX11_said 33 = .ok (.iload_n 2, 1) := by decide +kernel
theorem dX11_said_34 : decode cX11_said 34 = .ok (.iload_n 3, 1) := by decide +kernel
theorem dX11_said_35 : decode cX11_said 35 = .ok (.invokestatic 333, 3) := by decide +kernel
theorem dX11_said_38 : decode cX11_said 38 = .ok (.if_icmp .gt 25, 3) := by decide +kernel
theorem dX11_said_41 : decode cX11_said 41 = .ok (.aload_n 0, 1) := by decide +kernel
theorem dX11_said_42 : decode cX11_said 42 = .ok (.getfield 26, 3) := by decide +kernel
theorem dX11_said_45 : decode cX11_said 45 = .ok (.getfield 336, 3) := by decide +kernel
theorem dX11_said_48 : decode cX11_said 48 = .ok (.iload_n 1, 1) := by decide +kernel
theorem dX11_said_49 : decode cX11_said 49 = .ok (.dup2, 1) := by decide +kernel
theorem dX11_said_50 : decode cX11_said 50 = .ok (.iaload, 1) := by decide +kernel
theorem dX11_said_51 : decode cX11_said 51 = .ok (.iconst 1, 1) := by decide +kernel
theorem dX11_said_52 : decode cX11_said 52 = .ok (.iload 4, 2) := by decide +kernel
theorem dX11_said_54 : decode cX11_said 54 = .ok (.ishl, 1) := by decide +kernel
theorem dX11_said_55 : decode cX11_said 55 = .ok (.ior, 1) := by decide +kernel
theorem dX11_said_56 : decode cX11_said 56 = .ok (.iastore, 1) := by decide +kernel
theorem dX11_said_57 : decode cX11_said 57 = .ok (.iinc 4 1, 3) := by decide +kernel
theorem dX11_said_60 : decode cX11_said 60 = .ok (.goto (-29), 3) := by decide +kernel
theorem dX11_said_63 : decode cX11_said 63 = .ok (.aload_n 0, 1) := by decide +kernel
theorem dX11_said_64 : decode cX11_said 64 = .ok (.getfield 26, 3) := by decide +kernel
theorem dX11_said_67 : decode cX11_said 67 = .ok (.getfield 336, 3) := by decide +kernel
theorem dX11_said_70 : decode cX11_said 70 = .ok (.iload_n 1, 1) := by decide +kernel
theorem dX11_said_71 : decode cX11_said 71 = .ok (.iaload, 1) := by decide +kernel
theorem dX11_said_72 : decode cX11_said 72 = .ok (.invokestatic 320, 3) := by decide +kernel
theorem dX11_said_75 : decode cX11_said 75 = .ok (.ireturn, 1) := by decide +kernel
theorem dX11_knows_0 : decode cX11_knows 0 = .ok (.aload_n 0, 1) := by decide +kernel
theorem dX11_knows_1 : decode cX11_knows 1 = .ok (.iload_n 1, 1) := by decide +kernel
theorem dX11_knows_2 : decode cX11_knows 2 = .ok (.invokevirtual 156, 3) := by decide +kernel
theorem dX11_knows_5 : decode cX11_knows 5 = .ok (.ifCond .eq 15, 3) := by decide +kernel
theorem dX11_knows_8 : decode cX11_knows 8 = .ok (.aload_n 0, 1) := by decide +kernel
theorem dX11_knows_9 : decode cX11_knows 9 = .ok (.getfield 26, 3) := by decide +kernel
theorem dX11_knows_12 : decode cX11_knows 12 = .ok (.getfield 336, 3) := by decide +kernel
theorem dX11_knows_15 : decode cX11_knows 15 = .ok (.iload_n 1, 1) := by decide +kernel
theorem dX11_knows_16 : decode cX11_knows 16 = .ok (.iaload, 1) := by decide +kernel
theorem dX11_knows_17 : decode cX11_knows 17 = .ok (.goto 4, 3) := by decide +kernel
theorem dX11_knows_20 : decode cX11_knows 20 = .ok (.iconst (-1), 1) := by decide +kernel
theorem dX11_knows_21 : decode cX11_knows 21 = .ok (.ireturn, 1) := by decide +kernel
theorem dX11_ask_0 : decode cX11_ask 0 = .ok (.iload_n 1, 1) := by decide +kernel
theorem dX11_ask_1 : decode cX11_ask 1 = .ok (.invokestatic 325, 3) := by decide +kernel
theorem dX11_ask_4 : decode cX11_ask 4 = .ok (.ifCond .eq 21, 3) := by decide +kernel
theorem dX11_ask_7 : decode cX11_ask 7 = .ok (.iload_n 2, 1) := by decide +kernel
theorem dX11_ask_8 : decode cX11_ask 8 = .ok (.invokestatic 325, 3) := by decide +kernel
theorem dX11_ask_11 : decode cX11_ask 11 = .ok (.ifCond .eq 14, 3) := by decide +kernel
theorem dX11_ask_14 : decode cX11_ask 14 = .ok (.iload_n 3, 1) := by decide +kernel
theorem dX11_ask_15 : decode cX11_ask 15 = .ok (.ifCond .lt 10, 3) := by decide +kernel
theorem dX11_ask_18 : decode cX11_ask 18 = .ok (.iload_n 3, 1) := by decide +kernel
theorem dX11_ask_19 : decode cX11_ask 19 = .ok (.sipush 2048, 3) := by decide +kernel
theorem dX11_ask_22 : decode cX11_ask 22 = .ok (.if_icmp .lt 5, 3) := by decide +kernel
theorem dX11_ask_25 : decode cX11_ask 25 = .ok (.iconst (-1), 1) := by decide +kernel
theorem dX11_ask_26 : decode cX11_ask 26 = .ok (.ireturn, 1) := by decide +kernel
theorem dX11_ask_27 : decode cX11_ask 27 = .ok (.iconst 1, 1) := by decide +kernel
theorem dX11_ask_28 : decode cX11_ask 28 = .ok (.iload_n 1, 1) := by decide +kernel
theorem dX11_ask_29 : decode cX11_ask 29 = .ok (.ishl, 1) := by decide +kernel
theorem dX11_ask_30 : decode cX11_ask 30 = .ok (.iconst 1, 1) := by decide +kernel
theorem dX11_ask_31 : decode cX11_ask 31 = .ok (.iload_n 2, 1) := by decide +kernel
theorem dX11_ask_32 : decode cX11_ask 32 = .ok (.ishl, 1) := by decide +kernel
theorem dX11_ask_33 : decode cX11_ask 33 = .ok (.ior, 1) := by decide +kernel
theorem dX11_ask_34 : decode cX11_ask 34 = .ok (.istore 4, 2) := by decide +kernel
theorem dX11_ask_36 : decode cX11_ask 36 = .ok (.bipush (-4), 2) := by decide +kernel
theorem dX11_ask_38 : decode cX11_ask 38 = .ok (.istore 5, 2) := by decide +kernel
theorem dX11_ask_40 : decode cX11_ask 40 = .ok (.iconst 0, 1) := by decide +kernel
theorem dX11_ask_41 : decode cX11_ask 41 = .ok (.istore 6, 2) := by decide +kernel
theorem dX11_ask_43 : decode cX11_ask 43 = .ok (.iconst 0, 1) := by decide +kernel
theorem dX11_ask_44 : decode cX11_ask 44 = .ok (.istore 7, 2) := by decide +kernel
theorem dX11_ask_46 : decode cX11_ask 46 = .ok (.iload 7, 2) := by decide +kernel
theorem dX11_ask_48 : decode cX11_ask 48 = .ok (.aload_n 0, 1) := by decide +kernel
theorem dX11_ask_49 : decode cX11_ask 49 = .ok (.getfield 75, 3) := by decide +kernel
theorem dX11_ask_52 : decode cX11_ask 52 = .ok (.getfield 119, 3) := by decide +kernel
theorem dX11_ask_55 : decode cX11_ask 55 = .ok (.getfield 123, 3) := by decide +kernel
theorem dX11_ask_58 : decode cX11_ask 58 = .ok (.if_icmp .ge 81, 3) := by decide +kernel
theorem dX11_ask_61 : decode cX11_ask 61 = .ok (.aload_n 0, 1) := by decide +kernel
theorem dX11_ask_62 : decode cX11_ask 62 = .ok (.getfield 26, 3) := by decide +kernel
theorem dX11_ask_65 : decode cX11_ask 65 = .ok (.getfield 336, 3) := by decide +kernel
theorem dX11_ask_68 : decode cX11_ask 68 = .ok (.iload 7, 2) := by decide +kernel
theorem dX11_ask_70 : decode cX11_ask 70 = .ok (.iaload, 1) := by decide +kernel
theorem dX11_ask_71 : decode cX11_ask 71 = .ok (.istore 8, 2) := by decide +kernel
theorem dX11_ask_73 : decode cX11_ask 73 = .ok (.iload 8, 2) := by decide +kernel
theorem dX11_ask_75 : decode cX11_ask 75 = .ok (.iload 4, 2) := by decide +kernel
theorem dX11_ask_77 : decode cX11_ask 77 = .ok (.iand, 1) := by decide +kernel
theorem dX11_ask_78 : decode cX11_ask 78 = .ok (.iload 4, 2) := by decide +kernel
theorem dX11_ask_80 : decode cX11_ask 80 = .ok (.if_icmp .ne 53, 3) := by decide +kernel
theorem dX11_ask_83 : decode cX11_ask 83 = .ok (.iload 8, 2) := by decide +kernel
theorem dX11_ask_85 : decode cX11_ask 85 = .ok (.iload_n 3, 1) := by decide +kernel
theorem dX11_ask_86 : decode cX11_ask 86 = .ok (.iand, 1) := by decide +kernel
theorem dX11_ask_87 : decode cX11_ask 87 = .ok (.ifCond .eq 6, 3) := by decide +kernel
theorem dX11_ask_90 : decode cX11_ask 90 = .ok (.goto 43, 3) := by decide +kernel
theorem dX11_ask_93 : decode cX11_ask 93 = .ok (.aload_n 0, 1) := by decide +kernel
theorem dX11_ask_94 : decode cX11_ask 94 = .ok (.getfield 26, 3) := by decide +kernel
theorem dX11_ask_97 : decode cX11_ask 97 = .ok (.aload_n 0, 1) := by decide +kernel
theorem dX11_ask_98 : decode cX11_ask 98 = .ok (.getfield 75, 3) := by decide +kernel
theorem dX11_ask_101 : decode cX11_ask 101 = .ok (.getfield 119, 3) := by decide +kernel
theorem dX11_ask_104 : decode cX11_ask 104 = .ok (.iload 7, 2) := by decide +kernel
theorem dX11_ask_106 : decode cX11_ask 106 = .ok (.invokevirtual 165, 3) := by decide +kernel
theorem dX11_ask_109 : decode cX11_ask 109 = .ok (.istore 9, 2) := by decide +kernel
theorem dX11_ask_111 : decode cX11_ask 111 = .ok (.iload 5, 2) := by decide +kernel
theorem dX11_ask_113 : decode cX11_ask 113 = .ok (.bipush (-4), 2) := by decide +kernel
theorem dX11_ask_115 : decode cX11_ask 115 = .ok (.if_icmp .eq 10, 3) := by decide +kernel
theorem dX11_ask_118 : decode cX11_ask 118 = .ok (.iload 9, 2) := by decide +kernel
theorem dX11_ask_120 : decode cX11_ask 120 = .ok (.iload 6, 2) := by decide +kernel
theorem dX11_ask_122 : decode cX11_ask 122 = .ok (.if_icmp .ge 11, 3) := by decide +kernel
theorem dX11_ask_125 : decode cX11_ask 125 = .ok (.iload 7, 2) := by decide +kernel
theorem dX11_ask_127 : decode cX11_ask 127 = .ok (.istore 5, 2) := by decide +kernel
theorem dX11_ask_129 : decode cX11_ask 129 = .ok (.iload 9, 2) := by decide +kernel
theorem dX11_ask_131 : decode cX11_ask 131 = .ok (.istore 6, 2) := by decide +kernel
theorem dX11_ask_133 : decode cX11_ask 133 = .ok (.iinc 7 1, 3) := by decide +kernel
theorem dX11_ask_136 : decode cX11_ask 136 = .ok (.goto (-90), 3) := by decide +kernel
theorem dX11_ask_139 : decode cX11_ask 139 = .ok (.iload 5, 2) := by decide +kernel
theorem dX11_ask_141 : decode cX11_ask 141 = .ok (.ireturn, 1) := by decide +kernel
theorem dX11_heardBy_0 : decode cX11_heardBy 0 = .ok (.iload_n 1, 1) := by decide +kernel
theorem dX11_heardBy_1 : decode cX11_heardBy 1 = .ok (.ifCond .lt 8, 3) := by decide +kernel
theorem dX11_heardBy_4 : decode cX11_heardBy 4 = .ok (.iload_n 1, 1) := by decide +kernel
theorem dX11_heardBy_5 : decode cX11_heardBy 5 = .ok (.iconst 2, 1) := by decide +kernel
theorem dX11_heardBy_6 : decode cX11_heardBy 6 = .ok (.if_icmp .le 5, 3) := by decide +kernel
theorem dX11_heardBy_9 : decode cX11_heardBy 9 = .ok (.iconst (-1), 1) := by decide +kernel
theorem dX11_heardBy_10 : decode cX11_heardBy 10 = .ok (.ireturn, 1) := by decide +kernel
theorem dX11_heardBy_11 : decode cX11_heardBy 11 = .ok (.iconst 0, 1) := by decide +kernel
theorem dX11_heardBy_12 : decode cX11_heardBy 12 = .ok (.istore_n 2, 1) := by decide +kernel
theorem dX11_heardBy_13 : decode cX11_heardBy 13 = .ok (.bipush (-4), 2) := by decide +kernel
theorem dX11_heardBy_15 : decode cX11_heardBy 15 = .ok (.istore_n 3, 1) := by decide +kernel
theorem dX11_heardBy_16 : decode cX11_heardBy 16 = .ok (.iconst 0, 1) := by decide +kernel
theorem dX11_heardBy_17 : decode cX11_heardBy 17 = .ok (.istore 4, 2) := by decide +kernel
theorem dX11_heardBy_19 : decode cX11_heardBy 19 = .ok (.iconst 0, 1) := by decide +kernel
theorem dX11_heardBy_20 : decode cX11_heardBy 20 = .ok (.istore 5, 2) := by decide +kernel
theorem dX11_heardBy_22 : decode cX11_heardBy 22 = .ok (.iload 5, 2) := by decide +kernel
theorem dX11_heardBy_24 : decode cX11_heardBy 24 = .ok (.aload_n 0, 1) := by decide +kernel
theorem dX11_heardBy_25 : decode cX11_heardBy 25 = .ok (.getfield 75, 3) := by decide +kernel
theorem dX11_heardBy_28 : decode cX11_heardBy 28 = .ok (.getfield 119, 3) := by decide +kernel
theorem dX11_heardBy_31 : decode cX11_heardBy 31 = .ok (.getfield 123, 3) := by decide +kernel
theorem dX11_heardBy_34 : decode cX11_heardBy 34 = .ok (.if_icmp .ge 57, 3) := by decide +kernel
theorem dX11_heardBy_37 : decode cX11_heardBy 37 = .ok (.iload_n 2, 1) := by decide +kernel
theorem dX11_heardBy_38 : decode cX11_heardBy 38 = .ok (.aload_n 0, 1) := by decide +kernel
theorem dX11_heardBy_39 : decode cX11_heardBy 39 = .ok (.getfield 26, 3) := by decide +kernel
theorem dX11_heardBy_42 : decode cX11_heardBy 42 = .ok (.getfield 336, 3) := by decide +kernel
theorem dX11_heardBy_45 : decode cX11_heardBy 45 = .ok (.iload 5, 2) := by decide +kernel
theorem dX11_heardBy_47 : decode cX11_heardBy 47 = .ok (.iaload, 1) := by decide +kernel
theorem dX11_heardBy_48 : decode cX11_heardBy 48 = .ok (.ior, 1) := by decide +kernel
theorem dX11_heardBy_49 : decode cX11_heardBy 49 = .ok (.istore_n 2, 1) := by decide +kernel
theorem dX11_heardBy_50 : decode cX11_heardBy 50 = .ok (.aload_n 0, 1) := by decide +kernel
theorem dX11_heardBy_51 : decode cX11_heardBy 51 = .ok (.getfield 26, 3) := by decide +kernel
theorem dX11_heardBy_54 : decode cX11_heardBy 54 = .ok (.getfield 336, 3) := by decide +kernel
theorem dX11_heardBy_57 : decode cX11_heardBy 57 = .ok (.iload 5, 2) := by decide +kernel
theorem dX11_heardBy_59 : decode cX11_heardBy 59 = .ok (.iaload, 1) := by decide +kernel
theorem dX11_heardBy_60 : decode cX11_heardBy 60 = .ok (.invokestatic 320, 3) := by decide +kernel
theorem dX11_heardBy_63 : decode cX11_heardBy 63 = .ok (.istore 6, 2) := by decide +kernel
theorem dX11_heardBy_65 : decode cX11_heardBy 65 = .ok (.iload_n 3, 1) := by decide +kernel
theorem dX11_heardBy_66 : decode cX11_heardBy 66 = .ok (.bipush (-4), 2) := by decide +kernel
theorem dX11_heardBy_68 : decode cX11_heardBy 68 = .ok (.if_icmp .eq 10, 3) := by decide +kernel
theorem dX11_heardBy_71 : decode cX11_heardBy 71 = .ok (.iload 6, 2) := by decide +kernel
theorem dX11_heardBy_73 : decode cX11_heardBy 73 = .ok (.iload 4, 2) := by decide +kernel
theorem dX11_heardBy_75 : decode cX11_heardBy 75 = .ok (.if_icmp .le 10, 3) := by decide +kernel
theorem dX11_heardBy_78 : decode cX11_heardBy 78 = .ok (.iload 5, 2) := by decide +kernel
theorem dX11_heardBy_80 : decode cX11_heardBy 80 = .ok (.istore_n 3, 1) := by decide +kernel
theorem dX11_heardBy_81 : decode cX11_heardBy 81 = .ok (.iload 6, 2) := by decide +kernel
theorem dX11_heardBy_83 : decode cX11_heardBy 83 = .ok (.istore 4, 2) := by decide +kernel
theorem dX11_heardBy_85 : decode cX11_heardBy 85 = .ok (.iinc 5 1, 3) := by decide +kernel
theorem dX11_heardBy_88 : decode cX11_heardBy 88 = .ok (.goto (-66), 3) := by decide +kernel
theorem dX11_heardBy_91 : decode cX11_heardBy 91 = .ok (.iload_n 1, 1) := by decide +kernel
theorem dX11_heardBy_92 : decode cX11_heardBy 92 = .ok (.lookupswitch 38 #[(0, 28), (1, 36)], 28) := by decide +kernel
theorem dX11_heardBy_120 : decode cX11_heardBy 120 = .ok (.bipush 11, 2) := by decide +kernel
theorem dX11_heardBy_122 : decode cX11_heardBy 122 = .ok (.iload_n 2, 1) := by decide +kernel
theorem dX11_heardBy_123 : decode cX11_heardBy 123 = .ok (.invokestatic 320, 3) := by decide +kernel
theorem dX11_heardBy_126 : decode cX11_heardBy 126 = .ok (.isub, 1) := by decide +kernel
theorem dX11_heardBy_127 : decode cX11_heardBy 127 = .ok (.ireturn, 1) := by decide +kernel
theorem dX11_heardBy_128 : decode cX11_heardBy 128 = .ok (.iload_n 3, 1) := by decide +kernel
theorem dX11_heardBy_129 : decode cX11_heardBy 129 = .ok (.ireturn, 1) := by decide +kernel
theorem dX11_heardBy_130 : decode cX11_heardBy 130 = .ok (.iload 4, 2) := by decide +kernel
theorem dX11_heardBy_132 : decode cX11_heardBy 132 = .ok (.ireturn, 1) := by decide +kernel
theorem dX11_keep_0 : decode cX11_keep 0 = .ok (.iload_n 1, 1) := by decide +kernel
theorem dX11_keep_1 : decode cX11_keep 1 = .ok (.invokestatic 339, 3) := by decide +kernel
theorem dX11_keep_4 : decode cX11_keep 4 = .ok (.ifCond .ne 5, 3) := by decide +kernel
theorem dX11_keep_7 : decode cX11_keep 7 = .ok (.iconst (-1), 1) := by decide +kernel
theorem dX11_keep_8 : decode cX11_keep 8 = .ok (.ireturn, 1) := by decide +kernel
theorem dX11_keep_9 : decode cX11_keep 9 = .ok (.aload_n 0, 1) := by decide +kernel
theorem dX11_keep_10 : decode cX11_keep 10 = .ok (.getfield 30, 3) := by decide +kernel
theorem dX11_keep_13 : decode cX11_keep 13 = .ok (.iload_n 1, 1) := by decide +kernel
theorem dX11_keep_14 : decode cX11_keep 14 = .ok (.aaload, 1) := by decide +kernel
theorem dX11_keep_15 : decode cX11_keep 15 = .ok (.getfield 115, 3) := by decide +kernel
theorem dX11_keep_18 : decode cX11_keep 18 = .ok (.ifCond .eq 7, 3) := by decide +kernel
theorem dX11_keep_21 : decode cX11_keep 21 = .ok (.iconst 1, 1) := by decide +kernel
theorem dX11_keep_22 : decode cX11_keep 22 = .ok (.goto 4, 3) := by decide +kernel
theorem dX11_keep_25 : decode cX11_keep 25 = .ok (.iconst 0, 1) := by decide +kernel
theorem dX11_keep_26 : decode cX11_keep 26 = .ok (.istore_n 2, 1) := by decide +kernel
theorem dX11_keep_27 : decode cX11_keep 27 = .ok (.aload_n 0, 1) := by decide +kernel
theorem dX11_keep_28 : decode cX11_keep 28 = .ok (.getfield 30, 3) := by decide +kernel
theorem dX11_keep_31 : decode cX11_keep 31 = .ok (.iload_n 1, 1) := by decide +kernel
theorem dX11_keep_32 : decode cX11_keep 32 = .ok (.aaload, 1) := by decide +kernel
theorem dX11_keep_33 : decode cX11_keep 33 = .ok (.aload_n 0, 1) := by decide +kernel
theorem dX11_keep_34 : decode cX11_keep 34 = .ok (.getfield 26, 3) := by decide +kernel
theorem dX11_keep_37 : decode cX11_keep 37 = .ok (.invokevirtual 342, 3) := by decide +kernel
theorem dX11_keep_40 : decode cX11_keep 40 = .ok (.aload_n 0, 1) := by decide +kernel
theorem dX11_keep_41 : decode cX11_keep 41 = .ok (.getfield 30, 3) := by decide +kernel
theorem dX11_keep_44 : decode cX11_keep 44 = .ok (.iload_n 1, 1) := by decide +kernel
theorem dX11_keep_45 : decode cX11_keep 45 = .ok (.aaload, 1) := by decide +kernel
theorem dX11_keep_46 : decode cX11_keep 46 = .ok (.iconst 1, 1) := by decide +kernel
theorem dX11_keep_47 : decode cX11_keep 47 = .ok (.putfield 115, 3) := by decide +kernel
theorem dX11_keep_50 : decode cX11_keep 50 = .ok (.iload_n 2, 1) := by decide +kernel
theorem dX11_keep_51 : decode cX11_keep 51 = .ok (.ireturn, 1) := by decide +kernel
theorem dX11_back_0 : decode cX11_back 0 = .ok (.iload_n 1, 1) := by decide +kernel
theorem dX11_back_1 : decode cX11_back 1 = .ok (.invokestatic 339, 3) := by decide +kernel
theorem dX11_back_4 : decode cX11_back 4 = .ok (.ifCond .ne 5, 3) := by decide +kernel
theorem dX11_back_7 : decode cX11_back 7 = .ok (.iconst (-1), 1) := by decide +kernel
theorem dX11_back_8 : decode cX11_back 8 = .ok (.ireturn, 1) := by decide +kernel
theorem dX11_back_9 : decode cX11_back 9 = .ok (.aload_n 0, 1) := by decide +kernel
theorem dX11_back_10 : decode cX11_back 10 = .ok (.getfield 30, 3) := by decide +kernel
theorem dX11_back_13 : decode cX11_back 13 = .ok (.iload_n 1, 1) := by decide +kernel
theorem dX11_back_14 : decode cX11_back 14 = .ok (.aaload, 1) := by decide +kernel
theorem dX11_back_15 : decode cX11_back 15 = .ok (.getfield 115, 3) := by decide +kernel
theorem dX11_back_18 : decode cX11_back 18 = .ok (.ifCond .ne 6, 3) := by decide +kernel
theorem dX11_back_21 : decode cX11_back 21 = .ok (.bipush (-2), 2) := by decide +kernel
theorem dX11_back_23 : decode cX11_back 23 = .ok (.ireturn, 1) := by decide +kernel
theorem dX11_back_24 : decode cX11_back 24 = .ok (.aload_n 0, 1) := by decide +kernel
theorem dX11_back_25 : decode cX11_back 25 = .ok (.getfield 26, 3) := by decide +kernel
theorem dX11_back_28 : decode cX11_back 28 = .ok (.aload_n 0, 1) := by decide +kernel
theorem dX11_back_29 : decode cX11_back 29 = .ok (.getfield 30, 3) := by decide +kernel
theorem dX11_back_32 : decode cX11_back 32 = .ok (.iload_n 1, 1) := by decide +kernel
theorem dX11_back_33 : decode cX11_back 33 = .ok (.aaload, 1) := by decide +kernel
theorem dX11_back_34 : decode cX11_back 34 = .ok (.invokevirtual 342, 3) := by decide +kernel
theorem dX11_back_37 : decode cX11_back 37 = .ok (.aload_n 0, 1) := by decide +kernel
theorem dX11_back_38 : decode cX11_back 38 = .ok (.getfield 26, 3) := by decide +kernel
theorem dX11_back_41 : decode cX11_back 41 = .ok (.getfield 219, 3) := by decide +kernel
theorem dX11_back_44 : decode cX11_back 44 = .ok (.ireturn, 1) := by decide +kernel
theorem dX11_sheet_0 : decode cX11_sheet 0 = .ok (.iload_n 1, 1) := by decide +kernel
theorem dX11_sheet_1 : decode cX11_sheet 1 = .ok (.invokestatic 346, 3) := by decide +kernel
theorem dX11_sheet_4 : decode cX11_sheet 4 = .ok (.ifCond .eq 16, 3) := by decide +kernel
theorem dX11_sheet_7 : decode cX11_sheet 7 = .ok (.iload_n 2, 1) := by decide +kernel
theorem dX11_sheet_8 : decode cX11_sheet 8 = .ok (.invokestatic 349, 3) := by decide +kernel
theorem dX11_sheet_11 : decode cX11_sheet 11 = .ok (.ifCond .eq 9, 3) := by decide +kernel
theorem dX11_sheet_14 : decode cX11_sheet 14 = .ok (.iload_n 3, 1) := by decide +kernel
theorem dX11_sheet_15 : decode cX11_sheet 15 = .ok (.bipush 40, 2) := by decide +kernel
theorem dX11_sheet_17 : decode cX11_sheet 17 = .ok (.if_icmp .le 5, 3) := by decide +kernel
theorem dX11_sheet_20 : decode cX11_sheet 20 = .ok (.iconst (-1), 1) := by decide +kernel
theorem dX11_sheet_21 : decode cX11_sheet 21 = .ok (.ireturn, 1) := by decide +kernel
theorem dX11_sheet_22 : decode cX11_sheet 22 = .ok (.iload_n 3, 1) := by decide +kernel
theorem dX11_sheet_23 : decode cX11_sheet 23 = .ok (.ifCond .ge 6, 3) := by decide +kernel
theorem dX11_sheet_26 : decode cX11_sheet 26 = .ok (.bipush (-14), 2) := by decide +kernel
theorem dX11_sheet_28 : decode cX11_sheet 28 = .ok (.ireturn, 1) := by decide +kernel
theorem dX11_sheet_29 : decode cX11_sheet 29 = .ok (.aload_n 0, 1) := by decide +kernel
theorem dX11_sheet_30 : decode cX11_sheet 30 = .ok (.getfield 36, 3) := by decide +kernel
theorem dX11_sheet_33 : decode cX11_sheet 33 = .ok (.iload_n 1, 1) := by decide +kernel
theorem dX11_sheet_34 : decode cX11_sheet 34 = .ok (.aaload, 1) := by decide +kernel
theorem dX11_sheet_35 : decode cX11_sheet 35 = .ok (.iload_n 2, 1) := by decide +kernel
theorem dX11_sheet_36 : decode cX11_sheet 36 = .ok (.iload_n 3, 1) := by decide +kernel
theorem dX11_sheet_37 : decode cX11_sheet 37 = .ok (.invokevirtual 352, 3) := by decide +kernel
theorem dX11_sheet_40 : decode cX11_sheet 40 = .ok (.iconst 1, 1) := by decide +kernel
theorem dX11_sheet_41 : decode cX11_sheet 41 = .ok (.ireturn, 1) := by decide +kernel
theorem dX11_lay_0 : decode cX11_lay 0 = .ok (.iload_n 1, 1) := by decide +kernel
theorem dX11_lay_1 : decode cX11_lay 1 = .ok (.invokestatic 346, 3) := by decide +kernel
theorem dX11_lay_4 : decode cX11_lay 4 = .ok (.ifCond .ne 5, 3) := by decide +kernel
theorem dX11_lay_7 : decode cX11_lay 7 = .ok (.iconst (-1), 1) := by decide +kernel
theorem dX11_lay_8 : decode cX11_lay 8 = .ok (.ireturn, 1) := by decide +kernel
theorem dX11_lay_9 : decode cX11_lay 9 = .ok (.aload_n 0, 1) := by decide +kernel
theorem dX11_lay_10 : decode cX11_lay 10 = .ok (.getfield 36, 3) := by decide +kernel
theorem dX11_lay_13 : decode cX11_lay 13 = .ok (.iload_n 1, 1) := by decide +kernel
theorem dX11_lay_14 : decode cX11_lay 14 = .ok (.aaload, 1) := by decide +kernel
theorem dX11_lay_15 : decode cX11_lay 15 = .ok (.iload_n 2, 1) := by decide +kernel
theorem dX11_lay_16 : decode cX11_lay 16 = .ok (.invokevirtual 356, 3) := by decide +kernel
theorem dX11_lay_19 : decode cX11_lay 19 = .ok (.istore 4, 2) := by decide +kernel
theorem dX11_lay_21 : decode cX11_lay 21 = .ok (.iload 4, 2) := by decide +kernel
theorem dX11_lay_23 : decode cX11_lay 23 = .ok (.ifCond .eq 9, 3) := by decide +kernel
theorem dX11_lay_26 : decode cX11_lay 26 = .ok (.bipush (-10), 2) := by decide +kernel
theorem dX11_lay_28 : decode cX11_lay 28 = .ok (.iload 4, 2) := by decide +kernel
theorem dX11_lay_30 : decode cX11_lay 30 = .ok (.isub, 1) := by decide +kernel
theorem dX11_lay_31 : decode cX11_lay 31 = .ok (.ireturn, 1) := by decide +kernel
theorem dX11_lay_32 : decode cX11_lay 32 = .ok (.aload_n 0, 1) := by decide +kernel
theorem dX11_lay_33 : decode cX11_lay 33 = .ok (.getfield 36, 3) := by decide +kernel
theorem dX11_lay_36 : decode cX11_lay 36 = .ok (.iload_n 1, 1) := by decide +kernel
theorem dX11_lay_37 : decode cX11_lay 37 = .ok (.aaload, 1) := by decide +kernel
theorem dX11_lay_38 : decode cX11_lay 38 = .ok (.iload_n 2, 1) := by decide +kernel
theorem dX11_lay_39 : decode cX11_lay 39 = .ok (.iload_n 3, 1) := by decide +kernel
theorem dX11_lay_40 : decode cX11_lay 40 = .ok (.invokevirtual 359, 3) := by decide +kernel
theorem dX11_lay_43 : decode cX11_lay 43 = .ok (.iconst 1, 1) := by decide +kernel
theorem dX11_lay_44 : decode cX11_lay 44 = .ok (.ireturn, 1) := by decide +kernel
theorem dX11_read_0 : decode cX11_read 0 = .ok (.iload_n 1, 1) := by decide +kernel
theorem dX11_read_1 : decode cX11_read 1 = .ok (.invokestatic 346, 3) := by decide +kernel
theorem dX11_read_4 : decode cX11_read 4 = .ok (.ifCond .eq 22, 3) := by decide +kernel
theorem dX11_read_7 : decode cX11_read 7 = .ok (.iload_n 2, 1) := by decide +kernel
theorem dX11_read_8 : decode cX11_read 8 = .ok (.invokestatic 349, 3) := by decide +kernel
theorem dX11_read_11 : decode cX11_read 11 = .ok (.ifCond .eq 15, 3) := by decide +kernel
theorem dX11_read_14 : decode cX11_read 14 = .ok (.iload 4, 2) := by decide +kernel
theorem dX11_read_16 : decode cX11_read 16 = .ok (.ifCond .lt 10, 3) := by decide +kernel
theorem dX11_read_19 : decode cX11_read 19 = .ok (.iload 4, 2) := by decide +kernel
theorem dX11_read_21 : decode cX11_read 21 = .ok (.bipush 24, 2) := by decide +kernel
theorem dX11_read_23 : decode cX11_read 23 = .ok (.if_icmp .le 5, 3) := by decide +kernel
theorem dX11_read_26 : decode cX11_read 26 = .ok (.iconst (-1), 1) := by decide +kernel
theorem dX11_read_27 : decode cX11_read 27 = .ok (.ireturn, 1) := by decide +kernel
theorem dX11_read_28 : decode cX11_read 28 = .ok (.aload_n 0, 1) := by decide +kernel
theorem dX11_read_29 : decode cX11_read 29 = .ok (.getfield 36, 3) := by decide +kernel
theorem dX11_read_32 : decode cX11_read 32 = .ok (.iload_n 1, 1) := by decide +kernel
theorem dX11_read_33 : decode cX11_read 33 = .ok (.aaload, 1) := by decide +kernel
theorem dX11_read_34 : decode cX11_read 34 = .ok (.astore 5, 2) := by decide +kernel
theorem dX11_read_36 : decode cX11_read 36 = .ok (.iconst 0, 1) := by decide +kernel
theorem dX11_read_37 : decode cX11_read 37 = .ok (.istore 6, 2) := by decide +kernel
theorem dX11_read_39 : decode cX11_read 39 = .ok (.iconst 0, 1) := by decide +kernel
theorem dX11_read_40 : decode cX11_read 40 = .ok (.istore 7, 2) := by decide +kernel
theorem dX11_read_42 : decode cX11_read 42 = .ok (.iconst 0, 1) := by decide +kernel
theorem dX11_read_43 : decode cX11_read 43 = .ok (.istore 8, 2) := by decide +kernel
theorem dX11_read_45 : decode cX11_read 45 = .ok (.iload 8, 2) := by decide +kernel
theorem dX11_read_47 : decode cX11_read 47 = .ok (.iload 4, 2) := by decide +kernel
theorem dX11_read_49 : decode cX11_read 49 = .ok (.if_icmp .ge 95, 3) := by decide +kernel
theorem dX11_read_52 : decode cX11_read 52 = .ok (.aload 5, 2) := by decide +kernel
theorem dX11_read_54 : decode cX11_read 54 = .ok (.iload_n 2, 1) := by decide +kernel
theorem dX11_read_55 : decode cX11_read 55 = .ok (.iload_n 3, 1) := by decide +kernel
theorem dX11_read_56 : decode cX11_read 56 = .ok (.iload 8, 2) := by decide +kernel
theorem dX11_read_58 : decode cX11_read 58 = .ok (.iadd, 1) := by decide +kernel
theorem dX11_read_59 : decode cX11_read 59 = .ok (.invokevirtual 361, 3) := by decide +kernel
theorem dX11_read_62 : decode cX11_read 62 = .ok (.istore 6, 2) := by decide +kernel
theorem dX11_read_64 : decode cX11_read 64 = .ok (.iload 6, 2) := by decide +kernel
theorem dX11_read_66 : decode cX11_read 66 = .ok (.ifCond .eq 6, 3) := by decide +kernel
theorem dX11_read_69 : decode cX11_read 69 = .ok (.goto 75, 3) := by decide +kernel
theorem dX11_read_72 : decode cX11_read 72 = .ok (.aload 5, 2) := by decide +kernel
theorem dX11_read_74 : decode cX11_read 74 = .ok (.iload_n 3, 1) := by decide +kernel
theorem dX11_read_75 : decode cX11_read 75 = .ok (.iload 8, 2) := by decide +kernel
theorem dX11_read_77 : decode cX11_read 77 = .ok (.iadd, 1) := by decide +kernel
theorem dX11_read_78 : decode cX11_read 78 = .ok (.invokevirtual 364, 3) := by decide +kernel
theorem dX11_read_81 : decode cX11_read 81 = .ok (.istore 9, 2) := by decide +kernel
theorem dX11_read_83 : decode cX11_read 83 = .ok (.iload 9, 2) := by decide +kernel
theorem dX11_read_85 : decode cX11_read 85 = .ok (.invokestatic 216, 3) := by decide +kernel
theorem dX11_read_88 : decode cX11_read 88 = .ok (.ifCond .ne 9, 3) := by decide +kernel
theorem dX11_read_91 : decode cX11_read 91 = .ok (.bipush (-20), 2) := by decide +kernel
theorem dX11_read_93 : decode cX11_read 93 = .ok (.iload 8, 2) := by decide +kernel
theorem dX11_read_95 : decode cX11_read 95 = .ok (.isub, 1) := by decide +kernel
theorem dX11_read_96 : decode cX11_read 96 = .ok (.ireturn, 1) := by decide +kernel
theorem dX11_read_97 : decode cX11_read 97 = .ok (.aload_n 0, 1) := by decide +kernel
theorem dX11_read_98 : decode cX11_read 98 = .ok (.getfield 26, 3) := by decide +kernel
theorem dX11_read_101 : decode cX11_read 101 = .ok (.getfield 219, 3) := by decide +kernel
theorem dX11_read_104 : decode cX11_read 104 = .ok (.iload 8, 2) := by decide +kernel
theorem dX11_read_106 : decode cX11_read 106 = .ok (.iadd, 1) := by decide +kernel
theorem dX11_read_107 : decode cX11_read 107 = .ok (.bipush 24, 2) := by decide +kernel
theorem dX11_read_109 : decode cX11_read 109 = .ok (.if_icmp .lt 6, 3) := by decide +kernel
theorem dX11_read_112 : decode cX11_read 112 = .ok (.bipush (-3), 2) := by decide +kernel
theorem dX11_read_114 : decode cX11_read 114 = .ok (.ireturn, 1) := by decide +kernel
theorem dX11_read_115 : decode cX11_read 115 = .ok (.aload_n 0, 1) := by decide +kernel
theorem dX11_read_116 : decode cX11_read 116 = .ok (.getfield 26, 3) := by decide +kernel
theorem dX11_read_119 : decode cX11_read 119 = .ok (.getfield 222, 3) := by decide +kernel
theorem dX11_read_122 : decode cX11_read 122 = .ok (.aload_n 0, 1) := by decide +kernel
theorem dX11_read_123 : decode cX11_read 123 = .ok (.getfield 26, 3) := by decide +kernel
theorem dX11_read_126 : decode cX11_read 126 = .ok (.getfield 219, 3) := by decide +kernel
theorem dX11_read_129 : decode cX11_read 129 = .ok (.iload 8, 2) := by decide +kernel
theorem dX11_read_131 : decode cX11_read 131 = .ok (.iadd, 1) := by decide +kernel
theorem dX11_read_132 : decode cX11_read 132 = .ok (.iload 9, 2) := by decide +kernel
theorem dX11_read_134 : decode cX11_read 134 = .ok (.iastore, 1) := by decide +kernel
theorem dX11_read_135 : decode cX11_read 135 = .ok (.iinc 7 1, 3) := by decide +kernel
theorem dX11_read_138 : decode cX11_read 138 = .ok (.iinc 8 1, 3) := by decide +kernel
theorem dX11_read_141 : decode cX11_read 141 = .ok (.goto (-96), 3) := by decide +kernel
theorem dX11_read_144 : decode cX11_read 144 = .ok (.aload_n 0, 1) := by decide +kernel
theorem dX11_read_145 : decode cX11_read 145 = .ok (.getfield 26, 3) := by decide +kernel
theorem dX11_read_148 : decode cX11_read 148 = .ok (.dup, 1) := by decide +kernel
theorem dX11_read_149 : decode cX11_read 149 = .ok (.getfield 219, 3) := by decide +kernel
theorem dX11_read_152 : decode cX11_read 152 = .ok (.iload 7, 2) := by decide +kernel
theorem dX11_read_154 : decode cX11_read 154 = .ok (.iadd, 1) := by decide +kernel
theorem dX11_read_155 : decode cX11_read 155 = .ok (.putfield 219, 3) := by decide +kernel
theorem dX11_read_158 : decode cX11_read 158 = .ok (.aload_n 0, 1) := by decide +kernel
theorem dX11_read_159 : decode cX11_read 159 = .ok (.iload 6, 2) := by decide +kernel
theorem dX11_read_161 : decode cX11_read 161 = .ok (.putfield 367, 3) := by decide +kernel
theorem dX11_read_164 : decode cX11_read 164 = .ok (.iload 7, 2) := by decide +kernel
theorem dX11_read_166 : decode cX11_read 166 = .ok (.ireturn, 1) := by decide +kernel
theorem dX11_torn_0 : decode cX11_torn 0 = .ok (.aload_n 0, 1) := by decide +kernel
theorem dX11_torn_1 : decode cX11_torn 1 = .ok (.getfield 367, 3) := by decide +kernel
theorem dX11_torn_4 : decode cX11_torn 4 = .ok (.ireturn, 1) := by decide +kernel
theorem dX11_count_0 : decode cX11_count 0 = .ok (.iload_n 1, 1) := by decide +kernel
theorem dX11_count_1 : decode cX11_count 1 = .ok (.tableswitch 112 0 5 #[39, 47, 61, 72, 77, 85], 39) := by decide +kernel
theorem dX11_count_40 : decode cX11_count 40 = .ok (.aload_n 0, 1) := by decide +kernel
theorem dX11_count_41 : decode cX11_count 41 = .ok (.getfield 26, 3) := by decide +kernel
theorem dX11_count_44 : decode cX11_count 44 = .ok (.getfield 219, 3) := by decide +kernel
theorem dX11_count_47 : decode cX11_count 47 = .ok (.ireturn, 1) := by decide +kernel
theorem dX11_count_48 : decode cX11_count 48 = .ok (.aload_n 0, 1) := by decide +kernel
theorem dX11_count_49 : decode cX11_count 49 = .ok (.getfield 75, 3) := by decide +kernel
theorem dX11_count_52 : decode cX11_count 52 = .ok (.getfield 119, 3) := by decide +kernel
theorem dX11_count_55 : decode cX11_count 55 = .ok (.invokevirtual 311, 3) := by decide +kernel
theorem dX11_count_58 : decode cX11_count 58 = .ok (.invokestatic 320, 3) := by decide +kernel
theorem dX11_count_61 : decode cX11_count 61 = .ok (.ireturn, 1) := by decide +kernel
theorem dX11_count_62 : decode cX11_count 62 = .ok (.aload_n 0, 1) := by decide +kernel
theorem dX11_count_63 : decode cX11_count 63 = .ok (.getfield 75, 3) := by decide +kernel
theorem dX11_count_66 : decode cX11_count 66 = .ok (.getfield 287, 3) := by decide +kernel
theorem dX11_count_69 : decode cX11_count 69 = .ok (.invokevirtual 370, 3) := by decide +kernel
theorem dX11_count_72 : decode cX11_count 72 = .ok (.ireturn, 1) := by decide +kernel
theorem dX11_count_73 : decode cX11_count 73 = .ok (.aload_n 0, 1) := by decide +kernel
theorem dX11_count_74 : decode cX11_count 74 = .ok (.invokevirtual 373, 3) := by decide +kernel
theorem dX11_count_77 : decode cX11_count 77 = .ok (.ireturn, 1) := by decide +kernel
theorem dX11_count_78 : decode cX11_count 78 = .ok (.aload_n 0, 1) := by decide +kernel
theorem dX11_count_79 : decode cX11_count 79 = .ok (.getfield 10, 3) := by decide +kernel
theorem dX11_count_82 : decode cX11_count 82 = .ok (.getfield 98, 3) := by decide +kernel
theorem dX11_count_85 : decode cX11_count 85 = .ok (.ireturn, 1) := by decide +kernel
theorem dX11_count_86 : decode cX11_count 86 = .ok (.aload_n 0, 1) := by decide +kernel
theorem dX11_count_87 : decode cX11_count 87 = .ok (.getfield 36, 3) := by decide +kernel
theorem dX11_count_90 : decode cX11_count 90 = .ok (.iconst 0, 1) := by decide +kernel
theorem dX11_count_91 : decode cX11_count 91 = .ok (.aaload, 1) := by decide +kernel
theorem dX11_count_92 : decode cX11_count 92 = .ok (.getfield 376, 3) := by decide +kernel
theorem dX11_count_95 : decode cX11_count 95 = .ok (.ifCond .ge 8, 3) := by decide +kernel
theorem dX11_count_98 : decode cX11_count 98 = .ok (.bipush (-4), 2) := by decide +kernel
theorem dX11_count_100 : decode cX11_count 100 = .ok (.goto 12, 3) := by decide +kernel
theorem dX11_count_103 : decode cX11_count 103 = .ok (.aload_n 0, 1) := by decide +kernel
theorem dX11_count_104 : decode cX11_count 104 = .ok (.getfield 36, 3) := by decide +kernel
theorem dX11_count_107 : decode cX11_count 107 = .ok (.iconst 0, 1) := by decide +kernel
theorem dX11_count_108 : decode cX11_count 108 = .ok (.aaload, 1) := by decide +kernel
theorem dX11_count_109 : decode cX11_count 109 = .ok (.getfield 379, 3) := by decide +kernel
theorem dX11_count_112 : decode cX11_count 112 = .ok (.ireturn, 1) := by decide +kernel
theorem dX11_count_113 : decode cX11_count 113 = .ok (.iconst (-1), 1) := by decide +kernel
theorem dX11_count_114 : decode cX11_count 114 = .ok (.ireturn, 1) := by decide +kernel
theorem dX11_isWord_0 : decode cX11_isWord 0 = .ok (.iload_n 1, 1) := by decide +kernel
theorem dX11_isWord_1 : decode cX11_isWord 1 = .ok (.ifCond .lt 21, 3) := by decide +kernel
theorem dX11_isWord_4 : decode cX11_isWord 4 = .ok (.iload_n 1, 1) := by decide +kernel
theorem dX11_isWord_5 : decode cX11_isWord 5 = .ok (.aload_n 0, 1) := by decide +kernel
theorem dX11_isWord_6 : decode cX11_isWord 6 = .ok (.getfield 75, 3) := by decide +kernel
theorem dX11_isWord_9 : decode cX11_isWord 9 = .ok (.getfield 119, 3) := by decide +kernel
theorem dX11_isWord_12 : decode cX11_isWord 12 = .ok (.getfield 123, 3) := by decide +kernel
theorem dX11_isWord_15 : decode cX11_isWord 15 = .ok (.if_icmp .ge 7, 3) := by decide +kernel
theorem dX11_isWord_18 : decode cX11_isWord 18 = .ok (.iconst 1, 1) := by decide +kernel
theorem dX11_isWord_19 : decode cX11_isWord 19 = .ok (.goto 4, 3) := by decide +kernel
theorem dX11_isWord_22 : decode cX11_isWord 22 = .ok (.iconst 0, 1) := by decide +kernel
theorem dX11_isWord_23 : decode cX11_isWord 23 = .ok (.ireturn, 1) := by decide +kernel
theorem dX11_canWeigh_0 : decode cX11_canWeigh 0 = .ok (.aload_n 0, 1) := by decide +kernel
theorem dX11_canWeigh_1 : decode cX11_canWeigh 1 = .ok (.getfield 26, 3) := by decide +kernel
theorem dX11_canWeigh_4 : decode cX11_canWeigh 4 = .ok (.getfield 219, 3) := by decide +kernel
theorem dX11_canWeigh_7 : decode cX11_canWeigh 7 = .ok (.istore_n 1, 1) := by decide +kernel
theorem dX11_canWeigh_8 : decode cX11_canWeigh 8 = .ok (.iload_n 1, 1) := by decide +kernel
theorem dX11_canWeigh_9 : decode cX11_canWeigh 9 = .ok (.ifCond .le 19, 3) := by decide +kernel
theorem dX11_canWeigh_12 : decode cX11_canWeigh 12 = .ok (.iload_n 1, 1) := by decide +kernel
theorem dX11_canWeigh_13 : decode cX11_canWeigh 13 = .ok (.iconst 2, 1) := by decide +kernel
theorem dX11_canWeigh_14 : decode cX11_canWeigh 14 = .ok (.irem, 1) := by decide +kernel
theorem dX11_canWeigh_15 : decode cX11_canWeigh 15 = .ok (.ifCond .ne 13, 3) := by decide +kernel
theorem dX11_canWeigh_18 : decode cX11_canWeigh 18 = .ok (.iload_n 1, 1) := by decide +kernel
theorem dX11_canWeigh_19 : decode cX11_canWeigh 19 = .ok (.bipush 12, 2) := by decide +kernel
theorem dX11_canWeigh_21 : decode cX11_canWeigh 21 = .ok (.if_icmp .gt 7, 3) := by decide +kernel
theorem dX11_canWeigh_24 : decode cX11_canWeigh 24 = .ok (.iconst 1, 1) := by decide +kernel
theorem dX11_canWeigh_25 : decode cX11_canWeigh 25 = .ok (.goto 4, 3) := by decide +kernel
theorem dX11_canWeigh_28 : decode cX11_canWeigh 28 = .ok (.iconst 0, 1) := by decide +kernel
theorem dX11_canWeigh_29 : decode cX11_canWeigh 29 = .ok (.ireturn, 1) := by decide +kernel
theorem dX11_isPlace_0 : decode cX11_isPlace 0 = .ok (.iload_n 0, 1) := by decide +kernel
theorem dX11_isPlace_1 : decode cX11_isPlace 1 = .ok (.ifCond .lt 13, 3) := by decide +kernel
theorem dX11_isPlace_4 : decode cX11_isPlace 4 = .ok (.iload_n 0, 1) := by decide +kernel
theorem dX11_isPlace_5 : decode cX11_isPlace 5 = .ok (.bipush 25, 2) := by decide +kernel
theorem dX11_isPlace_7 : decode cX11_isPlace 7 = .ok (.if_icmp .ge 7, 3) := by decide +kernel
theorem dX11_isPlace_10 : decode cX11_isPlace 10 = .ok (.iconst 1, 1) := by decide +kernel
theorem dX11_isPlace_11 : decode cX11_isPlace 11 = .ok (.goto 4, 3) := by decide +kernel
theorem dX11_isPlace_14 : decode cX11_isPlace 14 = .ok (.iconst 0, 1) := by decide +kernel
theorem dX11_isPlace_15 : decode cX11_isPlace 15 = .ok (.ireturn, 1) := by decide +kernel
theorem dX11_isHalf_0 : decode cX11_isHalf 0 = .ok (.iload_n 0, 1) := by decide +kernel
theorem dX11_isHalf_1 : decode cX11_isHalf 1 = .ok (.ifCond .eq 8, 3) := by decide +kernel
theorem dX11_isHalf_4 : decode cX11_isHalf 4 = .ok (.iload_n 0, 1) := by decide +kernel
theorem dX11_isHalf_5 : decode cX11_isHalf 5 = .ok (.iconst 1, 1) := by decide +kernel
theorem dX11_isHalf_6 : decode cX11_isHalf 6 = .ok (.if_icmp .ne 7, 3) := by decide +kernel
theorem dX11_isHalf_9 : decode cX11_isHalf 9 = .ok (.iconst 1, 1) := by decide +kernel
theorem dX11_isHalf_10 : decode cX11_isHalf 10 = .ok (.goto 4, 3) := by decide +kernel
theorem dX11_isHalf_13 : decode cX11_isHalf 13 = .ok (.iconst 0, 1) := by decide +kernel
theorem dX11_isHalf_14 : decode cX11_isHalf 14 = .ok (.ireturn, 1) := by decide +kernel
theorem dX11_isHearable_0 : decode cX11_isHearable 0 = .ok (.iload_n 0, 1) := by decide +kernel
theorem dX11_isHearable_1 : decode cX11_isHearable 1 = .ok (.ifCond .lt 13, 3) := by decide +kernel
theorem dX11_isHearable_4 : decode cX11_isHearable 4 = .ok (.iload_n 0, 1) := by decide +kernel
theorem dX11_isHearable_5 : decode cX11_isHearable 5 = .ok (.bipush 6, 2) := by decide +kernel
theorem dX11_isHearable_7 : decode cX11_isHearable 7 = .ok (.if_icmp .gt 7, 3) := by decide +kernel
theorem dX11_isHearable_10 : decode cX11_isHearable 10 = .ok (.iconst 1, 1) := by decide +kernel
theorem dX11_isHearable_11 : decode cX11_isHearable 11 = .ok (.goto 4, 3) := by decide +kernel
theorem dX11_isHearable_14 : decode cX11_isHearable 14 = .ok (.iconst 0, 1) := by decide +kernel
theorem dX11_isHearable_15 : decode cX11_isHearable 15 = .ok (.ireturn, 1) := by decide +kernel
theorem dX11_isKnockable_0 : decode cX11_isKnockable 0 = .ok (.iload_n 0, 1) := by decide +kernel
theorem dX11_isKnockable_1 : decode cX11_isKnockable 1 = .ok (.iconst 1, 1) := by decide +kernel
theorem dX11_isKnockable_2 : decode cX11_isKnockable 2 = .ok (.if_icmp .lt 12, 3) := by decide +kernel
theorem dX11_isKnockable_5 : decode cX11_isKnockable 5 = .ok (.iload_n 0, 1) := by decide +kernel
theorem dX11_isKnockable_6 : decode cX11_isKnockable 6 = .ok (.iconst 5, 1) := by decide +kernel
theorem dX11_isKnockable_7 : decode cX11_isKnockable 7 = .ok (.if_icmp .gt 7, 3) := by decide +kernel
theorem dX11_isKnockable_10 : decode cX11_isKnockable 10 = .ok (.iconst 1, 1) := by decide +kernel
theorem dX11_isKnockable_11 : decode cX11_isKnockable 11 = .ok (.goto 4, 3) := by decide +kernel
theorem dX11_isKnockable_14 : decode cX11_isKnockable 14 = .ok (.iconst 0, 1) := by decide +kernel
theorem dX11_isKnockable_15 : decode cX11_isKnockable 15 = .ok (.ireturn, 1) := by decide +kernel
theorem dX11_isMinute_0 : decode cX11_isMinute 0 = .ok (.iload_n 0, 1) := by decide +kernel
theorem dX11_isMinute_1 : decode cX11_isMinute 1 = .ok (.ifCond .lt 14, 3) := by decide +kernel
theorem dX11_isMinute_4 : decode cX11_isMinute 4 = .ok (.iload_n 0, 1) := by decide +kernel
theorem dX11_isMinute_5 : decode cX11_isMinute 5 = .ok (.sipush 600, 3) := by decide +kernel
