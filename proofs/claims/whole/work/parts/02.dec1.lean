theorem dX0_init_0 : decode cX0_init 0 = .ok (.aload_n 0, 1) := by decide +kernel
theorem dX0_init_1 : decode cX0_init 1 = .ok (.invokespecial 3, 3) := by decide +kernel
theorem dX0_init_4 : decode cX0_init 4 = .ok (.aload_n 0, 1) := by decide +kernel
theorem dX0_init_5 : decode cX0_init 5 = .ok (.bipush 25, 2) := by decide +kernel
theorem dX0_init_7 : decode cX0_init 7 = .ok (.newarray .byte, 2) := by decide +kernel
theorem dX0_init_9 : decode cX0_init 9 = .ok (.putfield 9, 3) := by decide +kernel
theorem dX0_init_12 : decode cX0_init 12 = .ok (.aload_n 0, 1) := by decide +kernel
theorem dX0_init_13 : decode cX0_init 13 = .ok (.new 15, 3) := by decide +kernel
theorem dX0_init_16 : decode cX0_init 16 = .ok (.dup, 1) := by decide +kernel
theorem dX0_init_17 : decode cX0_init 17 = .ok (.bipush 10, 2) := by decide +kernel
theorem dX0_init_19 : decode cX0_init 19 = .ok (.bipush 8, 2) := by decide +kernel
theorem dX0_init_21 : decode cX0_init 21 = .ok (.invokespecial 17, 3) := by decide +kernel
theorem dX0_init_24 : decode cX0_init 24 = .ok (.putfield 20, 3) := by decide +kernel
theorem dX0_init_27 : decode cX0_init 27 = .ok (.aload_n 0, 1) := by decide +kernel
theorem dX0_init_28 : decode cX0_init 28 = .ok (.bipush 10, 2) := by decide +kernel
theorem dX0_init_30 : decode cX0_init 30 = .ok (.newarray .int, 2) := by decide +kernel
theorem dX0_init_32 : decode cX0_init 32 = .ok (.putfield 24, 3) := by decide +kernel
theorem dX0_init_35 : decode cX0_init 35 = .ok (.aload_n 0, 1) := by decide +kernel
theorem dX0_init_36 : decode cX0_init 36 = .ok (.new 15, 3) := by decide +kernel
theorem dX0_init_39 : decode cX0_init 39 = .ok (.dup, 1) := by decide +kernel
theorem dX0_init_40 : decode cX0_init 40 = .ok (.bipush 6, 2) := by decide +kernel
theorem dX0_init_42 : decode cX0_init 42 = .ok (.iconst 3, 1) := by decide +kernel
theorem dX0_init_43 : decode cX0_init 43 = .ok (.invokespecial 17, 3) := by decide +kernel
theorem dX0_init_46 : decode cX0_init 46 = .ok (.putfield 28, 3) := by decide +kernel
theorem dX0_init_49 : decode cX0_init 49 = .ok (.aload_n 0, 1) := by decide +kernel
theorem dX0_init_50 : decode cX0_init 50 = .ok (.new 15, 3) := by decide +kernel
theorem dX0_init_53 : decode cX0_init 53 = .ok (.dup, 1) := by decide +kernel
theorem dX0_init_54 : decode cX0_init 54 = .ok (.bipush 6, 2) := by decide +kernel
theorem dX0_init_56 : decode cX0_init 56 = .ok (.bipush 8, 2) := by decide +kernel
theorem dX0_init_58 : decode cX0_init 58 = .ok (.invokespecial 17, 3) := by decide +kernel
theorem dX0_init_61 : decode cX0_init 61 = .ok (.putfield 31, 3) := by decide +kernel
theorem dX0_init_64 : decode cX0_init 64 = .ok (.aload_n 0, 1) := by decide +kernel
theorem dX0_init_65 : decode cX0_init 65 = .ok (.new 34, 3) := by decide +kernel
theorem dX0_init_68 : decode cX0_init 68 = .ok (.dup, 1) := by decide +kernel
theorem dX0_init_69 : decode cX0_init 69 = .ok (.invokespecial 36, 3) := by decide +kernel
theorem dX0_init_72 : decode cX0_init 72 = .ok (.putfield 37, 3) := by decide +kernel
theorem dX0_init_75 : decode cX0_init 75 = .ok (.return_, 1) := by decide +kernel
theorem dX0_clear_0 : decode cX0_clear 0 = .ok (.iconst 0, 1) := by decide +kernel
theorem dX0_clear_1 : decode cX0_clear 1 = .ok (.istore_n 1, 1) := by decide +kernel
theorem dX0_clear_2 : decode cX0_clear 2 = .ok (.iload_n 1, 1) := by decide +kernel
theorem dX0_clear_3 : decode cX0_clear 3 = .ok (.bipush 25, 2) := by decide +kernel
theorem dX0_clear_5 : decode cX0_clear 5 = .ok (.if_icmp .ge 33, 3) := by decide +kernel
theorem dX0_clear_8 : decode cX0_clear 8 = .ok (.aload_n 0, 1) := by decide +kernel
theorem dX0_clear_9 : decode cX0_clear 9 = .ok (.getfield 9, 3) := by decide +kernel
theorem dX0_clear_12 : decode cX0_clear 12 = .ok (.iload_n 1, 1) := by decide +kernel
theorem dX0_clear_13 : decode cX0_clear 13 = .ok (.iload_n 1, 1) := by decide +kernel
theorem dX0_clear_14 : decode cX0_clear 14 = .ok (.bipush 10, 2) := by decide +kernel
theorem dX0_clear_16 : decode cX0_clear 16 = .ok (.if_icmp .ge 10, 3) := by decide +kernel
theorem dX0_clear_19 : decode cX0_clear 19 = .ok (.bipush 97, 2) := by decide +kernel
theorem dX0_clear_21 : decode cX0_clear 21 = .ok (.iload_n 1, 1) := by decide +kernel
theorem dX0_clear_22 : decode cX0_clear 22 = .ok (.iadd, 1) := by decide +kernel
theorem dX0_clear_23 : decode cX0_clear 23 = .ok (.goto 7, 3) := by decide +kernel
theorem dX0_clear_26 : decode cX0_clear 26 = .ok (.bipush 98, 2) := by decide +kernel
theorem dX0_clear_28 : decode cX0_clear 28 = .ok (.iload_n 1, 1) := by decide +kernel
theorem dX0_clear_29 : decode cX0_clear 29 = .ok (.iadd, 1) := by decide +kernel
theorem dX0_clear_30 : decode cX0_clear 30 = .ok (.i2b, 1) := by decide +kernel
theorem dX0_clear_31 : decode cX0_clear 31 = .ok (.bastore, 1) := by decide +kernel
theorem dX0_clear_32 : decode cX0_clear 32 = .ok (.iinc 1 1, 3) := by decide +kernel
theorem dX0_clear_35 : decode cX0_clear 35 = .ok (.goto (-33), 3) := by decide +kernel
theorem dX0_clear_38 : decode cX0_clear 38 = .ok (.aload_n 0, 1) := by decide +kernel
theorem dX0_clear_39 : decode cX0_clear 39 = .ok (.getfield 20, 3) := by decide +kernel
theorem dX0_clear_42 : decode cX0_clear 42 = .ok (.iconst 0, 1) := by decide +kernel
theorem dX0_clear_43 : decode cX0_clear 43 = .ok (.putfield 41, 3) := by decide +kernel
theorem dX0_clear_46 : decode cX0_clear 46 = .ok (.aload_n 0, 1) := by decide +kernel
theorem dX0_clear_47 : decode cX0_clear 47 = .ok (.getfield 28, 3) := by decide +kernel
theorem dX0_clear_50 : decode cX0_clear 50 = .ok (.iconst 0, 1) := by decide +kernel
theorem dX0_clear_51 : decode cX0_clear 51 = .ok (.putfield 41, 3) := by decide +kernel
theorem dX0_clear_54 : decode cX0_clear 54 = .ok (.aload_n 0, 1) := by decide +kernel
theorem dX0_clear_55 : decode cX0_clear 55 = .ok (.getfield 31, 3) := by decide +kernel
theorem dX0_clear_58 : decode cX0_clear 58 = .ok (.iconst 0, 1) := by decide +kernel
theorem dX0_clear_59 : decode cX0_clear 59 = .ok (.putfield 41, 3) := by decide +kernel
theorem dX0_clear_62 : decode cX0_clear 62 = .ok (.aload_n 0, 1) := by decide +kernel
theorem dX0_clear_63 : decode cX0_clear 63 = .ok (.iconst 0, 1) := by decide +kernel
theorem dX0_clear_64 : decode cX0_clear 64 = .ok (.putfield 45, 3) := by decide +kernel
theorem dX0_clear_67 : decode cX0_clear 67 = .ok (.aload_n 0, 1) := by decide +kernel
theorem dX0_clear_68 : decode cX0_clear 68 = .ok (.getfield 37, 3) := by decide +kernel
theorem dX0_clear_71 : decode cX0_clear 71 = .ok (.invokevirtual 48, 3) := by decide +kernel
theorem dX0_clear_74 : decode cX0_clear 74 = .ok (.aload_n 0, 1) := by decide +kernel
theorem dX0_clear_75 : decode cX0_clear 75 = .ok (.iconst 1, 1) := by decide +kernel
theorem dX0_clear_76 : decode cX0_clear 76 = .ok (.putfield 51, 3) := by decide +kernel
theorem dX0_clear_79 : decode cX0_clear 79 = .ok (.aload_n 0, 1) := by decide +kernel
theorem dX0_clear_80 : decode cX0_clear 80 = .ok (.iconst 1, 1) := by decide +kernel
theorem dX0_clear_81 : decode cX0_clear 81 = .ok (.putfield 54, 3) := by decide +kernel
theorem dX0_clear_84 : decode cX0_clear 84 = .ok (.aload_n 0, 1) := by decide +kernel
theorem dX0_clear_85 : decode cX0_clear 85 = .ok (.iconst 3, 1) := by decide +kernel
theorem dX0_clear_86 : decode cX0_clear 86 = .ok (.putfield 57, 3) := by decide +kernel
theorem dX0_clear_89 : decode cX0_clear 89 = .ok (.aload_n 0, 1) := by decide +kernel
theorem dX0_clear_90 : decode cX0_clear 90 = .ok (.bipush 6, 2) := by decide +kernel
theorem dX0_clear_92 : decode cX0_clear 92 = .ok (.putfield 60, 3) := by decide +kernel
theorem dX0_clear_95 : decode cX0_clear 95 = .ok (.aload_n 0, 1) := by decide +kernel
theorem dX0_clear_96 : decode cX0_clear 96 = .ok (.bipush 12, 2) := by decide +kernel
theorem dX0_clear_98 : decode cX0_clear 98 = .ok (.putfield 63, 3) := by decide +kernel
theorem dX0_clear_101 : decode cX0_clear 101 = .ok (.aload_n 0, 1) := by decide +kernel
theorem dX0_clear_102 : decode cX0_clear 102 = .ok (.iconst 0, 1) := by decide +kernel
theorem dX0_clear_103 : decode cX0_clear 103 = .ok (.putfield 66, 3) := by decide +kernel
theorem dX0_clear_106 : decode cX0_clear 106 = .ok (.aload_n 0, 1) := by decide +kernel
theorem dX0_clear_107 : decode cX0_clear 107 = .ok (.iconst 0, 1) := by decide +kernel
theorem dX0_clear_108 : decode cX0_clear 108 = .ok (.putfield 70, 3) := by decide +kernel
theorem dX0_clear_111 : decode cX0_clear 111 = .ok (.aload_n 0, 1) := by decide +kernel
theorem dX0_clear_112 : decode cX0_clear 112 = .ok (.iconst 0, 1) := by decide +kernel
theorem dX0_clear_113 : decode cX0_clear 113 = .ok (.putfield 73, 3) := by decide +kernel
theorem dX0_clear_116 : decode cX0_clear 116 = .ok (.return_, 1) := by decide +kernel
theorem dX0_slips_0 : decode cX0_slips 0 = .ok (.iload_n 1, 1) := by decide +kernel
theorem dX0_slips_1 : decode cX0_slips 1 = .ok (.tableswitch 50 (-1) 1 #[27, 32, 45], 27) := by decide +kernel
theorem dX0_slips_28 : decode cX0_slips 28 = .ok (.aload_n 0, 1) := by decide +kernel
theorem dX0_slips_29 : decode cX0_slips 29 = .ok (.getfield 51, 3) := by decide +kernel
theorem dX0_slips_32 : decode cX0_slips 32 = .ok (.ireturn, 1) := by decide +kernel
theorem dX0_slips_33 : decode cX0_slips 33 = .ok (.bipush 20, 2) := by decide +kernel
theorem dX0_slips_35 : decode cX0_slips 35 = .ok (.aload_n 0, 1) := by decide +kernel
theorem dX0_slips_36 : decode cX0_slips 36 = .ok (.getfield 51, 3) := by decide +kernel
theorem dX0_slips_39 : decode cX0_slips 39 = .ok (.isub, 1) := by decide +kernel
theorem dX0_slips_40 : decode cX0_slips 40 = .ok (.aload_n 0, 1) := by decide +kernel
theorem dX0_slips_41 : decode cX0_slips 41 = .ok (.getfield 54, 3) := by decide +kernel
theorem dX0_slips_44 : decode cX0_slips 44 = .ok (.isub, 1) := by decide +kernel
theorem dX0_slips_45 : decode cX0_slips 45 = .ok (.ireturn, 1) := by decide +kernel
theorem dX0_slips_46 : decode cX0_slips 46 = .ok (.aload_n 0, 1) := by decide +kernel
theorem dX0_slips_47 : decode cX0_slips 47 = .ok (.getfield 54, 3) := by decide +kernel
theorem dX0_slips_50 : decode cX0_slips 50 = .ok (.ireturn, 1) := by decide +kernel
theorem dX0_slips_51 : decode cX0_slips 51 = .ok (.iconst 0, 1) := by decide +kernel
theorem dX0_slips_52 : decode cX0_slips 52 = .ok (.ireturn, 1) := by decide +kernel
theorem dX0_takeTable_0 : decode cX0_takeTable 0 = .ok (.aload_n 1, 1) := by decide +kernel
theorem dX0_takeTable_1 : decode cX0_takeTable 1 = .ok (.getfield 76, 3) := by decide +kernel
theorem dX0_takeTable_4 : decode cX0_takeTable 4 = .ok (.aload_n 1, 1) := by decide +kernel
theorem dX0_takeTable_5 : decode cX0_takeTable 5 = .ok (.getfield 81, 3) := by decide +kernel
theorem dX0_takeTable_8 : decode cX0_takeTable 8 = .ok (.isub, 1) := by decide +kernel
theorem dX0_takeTable_9 : decode cX0_takeTable 9 = .ok (.bipush 25, 2) := by decide +kernel
theorem dX0_takeTable_11 : decode cX0_takeTable 11 = .ok (.if_icmp .eq 5, 3) := by decide +kernel
theorem dX0_takeTable_14 : decode cX0_takeTable 14 = .ok (.iconst 0, 1) := by decide +kernel
theorem dX0_takeTable_15 : decode cX0_takeTable 15 = .ok (.ireturn, 1) := by decide +kernel
theorem dX0_takeTable_16 : decode cX0_takeTable 16 = .ok (.iconst 0, 1) := by decide +kernel
theorem dX0_takeTable_17 : decode cX0_takeTable 17 = .ok (.istore_n 2, 1) := by decide +kernel
theorem dX0_takeTable_18 : decode cX0_takeTable 18 = .ok (.iload_n 2, 1) := by decide +kernel
theorem dX0_takeTable_19 : decode cX0_takeTable 19 = .ok (.bipush 25, 2) := by decide +kernel
theorem dX0_takeTable_21 : decode cX0_takeTable 21 = .ok (.if_icmp .ge 26, 3) := by decide +kernel
theorem dX0_takeTable_24 : decode cX0_takeTable 24 = .ok (.aload_n 0, 1) := by decide +kernel
theorem dX0_takeTable_25 : decode cX0_takeTable 25 = .ok (.getfield 9, 3) := by decide +kernel
theorem dX0_takeTable_28 : decode cX0_takeTable 28 = .ok (.iload_n 2, 1) := by decide +kernel
theorem dX0_takeTable_29 : decode cX0_takeTable 29 = .ok (.aload_n 1, 1) := by decide +kernel
theorem dX0_takeTable_30 : decode cX0_takeTable 30 = .ok (.getfield 84, 3) := by decide +kernel
theorem dX0_takeTable_33 : decode cX0_takeTable 33 = .ok (.aload_n 1, 1) := by decide +kernel
theorem dX0_takeTable_34 : decode cX0_takeTable 34 = .ok (.getfield 81, 3) := by decide +kernel
theorem dX0_takeTable_37 : decode cX0_takeTable 37 = .ok (.iload_n 2, 1) := by decide +kernel
theorem dX0_takeTable_38 : decode cX0_takeTable 38 = .ok (.iadd, 1) := by decide +kernel
theorem dX0_takeTable_39 : decode cX0_takeTable 39 = .ok (.baload, 1) := by decide +kernel
theorem dX0_takeTable_40 : decode cX0_takeTable 40 = .ok (.bastore, 1) := by decide +kernel
theorem dX0_takeTable_41 : decode cX0_takeTable 41 = .ok (.iinc 2 1, 3) := by decide +kernel
theorem dX0_takeTable_44 : decode cX0_takeTable 44 = .ok (.goto (-26), 3) := by decide +kernel
theorem dX0_takeTable_47 : decode cX0_takeTable 47 = .ok (.aload_n 0, 1) := by decide +kernel
theorem dX0_takeTable_48 : decode cX0_takeTable 48 = .ok (.invokevirtual 87, 3) := by decide +kernel
theorem dX0_takeTable_51 : decode cX0_takeTable 51 = .ok (.invokestatic 91, 3) := by decide +kernel
theorem dX0_takeTable_54 : decode cX0_takeTable 54 = .ok (.bipush 25, 2) := by decide +kernel
theorem dX0_takeTable_56 : decode cX0_takeTable 56 = .ok (.if_icmp .ne 7, 3) := by decide +kernel
theorem dX0_takeTable_59 : decode cX0_takeTable 59 = .ok (.iconst 1, 1) := by decide +kernel
theorem dX0_takeTable_60 : decode cX0_takeTable 60 = .ok (.goto 4, 3) := by decide +kernel
theorem dX0_takeTable_63 : decode cX0_takeTable 63 = .ok (.iconst 0, 1) := by decide +kernel
theorem dX0_takeTable_64 : decode cX0_takeTable 64 = .ok (.ireturn, 1) := by decide +kernel
theorem dX0_hasAllLetters_0 : decode cX0_hasAllLetters 0 = .ok (.aload_n 0, 1) := by decide +kernel
theorem dX0_hasAllLetters_1 : decode cX0_hasAllLetters 1 = .ok (.getfield 20, 3) := by decide +kernel
theorem dX0_hasAllLetters_4 : decode cX0_hasAllLetters 4 = .ok (.invokevirtual 97, 3) := by decide +kernel
theorem dX0_hasAllLetters_7 : decode cX0_hasAllLetters 7 = .ok (.aload_n 0, 1) := by decide +kernel
theorem dX0_hasAllLetters_8 : decode cX0_hasAllLetters 8 = .ok (.getfield 28, 3) := by decide +kernel
theorem dX0_hasAllLetters_11 : decode cX0_hasAllLetters 11 = .ok (.invokevirtual 97, 3) := by decide +kernel
theorem dX0_hasAllLetters_14 : decode cX0_hasAllLetters 14 = .ok (.ior, 1) := by decide +kernel
theorem dX0_hasAllLetters_15 : decode cX0_hasAllLetters 15 = .ok (.aload_n 0, 1) := by decide +kernel
theorem dX0_hasAllLetters_16 : decode cX0_hasAllLetters 16 = .ok (.getfield 31, 3) := by decide +kernel
theorem dX0_hasAllLetters_19 : decode cX0_hasAllLetters 19 = .ok (.invokevirtual 97, 3) := by decide +kernel
theorem dX0_hasAllLetters_22 : decode cX0_hasAllLetters 22 = .ok (.ior, 1) := by decide +kernel
theorem dX0_hasAllLetters_23 : decode cX0_hasAllLetters 23 = .ok (.istore_n 1, 1) := by decide +kernel
theorem dX0_hasAllLetters_24 : decode cX0_hasAllLetters 24 = .ok (.iload_n 1, 1) := by decide +kernel
theorem dX0_hasAllLetters_25 : decode cX0_hasAllLetters 25 = .ok (.aload_n 0, 1) := by decide +kernel
theorem dX0_hasAllLetters_26 : decode cX0_hasAllLetters 26 = .ok (.invokevirtual 87, 3) := by decide +kernel
theorem dX0_hasAllLetters_29 : decode cX0_hasAllLetters 29 = .ok (.iconst (-1), 1) := by decide +kernel
theorem dX0_hasAllLetters_30 : decode cX0_hasAllLetters 30 = .ok (.ixor, 1) := by decide +kernel
theorem dX0_hasAllLetters_31 : decode cX0_hasAllLetters 31 = .ok (.iand, 1) := by decide +kernel
theorem dX0_hasAllLetters_32 : decode cX0_hasAllLetters 32 = .ok (.ifCond .ne 7, 3) := by decide +kernel
theorem dX0_hasAllLetters_35 : decode cX0_hasAllLetters 35 = .ok (.iconst 1, 1) := by decide +kernel
theorem dX0_hasAllLetters_36 : decode cX0_hasAllLetters 36 = .ok (.goto 4, 3) := by decide +kernel
theorem dX0_hasAllLetters_39 : decode cX0_hasAllLetters 39 = .ok (.iconst 0, 1) := by decide +kernel
theorem dX0_hasAllLetters_40 : decode cX0_hasAllLetters 40 = .ok (.ireturn, 1) := by decide +kernel
theorem dX0_tableLetters_0 : decode cX0_tableLetters 0 = .ok (.iconst 0, 1) := by decide +kernel
theorem dX0_tableLetters_1 : decode cX0_tableLetters 1 = .ok (.istore_n 1, 1) := by decide +kernel
theorem dX0_tableLetters_2 : decode cX0_tableLetters 2 = .ok (.iconst 0, 1) := by decide +kernel
theorem dX0_tableLetters_3 : decode cX0_tableLetters 3 = .ok (.istore_n 2, 1) := by decide +kernel
theorem dX0_tableLetters_4 : decode cX0_tableLetters 4 = .ok (.iload_n 2, 1) := by decide +kernel
theorem dX0_tableLetters_5 : decode cX0_tableLetters 5 = .ok (.bipush 25, 2) := by decide +kernel
theorem dX0_tableLetters_7 : decode cX0_tableLetters 7 = .ok (.if_icmp .ge 23, 3) := by decide +kernel
theorem dX0_tableLetters_10 : decode cX0_tableLetters 10 = .ok (.iload_n 1, 1) := by decide +kernel
theorem dX0_tableLetters_11 : decode cX0_tableLetters 11 = .ok (.iconst 1, 1) := by decide +kernel
theorem dX0_tableLetters_12 : decode cX0_tableLetters 12 = .ok (.aload_n 0, 1) := by decide +kernel
theorem dX0_tableLetters_13 : decode cX0_tableLetters 13 = .ok (.getfield 9, 3) := by decide +kernel
theorem dX0_tableLetters_16 : decode cX0_tableLetters 16 = .ok (.iload_n 2, 1) := by decide +kernel
theorem dX0_tableLetters_17 : decode cX0_tableLetters 17 = .ok (.baload, 1) := by decide +kernel
theorem dX0_tableLetters_18 : decode cX0_tableLetters 18 = .ok (.bipush 97, 2) := by decide +kernel
theorem dX0_tableLetters_20 : decode cX0_tableLetters 20 = .ok (.isub, 1) := by decide +kernel
theorem dX0_tableLetters_21 : decode cX0_tableLetters 21 = .ok (.ishl, 1) := by decide +kernel
theorem dX0_tableLetters_22 : decode cX0_tableLetters 22 = .ok (.ior, 1) := by decide +kernel
theorem dX0_tableLetters_23 : decode cX0_tableLetters 23 = .ok (.istore_n 1, 1) := by decide +kernel
theorem dX0_tableLetters_24 : decode cX0_tableLetters 24 = .ok (.iinc 2 1, 3) := by decide +kernel
theorem dX0_tableLetters_27 : decode cX0_tableLetters 27 = .ok (.goto (-23), 3) := by decide +kernel
theorem dX0_tableLetters_30 : decode cX0_tableLetters 30 = .ok (.iload_n 1, 1) := by decide +kernel
theorem dX0_tableLetters_31 : decode cX0_tableLetters 31 = .ok (.ireturn, 1) := by decide +kernel
theorem dX1_init_0 : decode cX1_init 0 = .ok (.aload_n 0, 1) := by decide +kernel
theorem dX1_init_1 : decode cX1_init 1 = .ok (.invokespecial 3, 3) := by decide +kernel
theorem dX1_init_4 : decode cX1_init 4 = .ok (.aload_n 0, 1) := by decide +kernel
theorem dX1_init_5 : decode cX1_init 5 = .ok (.bipush 10, 2) := by decide +kernel
theorem dX1_init_7 : decode cX1_init 7 = .ok (.newarray .long, 2) := by decide +kernel
theorem dX1_init_9 : decode cX1_init 9 = .ok (.putfield 9, 3) := by decide +kernel
theorem dX1_init_12 : decode cX1_init 12 = .ok (.aload_n 0, 1) := by decide +kernel
theorem dX1_init_13 : decode cX1_init 13 = .ok (.bipush 7, 2) := by decide +kernel
theorem dX1_init_15 : decode cX1_init 15 = .ok (.bipush 10, 2) := by decide +kernel
theorem dX1_init_17 : decode cX1_init 17 = .ok (.multianewarray 15 2, 4) := by decide +kernel
theorem dX1_init_21 : decode cX1_init 21 = .ok (.putfield 17, 3) := by decide +kernel
theorem dX1_init_24 : decode cX1_init 24 = .ok (.aload_n 0, 1) := by decide +kernel
theorem dX1_init_25 : decode cX1_init 25 = .ok (.bipush 6, 2) := by decide +kernel
theorem dX1_init_27 : decode cX1_init 27 = .ok (.bipush 10, 2) := by decide +kernel
theorem dX1_init_29 : decode cX1_init 29 = .ok (.multianewarray 20 2, 4) := by decide +kernel
theorem dX1_init_33 : decode cX1_init 33 = .ok (.putfield 22, 3) := by decide +kernel
theorem dX1_init_36 : decode cX1_init 36 = .ok (.return_, 1) := by decide +kernel
theorem dX1_weigh_0 : decode cX1_weigh 0 = .ok (.aload_n 0, 1) := by decide +kernel
theorem dX1_weigh_1 : decode cX1_weigh 1 = .ok (.lconst 0, 1) := by decide +kernel
theorem dX1_weigh_2 : decode cX1_weigh 2 = .ok (.putfield 25, 3) := by decide +kernel
theorem dX1_weigh_5 : decode cX1_weigh 5 = .ok (.iconst 0, 1) := by decide +kernel
theorem dX1_weigh_6 : decode cX1_weigh 6 = .ok (.istore_n 3, 1) := by decide +kernel
theorem dX1_weigh_7 : decode cX1_weigh 7 = .ok (.iload_n 3, 1) := by decide +kernel
theorem dX1_weigh_8 : decode cX1_weigh 8 = .ok (.aload_n 1, 1) := by decide +kernel
theorem dX1_weigh_9 : decode cX1_weigh 9 = .ok (.getfield 29, 3) := by decide +kernel
theorem dX1_weigh_12 : decode cX1_weigh 12 = .ok (.getfield 35, 3) := by decide +kernel
theorem dX1_weigh_15 : decode cX1_weigh 15 = .ok (.if_icmp .ge 36, 3) := by decide +kernel
theorem dX1_weigh_18 : decode cX1_weigh 18 = .ok (.aload_n 0, 1) := by decide +kernel
theorem dX1_weigh_19 : decode cX1_weigh 19 = .ok (.getfield 9, 3) := by decide +kernel
theorem dX1_weigh_22 : decode cX1_weigh 22 = .ok (.iload_n 3, 1) := by decide +kernel
theorem dX1_weigh_23 : decode cX1_weigh 23 = .ok (.aload_n 1, 1) := by decide +kernel
theorem dX1_weigh_24 : decode cX1_weigh 24 = .ok (.aload_n 2, 1) := by decide +kernel
theorem dX1_weigh_25 : decode cX1_weigh 25 = .ok (.iload_n 3, 1) := by decide +kernel
theorem dX1_weigh_26 : decode cX1_weigh 26 = .ok (.invokestatic 41, 3) := by decide +kernel
theorem dX1_weigh_29 : decode cX1_weigh 29 = .ok (.lastore, 1) := by decide +kernel
theorem dX1_weigh_30 : decode cX1_weigh 30 = .ok (.aload_n 0, 1) := by decide +kernel
theorem dX1_weigh_31 : decode cX1_weigh 31 = .ok (.dup, 1) := by decide +kernel
theorem dX1_weigh_32 : decode cX1_weigh 32 = .ok (.getfield 25, 3) := by decide +kernel
theorem dX1_weigh_35 : decode cX1_weigh 35 = .ok (.aload_n 0, 1) := by decide +kernel
theorem dX1_weigh_36 : decode cX1_weigh 36 = .ok (.getfield 9, 3) := by decide +kernel
theorem dX1_weigh_39 : decode cX1_weigh 39 = .ok (.iload_n 3, 1) := by decide +kernel
theorem dX1_weigh_40 : decode cX1_weigh 40 = .ok (.laload, 1) := by decide +kernel
theorem dX1_weigh_41 : decode cX1_weigh 41 = .ok (.ladd, 1) := by decide +kernel
theorem dX1_weigh_42 : decode cX1_weigh 42 = .ok (.putfield 25, 3) := by decide +kernel
theorem dX1_weigh_45 : decode cX1_weigh 45 = .ok (.iinc 3 1, 3) := by decide +kernel
theorem dX1_weigh_48 : decode cX1_weigh 48 = .ok (.goto (-41), 3) := by decide +kernel
theorem dX1_weigh_51 : decode cX1_weigh 51 = .ok (.aload_n 0, 1) := by decide +kernel
theorem dX1_weigh_52 : decode cX1_weigh 52 = .ok (.aload_n 0, 1) := by decide +kernel
theorem dX1_weigh_53 : decode cX1_weigh 53 = .ok (.getfield 9, 3) := by decide +kernel
theorem dX1_weigh_56 : decode cX1_weigh 56 = .ok (.aload_n 1, 1) := by decide +kernel
theorem dX1_weigh_57 : decode cX1_weigh 57 = .ok (.getfield 29, 3) := by decide +kernel
theorem dX1_weigh_60 : decode cX1_weigh 60 = .ok (.getfield 35, 3) := by decide +kernel
theorem dX1_weigh_63 : decode cX1_weigh 63 = .ok (.invokestatic 45, 3) := by decide +kernel
theorem dX1_weigh_66 : decode cX1_weigh 66 = .ok (.putfield 49, 3) := by decide +kernel
theorem dX1_weigh_69 : decode cX1_weigh 69 = .ok (.return_, 1) := by decide +kernel
theorem dX1_chanceOf_0 : decode cX1_chanceOf 0 = .ok (.iconst 2, 1) := by decide +kernel
theorem dX1_chanceOf_1 : decode cX1_chanceOf 1 = .ok (.aload_n 0, 1) := by decide +kernel
theorem dX1_chanceOf_2 : decode cX1_chanceOf 2 = .ok (.getfield 29, 3) := by decide +kernel
theorem dX1_chanceOf_5 : decode cX1_chanceOf 5 = .ok (.iload_n 2, 1) := by decide +kernel
theorem dX1_chanceOf_6 : decode cX1_chanceOf 6 = .ok (.invokevirtual 52, 3) := by decide +kernel
theorem dX1_chanceOf_9 : decode cX1_chanceOf 9 = .ok (.imul, 1) := by decide +kernel
theorem dX1_chanceOf_10 : decode cX1_chanceOf 10 = .ok (.aload_n 1, 1) := by decide +kernel
theorem dX1_chanceOf_11 : decode cX1_chanceOf 11 = .ok (.getfield 56, 3) := by decide +kernel
theorem dX1_chanceOf_14 : decode cX1_chanceOf 14 = .ok (.if_icmp .eq 5, 3) := by decide +kernel
theorem dX1_chanceOf_17 : decode cX1_chanceOf 17 = .ok (.lconst 0, 1) := by decide +kernel
theorem dX1_chanceOf_18 : decode cX1_chanceOf 18 = .ok (.lreturn, 1) := by decide +kernel
theorem dX1_chanceOf_19 : decode cX1_chanceOf 19 = .ok (.aload_n 0, 1) := by decide +kernel
theorem dX1_chanceOf_20 : decode cX1_chanceOf 20 = .ok (.getfield 61, 3) := by decide +kernel
theorem dX1_chanceOf_23 : decode cX1_chanceOf 23 = .ok (.iload_n 2, 1) := by decide +kernel
theorem dX1_chanceOf_24 : decode cX1_chanceOf 24 = .ok (.iaload, 1) := by decide +kernel
theorem dX1_chanceOf_25 : decode cX1_chanceOf 25 = .ok (.i2l, 1) := by decide +kernel
theorem dX1_chanceOf_26 : decode cX1_chanceOf 26 = .ok (.lstore_n 3, 1) := by decide +kernel
theorem dX1_chanceOf_27 : decode cX1_chanceOf 27 = .ok (.iconst 0, 1) := by decide +kernel
theorem dX1_chanceOf_28 : decode cX1_chanceOf 28 = .ok (.istore 5, 2) := by decide +kernel
theorem dX1_chanceOf_30 : decode cX1_chanceOf 30 = .ok (.iload 5, 2) := by decide +kernel
theorem dX1_chanceOf_32 : decode cX1_chanceOf 32 = .ok (.aload_n 1, 1) := by decide +kernel
theorem dX1_chanceOf_33 : decode cX1_chanceOf 33 = .ok (.getfield 56, 3) := by decide +kernel
theorem dX1_chanceOf_36 : decode cX1_chanceOf 36 = .ok (.if_icmp .ge 36, 3) := by decide +kernel
theorem dX1_chanceOf_39 : decode cX1_chanceOf 39 = .ok (.lload_n 3, 1) := by decide +kernel
theorem dX1_chanceOf_40 : decode cX1_chanceOf 40 = .ok (.aload_n 0, 1) := by decide +kernel
theorem dX1_chanceOf_41 : decode cX1_chanceOf 41 = .ok (.aload_n 1, 1) := by decide +kernel
theorem dX1_chanceOf_42 : decode cX1_chanceOf 42 = .ok (.getfield 65, 3) := by decide +kernel
theorem dX1_chanceOf_45 : decode cX1_chanceOf 45 = .ok (.iload 5, 2) := by decide +kernel
theorem dX1_chanceOf_47 : decode cX1_chanceOf 47 = .ok (.iaload, 1) := by decide +kernel
theorem dX1_chanceOf_48 : decode cX1_chanceOf 48 = .ok (.aload_n 1, 1) := by decide +kernel
theorem dX1_chanceOf_49 : decode cX1_chanceOf 49 = .ok (.aload_n 0, 1) := by decide +kernel
theorem dX1_chanceOf_50 : decode cX1_chanceOf 50 = .ok (.getfield 29, 3) := by decide +kernel
theorem dX1_chanceOf_53 : decode cX1_chanceOf 53 = .ok (.iload_n 2, 1) := by decide +kernel
theorem dX1_chanceOf_54 : decode cX1_chanceOf 54 = .ok (.iload 5, 2) := by decide +kernel
theorem dX1_chanceOf_56 : decode cX1_chanceOf 56 = .ok (.invokevirtual 68, 3) := by decide +kernel
theorem dX1_chanceOf_59 : decode cX1_chanceOf 59 = .ok (.isub, 1) := by decide +kernel
theorem dX1_chanceOf_60 : decode cX1_chanceOf 60 = .ok (.invokevirtual 72, 3) := by decide +kernel
theorem dX1_chanceOf_63 : decode cX1_chanceOf 63 = .ok (.i2l, 1) := by decide +kernel
theorem dX1_chanceOf_64 : decode cX1_chanceOf 64 = .ok (.lmul, 1) := by decide +kernel
theorem dX1_chanceOf_65 : decode cX1_chanceOf 65 = .ok (.lstore_n 3, 1) := by decide +kernel
theorem dX1_chanceOf_66 : decode cX1_chanceOf 66 = .ok (.iinc 5 1, 3) := by decide +kernel
theorem dX1_chanceOf_69 : decode cX1_chanceOf 69 = .ok (.goto (-39), 3) := by decide +kernel
theorem dX1_chanceOf_72 : decode cX1_chanceOf 72 = .ok (.lload_n 3, 1) := by decide +kernel
theorem dX1_chanceOf_73 : decode cX1_chanceOf 73 = .ok (.lreturn, 1) := by decide +kernel
theorem dX1_topOf_0 : decode cX1_topOf 0 = .ok (.iconst (-1), 1) := by decide +kernel
theorem dX1_topOf_1 : decode cX1_topOf 1 = .ok (.istore_n 2, 1) := by decide +kernel
theorem dX1_topOf_2 : decode cX1_topOf 2 = .ok (.lconst 0, 1) := by decide +kernel
theorem dX1_topOf_3 : decode cX1_topOf 3 = .ok (.lstore_n 3, 1) := by decide +kernel
theorem dX1_topOf_4 : decode cX1_topOf 4 = .ok (.iconst 0, 1) := by decide +kernel
theorem dX1_topOf_5 : decode cX1_topOf 5 = .ok (.istore 5, 2) := by decide +kernel
theorem dX1_topOf_7 : decode cX1_topOf 7 = .ok (.iload 5, 2) := by decide +kernel
theorem dX1_topOf_9 : decode cX1_topOf 9 = .ok (.iload_n 1, 1) := by decide +kernel
theorem dX1_topOf_10 : decode cX1_topOf 10 = .ok (.if_icmp .ge 26, 3) := by decide +kernel
theorem dX1_topOf_13 : decode cX1_topOf 13 = .ok (.aload_n 0, 1) := by decide +kernel
theorem dX1_topOf_14 : decode cX1_topOf 14 = .ok (.iload 5, 2) := by decide +kernel
theorem dX1_topOf_16 : decode cX1_topOf 16 = .ok (.laload, 1) := by decide +kernel
theorem dX1_topOf_17 : decode cX1_topOf 17 = .ok (.lload_n 3, 1) := by decide +kernel
theorem dX1_topOf_18 : decode cX1_topOf 18 = .ok (.lcmp, 1) := by decide +kernel
theorem dX1_topOf_19 : decode cX1_topOf 19 = .ok (.ifCond .le 11, 3) := by decide +kernel
theorem dX1_topOf_22 : decode cX1_topOf 22 = .ok (.iload 5, 2) := by decide +kernel
theorem dX1_topOf_24 : decode cX1_topOf 24 = .ok (.istore_n 2, 1) := by decide +kernel
theorem dX1_topOf_25 : decode cX1_topOf 25 = .ok (.aload_n 0, 1) := by decide +kernel
theorem dX1_topOf_26 : decode cX1_topOf 26 = .ok (.iload 5, 2) := by decide +kernel
theorem dX1_topOf_28 : decode cX1_topOf 28 = .ok (.laload, 1) := by decide +kernel
theorem dX1_topOf_29 : decode cX1_topOf 29 = .ok (.lstore_n 3, 1) := by decide +kernel
theorem dX1_topOf_30 : decode cX1_topOf 30 = .ok (.iinc 5 1, 3) := by decide +kernel
theorem dX1_topOf_33 : decode cX1_topOf 33 = .ok (.goto (-26), 3) := by decide +kernel
theorem dX1_topOf_36 : decode cX1_topOf 36 = .ok (.iload_n 2, 1) := by decide +kernel
theorem dX1_topOf_37 : decode cX1_topOf 37 = .ok (.ireturn, 1) := by decide +kernel
theorem dX1_readRight_0 : decode cX1_readRight 0 = .ok (.iconst 2, 1) := by decide +kernel
theorem dX1_readRight_1 : decode cX1_readRight 1 = .ok (.aload_n 1, 1) := by decide +kernel
theorem dX1_readRight_2 : decode cX1_readRight 2 = .ok (.getfield 29, 3) := by decide +kernel
theorem dX1_readRight_5 : decode cX1_readRight 5 = .ok (.iload_n 3, 1) := by decide +kernel
theorem dX1_readRight_6 : decode cX1_readRight 6 = .ok (.invokevirtual 52, 3) := by decide +kernel
theorem dX1_readRight_9 : decode cX1_readRight 9 = .ok (.imul, 1) := by decide +kernel
theorem dX1_readRight_10 : decode cX1_readRight 10 = .ok (.istore 5, 2) := by decide +kernel
theorem dX1_readRight_12 : decode cX1_readRight 12 = .ok (.iload 5, 2) := by decide +kernel
theorem dX1_readRight_14 : decode cX1_readRight 14 = .ok (.iconst 1, 1) := by decide +kernel
theorem dX1_readRight_15 : decode cX1_readRight 15 = .ok (.if_icmp .lt 13, 3) := by decide +kernel
theorem dX1_readRight_18 : decode cX1_readRight 18 = .ok (.iload 5, 2) := by decide +kernel
theorem dX1_readRight_20 : decode cX1_readRight 20 = .ok (.iload 4, 2) := by decide +kernel
theorem dX1_readRight_22 : decode cX1_readRight 22 = .ok (.imul, 1) := by decide +kernel
theorem dX1_readRight_23 : decode cX1_readRight 23 = .ok (.bipush 6, 2) := by decide +kernel
theorem dX1_readRight_25 : decode cX1_readRight 25 = .ok (.if_icmp .le 5, 3) := by decide +kernel
theorem dX1_readRight_28 : decode cX1_readRight 28 = .ok (.lconst 0, 1) := by decide +kernel
theorem dX1_readRight_29 : decode cX1_readRight 29 = .ok (.lreturn, 1) := by decide +kernel
theorem dX1_readRight_30 : decode cX1_readRight 30 = .ok (.iconst 0, 1) := by decide +kernel
theorem dX1_readRight_31 : decode cX1_readRight 31 = .ok (.istore 6, 2) := by decide +kernel
theorem dX1_readRight_33 : decode cX1_readRight 33 = .ok (.iload 6, 2) := by decide +kernel
theorem dX1_readRight_35 : decode cX1_readRight 35 = .ok (.aload_n 1, 1) := by decide +kernel
theorem dX1_readRight_36 : decode cX1_readRight 36 = .ok (.getfield 29, 3) := by decide +kernel
theorem dX1_readRight_39 : decode cX1_readRight 39 = .ok (.getfield 35, 3) := by decide +kernel
theorem dX1_readRight_42 : decode cX1_readRight 42 = .ok (.if_icmp .ge 84, 3) := by decide +kernel
theorem dX1_readRight_45 : decode cX1_readRight 45 = .ok (.aload_n 0, 1) := by decide +kernel
theorem dX1_readRight_46 : decode cX1_readRight 46 = .ok (.getfield 17, 3) := by decide +kernel
theorem dX1_readRight_49 : decode cX1_readRight 49 = .ok (.iconst 0, 1) := by decide +kernel
theorem dX1_readRight_50 : decode cX1_readRight 50 = .ok (.aaload, 1) := by decide +kernel
theorem dX1_readRight_51 : decode cX1_readRight 51 = .ok (.iload 6, 2) := by decide +kernel
theorem dX1_readRight_53 : decode cX1_readRight 53 = .ok (.iconst 2, 1) := by decide +kernel
theorem dX1_readRight_54 : decode cX1_readRight 54 = .ok (.aload_n 1, 1) := by decide +kernel
theorem dX1_readRight_55 : decode cX1_readRight 55 = .ok (.getfield 29, 3) := by decide +kernel
theorem dX1_readRight_58 : decode cX1_readRight 58 = .ok (.iload 6, 2) := by decide +kernel
theorem dX1_readRight_60 : decode cX1_readRight 60 = .ok (.invokevirtual 52, 3) := by decide +kernel
theorem dX1_readRight_63 : decode cX1_readRight 63 = .ok (.imul, 1) := by decide +kernel
theorem dX1_readRight_64 : decode cX1_readRight 64 = .ok (.iload 5, 2) := by decide +kernel
theorem dX1_readRight_66 : decode cX1_readRight 66 = .ok (.if_icmp .ne 14, 3) := by decide +kernel
theorem dX1_readRight_69 : decode cX1_readRight 69 = .ok (.aload_n 1, 1) := by decide +kernel
theorem dX1_readRight_70 : decode cX1_readRight 70 = .ok (.getfield 61, 3) := by decide +kernel
theorem dX1_readRight_73 : decode cX1_readRight 73 = .ok (.iload 6, 2) := by decide +kernel
theorem dX1_readRight_75 : decode cX1_readRight 75 = .ok (.iaload, 1) := by decide +kernel
theorem dX1_readRight_76 : decode cX1_readRight 76 = .ok (.i2l, 1) := by decide +kernel
theorem dX1_readRight_77 : decode cX1_readRight 77 = .ok (.goto 4, 3) := by decide +kernel
theorem dX1_readRight_80 : decode cX1_readRight 80 = .ok (.lconst 0, 1) := by decide +kernel
theorem dX1_readRight_81 : decode cX1_readRight 81 = .ok (.lastore, 1) := by decide +kernel
theorem dX1_readRight_82 : decode cX1_readRight 82 = .ok (.iconst 0, 1) := by decide +kernel
theorem dX1_readRight_83 : decode cX1_readRight 83 = .ok (.istore 7, 2) := by decide +kernel
theorem dX1_readRight_85 : decode cX1_readRight 85 = .ok (.iload 7, 2) := by decide +kernel
theorem dX1_readRight_87 : decode cX1_readRight 87 = .ok (.iload 5, 2) := by decide +kernel
theorem dX1_readRight_89 : decode cX1_readRight 89 = .ok (.if_icmp .ge 31, 3) := by decide +kernel
theorem dX1_readRight_92 : decode cX1_readRight 92 = .ok (.aload_n 0, 1) := by decide +kernel
theorem dX1_readRight_93 : decode cX1_readRight 93 = .ok (.getfield 22, 3) := by decide +kernel
theorem dX1_readRight_96 : decode cX1_readRight 96 = .ok (.iload 7, 2) := by decide +kernel
theorem dX1_readRight_98 : decode cX1_readRight 98 = .ok (.aaload, 1) := by decide +kernel
theorem dX1_readRight_99 : decode cX1_readRight 99 = .ok (.iload 6, 2) := by decide +kernel
theorem dX1_readRight_101 : decode cX1_readRight 101 = .ok (.aload_n 2, 1) := by decide +kernel
theorem dX1_readRight_102 : decode cX1_readRight 102 = .ok (.aload_n 1, 1) := by decide +kernel
theorem dX1_readRight_103 : decode cX1_readRight 103 = .ok (.getfield 29, 3) := by decide +kernel
theorem dX1_readRight_106 : decode cX1_readRight 106 = .ok (.iload 6, 2) := by decide +kernel
theorem dX1_readRight_108 : decode cX1_readRight 108 = .ok (.iload 7, 2) := by decide +kernel
theorem dX1_readRight_110 : decode cX1_readRight 110 = .ok (.invokevirtual 68, 3) := by decide +kernel
theorem dX1_readRight_113 : decode cX1_readRight 113 = .ok (.iastore, 1) := by decide +kernel
theorem dX1_readRight_114 : decode cX1_readRight 114 = .ok (.iinc 7 1, 3) := by decide +kernel
theorem dX1_readRight_117 : decode cX1_readRight 117 = .ok (.goto (-32), 3) := by decide +kernel
theorem dX1_readRight_120 : decode cX1_readRight 120 = .ok (.iinc 6 1, 3) := by decide +kernel
theorem dX1_readRight_123 : decode cX1_readRight 123 = .ok (.goto (-90), 3) := by decide +kernel
theorem dX1_readRight_126 : decode cX1_readRight 126 = .ok (.aload_n 0, 1) := by decide +kernel
theorem dX1_readRight_127 : decode cX1_readRight 127 = .ok (.aload_n 1, 1) := by decide +kernel
theorem dX1_readRight_128 : decode cX1_readRight 128 = .ok (.iload_n 3, 1) := by decide +kernel
theorem dX1_readRight_129 : decode cX1_readRight 129 = .ok (.iload 5, 2) := by decide +kernel
theorem dX1_readRight_131 : decode cX1_readRight 131 = .ok (.iconst 0, 1) := by decide +kernel
theorem dX1_readRight_132 : decode cX1_readRight 132 = .ok (.iload 5, 2) := by decide +kernel
theorem dX1_readRight_134 : decode cX1_readRight 134 = .ok (.iload 4, 2) := by decide +kernel
theorem dX1_readRight_136 : decode cX1_readRight 136 = .ok (.imul, 1) := by decide +kernel
theorem dX1_readRight_137 : decode cX1_readRight 137 = .ok (.invokestatic 75, 3) := by decide +kernel
theorem dX1_readRight_140 : decode cX1_readRight 140 = .ok (.lreturn, 1) := by decide +kernel
theorem dX1_goodWays_0 : decode cX1_goodWays 0 = .ok (.iload 4, 2) := by decide +kernel
theorem dX1_goodWays_2 : decode cX1_goodWays 2 = .ok (.iload 5, 2) := by decide +kernel
theorem dX1_goodWays_4 : decode cX1_goodWays 4 = .ok (.if_icmp .ge 8, 3) := by decide +kernel
theorem dX1_goodWays_7 : decode cX1_goodWays 7 = .ok (.iload_n 3, 1) := by decide +kernel
theorem dX1_goodWays_8 : decode cX1_goodWays 8 = .ok (.iconst 1, 1) := by decide +kernel
theorem dX1_goodWays_9 : decode cX1_goodWays 9 = .ok (.if_icmp .ge 38, 3) := by decide +kernel
theorem dX1_goodWays_12 : decode cX1_goodWays 12 = .ok (.aload_n 0, 1) := by decide +kernel
theorem dX1_goodWays_13 : decode cX1_goodWays 13 = .ok (.getfield 17, 3) := by decide +kernel
theorem dX1_goodWays_16 : decode cX1_goodWays 16 = .ok (.iload 5, 2) := by decide +kernel
theorem dX1_goodWays_18 : decode cX1_goodWays 18 = .ok (.aaload, 1) := by decide +kernel
theorem dX1_goodWays_19 : decode cX1_goodWays 19 = .ok (.aload_n 1, 1) := by decide +kernel
theorem dX1_goodWays_20 : decode cX1_goodWays 20 = .ok (.getfield 29, 3) := by decide +kernel
theorem dX1_goodWays_23 : decode cX1_goodWays 23 = .ok (.getfield 35, 3) := by decide +kernel
theorem dX1_goodWays_26 : decode cX1_goodWays 26 = .ok (.invokestatic 45, 3) := by decide +kernel
theorem dX1_goodWays_29 : decode cX1_goodWays 29 = .ok (.iload_n 2, 1) := by decide +kernel
theorem dX1_goodWays_30 : decode cX1_goodWays 30 = .ok (.if_icmp .ne 15, 3) := by decide +kernel
theorem dX1_goodWays_33 : decode cX1_goodWays 33 = .ok (.aload_n 0, 1) := by decide +kernel
theorem dX1_goodWays_34 : decode cX1_goodWays 34 = .ok (.getfield 17, 3) := by decide +kernel
theorem dX1_goodWays_37 : decode cX1_goodWays 37 = .ok (.iload 5, 2) := by decide +kernel
theorem dX1_goodWays_39 : decode cX1_goodWays 39 = .ok (.aaload, 1) := by decide +kernel
theorem dX1_goodWays_40 : decode cX1_goodWays 40 = .ok (.iload_n 2, 1) := by decide +kernel
theorem dX1_goodWays_41 : decode cX1_goodWays 41 = .ok (.laload, 1) := by decide +kernel
theorem dX1_goodWays_42 : decode cX1_goodWays 42 = .ok (.goto 4, 3) := by decide +kernel
theorem dX1_goodWays_45 : decode cX1_goodWays 45 = .ok (.lconst 0, 1) := by decide +kernel
theorem dX1_goodWays_46 : decode cX1_goodWays 46 = .ok (.lreturn, 1) := by decide +kernel
theorem dX1_goodWays_47 : decode cX1_goodWays 47 = .ok (.aload_n 0, 1) := by decide +kernel
theorem dX1_goodWays_48 : decode cX1_goodWays 48 = .ok (.getfield 22, 3) := by decide +kernel
theorem dX1_goodWays_51 : decode cX1_goodWays 51 = .ok (.iload 4, 2) := by decide +kernel
theorem dX1_goodWays_53 : decode cX1_goodWays 53 = .ok (.iload_n 3, 1) := by decide +kernel
theorem dX1_goodWays_54 : decode cX1_goodWays 54 = .ok (.irem, 1) := by decide +kernel
theorem dX1_goodWays_55 : decode cX1_goodWays 55 = .ok (.aaload, 1) := by decide +kernel
theorem dX1_goodWays_56 : decode cX1_goodWays 56 = .ok (.astore 6, 2) := by decide +kernel
theorem dX1_goodWays_58 : decode cX1_goodWays 58 = .ok (.lconst 0, 1) := by decide +kernel
theorem dX1_goodWays_59 : decode cX1_goodWays 59 = .ok (.lstore 7, 2) := by decide +kernel
theorem dX1_goodWays_61 : decode cX1_goodWays 61 = .ok (.iconst (-1), 1) := by decide +kernel
theorem dX1_goodWays_62 : decode cX1_goodWays 62 = .ok (.istore 9, 2) := by decide +kernel
theorem dX1_goodWays_64 : decode cX1_goodWays 64 = .ok (.iload 9, 2) := by decide +kernel
theorem dX1_goodWays_66 : decode cX1_goodWays 66 = .ok (.iconst 1, 1) := by decide +kernel
theorem dX1_goodWays_67 : decode cX1_goodWays 67 = .ok (.if_icmp .gt 52, 3) := by decide +kernel
theorem dX1_goodWays_70 : decode cX1_goodWays 70 = .ok (.aload_n 1, 1) := by decide +kernel
theorem dX1_goodWays_71 : decode cX1_goodWays 71 = .ok (.iload 9, 2) := by decide +kernel
theorem dX1_goodWays_73 : decode cX1_goodWays 73 = .ok (.invokevirtual 72, 3) := by decide +kernel
theorem dX1_goodWays_76 : decode cX1_goodWays 76 = .ok (.ifCond .le 37, 3) := by decide +kernel
theorem dX1_goodWays_79 : decode cX1_goodWays 79 = .ok (.aload_n 0, 1) := by decide +kernel
theorem dX1_goodWays_80 : decode cX1_goodWays 80 = .ok (.aload_n 1, 1) := by decide +kernel
theorem dX1_goodWays_81 : decode cX1_goodWays 81 = .ok (.aload 6, 2) := by decide +kernel
theorem dX1_goodWays_83 : decode cX1_goodWays 83 = .ok (.iload 4, 2) := by decide +kernel
theorem dX1_goodWays_85 : decode cX1_goodWays 85 = .ok (.aload 6, 2) := by decide +kernel
theorem dX1_goodWays_87 : decode cX1_goodWays 87 = .ok (.iload_n 2, 1) := by decide +kernel
theorem dX1_goodWays_88 : decode cX1_goodWays 88 = .ok (.iaload, 1) := by decide +kernel
theorem dX1_goodWays_89 : decode cX1_goodWays 89 = .ok (.iload 9, 2) := by decide +kernel
theorem dX1_goodWays_91 : decode cX1_goodWays 91 = .ok (.iadd, 1) := by decide +kernel
theorem dX1_goodWays_92 : decode cX1_goodWays 92 = .ok (.invokevirtual 79, 3) := by decide +kernel
theorem dX1_goodWays_95 : decode cX1_goodWays 95 = .ok (.lload 7, 2) := by decide +kernel
theorem dX1_goodWays_97 : decode cX1_goodWays 97 = .ok (.aload_n 0, 1) := by decide +kernel
theorem dX1_goodWays_98 : decode cX1_goodWays 98 = .ok (.aload_n 1, 1) := by decide +kernel
theorem dX1_goodWays_99 : decode cX1_goodWays 99 = .ok (.iload_n 2, 1) := by decide +kernel
theorem dX1_goodWays_100 : decode cX1_goodWays 100 = .ok (.iload_n 3, 1) := by decide +kernel
theorem dX1_goodWays_101 : decode cX1_goodWays 101 = .ok (.iload 4, 2) := by decide +kernel
theorem dX1_goodWays_103 : decode cX1_goodWays 103 = .ok (.iconst 1, 1) := by decide +kernel
theorem dX1_goodWays_104 : decode cX1_goodWays 104 = .ok (.iadd, 1) := by decide +kernel
theorem dX1_goodWays_105 : decode cX1_goodWays 105 = .ok (.iload 5, 2) := by decide +kernel
theorem dX1_goodWays_107 : decode cX1_goodWays 107 = .ok (.invokestatic 75, 3) := by decide +kernel
theorem dX1_goodWays_110 : decode cX1_goodWays 110 = .ok (.ladd, 1) := by decide +kernel
theorem dX1_goodWays_111 : decode cX1_goodWays 111 = .ok (.lstore 7, 2) := by decide +kernel
theorem dX1_goodWays_113 : decode cX1_goodWays 113 = .ok (.iinc 9 1, 3) := by decide +kernel
theorem dX1_goodWays_116 : decode cX1_goodWays 116 = .ok (.goto (-52), 3) := by decide +kernel
theorem dX1_goodWays_119 : decode cX1_goodWays 119 = .ok (.lload 7, 2) := by decide +kernel
theorem dX1_goodWays_121 : decode cX1_goodWays 121 = .ok (.lreturn, 1) := by decide +kernel
theorem dX1_listen_0 : decode cX1_listen 0 = .ok (.aload_n 0, 1) := by decide +kernel
theorem dX1_listen_1 : decode cX1_listen 1 = .ok (.getfield 17, 3) := by decide +kernel
theorem dX1_listen_4 : decode cX1_listen 4 = .ok (.iload_n 3, 1) := by decide +kernel
theorem dX1_listen_5 : decode cX1_listen 5 = .ok (.aaload, 1) := by decide +kernel
theorem dX1_listen_6 : decode cX1_listen 6 = .ok (.astore 5, 2) := by decide +kernel
theorem dX1_listen_8 : decode cX1_listen 8 = .ok (.aload_n 0, 1) := by decide +kernel
theorem dX1_listen_9 : decode cX1_listen 9 = .ok (.getfield 17, 3) := by decide +kernel
theorem dX1_listen_12 : decode cX1_listen 12 = .ok (.iload_n 3, 1) := by decide +kernel
theorem dX1_listen_13 : decode cX1_listen 13 = .ok (.iconst 1, 1) := by decide +kernel
theorem dX1_listen_14 : decode cX1_listen 14 = .ok (.iadd, 1) := by decide +kernel
theorem dX1_listen_15 : decode cX1_listen 15 = .ok (.aaload, 1) := by decide +kernel
theorem dX1_listen_16 : decode cX1_listen 16 = .ok (.astore 6, 2) := by decide +kernel
theorem dX1_listen_18 : decode cX1_listen 18 = .ok (.iconst 0, 1) := by decide +kernel
theorem dX1_listen_19 : decode cX1_listen 19 = .ok (.istore 7, 2) := by decide +kernel
theorem dX1_listen_21 : decode cX1_listen 21 = .ok (.iload 7, 2) := by decide +kernel
theorem dX1_listen_23 : decode cX1_listen 23 = .ok (.aload_n 1, 1) := by decide +kernel
theorem dX1_listen_24 : decode cX1_listen 24 = .ok (.getfield 29, 3) := by decide +kernel
theorem dX1_listen_27 : decode cX1_listen 27 = .ok (.getfield 35, 3) := by decide +kernel
theorem dX1_listen_30 : decode cX1_listen 30 = .ok (.if_icmp .ge 46, 3) := by decide +kernel
theorem dX1_listen_33 : decode cX1_listen 33 = .ok (.aload 6, 2) := by decide +kernel
theorem dX1_listen_35 : decode cX1_listen 35 = .ok (.iload 7, 2) := by decide +kernel
theorem dX1_listen_37 : decode cX1_listen 37 = .ok (.aload 5, 2) := by decide +kernel
theorem dX1_listen_39 : decode cX1_listen 39 = .ok (.iload 7, 2) := by decide +kernel
theorem dX1_listen_41 : decode cX1_listen 41 = .ok (.laload, 1) := by decide +kernel
theorem dX1_listen_42 : decode cX1_listen 42 = .ok (.lconst 0, 1) := by decide +kernel
theorem dX1_listen_43 : decode cX1_listen 43 = .ok (.lcmp, 1) := by decide +kernel
theorem dX1_listen_44 : decode cX1_listen 44 = .ok (.ifCond .ne 7, 3) := by decide +kernel
theorem dX1_listen_47 : decode cX1_listen 47 = .ok (.lconst 0, 1) := by decide +kernel
theorem dX1_listen_48 : decode cX1_listen 48 = .ok (.goto 21, 3) := by decide +kernel
theorem dX1_listen_51 : decode cX1_listen 51 = .ok (.aload 5, 2) := by decide +kernel
theorem dX1_listen_53 : decode cX1_listen 53 = .ok (.iload 7, 2) := by decide +kernel
theorem dX1_listen_55 : decode cX1_listen 55 = .ok (.laload, 1) := by decide +kernel
theorem dX1_listen_56 : decode cX1_listen 56 = .ok (.aload_n 1, 1) := by decide +kernel
theorem dX1_listen_57 : decode cX1_listen 57 = .ok (.iload 4, 2) := by decide +kernel
theorem dX1_listen_59 : decode cX1_listen 59 = .ok (.aload_n 2, 1) := by decide +kernel
theorem dX1_listen_60 : decode cX1_listen 60 = .ok (.iload 7, 2) := by decide +kernel
theorem dX1_listen_62 : decode cX1_listen 62 = .ok (.iaload, 1) := by decide +kernel
theorem dX1_listen_63 : decode cX1_listen 63 = .ok (.isub, 1) := by decide +kernel
theorem dX1_listen_64 : decode cX1_listen 64 = .ok (.invokevirtual 72, 3) := by decide +kernel
theorem dX1_listen_67 : decode cX1_listen 67 = .ok (.i2l, 1) := by decide +kernel
theorem dX1_listen_68 : decode cX1_listen 68 = .ok (.lmul, 1) := by decide +kernel
theorem dX1_listen_69 : decode cX1_listen 69 = .ok (.lastore, 1) := by decide +kernel
theorem dX1_listen_70 : decode cX1_listen 70 = .ok (.iinc 7 1, 3) := by decide +kernel
theorem dX1_listen_73 : decode cX1_listen 73 = .ok (.goto (-52), 3) := by decide +kernel
theorem dX1_listen_76 : decode cX1_listen 76 = .ok (.return_, 1) := by decide +kernel
theorem dX2_init_0 : decode cX2_init 0 = .ok (.aload_n 0, 1) := by decide +kernel
theorem dX2_init_1 : decode cX2_init 1 = .ok (.invokespecial 3, 3) := by decide +kernel
theorem dX2_init_4 : decode cX2_init 4 = .ok (.aload_n 0, 1) := by decide +kernel
theorem dX2_init_5 : decode cX2_init 5 = .ok (.bipush 25, 2) := by decide +kernel
theorem dX2_init_7 : decode cX2_init 7 = .ok (.newarray .byte, 2) := by decide +kernel
theorem dX2_init_9 : decode cX2_init 9 = .ok (.putfield 9, 3) := by decide +kernel
theorem dX2_init_12 : decode cX2_init 12 = .ok (.aload_n 0, 1) := by decide +kernel
theorem dX2_init_13 : decode cX2_init 13 = .ok (.bipush 26, 2) := by decide +kernel
theorem dX2_init_15 : decode cX2_init 15 = .ok (.newarray .byte, 2) := by decide +kernel
theorem dX2_init_17 : decode cX2_init 17 = .ok (.putfield 15, 3) := by decide +kernel
theorem dX2_init_20 : decode cX2_init 20 = .ok (.aload_n 0, 1) := by decide +kernel
theorem dX2_init_21 : decode cX2_init 21 = .ok (.bipush 24, 2) := by decide +kernel
theorem dX2_init_23 : decode cX2_init 23 = .ok (.newarray .int, 2) := by decide +kernel
theorem dX2_init_25 : decode cX2_init 25 = .ok (.putfield 18, 3) := by decide +kernel
theorem dX2_init_28 : decode cX2_init 28 = .ok (.aload_n 0, 1) := by decide +kernel
theorem dX2_init_29 : decode cX2_init 29 = .ok (.bipush 10, 2) := by decide +kernel
theorem dX2_init_31 : decode cX2_init 31 = .ok (.newarray .int, 2) := by decide +kernel
theorem dX2_init_33 : decode cX2_init 33 = .ok (.putfield 22, 3) := by decide +kernel
theorem dX2_init_36 : decode cX2_init 36 = .ok (.return_, 1) := by decide +kernel
theorem dX2_startWith_0 : decode cX2_startWith 0 = .ok (.aload_n 0, 1) := by decide +kernel
theorem dX2_startWith_1 : decode cX2_startWith 1 = .ok (.getfield 15, 3) := by decide +kernel
theorem dX2_startWith_4 : decode cX2_startWith 4 = .ok (.iconst (-1), 1) := by decide +kernel
theorem dX2_startWith_5 : decode cX2_startWith 5 = .ok (.invokestatic 25, 3) := by decide +kernel
theorem dX2_startWith_8 : decode cX2_startWith 8 = .ok (.iconst 0, 1) := by decide +kernel
theorem dX2_startWith_9 : decode cX2_startWith 9 = .ok (.istore_n 2, 1) := by decide +kernel
theorem dX2_startWith_10 : decode cX2_startWith 10 = .ok (.iload_n 2, 1) := by decide +kernel
theorem dX2_startWith_11 : decode cX2_startWith 11 = .ok (.bipush 25, 2) := by decide +kernel
theorem dX2_startWith_13 : decode cX2_startWith 13 = .ok (.if_icmp .ge 23, 3) := by decide +kernel
theorem dX2_startWith_16 : decode cX2_startWith 16 = .ok (.iload_n 2, 1) := by decide +kernel
theorem dX2_startWith_17 : decode cX2_startWith 17 = .ok (.aload_n 1, 1) := by decide +kernel
theorem dX2_startWith_18 : decode cX2_startWith 18 = .ok (.arraylength, 1) := by decide +kernel
theorem dX2_startWith_19 : decode cX2_startWith 19 = .ok (.if_icmp .ge 17, 3) := by decide +kernel
theorem dX2_startWith_22 : decode cX2_startWith 22 = .ok (.aload_n 0, 1) := by decide +kernel
theorem dX2_startWith_23 : decode cX2_startWith 23 = .ok (.iload_n 2, 1) := by decide +kernel
theorem dX2_startWith_24 : decode cX2_startWith 24 = .ok (.aload_n 1, 1) := by decide +kernel
theorem dX2_startWith_25 : decode cX2_startWith 25 = .ok (.iload_n 2, 1) := by decide +kernel
theorem dX2_startWith_26 : decode cX2_startWith 26 = .ok (.baload, 1) := by decide +kernel
theorem dX2_startWith_27 : decode cX2_startWith 27 = .ok (.invokevirtual 31, 3) := by decide +kernel
theorem dX2_startWith_30 : decode cX2_startWith 30 = .ok (.iinc 2 1, 3) := by decide +kernel
theorem dX2_startWith_33 : decode cX2_startWith 33 = .ok (.goto (-23), 3) := by decide +kernel
theorem dX2_startWith_36 : decode cX2_startWith 36 = .ok (.aload_n 0, 1) := by decide +kernel
theorem dX2_startWith_37 : decode cX2_startWith 37 = .ok (.iconst 0, 1) := by decide +kernel
theorem dX2_startWith_38 : decode cX2_startWith 38 = .ok (.putfield 35, 3) := by decide +kernel
theorem dX2_startWith_41 : decode cX2_startWith 41 = .ok (.aload_n 0, 1) := by decide +kernel
theorem dX2_startWith_42 : decode cX2_startWith 42 = .ok (.getfield 22, 3) := by decide +kernel
theorem dX2_startWith_45 : decode cX2_startWith 45 = .ok (.iconst 0, 1) := by decide +kernel
theorem dX2_startWith_46 : decode cX2_startWith 46 = .ok (.invokestatic 39, 3) := by decide +kernel
theorem dX2_startWith_49 : decode cX2_startWith 49 = .ok (.return_, 1) := by decide +kernel
theorem dX2_put_0 : decode cX2_put 0 = .ok (.iload_n 1, 1) := by decide +kernel
theorem dX2_put_1 : decode cX2_put 1 = .ok (.invokestatic 42, 3) := by decide +kernel
theorem dX2_put_4 : decode cX2_put 4 = .ok (.ifCond .eq 28, 3) := by decide +kernel
theorem dX2_put_7 : decode cX2_put 7 = .ok (.iload_n 2, 1) := by decide +kernel
theorem dX2_put_8 : decode cX2_put 8 = .ok (.invokestatic 46, 3) := by decide +kernel
theorem dX2_put_11 : decode cX2_put 11 = .ok (.ifCond .eq 21, 3) := by decide +kernel
theorem dX2_put_14 : decode cX2_put 14 = .ok (.aload_n 0, 1) := by decide +kernel
theorem dX2_put_15 : decode cX2_put 15 = .ok (.getfield 9, 3) := by decide +kernel
theorem dX2_put_18 : decode cX2_put 18 = .ok (.iload_n 1, 1) := by decide +kernel
theorem dX2_put_19 : decode cX2_put 19 = .ok (.iload_n 2, 1) := by decide +kernel
theorem dX2_put_20 : decode cX2_put 20 = .ok (.bastore, 1) := by decide +kernel
theorem dX2_put_21 : decode cX2_put 21 = .ok (.aload_n 0, 1) := by decide +kernel
theorem dX2_put_22 : decode cX2_put 22 = .ok (.getfield 15, 3) := by decide +kernel
theorem dX2_put_25 : decode cX2_put 25 = .ok (.iload_n 2, 1) := by decide +kernel
theorem dX2_put_26 : decode cX2_put 26 = .ok (.bipush 97, 2) := by decide +kernel
theorem dX2_put_28 : decode cX2_put 28 = .ok (.isub, 1) := by decide +kernel
theorem dX2_put_29 : decode cX2_put 29 = .ok (.iload_n 1, 1) := by decide +kernel
theorem dX2_put_30 : decode cX2_put 30 = .ok (.i2b, 1) := by decide +kernel
theorem dX2_put_31 : decode cX2_put 31 = .ok (.bastore, 1) := by decide +kernel
theorem dX2_put_32 : decode cX2_put 32 = .ok (.return_, 1) := by decide +kernel
theorem dX2_copyFrom_0 : decode cX2_copyFrom 0 = .ok (.aload_n 1, 1) := by decide +kernel
theorem dX2_copyFrom_1 : decode cX2_copyFrom 1 = .ok (.getfield 9, 3) := by decide +kernel
theorem dX2_copyFrom_4 : decode cX2_copyFrom 4 = .ok (.iconst 0, 1) := by decide +kernel
theorem dX2_copyFrom_5 : decode cX2_copyFrom 5 = .ok (.aload_n 0, 1) := by decide +kernel
theorem dX2_copyFrom_6 : decode cX2_copyFrom 6 = .ok (.getfield 9, 3) := by decide +kernel
theorem dX2_copyFrom_9 : decode cX2_copyFrom 9 = .ok (.iconst 0, 1) := by decide +kernel
theorem dX2_copyFrom_10 : decode cX2_copyFrom 10 = .ok (.bipush 25, 2) := by decide +kernel
theorem dX2_copyFrom_12 : decode cX2_copyFrom 12 = .ok (.invokestatic 51, 3) := by decide +kernel
theorem dX2_copyFrom_15 : decode cX2_copyFrom 15 = .ok (.aload_n 1, 1) := by decide +kernel
theorem dX2_copyFrom_16 : decode cX2_copyFrom 16 = .ok (.getfield 15, 3) := by decide +kernel
theorem dX2_copyFrom_19 : decode cX2_copyFrom 19 = .ok (.iconst 0, 1) := by decide +kernel
theorem dX2_copyFrom_20 : decode cX2_copyFrom 20 = .ok (.aload_n 0, 1) := by decide +kernel
theorem dX2_copyFrom_21 : decode cX2_copyFrom 21 = .ok (.getfield 15, 3) := by decide +kernel
theorem dX2_copyFrom_24 : decode cX2_copyFrom 24 = .ok (.iconst 0, 1) := by decide +kernel
theorem dX2_copyFrom_25 : decode cX2_copyFrom 25 = .ok (.bipush 26, 2) := by decide +kernel
theorem dX2_copyFrom_27 : decode cX2_copyFrom 27 = .ok (.invokestatic 51, 3) := by decide +kernel
theorem dX2_copyFrom_30 : decode cX2_copyFrom 30 = .ok (.aload_n 1, 1) := by decide +kernel
theorem dX2_copyFrom_31 : decode cX2_copyFrom 31 = .ok (.getfield 18, 3) := by decide +kernel
theorem dX2_copyFrom_34 : decode cX2_copyFrom 34 = .ok (.iconst 0, 1) := by decide +kernel
theorem dX2_copyFrom_35 : decode cX2_copyFrom 35 = .ok (.aload_n 0, 1) := by decide +kernel
theorem dX2_copyFrom_36 : decode cX2_copyFrom 36 = .ok (.getfield 18, 3) := by decide +kernel
theorem dX2_copyFrom_39 : decode cX2_copyFrom 39 = .ok (.iconst 0, 1) := by decide +kernel
theorem dX2_copyFrom_40 : decode cX2_copyFrom 40 = .ok (.bipush 24, 2) := by decide +kernel
theorem dX2_copyFrom_42 : decode cX2_copyFrom 42 = .ok (.invokestatic 51, 3) := by decide +kernel
theorem dX2_copyFrom_45 : decode cX2_copyFrom 45 = .ok (.aload_n 1, 1) := by decide +kernel
theorem dX2_copyFrom_46 : decode cX2_copyFrom 46 = .ok (.getfield 22, 3) := by decide +kernel
theorem dX2_copyFrom_49 : decode cX2_copyFrom 49 = .ok (.iconst 0, 1) := by decide +kernel
theorem dX2_copyFrom_50 : decode cX2_copyFrom 50 = .ok (.aload_n 0, 1) := by decide +kernel
theorem dX2_copyFrom_51 : decode cX2_copyFrom 51 = .ok (.getfield 22, 3) := by decide +kernel
theorem dX2_copyFrom_54 : decode cX2_copyFrom 54 = .ok (.iconst 0, 1) := by decide +kernel
theorem dX2_copyFrom_55 : decode cX2_copyFrom 55 = .ok (.bipush 10, 2) := by decide +kernel
theorem dX2_copyFrom_57 : decode cX2_copyFrom 57 = .ok (.invokestatic 51, 3) := by decide +kernel
theorem dX2_copyFrom_60 : decode cX2_copyFrom 60 = .ok (.aload_n 0, 1) := by decide +kernel
theorem dX2_copyFrom_61 : decode cX2_copyFrom 61 = .ok (.aload_n 1, 1) := by decide +kernel
theorem dX2_copyFrom_62 : decode cX2_copyFrom 62 = .ok (.getfield 35, 3) := by decide +kernel
theorem dX2_copyFrom_65 : decode cX2_copyFrom 65 = .ok (.putfield 35, 3) := by decide +kernel
theorem dX2_copyFrom_68 : decode cX2_copyFrom 68 = .ok (.return_, 1) := by decide +kernel
theorem dX2_placeOf_0 : decode cX2_placeOf 0 = .ok (.iload_n 1, 1) := by decide +kernel
theorem dX2_placeOf_1 : decode cX2_placeOf 1 = .ok (.invokestatic 46, 3) := by decide +kernel
theorem dX2_placeOf_4 : decode cX2_placeOf 4 = .ok (.ifCond .eq 15, 3) := by decide +kernel
theorem dX2_placeOf_7 : decode cX2_placeOf 7 = .ok (.aload_n 0, 1) := by decide +kernel
theorem dX2_placeOf_8 : decode cX2_placeOf 8 = .ok (.getfield 15, 3) := by decide +kernel
theorem dX2_placeOf_11 : decode cX2_placeOf 11 = .ok (.iload_n 1, 1) := by decide +kernel
theorem dX2_placeOf_12 : decode cX2_placeOf 12 = .ok (.bipush 97, 2) := by decide +kernel
theorem dX2_placeOf_14 : decode cX2_placeOf 14 = .ok (.isub, 1) := by decide +kernel
theorem dX2_placeOf_15 : decode cX2_placeOf 15 = .ok (.baload, 1) := by decide +kernel
theorem dX2_placeOf_16 : decode cX2_placeOf 16 = .ok (.goto 4, 3) := by decide +kernel
theorem dX2_placeOf_19 : decode cX2_placeOf 19 = .ok (.iconst (-1), 1) := by decide +kernel
theorem dX2_placeOf_20 : decode cX2_placeOf 20 = .ok (.ireturn, 1) := by decide +kernel
theorem dX2_knocksOf_0 : decode cX2_knocksOf 0 = .ok (.aload_n 0, 1) := by decide +kernel
theorem dX2_knocksOf_1 : decode cX2_knocksOf 1 = .ok (.iload_n 1, 1) := by decide +kernel
theorem dX2_knocksOf_2 : decode cX2_knocksOf 2 = .ok (.invokevirtual 57, 3) := by decide +kernel
theorem dX2_knocksOf_5 : decode cX2_knocksOf 5 = .ok (.istore_n 2, 1) := by decide +kernel
theorem dX2_knocksOf_6 : decode cX2_knocksOf 6 = .ok (.iload_n 2, 1) := by decide +kernel
theorem dX2_knocksOf_7 : decode cX2_knocksOf 7 = .ok (.ifCond .ge 7, 3) := by decide +kernel
theorem dX2_knocksOf_10 : decode cX2_knocksOf 10 = .ok (.iconst 0, 1) := by decide +kernel
theorem dX2_knocksOf_11 : decode cX2_knocksOf 11 = .ok (.goto 12, 3) := by decide +kernel
theorem dX2_knocksOf_14 : decode cX2_knocksOf 14 = .ok (.iload_n 2, 1) := by decide +kernel
theorem dX2_knocksOf_15 : decode cX2_knocksOf 15 = .ok (.iconst 5, 1) := by decide +kernel
theorem dX2_knocksOf_16 : decode cX2_knocksOf 16 = .ok (.idiv, 1) := by decide +kernel
theorem dX2_knocksOf_17 : decode cX2_knocksOf 17 = .ok (.iload_n 2, 1) := by decide +kernel
theorem dX2_knocksOf_18 : decode cX2_knocksOf 18 = .ok (.iconst 5, 1) := by decide +kernel
theorem dX2_knocksOf_19 : decode cX2_knocksOf 19 = .ok (.irem, 1) := by decide +kernel
theorem dX2_knocksOf_20 : decode cX2_knocksOf 20 = .ok (.iadd, 1) := by decide +kernel
theorem dX2_knocksOf_21 : decode cX2_knocksOf 21 = .ok (.iconst 2, 1) := by decide +kernel
theorem dX2_knocksOf_22 : decode cX2_knocksOf 22 = .ok (.iadd, 1) := by decide +kernel
theorem dX2_knocksOf_23 : decode cX2_knocksOf 23 = .ok (.ireturn, 1) := by decide +kernel
theorem dX2_knocksOfName_0 : decode cX2_knocksOfName 0 = .ok (.iconst 0, 1) := by decide +kernel
theorem dX2_knocksOfName_1 : decode cX2_knocksOfName 1 = .ok (.istore_n 3, 1) := by decide +kernel
theorem dX2_knocksOfName_2 : decode cX2_knocksOfName 2 = .ok (.iconst 0, 1) := by decide +kernel
theorem dX2_knocksOfName_3 : decode cX2_knocksOfName 3 = .ok (.istore 4, 2) := by decide +kernel
theorem dX2_knocksOfName_5 : decode cX2_knocksOfName 5 = .ok (.iload 4, 2) := by decide +kernel
theorem dX2_knocksOfName_7 : decode cX2_knocksOfName 7 = .ok (.aload_n 1, 1) := by decide +kernel
theorem dX2_knocksOfName_8 : decode cX2_knocksOfName 8 = .ok (.iload_n 2, 1) := by decide +kernel
theorem dX2_knocksOfName_9 : decode cX2_knocksOfName 9 = .ok (.invokevirtual 61, 3) := by decide +kernel
theorem dX2_knocksOfName_12 : decode cX2_knocksOfName 12 = .ok (.if_icmp .ge 23, 3) := by decide +kernel
theorem dX2_knocksOfName_15 : decode cX2_knocksOfName 15 = .ok (.iload_n 3, 1) := by decide +kernel
theorem dX2_knocksOfName_16 : decode cX2_knocksOfName 16 = .ok (.aload_n 0, 1) := by decide +kernel
theorem dX2_knocksOfName_17 : decode cX2_knocksOfName 17 = .ok (.aload_n 1, 1) := by decide +kernel
theorem dX2_knocksOfName_18 : decode cX2_knocksOfName 18 = .ok (.iload_n 2, 1) := by decide +kernel
theorem dX2_knocksOfName_19 : decode cX2_knocksOfName 19 = .ok (.iload 4, 2) := by decide +kernel
theorem dX2_knocksOfName_21 : decode cX2_knocksOfName 21 = .ok (.invokevirtual 66, 3) := by decide +kernel
theorem dX2_knocksOfName_24 : decode cX2_knocksOfName 24 = .ok (.invokevirtual 70, 3) := by decide +kernel
theorem dX2_knocksOfName_27 : decode cX2_knocksOfName 27 = .ok (.iadd, 1) := by decide +kernel
theorem dX2_knocksOfName_28 : decode cX2_knocksOfName 28 = .ok (.istore_n 3, 1) := by decide +kernel
theorem dX2_knocksOfName_29 : decode cX2_knocksOfName 29 = .ok (.iinc 4 1, 3) := by decide +kernel
theorem dX2_knocksOfName_32 : decode cX2_knocksOfName 32 = .ok (.goto (-27), 3) := by decide +kernel
theorem dX2_knocksOfName_35 : decode cX2_knocksOfName 35 = .ok (.iload_n 3, 1) := by decide +kernel
theorem dX2_knocksOfName_36 : decode cX2_knocksOfName 36 = .ok (.ireturn, 1) := by decide +kernel
theorem dX2_countOfName_0 : decode cX2_countOfName 0 = .ok (.aload_n 0, 1) := by decide +kernel
theorem dX2_countOfName_1 : decode cX2_countOfName 1 = .ok (.aload_n 1, 1) := by decide +kernel
theorem dX2_countOfName_2 : decode cX2_countOfName 2 = .ok (.iload_n 2, 1) := by decide +kernel
theorem dX2_countOfName_3 : decode cX2_countOfName 3 = .ok (.iload_n 3, 1) := by decide +kernel
theorem dX2_countOfName_4 : decode cX2_countOfName 4 = .ok (.iconst 2, 1) := by decide +kernel
theorem dX2_countOfName_5 : decode cX2_countOfName 5 = .ok (.idiv, 1) := by decide +kernel
theorem dX2_countOfName_6 : decode cX2_countOfName 6 = .ok (.invokevirtual 66, 3) := by decide +kernel
theorem dX2_countOfName_9 : decode cX2_countOfName 9 = .ok (.invokevirtual 57, 3) := by decide +kernel
theorem dX2_countOfName_12 : decode cX2_countOfName 12 = .ok (.istore 4, 2) := by decide +kernel
theorem dX2_countOfName_14 : decode cX2_countOfName 14 = .ok (.iload 4, 2) := by decide +kernel
theorem dX2_countOfName_16 : decode cX2_countOfName 16 = .ok (.ifCond .ge 5, 3) := by decide +kernel
theorem dX2_countOfName_19 : decode cX2_countOfName 19 = .ok (.iconst 0, 1) := by decide +kernel
theorem dX2_countOfName_20 : decode cX2_countOfName 20 = .ok (.ireturn, 1) := by decide +kernel
theorem dX2_countOfName_21 : decode cX2_countOfName 21 = .ok (.iload_n 3, 1) := by decide +kernel
theorem dX2_countOfName_22 : decode cX2_countOfName 22 = .ok (.iconst 2, 1) := by decide +kernel
theorem dX2_countOfName_23 : decode cX2_countOfName 23 = .ok (.irem, 1) := by decide +kernel
theorem dX2_countOfName_24 : decode cX2_countOfName 24 = .ok (.ifCond .ne 10, 3) := by decide +kernel
theorem dX2_countOfName_27 : decode cX2_countOfName 27 = .ok (.iload 4, 2) := by decide +kernel
theorem dX2_countOfName_29 : decode cX2_countOfName 29 = .ok (.iconst 5, 1) := by decide +kernel
theorem dX2_countOfName_30 : decode cX2_countOfName 30 = .ok (.idiv, 1) := by decide +kernel
theorem dX2_countOfName_31 : decode cX2_countOfName 31 = .ok (.goto 7, 3) := by decide +kernel
theorem dX2_countOfName_34 : decode cX2_countOfName 34 = .ok (.iload 4, 2) := by decide +kernel
theorem dX2_countOfName_36 : decode cX2_countOfName 36 = .ok (.iconst 5, 1) := by decide +kernel
theorem dX2_countOfName_37 : decode cX2_countOfName 37 = .ok (.irem, 1) := by decide +kernel
theorem dX2_countOfName_38 : decode cX2_countOfName 38 = .ok (.iconst 1, 1) := by decide +kernel
theorem dX2_countOfName_39 : decode cX2_countOfName 39 = .ok (.iadd, 1) := by decide +kernel
theorem dX2_countOfName_40 : decode cX2_countOfName 40 = .ok (.ireturn, 1) := by decide +kernel
theorem dX3_init_0 : decode cX3_init 0 = .ok (.aload_n 0, 1) := by decide +kernel
theorem dX3_init_1 : decode cX3_init 1 = .ok (.invokespecial 3, 3) := by decide +kernel
theorem dX3_init_4 : decode cX3_init 4 = .ok (.aload_n 0, 1) := by decide +kernel
theorem dX3_init_5 : decode cX3_init 5 = .ok (.iconst 5, 1) := by decide +kernel
theorem dX3_init_6 : decode cX3_init 6 = .ok (.newarray .long, 2) := by decide +kernel
theorem dX3_init_8 : decode cX3_init 8 = .ok (.putfield 9, 3) := by decide +kernel
theorem dX3_init_11 : decode cX3_init 11 = .ok (.aload_n 0, 1) := by decide +kernel
theorem dX3_init_12 : decode cX3_init 12 = .ok (.iconst 5, 1) := by decide +kernel
theorem dX3_init_13 : decode cX3_init 13 = .ok (.newarray .long, 2) := by decide +kernel
theorem dX3_init_15 : decode cX3_init 15 = .ok (.putfield 15, 3) := by decide +kernel
theorem dX3_init_18 : decode cX3_init 18 = .ok (.return_, 1) := by decide +kernel
theorem dX3_pass_0 : decode cX3_pass 0 = .ok (.iconst 1, 1) := by decide +kernel
theorem dX3_pass_1 : decode cX3_pass 1 = .ok (.istore 4, 2) := by decide +kernel
theorem dX3_pass_3 : decode cX3_pass 3 = .ok (.iload 4, 2) := by decide +kernel
theorem dX3_pass_5 : decode cX3_pass 5 = .ok (.iconst 5, 1) := by decide +kernel
theorem dX3_pass_6 : decode cX3_pass 6 = .ok (.if_icmp .gt 29, 3) := by decide +kernel
theorem dX3_pass_9 : decode cX3_pass 9 = .ok (.aload_n 0, 1) := by decide +kernel
theorem dX3_pass_10 : decode cX3_pass 10 = .ok (.getfield 9, 3) := by decide +kernel
theorem dX3_pass_13 : decode cX3_pass 13 = .ok (.iload 4, 2) := by decide +kernel
theorem dX3_pass_15 : decode cX3_pass 15 = .ok (.iconst 1, 1) := by decide +kernel
theorem dX3_pass_16 : decode cX3_pass 16 = .ok (.isub, 1) := by decide +kernel
theorem dX3_pass_17 : decode cX3_pass 17 = .ok (.iload 4, 2) := by decide +kernel
theorem dX3_pass_19 : decode cX3_pass 19 = .ok (.iload_n 2, 1) := by decide +kernel
theorem dX3_pass_20 : decode cX3_pass 20 = .ok (.if_icmp .ne 7, 3) := by decide +kernel
theorem dX3_pass_23 : decode cX3_pass 23 = .ok (.lconst 1, 1) := by decide +kernel
theorem dX3_pass_24 : decode cX3_pass 24 = .ok (.goto 4, 3) := by decide +kernel
theorem dX3_pass_27 : decode cX3_pass 27 = .ok (.lconst 0, 1) := by decide +kernel
theorem dX3_pass_28 : decode cX3_pass 28 = .ok (.lastore, 1) := by decide +kernel
theorem dX3_pass_29 : decode cX3_pass 29 = .ok (.iinc 4 1, 3) := by decide +kernel
theorem dX3_pass_32 : decode cX3_pass 32 = .ok (.goto (-29), 3) := by decide +kernel
theorem dX3_pass_35 : decode cX3_pass 35 = .ok (.iconst 0, 1) := by decide +kernel
theorem dX3_pass_36 : decode cX3_pass 36 = .ok (.istore 4, 2) := by decide +kernel
theorem dX3_pass_38 : decode cX3_pass 38 = .ok (.iload 4, 2) := by decide +kernel
theorem dX3_pass_40 : decode cX3_pass 40 = .ok (.iload_n 3, 1) := by decide +kernel
theorem dX3_pass_41 : decode cX3_pass 41 = .ok (.if_icmp .ge 142, 3) := by decide +kernel
theorem dX3_pass_44 : decode cX3_pass 44 = .ok (.aload_n 0, 1) := by decide +kernel
theorem dX3_pass_45 : decode cX3_pass 45 = .ok (.getfield 15, 3) := by decide +kernel
theorem dX3_pass_48 : decode cX3_pass 48 = .ok (.lconst 0, 1) := by decide +kernel
theorem dX3_pass_49 : decode cX3_pass 49 = .ok (.invokestatic 18, 3) := by decide +kernel
theorem dX3_pass_52 : decode cX3_pass 52 = .ok (.iconst 1, 1) := by decide +kernel
theorem dX3_pass_53 : decode cX3_pass 53 = .ok (.istore 5, 2) := by decide +kernel
theorem dX3_pass_55 : decode cX3_pass 55 = .ok (.iload 5, 2) := by decide +kernel
theorem dX3_pass_57 : decode cX3_pass 57 = .ok (.iconst 5, 1) := by decide +kernel
theorem dX3_pass_58 : decode cX3_pass 58 = .ok (.if_icmp .gt 105, 3) := by decide +kernel
theorem dX3_pass_61 : decode cX3_pass 61 = .ok (.aload_n 0, 1) := by decide +kernel
theorem dX3_pass_62 : decode cX3_pass 62 = .ok (.getfield 15, 3) := by decide +kernel
theorem dX3_pass_65 : decode cX3_pass 65 = .ok (.iconst 1, 1) := by decide +kernel
theorem dX3_pass_66 : decode cX3_pass 66 = .ok (.iload 5, 2) := by decide +kernel
theorem dX3_pass_68 : decode cX3_pass 68 = .ok (.iconst 1, 1) := by decide +kernel
theorem dX3_pass_69 : decode cX3_pass 69 = .ok (.isub, 1) := by decide +kernel
theorem dX3_pass_70 : decode cX3_pass 70 = .ok (.invokestatic 24, 3) := by decide +kernel
theorem dX3_pass_73 : decode cX3_pass 73 = .ok (.iconst 1, 1) := by decide +kernel
theorem dX3_pass_74 : decode cX3_pass 74 = .ok (.isub, 1) := by decide +kernel
theorem dX3_pass_75 : decode cX3_pass 75 = .ok (.dup2, 1) := by decide +kernel
theorem dX3_pass_76 : decode cX3_pass 76 = .ok (.laload, 1) := by decide +kernel
theorem dX3_pass_77 : decode cX3_pass 77 = .ok (.aload_n 0, 1) := by decide +kernel
theorem dX3_pass_78 : decode cX3_pass 78 = .ok (.getfield 9, 3) := by decide +kernel
theorem dX3_pass_81 : decode cX3_pass 81 = .ok (.iload 5, 2) := by decide +kernel
theorem dX3_pass_83 : decode cX3_pass 83 = .ok (.iconst 1, 1) := by decide +kernel
theorem dX3_pass_84 : decode cX3_pass 84 = .ok (.isub, 1) := by decide +kernel
theorem dX3_pass_85 : decode cX3_pass 85 = .ok (.laload, 1) := by decide +kernel
theorem dX3_pass_86 : decode cX3_pass 86 = .ok (.aload_n 1, 1) := by decide +kernel
theorem dX3_pass_87 : decode cX3_pass 87 = .ok (.iconst (-1), 1) := by decide +kernel
theorem dX3_pass_88 : decode cX3_pass 88 = .ok (.invokevirtual 30, 3) := by decide +kernel
theorem dX3_pass_91 : decode cX3_pass 91 = .ok (.i2l, 1) := by decide +kernel
theorem dX3_pass_92 : decode cX3_pass 92 = .ok (.lmul, 1) := by decide +kernel
theorem dX3_pass_93 : decode cX3_pass 93 = .ok (.ladd, 1) := by decide +kernel
theorem dX3_pass_94 : decode cX3_pass 94 = .ok (.lastore, 1) := by decide +kernel
theorem dX3_pass_95 : decode cX3_pass 95 = .ok (.aload_n 0, 1) := by decide +kernel
theorem dX3_pass_96 : decode cX3_pass 96 = .ok (.getfield 15, 3) := by decide +kernel
theorem dX3_pass_99 : decode cX3_pass 99 = .ok (.iload 5, 2) := by decide +kernel
theorem dX3_pass_101 : decode cX3_pass 101 = .ok (.iconst 1, 1) := by decide +kernel
theorem dX3_pass_102 : decode cX3_pass 102 = .ok (.isub, 1) := by decide +kernel
theorem dX3_pass_103 : decode cX3_pass 103 = .ok (.dup2, 1) := by decide +kernel
theorem dX3_pass_104 : decode cX3_pass 104 = .ok (.laload, 1) := by decide +kernel
theorem dX3_pass_105 : decode cX3_pass 105 = .ok (.aload_n 0, 1) := by decide +kernel
theorem dX3_pass_106 : decode cX3_pass 106 = .ok (.getfield 9, 3) := by decide +kernel
theorem dX3_pass_109 : decode cX3_pass 109 = .ok (.iload 5, 2) := by decide +kernel
theorem dX3_pass_111 : decode cX3_pass 111 = .ok (.iconst 1, 1) := by decide +kernel
theorem dX3_pass_112 : decode cX3_pass 112 = .ok (.isub, 1) := by decide +kernel
theorem dX3_pass_113 : decode cX3_pass 113 = .ok (.laload, 1) := by decide +kernel
theorem dX3_pass_114 : decode cX3_pass 114 = .ok (.aload_n 1, 1) := by decide +kernel
theorem dX3_pass_115 : decode cX3_pass 115 = .ok (.iconst 0, 1) := by decide +kernel
theorem dX3_pass_116 : decode cX3_pass 116 = .ok (.invokevirtual 30, 3) := by decide +kernel
theorem dX3_pass_119 : decode cX3_pass 119 = .ok (.i2l, 1) := by decide +kernel
theorem dX3_pass_120 : decode cX3_pass 120 = .ok (.lmul, 1) := by decide +kernel
theorem dX3_pass_121 : decode cX3_pass 121 = .ok (.ladd, 1) := by decide +kernel
theorem dX3_pass_122 : decode cX3_pass 122 = .ok (.lastore, 1) := by decide +kernel
theorem dX3_pass_123 : decode cX3_pass 123 = .ok (.aload_n 0, 1) := by decide +kernel
theorem dX3_pass_124 : decode cX3_pass 124 = .ok (.getfield 15, 3) := by decide +kernel
theorem dX3_pass_127 : decode cX3_pass 127 = .ok (.iconst 5, 1) := by decide +kernel
theorem dX3_pass_128 : decode cX3_pass 128 = .ok (.iload 5, 2) := by decide +kernel
theorem dX3_pass_130 : decode cX3_pass 130 = .ok (.iconst 1, 1) := by decide +kernel
theorem dX3_pass_131 : decode cX3_pass 131 = .ok (.iadd, 1) := by decide +kernel
theorem dX3_pass_132 : decode cX3_pass 132 = .ok (.invokestatic 36, 3) := by decide +kernel
theorem dX3_pass_135 : decode cX3_pass 135 = .ok (.iconst 1, 1) := by decide +kernel
theorem dX3_pass_136 : decode cX3_pass 136 = .ok (.isub, 1) := by decide +kernel
theorem dX3_pass_137 : decode cX3_pass 137 = .ok (.dup2, 1) := by decide +kernel
theorem dX3_pass_138 : decode cX3_pass 138 = .ok (.laload, 1) := by decide +kernel
theorem dX3_pass_139 : decode cX3_pass 139 = .ok (.aload_n 0, 1) := by decide +kernel
theorem dX3_pass_140 : decode cX3_pass 140 = .ok (.getfield 9, 3) := by decide +kernel
theorem dX3_pass_143 : decode cX3_pass 143 = .ok (.iload 5, 2) := by decide +kernel
theorem dX3_pass_145 : decode cX3_pass 145 = .ok (.iconst 1, 1) := by decide +kernel
theorem dX3_pass_146 : decode cX3_pass 146 = .ok (.isub, 1) := by decide +kernel
theorem dX3_pass_147 : decode cX3_pass 147 = .ok (.laload, 1) := by decide +kernel
theorem dX3_pass_148 : decode cX3_pass 148 = .ok (.aload_n 1, 1) := by decide +kernel
theorem dX3_pass_149 : decode cX3_pass 149 = .ok (.iconst 1, 1) := by decide +kernel
theorem dX3_pass_150 : decode cX3_pass 150 = .ok (.invokevirtual 30, 3) := by decide +kernel
theorem dX3_pass_153 : decode cX3_pass 153 = .ok (.i2l, 1) := by decide +kernel
theorem dX3_pass_154 : decode cX3_pass 154 = .ok (.lmul, 1) := by decide +kernel
theorem dX3_pass_155 : decode cX3_pass 155 = .ok (.ladd, 1) := by decide +kernel
theorem dX3_pass_156 : decode cX3_pass 156 = .ok (.lastore, 1) := by decide +kernel
theorem dX3_pass_157 : decode cX3_pass 157 = .ok (.iinc 5 1, 3) := by decide +kernel
theorem dX3_pass_160 : decode cX3_pass 160 = .ok (.goto (-105), 3) := by decide +kernel
theorem dX3_pass_163 : decode cX3_pass 163 = .ok (.aload_n 0, 1) := by decide +kernel
theorem dX3_pass_164 : decode cX3_pass 164 = .ok (.getfield 15, 3) := by decide +kernel
theorem dX3_pass_167 : decode cX3_pass 167 = .ok (.iconst 0, 1) := by decide +kernel
theorem dX3_pass_168 : decode cX3_pass 168 = .ok (.aload_n 0, 1) := by decide +kernel
theorem dX3_pass_169 : decode cX3_pass 169 = .ok (.getfield 9, 3) := by decide +kernel
theorem dX3_pass_172 : decode cX3_pass 172 = .ok (.iconst 0, 1) := by decide +kernel
theorem dX3_pass_173 : decode cX3_pass 173 = .ok (.iconst 5, 1) := by decide +kernel
theorem dX3_pass_174 : decode cX3_pass 174 = .ok (.invokestatic 39, 3) := by decide +kernel
theorem dX3_pass_177 : decode cX3_pass 177 = .ok (.iinc 4 1, 3) := by decide +kernel
theorem dX3_pass_180 : decode cX3_pass 180 = .ok (.goto (-142), 3) := by decide +kernel
theorem dX3_pass_183 : decode cX3_pass 183 = .ok (.return_, 1) := by decide +kernel
theorem dX3_mostWays_0 : decode cX3_mostWays 0 = .ok (.iconst 0, 1) := by decide +kernel
theorem dX3_mostWays_1 : decode cX3_mostWays 1 = .ok (.istore_n 1, 1) := by decide +kernel
theorem dX3_mostWays_2 : decode cX3_mostWays 2 = .ok (.iconst 1, 1) := by decide +kernel
theorem dX3_mostWays_3 : decode cX3_mostWays 3 = .ok (.istore_n 2, 1) := by decide +kernel
theorem dX3_mostWays_4 : decode cX3_mostWays 4 = .ok (.iload_n 2, 1) := by decide +kernel
theorem dX3_mostWays_5 : decode cX3_mostWays 5 = .ok (.iconst 5, 1) := by decide +kernel
theorem dX3_mostWays_6 : decode cX3_mostWays 6 = .ok (.if_icmp .ge 27, 3) := by decide +kernel
theorem dX3_mostWays_9 : decode cX3_mostWays 9 = .ok (.aload_n 0, 1) := by decide +kernel
theorem dX3_mostWays_10 : decode cX3_mostWays 10 = .ok (.getfield 9, 3) := by decide +kernel
theorem dX3_mostWays_13 : decode cX3_mostWays 13 = .ok (.iload_n 2, 1) := by decide +kernel
theorem dX3_mostWays_14 : decode cX3_mostWays 14 = .ok (.laload, 1) := by decide +kernel
theorem dX3_mostWays_15 : decode cX3_mostWays 15 = .ok (.aload_n 0, 1) := by decide +kernel
theorem dX3_mostWays_16 : decode cX3_mostWays 16 = .ok (.getfield 9, 3) := by decide +kernel
theorem dX3_mostWays_19 : decode cX3_mostWays 19 = .ok (.iload_n 1, 1) := by decide +kernel
theorem dX3_mostWays_20 : decode cX3_mostWays 20 = .ok (.laload, 1) := by decide +kernel
theorem dX3_mostWays_21 : decode cX3_mostWays 21 = .ok (.lcmp, 1) := by decide +kernel
theorem dX3_mostWays_22 : decode cX3_mostWays 22 = .ok (.ifCond .le 5, 3) := by decide +kernel
theorem dX3_mostWays_25 : decode cX3_mostWays 25 = .ok (.iload_n 2, 1) := by decide +kernel
theorem dX3_mostWays_26 : decode cX3_mostWays 26 = .ok (.istore_n 1, 1) := by decide +kernel
theorem dX3_mostWays_27 : decode cX3_mostWays 27 = .ok (.iinc 2 1, 3) := by decide +kernel
theorem dX3_mostWays_30 : decode cX3_mostWays 30 = .ok (.goto (-26), 3) := by decide +kernel
theorem dX3_mostWays_33 : decode cX3_mostWays 33 = .ok (.iload_n 1, 1) := by decide +kernel
theorem dX3_mostWays_34 : decode cX3_mostWays 34 = .ok (.ireturn, 1) := by decide +kernel
theorem dX4_init_0 : decode cX4_init 0 = .ok (.aload_n 0, 1) := by decide +kernel
theorem dX4_init_1 : decode cX4_init 1 = .ok (.invokespecial 1, 3) := by decide +kernel
theorem dX4_init_4 : decode cX4_init 4 = .ok (.aload_n 0, 1) := by decide +kernel
theorem dX4_init_5 : decode cX4_init 5 = .ok (.iload_n 1, 1) := by decide +kernel
theorem dX4_init_6 : decode cX4_init 6 = .ok (.putfield 7, 3) := by decide +kernel
theorem dX4_init_9 : decode cX4_init 9 = .ok (.aload_n 0, 1) := by decide +kernel
theorem dX4_init_10 : decode cX4_init 10 = .ok (.iload_n 2, 1) := by decide +kernel
theorem dX4_init_11 : decode cX4_init 11 = .ok (.putfield 13, 3) := by decide +kernel
theorem dX4_init_14 : decode cX4_init 14 = .ok (.aload_n 0, 1) := by decide +kernel
theorem dX4_init_15 : decode cX4_init 15 = .ok (.iload_n 1, 1) := by decide +kernel
theorem dX4_init_16 : decode cX4_init 16 = .ok (.iload_n 2, 1) := by decide +kernel
theorem dX4_init_17 : decode cX4_init 17 = .ok (.imul, 1) := by decide +kernel
theorem dX4_init_18 : decode cX4_init 18 = .ok (.newarray .byte, 2) := by decide +kernel
theorem dX4_init_20 : decode cX4_init 20 = .ok (.putfield 16, 3) := by decide +kernel
theorem dX4_init_23 : decode cX4_init 23 = .ok (.aload_n 0, 1) := by decide +kernel
theorem dX4_init_24 : decode cX4_init 24 = .ok (.iload_n 1, 1) := by decide +kernel
theorem dX4_init_25 : decode cX4_init 25 = .ok (.newarray .int, 2) := by decide +kernel
theorem dX4_init_27 : decode cX4_init 27 = .ok (.putfield 20, 3) := by decide +kernel
theorem dX4_init_30 : decode cX4_init 30 = .ok (.aload_n 0, 1) := by decide +kernel
theorem dX4_init_31 : decode cX4_init 31 = .ok (.iload_n 1, 1) := by decide +kernel
theorem dX4_init_32 : decode cX4_init 32 = .ok (.newarray .int, 2) := by decide +kernel
theorem dX4_init_34 : decode cX4_init 34 = .ok (.putfield 24, 3) := by decide +kernel
theorem dX4_init_37 : decode cX4_init 37 = .ok (.return_, 1) := by decide +kernel
theorem dX4_add_0 : decode cX4_add 0 = .ok (.aload_n 1, 1) := by decide +kernel
theorem dX4_add_1 : decode cX4_add 1 = .ok (.getfield 27, 3) := by decide +kernel
theorem dX4_add_4 : decode cX4_add 4 = .ok (.aload_n 1, 1) := by decide +kernel
theorem dX4_add_5 : decode cX4_add 5 = .ok (.getfield 32, 3) := by decide +kernel
theorem dX4_add_8 : decode cX4_add 8 = .ok (.isub, 1) := by decide +kernel
theorem dX4_add_9 : decode cX4_add 9 = .ok (.istore_n 2, 1) := by decide +kernel
theorem dX4_add_10 : decode cX4_add 10 = .ok (.aload_n 0, 1) := by decide +kernel
theorem dX4_add_11 : decode cX4_add 11 = .ok (.getfield 35, 3) := by decide +kernel
theorem dX4_add_14 : decode cX4_add 14 = .ok (.aload_n 0, 1) := by decide +kernel
theorem dX4_add_15 : decode cX4_add 15 = .ok (.getfield 7, 3) := by decide +kernel
theorem dX4_add_18 : decode cX4_add 18 = .ok (.if_icmp .ge 15, 3) := by decide +kernel
theorem dX4_add_21 : decode cX4_add 21 = .ok (.iload_n 2, 1) := by decide +kernel
theorem dX4_add_22 : decode cX4_add 22 = .ok (.ifCond .lt 11, 3) := by decide +kernel
theorem dX4_add_25 : decode cX4_add 25 = .ok (.iload_n 2, 1) := by decide +kernel
theorem dX4_add_26 : decode cX4_add 26 = .ok (.aload_n 0, 1) := by decide +kernel
theorem dX4_add_27 : decode cX4_add 27 = .ok (.getfield 13, 3) := by decide +kernel
theorem dX4_add_30 : decode cX4_add 30 = .ok (.if_icmp .le 4, 3) := by decide +kernel
theorem dX4_add_33 : decode cX4_add 33 = .ok (.return_, 1) := by decide +kernel
theorem dX4_add_34 : decode cX4_add 34 = .ok (.iconst 0, 1) := by decide +kernel
theorem dX4_add_35 : decode cX4_add 35 = .ok (.istore_n 3, 1) := by decide +kernel
theorem dX4_add_36 : decode cX4_add 36 = .ok (.iconst 0, 1) := by decide +kernel
theorem dX4_add_37 : decode cX4_add 37 = .ok (.istore 4, 2) := by decide +kernel
theorem dX4_add_39 : decode cX4_add 39 = .ok (.iload 4, 2) := by decide +kernel
theorem dX4_add_41 : decode cX4_add 41 = .ok (.iload_n 2, 1) := by decide +kernel
theorem dX4_add_42 : decode cX4_add 42 = .ok (.if_icmp .ge 52, 3) := by decide +kernel
theorem dX4_add_45 : decode cX4_add 45 = .ok (.aload_n 1, 1) := by decide +kernel
theorem dX4_add_46 : decode cX4_add 46 = .ok (.getfield 38, 3) := by decide +kernel
theorem dX4_add_49 : decode cX4_add 49 = .ok (.aload_n 1, 1) := by decide +kernel
theorem dX4_add_50 : decode cX4_add 50 = .ok (.getfield 32, 3) := by decide +kernel
theorem dX4_add_53 : decode cX4_add 53 = .ok (.iload 4, 2) := by decide +kernel
theorem dX4_add_55 : decode cX4_add 55 = .ok (.iadd, 1) := by decide +kernel
theorem dX4_add_56 : decode cX4_add 56 = .ok (.baload, 1) := by decide +kernel
theorem dX4_add_57 : decode cX4_add 57 = .ok (.istore 5, 2) := by decide +kernel
theorem dX4_add_59 : decode cX4_add 59 = .ok (.aload_n 0, 1) := by decide +kernel
theorem dX4_add_60 : decode cX4_add 60 = .ok (.getfield 16, 3) := by decide +kernel
theorem dX4_add_63 : decode cX4_add 63 = .ok (.aload_n 0, 1) := by decide +kernel
theorem dX4_add_64 : decode cX4_add 64 = .ok (.getfield 35, 3) := by decide +kernel
theorem dX4_add_67 : decode cX4_add 67 = .ok (.aload_n 0, 1) := by decide +kernel
theorem dX4_add_68 : decode cX4_add 68 = .ok (.getfield 13, 3) := by decide +kernel
theorem dX4_add_71 : decode cX4_add 71 = .ok (.imul, 1) := by decide +kernel
theorem dX4_add_72 : decode cX4_add 72 = .ok (.iload 4, 2) := by decide +kernel
theorem dX4_add_74 : decode cX4_add 74 = .ok (.iadd, 1) := by decide +kernel
theorem dX4_add_75 : decode cX4_add 75 = .ok (.iload 5, 2) := by decide +kernel
theorem dX4_add_77 : decode cX4_add 77 = .ok (.bastore, 1) := by decide +kernel
theorem dX4_add_78 : decode cX4_add 78 = .ok (.iload_n 3, 1) := by decide +kernel
theorem dX4_add_79 : decode cX4_add 79 = .ok (.iconst 1, 1) := by decide +kernel
theorem dX4_add_80 : decode cX4_add 80 = .ok (.iload 5, 2) := by decide +kernel
theorem dX4_add_82 : decode cX4_add 82 = .ok (.bipush 97, 2) := by decide +kernel
theorem dX4_add_84 : decode cX4_add 84 = .ok (.isub, 1) := by decide +kernel
theorem dX4_add_85 : decode cX4_add 85 = .ok (.ishl, 1) := by decide +kernel
theorem dX4_add_86 : decode cX4_add 86 = .ok (.ior, 1) := by decide +kernel
theorem dX4_add_87 : decode cX4_add 87 = .ok (.istore_n 3, 1) := by decide +kernel
theorem dX4_add_88 : decode cX4_add 88 = .ok (.iinc 4 1, 3) := by decide +kernel
theorem dX4_add_91 : decode cX4_add 91 = .ok (.goto (-52), 3) := by decide +kernel
theorem dX4_add_94 : decode cX4_add 94 = .ok (.aload_n 0, 1) := by decide +kernel
theorem dX4_add_95 : decode cX4_add 95 = .ok (.getfield 20, 3) := by decide +kernel
theorem dX4_add_98 : decode cX4_add 98 = .ok (.aload_n 0, 1) := by decide +kernel
theorem dX4_add_99 : decode cX4_add 99 = .ok (.getfield 35, 3) := by decide +kernel
theorem dX4_add_102 : decode cX4_add 102 = .ok (.iload_n 2, 1) := by decide +kernel
theorem dX4_add_103 : decode cX4_add 103 = .ok (.iastore, 1) := by decide +kernel
theorem dX4_add_104 : decode cX4_add 104 = .ok (.aload_n 0, 1) := by decide +kernel
theorem dX4_add_105 : decode cX4_add 105 = .ok (.getfield 24, 3) := by decide +kernel
theorem dX4_add_108 : decode cX4_add 108 = .ok (.aload_n 0, 1) := by decide +kernel
theorem dX4_add_109 : decode cX4_add 109 = .ok (.getfield 35, 3) := by decide +kernel
theorem dX4_add_112 : decode cX4_add 112 = .ok (.iload_n 3, 1) := by decide +kernel
theorem dX4_add_113 : decode cX4_add 113 = .ok (.iastore, 1) := by decide +kernel
theorem dX4_add_114 : decode cX4_add 114 = .ok (.aload_n 0, 1) := by decide +kernel
theorem dX4_add_115 : decode cX4_add 115 = .ok (.dup, 1) := by decide +kernel
theorem dX4_add_116 : decode cX4_add 116 = .ok (.getfield 35, 3) := by decide +kernel
theorem dX4_add_119 : decode cX4_add 119 = .ok (.iconst 1, 1) := by decide +kernel
theorem dX4_add_120 : decode cX4_add 120 = .ok (.iadd, 1) := by decide +kernel
theorem dX4_add_121 : decode cX4_add 121 = .ok (.putfield 35, 3) := by decide +kernel
theorem dX4_add_124 : decode cX4_add 124 = .ok (.return_, 1) := by decide +kernel
theorem dX4_lengthOf_0 : decode cX4_lengthOf 0 = .ok (.iload_n 1, 1) := by decide +kernel
theorem dX4_lengthOf_1 : decode cX4_lengthOf 1 = .ok (.ifCond .lt 20, 3) := by decide +kernel
theorem dX4_lengthOf_4 : decode cX4_lengthOf 4 = .ok (.iload_n 1, 1) := by decide +kernel
theorem dX4_lengthOf_5 : decode cX4_lengthOf 5 = .ok (.aload_n 0, 1) := by decide +kernel
theorem dX4_lengthOf_6 : decode cX4_lengthOf 6 = .ok (.getfield 35, 3) := by decide +kernel
theorem dX4_lengthOf_9 : decode cX4_lengthOf 9 = .ok (.if_icmp .ge 12, 3) := by decide +kernel
theorem dX4_lengthOf_12 : decode cX4_lengthOf 12 = .ok (.aload_n 0, 1) := by decide +kernel
theorem dX4_lengthOf_13 : decode cX4_lengthOf 13 = .ok (.getfield 20, 3) := by decide +kernel
theorem dX4_lengthOf_16 : decode cX4_lengthOf 16 = .ok (.iload_n 1, 1) := by decide +kernel
theorem dX4_lengthOf_17 : decode cX4_lengthOf 17 = .ok (.iaload, 1) := by decide +kernel
theorem dX4_lengthOf_18 : decode cX4_lengthOf 18 = .ok (.goto 4, 3) := by decide +kernel
theorem dX4_lengthOf_21 : decode cX4_lengthOf 21 = .ok (.iconst 0, 1) := by decide +kernel
theorem dX4_lengthOf_22 : decode cX4_lengthOf 22 = .ok (.ireturn, 1) := by decide +kernel
theorem dX4_letterAt_0 : decode cX4_letterAt 0 = .ok (.iload_n 2, 1) := by decide +kernel
theorem dX4_letterAt_1 : decode cX4_letterAt 1 = .ok (.ifCond .lt 28, 3) := by decide +kernel
theorem dX4_letterAt_4 : decode cX4_letterAt 4 = .ok (.iload_n 2, 1) := by decide +kernel
theorem dX4_letterAt_5 : decode cX4_letterAt 5 = .ok (.aload_n 0, 1) := by decide +kernel
theorem dX4_letterAt_6 : decode cX4_letterAt 6 = .ok (.iload_n 1, 1) := by decide +kernel
theorem dX4_letterAt_7 : decode cX4_letterAt 7 = .ok (.invokevirtual 41, 3) := by decide +kernel
theorem dX4_letterAt_10 : decode cX4_letterAt 10 = .ok (.if_icmp .ge 19, 3) := by decide +kernel
theorem dX4_letterAt_13 : decode cX4_letterAt 13 = .ok (.aload_n 0, 1) := by decide +kernel
theorem dX4_letterAt_14 : decode cX4_letterAt 14 = .ok (.getfield 16, 3) := by decide +kernel
theorem dX4_letterAt_17 : decode cX4_letterAt 17 = .ok (.iload_n 1, 1) := by decide +kernel
theorem dX4_letterAt_18 : decode cX4_letterAt 18 = .ok (.aload_n 0, 1) := by decide +kernel
theorem dX4_letterAt_19 : decode cX4_letterAt 19 = .ok (.getfield 13, 3) := by decide +kernel
theorem dX4_letterAt_22 : decode cX4_letterAt 22 = .ok (.imul, 1) := by decide +kernel
theorem dX4_letterAt_23 : decode cX4_letterAt 23 = .ok (.iload_n 2, 1) := by decide +kernel
theorem dX4_letterAt_24 : decode cX4_letterAt 24 = .ok (.iadd, 1) := by decide +kernel
theorem dX4_letterAt_25 : decode cX4_letterAt 25 = .ok (.baload, 1) := by decide +kernel
theorem dX4_letterAt_26 : decode cX4_letterAt 26 = .ok (.goto 4, 3) := by decide +kernel
theorem dX4_letterAt_29 : decode cX4_letterAt 29 = .ok (.iconst 0, 1) := by decide +kernel
theorem dX4_letterAt_30 : decode cX4_letterAt 30 = .ok (.ireturn, 1) := by decide +kernel
theorem dX4_allLetters_0 : decode cX4_allLetters 0 = .ok (.iconst 0, 1) := by decide +kernel
theorem dX4_allLetters_1 : decode cX4_allLetters 1 = .ok (.istore_n 1, 1) := by decide +kernel
theorem dX4_allLetters_2 : decode cX4_allLetters 2 = .ok (.iconst 0, 1) := by decide +kernel
theorem dX4_allLetters_3 : decode cX4_allLetters 3 = .ok (.istore_n 2, 1) := by decide +kernel
theorem dX4_allLetters_4 : decode cX4_allLetters 4 = .ok (.iload_n 2, 1) := by decide +kernel
theorem dX4_allLetters_5 : decode cX4_allLetters 5 = .ok (.aload_n 0, 1) := by decide +kernel
theorem dX4_allLetters_6 : decode cX4_allLetters 6 = .ok (.getfield 35, 3) := by decide +kernel
theorem dX4_allLetters_9 : decode cX4_allLetters 9 = .ok (.if_icmp .ge 18, 3) := by decide +kernel
theorem dX4_allLetters_12 : decode cX4_allLetters 12 = .ok (.iload_n 1, 1) := by decide +kernel
theorem dX4_allLetters_13 : decode cX4_allLetters 13 = .ok (.aload_n 0, 1) := by decide +kernel
theorem dX4_allLetters_14 : decode cX4_allLetters 14 = .ok (.getfield 24, 3) := by decide +kernel
theorem dX4_allLetters_17 : decode cX4_allLetters 17 = .ok (.iload_n 2, 1) := by decide +kernel
theorem dX4_allLetters_18 : decode cX4_allLetters 18 = .ok (.iaload, 1) := by decide +kernel
theorem dX4_allLetters_19 : decode cX4_allLetters 19 = .ok (.ior, 1) := by decide +kernel
theorem dX4_allLetters_20 : decode cX4_allLetters 20 = .ok (.istore_n 1, 1) := by decide +kernel
theorem dX4_allLetters_21 : decode cX4_allLetters 21 = .ok (.iinc 2 1, 3) := by decide +kernel
theorem dX4_allLetters_24 : decode cX4_allLetters 24 = .ok (.goto (-20), 3) := by decide +kernel
theorem dX4_allLetters_27 : decode cX4_allLetters 27 = .ok (.iload_n 1, 1) := by decide +kernel
theorem dX4_allLetters_28 : decode cX4_allLetters 28 = .ok (.ireturn, 1) := by decide +kernel
theorem dX4_firstLike_0 : decode cX4_firstLike 0 = .ok (.iconst 0, 1) := by decide +kernel
theorem dX4_firstLike_1 : decode cX4_firstLike 1 = .ok (.istore 4, 2) := by decide +kernel
theorem dX4_firstLike_3 : decode cX4_firstLike 3 = .ok (.iload 4, 2) := by decide +kernel
theorem dX4_firstLike_5 : decode cX4_firstLike 5 = .ok (.aload_n 0, 1) := by decide +kernel
theorem dX4_firstLike_6 : decode cX4_firstLike 6 = .ok (.getfield 35, 3) := by decide +kernel
theorem dX4_firstLike_9 : decode cX4_firstLike 9 = .ok (.if_icmp .ge 34, 3) := by decide +kernel
theorem dX4_firstLike_12 : decode cX4_firstLike 12 = .ok (.aload_n 0, 1) := by decide +kernel
theorem dX4_firstLike_13 : decode cX4_firstLike 13 = .ok (.getfield 20, 3) := by decide +kernel
theorem dX4_firstLike_16 : decode cX4_firstLike 16 = .ok (.iload 4, 2) := by decide +kernel
theorem dX4_firstLike_18 : decode cX4_firstLike 18 = .ok (.iaload, 1) := by decide +kernel
theorem dX4_firstLike_19 : decode cX4_firstLike 19 = .ok (.iload_n 3, 1) := by decide +kernel
theorem dX4_firstLike_20 : decode cX4_firstLike 20 = .ok (.if_icmp .ne 17, 3) := by decide +kernel
theorem dX4_firstLike_23 : decode cX4_firstLike 23 = .ok (.aload_n 0, 1) := by decide +kernel
theorem dX4_firstLike_24 : decode cX4_firstLike 24 = .ok (.iload 4, 2) := by decide +kernel
theorem dX4_firstLike_26 : decode cX4_firstLike 26 = .ok (.aload_n 1, 1) := by decide +kernel
theorem dX4_firstLike_27 : decode cX4_firstLike 27 = .ok (.iload_n 2, 1) := by decide +kernel
theorem dX4_firstLike_28 : decode cX4_firstLike 28 = .ok (.invokevirtual 45, 3) := by decide +kernel
theorem dX4_firstLike_31 : decode cX4_firstLike 31 = .ok (.ifCond .eq 6, 3) := by decide +kernel
theorem dX4_firstLike_34 : decode cX4_firstLike 34 = .ok (.iload 4, 2) := by decide +kernel
theorem dX4_firstLike_36 : decode cX4_firstLike 36 = .ok (.ireturn, 1) := by decide +kernel
theorem dX4_firstLike_37 : decode cX4_firstLike 37 = .ok (.iinc 4 1, 3) := by decide +kernel
theorem dX4_firstLike_40 : decode cX4_firstLike 40 = .ok (.goto (-37), 3) := by decide +kernel
theorem dX4_firstLike_43 : decode cX4_firstLike 43 = .ok (.iconst (-1), 1) := by decide +kernel
theorem dX4_firstLike_44 : decode cX4_firstLike 44 = .ok (.ireturn, 1) := by decide +kernel
theorem dX4_isLike_0 : decode cX4_isLike 0 = .ok (.iconst 0, 1) := by decide +kernel
theorem dX4_isLike_1 : decode cX4_isLike 1 = .ok (.istore 4, 2) := by decide +kernel
theorem dX4_isLike_3 : decode cX4_isLike 3 = .ok (.iload 4, 2) := by decide +kernel
theorem dX4_isLike_5 : decode cX4_isLike 5 = .ok (.aload_n 0, 1) := by decide +kernel
theorem dX4_isLike_6 : decode cX4_isLike 6 = .ok (.getfield 20, 3) := by decide +kernel
theorem dX4_isLike_9 : decode cX4_isLike 9 = .ok (.iload_n 1, 1) := by decide +kernel
theorem dX4_isLike_10 : decode cX4_isLike 10 = .ok (.iaload, 1) := by decide +kernel
theorem dX4_isLike_11 : decode cX4_isLike 11 = .ok (.if_icmp .ge 37, 3) := by decide +kernel
theorem dX4_isLike_14 : decode cX4_isLike 14 = .ok (.aload_n 0, 1) := by decide +kernel
theorem dX4_isLike_15 : decode cX4_isLike 15 = .ok (.getfield 16, 3) := by decide +kernel
theorem dX4_isLike_18 : decode cX4_isLike 18 = .ok (.iload_n 1, 1) := by decide +kernel
theorem dX4_isLike_19 : decode cX4_isLike 19 = .ok (.aload_n 0, 1) := by decide +kernel
theorem dX4_isLike_20 : decode cX4_isLike 20 = .ok (.getfield 13, 3) := by decide +kernel
theorem dX4_isLike_23 : decode cX4_isLike 23 = .ok (.imul, 1) := by decide +kernel
theorem dX4_isLike_24 : decode cX4_isLike 24 = .ok (.iload 4, 2) := by decide +kernel
theorem dX4_isLike_26 : decode cX4_isLike 26 = .ok (.iadd, 1) := by decide +kernel
theorem dX4_isLike_27 : decode cX4_isLike 27 = .ok (.baload, 1) := by decide +kernel
theorem dX4_isLike_28 : decode cX4_isLike 28 = .ok (.aload_n 2, 1) := by decide +kernel
theorem dX4_isLike_29 : decode cX4_isLike 29 = .ok (.getfield 38, 3) := by decide +kernel
theorem dX4_isLike_32 : decode cX4_isLike 32 = .ok (.iload_n 3, 1) := by decide +kernel
theorem dX4_isLike_33 : decode cX4_isLike 33 = .ok (.iload 4, 2) := by decide +kernel
theorem dX4_isLike_35 : decode cX4_isLike 35 = .ok (.iadd, 1) := by decide +kernel
theorem dX4_isLike_36 : decode cX4_isLike 36 = .ok (.baload, 1) := by decide +kernel
theorem dX4_isLike_37 : decode cX4_isLike 37 = .ok (.if_icmp .eq 5, 3) := by decide +kernel
theorem dX4_isLike_40 : decode cX4_isLike 40 = .ok (.iconst 0, 1) := by decide +kernel
theorem dX4_isLike_41 : decode cX4_isLike 41 = .ok (.ireturn, 1) := by decide +kernel
theorem dX4_isLike_42 : decode cX4_isLike 42 = .ok (.iinc 4 1, 3) := by decide +kernel
theorem dX4_isLike_45 : decode cX4_isLike 45 = .ok (.goto (-42), 3) := by decide +kernel
theorem dX4_isLike_48 : decode cX4_isLike 48 = .ok (.iconst 1, 1) := by decide +kernel
theorem dX4_isLike_49 : decode cX4_isLike 49 = .ok (.ireturn, 1) := by decide +kernel
theorem dX5_init_0 : decode cX5_init 0 = .ok (.aload_n 0, 1) := by decide +kernel
theorem dX5_init_1 : decode cX5_init 1 = .ok (.invokespecial 3, 3) := by decide +kernel
theorem dX5_init_4 : decode cX5_init 4 = .ok (.aload_n 0, 1) := by decide +kernel
theorem dX5_init_5 : decode cX5_init 5 = .ok (.sipush 600, 3) := by decide +kernel
theorem dX5_init_8 : decode cX5_init 8 = .ok (.newarray .byte, 2) := by decide +kernel
theorem dX5_init_10 : decode cX5_init 10 = .ok (.putfield 9, 3) := by decide +kernel
theorem dX5_init_13 : decode cX5_init 13 = .ok (.return_, 1) := by decide +kernel
theorem dX5_clear_0 : decode cX5_clear 0 = .ok (.aload_n 0, 1) := by decide +kernel
theorem dX5_clear_1 : decode cX5_clear 1 = .ok (.getfield 9, 3) := by decide +kernel
theorem dX5_clear_4 : decode cX5_clear 4 = .ok (.iconst 0, 1) := by decide +kernel
theorem dX5_clear_5 : decode cX5_clear 5 = .ok (.invokestatic 15, 3) := by decide +kernel
theorem dX5_clear_8 : decode cX5_clear 8 = .ok (.return_, 1) := by decide +kernel
theorem dX5_watch_0 : decode cX5_watch 0 = .ok (.iconst 0, 1) := by decide +kernel
theorem dX5_watch_1 : decode cX5_watch 1 = .ok (.iload_n 1, 1) := by decide +kernel
theorem dX5_watch_2 : decode cX5_watch 2 = .ok (.invokestatic 21, 3) := by decide +kernel
theorem dX5_watch_5 : decode cX5_watch 5 = .ok (.istore_n 3, 1) := by decide +kernel
theorem dX5_watch_6 : decode cX5_watch 6 = .ok (.iload_n 3, 1) := by decide +kernel
theorem dX5_watch_7 : decode cX5_watch 7 = .ok (.iload_n 1, 1) := by decide +kernel
theorem dX5_watch_8 : decode cX5_watch 8 = .ok (.iload_n 2, 1) := by decide +kernel
theorem dX5_watch_9 : decode cX5_watch 9 = .ok (.iadd, 1) := by decide +kernel
theorem dX5_watch_10 : decode cX5_watch 10 = .ok (.if_icmp .ge 23, 3) := by decide +kernel
theorem dX5_watch_13 : decode cX5_watch 13 = .ok (.iload_n 3, 1) := by decide +kernel
theorem dX5_watch_14 : decode cX5_watch 14 = .ok (.sipush 600, 3) := by decide +kernel
theorem dX5_watch_17 : decode cX5_watch 17 = .ok (.if_icmp .ge 16, 3) := by decide +kernel
theorem dX5_watch_20 : decode cX5_watch 20 = .ok (.aload_n 0, 1) := by decide +kernel
theorem dX5_watch_21 : decode cX5_watch 21 = .ok (.getfield 9, 3) := by decide +kernel
theorem dX5_watch_24 : decode cX5_watch 24 = .ok (.iload_n 3, 1) := by decide +kernel
theorem dX5_watch_25 : decode cX5_watch 25 = .ok (.iconst 1, 1) := by decide +kernel
theorem dX5_watch_26 : decode cX5_watch 26 = .ok (.bastore, 1) := by decide +kernel
theorem dX5_watch_27 : decode cX5_watch 27 = .ok (.iinc 3 1, 3) := by decide +kernel
theorem dX5_watch_30 : decode cX5_watch 30 = .ok (.goto (-24), 3) := by decide +kernel
theorem dX5_watch_33 : decode cX5_watch 33 = .ok (.return_, 1) := by decide +kernel
theorem dX5_watchedMinutes_0 : decode cX5_watchedMinutes 0 = .ok (.iconst 0, 1) := by decide +kernel
theorem dX5_watchedMinutes_1 : decode cX5_watchedMinutes 1 = .ok (.istore_n 1, 1) := by decide +kernel
theorem dX5_watchedMinutes_2 : decode cX5_watchedMinutes 2 = .ok (.iconst 0, 1) := by decide +kernel
theorem dX5_watchedMinutes_3 : decode cX5_watchedMinutes 3 = .ok (.istore_n 2, 1) := by decide +kernel
theorem dX5_watchedMinutes_4 : decode cX5_watchedMinutes 4 = .ok (.iload_n 2, 1) := by decide +kernel
theorem dX5_watchedMinutes_5 : decode cX5_watchedMinutes 5 = .ok (.sipush 600, 3) := by decide +kernel
theorem dX5_watchedMinutes_8 : decode cX5_watchedMinutes 8 = .ok (.if_icmp .ge 18, 3) := by decide +kernel
theorem dX5_watchedMinutes_11 : decode cX5_watchedMinutes 11 = .ok (.iload_n 1, 1) := by decide +kernel
theorem dX5_watchedMinutes_12 : decode cX5_watchedMinutes 12 = .ok (.aload_n 0, 1) := by decide +kernel
theorem dX5_watchedMinutes_13 : decode cX5_watchedMinutes 13 = .ok (.getfield 9, 3) := by decide +kernel
theorem dX5_watchedMinutes_16 : decode cX5_watchedMinutes 16 = .ok (.iload_n 2, 1) := by decide +kernel
theorem dX5_watchedMinutes_17 : decode cX5_watchedMinutes 17 = .ok (.baload, 1) := by decide +kernel
theorem dX5_watchedMinutes_18 : decode cX5_watchedMinutes 18 = .ok (.iadd, 1) := by decide +kernel
theorem dX5_watchedMinutes_19 : decode cX5_watchedMinutes 19 = .ok (.istore_n 1, 1) := by decide +kernel
theorem dX5_watchedMinutes_20 : decode cX5_watchedMinutes 20 = .ok (.iinc 2 1, 3) := by decide +kernel
theorem dX5_watchedMinutes_23 : decode cX5_watchedMinutes 23 = .ok (.goto (-19), 3) := by decide +kernel
theorem dX5_watchedMinutes_26 : decode cX5_watchedMinutes 26 = .ok (.iload_n 1, 1) := by decide +kernel
theorem dX5_watchedMinutes_27 : decode cX5_watchedMinutes 27 = .ok (.ireturn, 1) := by decide +kernel
theorem dX5_firstFrom_0 : decode cX5_firstFrom 0 = .ok (.iconst 0, 1) := by decide +kernel
theorem dX5_firstFrom_1 : decode cX5_firstFrom 1 = .ok (.iload_n 1, 1) := by decide +kernel
theorem dX5_firstFrom_2 : decode cX5_firstFrom 2 = .ok (.invokestatic 21, 3) := by decide +kernel
theorem dX5_firstFrom_5 : decode cX5_firstFrom 5 = .ok (.istore_n 3, 1) := by decide +kernel
theorem dX5_firstFrom_6 : decode cX5_firstFrom 6 = .ok (.iload_n 3, 1) := by decide +kernel
theorem dX5_firstFrom_7 : decode cX5_firstFrom 7 = .ok (.sipush 600, 3) := by decide +kernel
theorem dX5_firstFrom_10 : decode cX5_firstFrom 10 = .ok (.if_icmp .ge 21, 3) := by decide +kernel
theorem dX5_firstFrom_13 : decode cX5_firstFrom 13 = .ok (.aload_n 0, 1) := by decide +kernel
theorem dX5_firstFrom_14 : decode cX5_firstFrom 14 = .ok (.getfield 9, 3) := by decide +kernel
theorem dX5_firstFrom_17 : decode cX5_firstFrom 17 = .ok (.iload_n 3, 1) := by decide +kernel
theorem dX5_firstFrom_18 : decode cX5_firstFrom 18 = .ok (.baload, 1) := by decide +kernel
theorem dX5_firstFrom_19 : decode cX5_firstFrom 19 = .ok (.iload_n 2, 1) := by decide +kernel
theorem dX5_firstFrom_20 : decode cX5_firstFrom 20 = .ok (.if_icmp .ne 5, 3) := by decide +kernel
theorem dX5_firstFrom_23 : decode cX5_firstFrom 23 = .ok (.iload_n 3, 1) := by decide +kernel
theorem dX5_firstFrom_24 : decode cX5_firstFrom 24 = .ok (.ireturn, 1) := by decide +kernel
theorem dX5_firstFrom_25 : decode cX5_firstFrom 25 = .ok (.iinc 3 1, 3) := by decide +kernel
theorem dX5_firstFrom_28 : decode cX5_firstFrom 28 = .ok (.goto (-22), 3) := by decide +kernel
theorem dX5_firstFrom_31 : decode cX5_firstFrom 31 = .ok (.iconst (-1), 1) := by decide +kernel
theorem dX5_firstFrom_32 : decode cX5_firstFrom 32 = .ok (.ireturn, 1) := by decide +kernel
theorem dX5_firstRow_0 : decode cX5_firstRow 0 = .ok (.iconst 0, 1) := by decide +kernel
theorem dX5_firstRow_1 : decode cX5_firstRow 1 = .ok (.istore_n 3, 1) := by decide +kernel
theorem dX5_firstRow_2 : decode cX5_firstRow 2 = .ok (.iconst 0, 1) := by decide +kernel
theorem dX5_firstRow_3 : decode cX5_firstRow 3 = .ok (.iload_n 1, 1) := by decide +kernel
theorem dX5_firstRow_4 : decode cX5_firstRow 4 = .ok (.invokestatic 21, 3) := by decide +kernel
theorem dX5_firstRow_7 : decode cX5_firstRow 7 = .ok (.istore 4, 2) := by decide +kernel
theorem dX5_firstRow_9 : decode cX5_firstRow 9 = .ok (.iload 4, 2) := by decide +kernel
theorem dX5_firstRow_11 : decode cX5_firstRow 11 = .ok (.sipush 600, 3) := by decide +kernel
theorem dX5_firstRow_14 : decode cX5_firstRow 14 = .ok (.if_icmp .ge 39, 3) := by decide +kernel
theorem dX5_firstRow_17 : decode cX5_firstRow 17 = .ok (.aload_n 0, 1) := by decide +kernel
theorem dX5_firstRow_18 : decode cX5_firstRow 18 = .ok (.getfield 9, 3) := by decide +kernel
theorem dX5_firstRow_21 : decode cX5_firstRow 21 = .ok (.iload 4, 2) := by decide +kernel
theorem dX5_firstRow_23 : decode cX5_firstRow 23 = .ok (.baload, 1) := by decide +kernel
theorem dX5_firstRow_24 : decode cX5_firstRow 24 = .ok (.ifCond .ne 9, 3) := by decide +kernel
theorem dX5_firstRow_27 : decode cX5_firstRow 27 = .ok (.iload_n 3, 1) := by decide +kernel
theorem dX5_firstRow_28 : decode cX5_firstRow 28 = .ok (.iconst 1, 1) := by decide +kernel
theorem dX5_firstRow_29 : decode cX5_firstRow 29 = .ok (.iadd, 1) := by decide +kernel
theorem dX5_firstRow_30 : decode cX5_firstRow 30 = .ok (.goto 4, 3) := by decide +kernel
theorem dX5_firstRow_33 : decode cX5_firstRow 33 = .ok (.iconst 0, 1) := by decide +kernel
theorem dX5_firstRow_34 : decode cX5_firstRow 34 = .ok (.istore_n 3, 1) := by decide +kernel
theorem dX5_firstRow_35 : decode cX5_firstRow 35 = .ok (.iload_n 3, 1) := by decide +kernel
theorem dX5_firstRow_36 : decode cX5_firstRow 36 = .ok (.iload_n 2, 1) := by decide +kernel
theorem dX5_firstRow_37 : decode cX5_firstRow 37 = .ok (.if_icmp .ne 10, 3) := by decide +kernel
theorem dX5_firstRow_40 : decode cX5_firstRow 40 = .ok (.iload 4, 2) := by decide +kernel
theorem dX5_firstRow_42 : decode cX5_firstRow 42 = .ok (.iload_n 2, 1) := by decide +kernel
theorem dX5_firstRow_43 : decode cX5_firstRow 43 = .ok (.isub, 1) := by decide +kernel
theorem dX5_firstRow_44 : decode cX5_firstRow 44 = .ok (.iconst 1, 1) := by decide +kernel
theorem dX5_firstRow_45 : decode cX5_firstRow 45 = .ok (.iadd, 1) := by decide +kernel
theorem dX5_firstRow_46 : decode cX5_firstRow 46 = .ok (.ireturn, 1) := by decide +kernel
theorem dX5_firstRow_47 : decode cX5_firstRow 47 = .ok (.iinc 4 1, 3) := by decide +kernel
theorem dX5_firstRow_50 : decode cX5_firstRow 50 = .ok (.goto (-41), 3) := by decide +kernel
theorem dX5_firstRow_53 : decode cX5_firstRow 53 = .ok (.iconst (-1), 1) := by decide +kernel
theorem dX5_firstRow_54 : decode cX5_firstRow 54 = .ok (.ireturn, 1) := by decide +kernel
theorem dX5_rowsHeld_0 : decode cX5_rowsHeld 0 = .ok (.iconst 0, 1) := by decide +kernel
theorem dX5_rowsHeld_1 : decode cX5_rowsHeld 1 = .ok (.istore_n 2, 1) := by decide +kernel
theorem dX5_rowsHeld_2 : decode cX5_rowsHeld 2 = .ok (.iconst 0, 1) := by decide +kernel
theorem dX5_rowsHeld_3 : decode cX5_rowsHeld 3 = .ok (.istore_n 3, 1) := by decide +kernel
theorem dX5_rowsHeld_4 : decode cX5_rowsHeld 4 = .ok (.iconst 0, 1) := by decide +kernel
theorem dX5_rowsHeld_5 : decode cX5_rowsHeld 5 = .ok (.istore 4, 2) := by decide +kernel
theorem dX5_rowsHeld_7 : decode cX5_rowsHeld 7 = .ok (.iload 4, 2) := by decide +kernel
theorem dX5_rowsHeld_9 : decode cX5_rowsHeld 9 = .ok (.sipush 600, 3) := by decide +kernel
theorem dX5_rowsHeld_12 : decode cX5_rowsHeld 12 = .ok (.if_icmp .ge 37, 3) := by decide +kernel
theorem dX5_rowsHeld_15 : decode cX5_rowsHeld 15 = .ok (.aload_n 0, 1) := by decide +kernel
theorem dX5_rowsHeld_16 : decode cX5_rowsHeld 16 = .ok (.getfield 9, 3) := by decide +kernel
theorem dX5_rowsHeld_19 : decode cX5_rowsHeld 19 = .ok (.iload 4, 2) := by decide +kernel
theorem dX5_rowsHeld_21 : decode cX5_rowsHeld 21 = .ok (.baload, 1) := by decide +kernel
theorem dX5_rowsHeld_22 : decode cX5_rowsHeld 22 = .ok (.ifCond .ne 9, 3) := by decide +kernel
theorem dX5_rowsHeld_25 : decode cX5_rowsHeld 25 = .ok (.iload_n 3, 1) := by decide +kernel
theorem dX5_rowsHeld_26 : decode cX5_rowsHeld 26 = .ok (.iconst 1, 1) := by decide +kernel
theorem dX5_rowsHeld_27 : decode cX5_rowsHeld 27 = .ok (.iadd, 1) := by decide +kernel
theorem dX5_rowsHeld_28 : decode cX5_rowsHeld 28 = .ok (.goto 4, 3) := by decide +kernel
theorem dX5_rowsHeld_31 : decode cX5_rowsHeld 31 = .ok (.iconst 0, 1) := by decide +kernel
theorem dX5_rowsHeld_32 : decode cX5_rowsHeld 32 = .ok (.istore_n 3, 1) := by decide +kernel
theorem dX5_rowsHeld_33 : decode cX5_rowsHeld 33 = .ok (.iload_n 3, 1) := by decide +kernel
theorem dX5_rowsHeld_34 : decode cX5_rowsHeld 34 = .ok (.iload_n 1, 1) := by decide +kernel
theorem dX5_rowsHeld_35 : decode cX5_rowsHeld 35 = .ok (.if_icmp .ne 8, 3) := by decide +kernel
theorem dX5_rowsHeld_38 : decode cX5_rowsHeld 38 = .ok (.iinc 2 1, 3) := by decide +kernel
theorem dX5_rowsHeld_41 : decode cX5_rowsHeld 41 = .ok (.iconst 0, 1) := by decide +kernel
theorem dX5_rowsHeld_42 : decode cX5_rowsHeld 42 = .ok (.istore_n 3, 1) := by decide +kernel
theorem dX5_rowsHeld_43 : decode cX5_rowsHeld 43 = .ok (.iinc 4 1, 3) := by decide +kernel
theorem dX5_rowsHeld_46 : decode cX5_rowsHeld 46 = .ok (.goto (-39), 3) := by decide +kernel
theorem dX5_rowsHeld_49 : decode cX5_rowsHeld 49 = .ok (.iload_n 2, 1) := by decide +kernel
theorem dX5_rowsHeld_50 : decode cX5_rowsHeld 50 = .ok (.ireturn, 1) := by decide +kernel
theorem dX5_longestRow_0 : decode cX5_longestRow 0 = .ok (.iconst 0, 1) := by decide +kernel
theorem dX5_longestRow_1 : decode cX5_longestRow 1 = .ok (.istore_n 1, 1) := by decide +kernel
theorem dX5_longestRow_2 : decode cX5_longestRow 2 = .ok (.iconst 0, 1) := by decide +kernel
theorem dX5_longestRow_3 : decode cX5_longestRow 3 = .ok (.istore_n 2, 1) := by decide +kernel
theorem dX5_longestRow_4 : decode cX5_longestRow 4 = .ok (.iconst 0, 1) := by decide +kernel
theorem dX5_longestRow_5 : decode cX5_longestRow 5 = .ok (.istore_n 3, 1) := by decide +kernel
theorem dX5_longestRow_6 : decode cX5_longestRow 6 = .ok (.iload_n 3, 1) := by decide +kernel
theorem dX5_longestRow_7 : decode cX5_longestRow 7 = .ok (.sipush 600, 3) := by decide +kernel
theorem dX5_longestRow_10 : decode cX5_longestRow 10 = .ok (.if_icmp .ge 32, 3) := by decide +kernel
theorem dX5_longestRow_13 : decode cX5_longestRow 13 = .ok (.aload_n 0, 1) := by decide +kernel
theorem dX5_longestRow_14 : decode cX5_longestRow 14 = .ok (.getfield 9, 3) := by decide +kernel
theorem dX5_longestRow_17 : decode cX5_longestRow 17 = .ok (.iload_n 3, 1) := by decide +kernel
theorem dX5_longestRow_18 : decode cX5_longestRow 18 = .ok (.baload, 1) := by decide +kernel
theorem dX5_longestRow_19 : decode cX5_longestRow 19 = .ok (.ifCond .ne 9, 3) := by decide +kernel
theorem dX5_longestRow_22 : decode cX5_longestRow 22 = .ok (.iload_n 2, 1) := by decide +kernel
theorem dX5_longestRow_23 : decode cX5_longestRow 23 = .ok (.iconst 1, 1) := by decide +kernel
theorem dX5_longestRow_24 : decode cX5_longestRow 24 = .ok (.iadd, 1) := by decide +kernel
theorem dX5_longestRow_25 : decode cX5_longestRow 25 = .ok (.goto 4, 3) := by decide +kernel
theorem dX5_longestRow_28 : decode cX5_longestRow 28 = .ok (.iconst 0, 1) := by decide +kernel
theorem dX5_longestRow_29 : decode cX5_longestRow 29 = .ok (.istore_n 2, 1) := by decide +kernel
theorem dX5_longestRow_30 : decode cX5_longestRow 30 = .ok (.iload_n 1, 1) := by decide +kernel
theorem dX5_longestRow_31 : decode cX5_longestRow 31 = .ok (.iload_n 2, 1) := by decide +kernel
theorem dX5_longestRow_32 : decode cX5_longestRow 32 = .ok (.invokestatic 21, 3) := by decide +kernel
theorem dX5_longestRow_35 : decode cX5_longestRow 35 = .ok (.istore_n 1, 1) := by decide +kernel
theorem dX5_longestRow_36 : decode cX5_longestRow 36 = .ok (.iinc 3 1, 3) := by decide +kernel
theorem dX5_longestRow_39 : decode cX5_longestRow 39 = .ok (.goto (-33), 3) := by decide +kernel
theorem dX5_longestRow_42 : decode cX5_longestRow 42 = .ok (.iload_n 1, 1) := by decide +kernel
theorem dX5_longestRow_43 : decode cX5_longestRow 43 = .ok (.ireturn, 1) := by decide +kernel
theorem dX6_init_0 : decode cX6_init 0 = .ok (.aload_n 0, 1) := by decide +kernel
theorem dX6_init_1 : decode cX6_init 1 = .ok (.invokespecial 3, 3) := by decide +kernel
theorem dX6_init_4 : decode cX6_init 4 = .ok (.return_, 1) := by decide +kernel
theorem dX6_readLines_0 : decode cX6_readLines 0 = .ok (.aload_n 0, 1) := by decide +kernel
theorem dX6_readLines_1 : decode cX6_readLines 1 = .ok (.iconst 0, 1) := by decide +kernel
theorem dX6_readLines_2 : decode cX6_readLines 2 = .ok (.putfield 9, 3) := by decide +kernel
theorem dX6_readLines_5 : decode cX6_readLines 5 = .ok (.aload_n 0, 1) := by decide +kernel
theorem dX6_readLines_6 : decode cX6_readLines 6 = .ok (.iconst 0, 1) := by decide +kernel
theorem dX6_readLines_7 : decode cX6_readLines 7 = .ok (.putfield 15, 3) := by decide +kernel
theorem dX6_readLines_10 : decode cX6_readLines 10 = .ok (.aload_n 1, 1) := by decide +kernel
theorem dX6_readLines_11 : decode cX6_readLines 11 = .ok (.iconst 0, 1) := by decide +kernel
theorem dX6_readLines_12 : decode cX6_readLines 12 = .ok (.putfield 18, 3) := by decide +kernel
theorem dX6_readLines_15 : decode cX6_readLines 15 = .ok (.iconst 0, 1) := by decide +kernel
theorem dX6_readLines_16 : decode cX6_readLines 16 = .ok (.istore_n 3, 1) := by decide +kernel
theorem dX6_readLines_17 : decode cX6_readLines 17 = .ok (.iload_n 3, 1) := by decide +kernel
theorem dX6_readLines_18 : decode cX6_readLines 18 = .ok (.sipush 320, 3) := by decide +kernel
theorem dX6_readLines_21 : decode cX6_readLines 21 = .ok (.if_icmp .ge 33, 3) := by decide +kernel
theorem dX6_readLines_24 : decode cX6_readLines 24 = .ok (.aload_n 1, 1) := by decide +kernel
theorem dX6_readLines_25 : decode cX6_readLines 25 = .ok (.invokevirtual 23, 3) := by decide +kernel
theorem dX6_readLines_28 : decode cX6_readLines 28 = .ok (.aload_n 1, 1) := by decide +kernel
theorem dX6_readLines_29 : decode cX6_readLines 29 = .ok (.getfield 26, 3) := by decide +kernel
theorem dX6_readLines_32 : decode cX6_readLines 32 = .ok (.iconst 1, 1) := by decide +kernel
theorem dX6_readLines_33 : decode cX6_readLines 33 = .ok (.if_icmp .eq 21, 3) := by decide +kernel
theorem dX6_readLines_36 : decode cX6_readLines 36 = .ok (.aload_n 0, 1) := by decide +kernel
theorem dX6_readLines_37 : decode cX6_readLines 37 = .ok (.aload_n 1, 1) := by decide +kernel
theorem dX6_readLines_38 : decode cX6_readLines 38 = .ok (.aload_n 2, 1) := by decide +kernel
theorem dX6_readLines_39 : decode cX6_readLines 39 = .ok (.invokevirtual 29, 3) := by decide +kernel
theorem dX6_readLines_42 : decode cX6_readLines 42 = .ok (.ifCond .ne 6, 3) := by decide +kernel
theorem dX6_readLines_45 : decode cX6_readLines 45 = .ok (.goto 9, 3) := by decide +kernel
theorem dX6_readLines_48 : decode cX6_readLines 48 = .ok (.iinc 3 1, 3) := by decide +kernel
theorem dX6_readLines_51 : decode cX6_readLines 51 = .ok (.goto (-34), 3) := by decide +kernel
theorem dX6_readLines_54 : decode cX6_readLines 54 = .ok (.aload_n 0, 1) := by decide +kernel
theorem dX6_readLines_55 : decode cX6_readLines 55 = .ok (.getfield 9, 3) := by decide +kernel
theorem dX6_readLines_58 : decode cX6_readLines 58 = .ok (.ifCond .ne 21, 3) := by decide +kernel
theorem dX6_readLines_61 : decode cX6_readLines 61 = .ok (.aload_n 2, 1) := by decide +kernel
theorem dX6_readLines_62 : decode cX6_readLines 62 = .ok (.invokevirtual 33, 3) := by decide +kernel
theorem dX6_readLines_65 : decode cX6_readLines 65 = .ok (.ifCond .ne 14, 3) := by decide +kernel
theorem dX6_readLines_68 : decode cX6_readLines 68 = .ok (.aload_n 0, 1) := by decide +kernel
theorem dX6_readLines_69 : decode cX6_readLines 69 = .ok (.bipush 6, 2) := by decide +kernel
theorem dX6_readLines_71 : decode cX6_readLines 71 = .ok (.aload_n 1, 1) := by decide +kernel
theorem dX6_readLines_72 : decode cX6_readLines 72 = .ok (.getfield 39, 3) := by decide +kernel
theorem dX6_readLines_75 : decode cX6_readLines 75 = .ok (.invokevirtual 42, 3) := by decide +kernel
theorem dX6_readLines_78 : decode cX6_readLines 78 = .ok (.pop, 1) := by decide +kernel
theorem dX6_readLines_79 : decode cX6_readLines 79 = .ok (.iload_n 3, 1) := by decide +kernel
theorem dX6_readLines_80 : decode cX6_readLines 80 = .ok (.ireturn, 1) := by decide +kernel
theorem dX6_takeLine_0 : decode cX6_takeLine 0 = .ok (.aload_n 0, 1) := by decide +kernel
theorem dX6_takeLine_1 : decode cX6_takeLine 1 = .ok (.aload_n 1, 1) := by decide +kernel
theorem dX6_takeLine_2 : decode cX6_takeLine 2 = .ok (.iconst 2, 1) := by decide +kernel
theorem dX6_takeLine_3 : decode cX6_takeLine 3 = .ok (.invokevirtual 46, 3) := by decide +kernel
theorem dX6_takeLine_6 : decode cX6_takeLine 6 = .ok (.ifCond .ne 5, 3) := by decide +kernel
theorem dX6_takeLine_9 : decode cX6_takeLine 9 = .ok (.iconst 0, 1) := by decide +kernel
theorem dX6_takeLine_10 : decode cX6_takeLine 10 = .ok (.ireturn, 1) := by decide +kernel
theorem dX6_takeLine_11 : decode cX6_takeLine 11 = .ok (.aload_n 1, 1) := by decide +kernel
theorem dX6_takeLine_12 : decode cX6_takeLine 12 = .ok (.ldc 50, 2) := by decide +kernel
theorem dX6_takeLine_14 : decode cX6_takeLine 14 = .ok (.invokevirtual 52, 3) := by decide +kernel
theorem dX6_takeLine_17 : decode cX6_takeLine 17 = .ok (.ifCond .eq 10, 3) := by decide +kernel
theorem dX6_takeLine_20 : decode cX6_takeLine 20 = .ok (.aload_n 0, 1) := by decide +kernel
theorem dX6_takeLine_21 : decode cX6_takeLine 21 = .ok (.aload_n 1, 1) := by decide +kernel
theorem dX6_takeLine_22 : decode cX6_takeLine 22 = .ok (.aload_n 2, 1) := by decide +kernel
theorem dX6_takeLine_23 : decode cX6_takeLine 23 = .ok (.invokevirtual 56, 3) := by decide +kernel
theorem dX6_takeLine_26 : decode cX6_takeLine 26 = .ok (.ireturn, 1) := by decide +kernel
theorem dX6_takeLine_27 : decode cX6_takeLine 27 = .ok (.aload_n 1, 1) := by decide +kernel
theorem dX6_takeLine_28 : decode cX6_takeLine 28 = .ok (.ldc 59, 2) := by decide +kernel
theorem dX6_takeLine_30 : decode cX6_takeLine 30 = .ok (.invokevirtual 52, 3) := by decide +kernel
theorem dX6_takeLine_33 : decode cX6_takeLine 33 = .ok (.ifCond .eq 10, 3) := by decide +kernel
theorem dX6_takeLine_36 : decode cX6_takeLine 36 = .ok (.aload_n 0, 1) := by decide +kernel
theorem dX6_takeLine_37 : decode cX6_takeLine 37 = .ok (.aload_n 1, 1) := by decide +kernel
theorem dX6_takeLine_38 : decode cX6_takeLine 38 = .ok (.aload_n 2, 1) := by decide +kernel
theorem dX6_takeLine_39 : decode cX6_takeLine 39 = .ok (.invokevirtual 61, 3) := by decide +kernel
theorem dX6_takeLine_42 : decode cX6_takeLine 42 = .ok (.ireturn, 1) := by decide +kernel
theorem dX6_takeLine_43 : decode cX6_takeLine 43 = .ok (.aload_n 1, 1) := by decide +kernel
theorem dX6_takeLine_44 : decode cX6_takeLine 44 = .ok (.ldc 64, 2) := by decide +kernel
theorem dX6_takeLine_46 : decode cX6_takeLine 46 = .ok (.invokevirtual 52, 3) := by decide +kernel
theorem dX6_takeLine_49 : decode cX6_takeLine 49 = .ok (.ifCond .eq 10, 3) := by decide +kernel
theorem dX6_takeLine_52 : decode cX6_takeLine 52 = .ok (.aload_n 0, 1) := by decide +kernel
theorem dX6_takeLine_53 : decode cX6_takeLine 53 = .ok (.aload_n 1, 1) := by decide +kernel
theorem dX6_takeLine_54 : decode cX6_takeLine 54 = .ok (.aload_n 2, 1) := by decide +kernel
theorem dX6_takeLine_55 : decode cX6_takeLine 55 = .ok (.invokevirtual 66, 3) := by decide +kernel
theorem dX6_takeLine_58 : decode cX6_takeLine 58 = .ok (.ireturn, 1) := by decide +kernel
theorem dX6_takeLine_59 : decode cX6_takeLine 59 = .ok (.aload_n 1, 1) := by decide +kernel
theorem dX6_takeLine_60 : decode cX6_takeLine 60 = .ok (.ldc 69, 2) := by decide +kernel
theorem dX6_takeLine_62 : decode cX6_takeLine 62 = .ok (.invokevirtual 52, 3) := by decide +kernel
theorem dX6_takeLine_65 : decode cX6_takeLine 65 = .ok (.ifCond .eq 10, 3) := by decide +kernel
theorem dX6_takeLine_68 : decode cX6_takeLine 68 = .ok (.aload_n 0, 1) := by decide +kernel
theorem dX6_takeLine_69 : decode cX6_takeLine 69 = .ok (.aload_n 1, 1) := by decide +kernel
theorem dX6_takeLine_70 : decode cX6_takeLine 70 = .ok (.aload_n 2, 1) := by decide +kernel
theorem dX6_takeLine_71 : decode cX6_takeLine 71 = .ok (.invokevirtual 71, 3) := by decide +kernel
theorem dX6_takeLine_74 : decode cX6_takeLine 74 = .ok (.ireturn, 1) := by decide +kernel
theorem dX6_takeLine_75 : decode cX6_takeLine 75 = .ok (.aload_n 1, 1) := by decide +kernel
theorem dX6_takeLine_76 : decode cX6_takeLine 76 = .ok (.ldc 74, 2) := by decide +kernel
theorem dX6_takeLine_78 : decode cX6_takeLine 78 = .ok (.invokevirtual 52, 3) := by decide +kernel
theorem dX6_takeLine_81 : decode cX6_takeLine 81 = .ok (.ifCond .eq 10, 3) := by decide +kernel
theorem dX6_takeLine_84 : decode cX6_takeLine 84 = .ok (.aload_n 0, 1) := by decide +kernel
theorem dX6_takeLine_85 : decode cX6_takeLine 85 = .ok (.aload_n 1, 1) := by decide +kernel
theorem dX6_takeLine_86 : decode cX6_takeLine 86 = .ok (.aload_n 2, 1) := by decide +kernel
theorem dX6_takeLine_87 : decode cX6_takeLine 87 = .ok (.invokevirtual 76, 3) := by decide +kernel
theorem dX6_takeLine_90 : decode cX6_takeLine 90 = .ok (.ireturn, 1) := by decide +kernel
theorem dX6_takeLine_91 : decode cX6_takeLine 91 = .ok (.aload_n 1, 1) := by decide +kernel
theorem dX6_takeLine_92 : decode cX6_takeLine 92 = .ok (.ldc 79, 2) := by decide +kernel
theorem dX6_takeLine_94 : decode cX6_takeLine 94 = .ok (.invokevirtual 52, 3) := by decide +kernel
theorem dX6_takeLine_97 : decode cX6_takeLine 97 = .ok (.ifCond .eq 10, 3) := by decide +kernel
theorem dX6_takeLine_100 : decode cX6_takeLine 100 = .ok (.aload_n 0, 1) := by decide +kernel
theorem dX6_takeLine_101 : decode cX6_takeLine 101 = .ok (.aload_n 1, 1) := by decide +kernel
theorem dX6_takeLine_102 : decode cX6_takeLine 102 = .ok (.aload_n 2, 1) := by decide +kernel
theorem dX6_takeLine_103 : decode cX6_takeLine 103 = .ok (.invokevirtual 81, 3) := by decide +kernel
theorem dX6_takeLine_106 : decode cX6_takeLine 106 = .ok (.ireturn, 1) := by decide +kernel
theorem dX6_takeLine_107 : decode cX6_takeLine 107 = .ok (.aload_n 0, 1) := by decide +kernel
theorem dX6_takeLine_108 : decode cX6_takeLine 108 = .ok (.iconst 2, 1) := by decide +kernel
theorem dX6_takeLine_109 : decode cX6_takeLine 109 = .ok (.aload_n 1, 1) := by decide +kernel
theorem dX6_takeLine_110 : decode cX6_takeLine 110 = .ok (.getfield 84, 3) := by decide +kernel
theorem dX6_takeLine_113 : decode cX6_takeLine 113 = .ok (.invokevirtual 42, 3) := by decide +kernel
theorem dX6_takeLine_116 : decode cX6_takeLine 116 = .ok (.ireturn, 1) := by decide +kernel
theorem dX6_takeTableLine_0 : decode cX6_takeTableLine 0 = .ok (.aload_n 2, 1) := by decide +kernel
theorem dX6_takeTableLine_1 : decode cX6_takeTableLine 1 = .ok (.getfield 87, 3) := by decide +kernel
theorem dX6_takeTableLine_4 : decode cX6_takeTableLine 4 = .ok (.ifCond .eq 13, 3) := by decide +kernel
theorem dX6_takeTableLine_7 : decode cX6_takeTableLine 7 = .ok (.aload_n 0, 1) := by decide +kernel
theorem dX6_takeTableLine_8 : decode cX6_takeTableLine 8 = .ok (.iconst 4, 1) := by decide +kernel
theorem dX6_takeTableLine_9 : decode cX6_takeTableLine 9 = .ok (.aload_n 1, 1) := by decide +kernel
theorem dX6_takeTableLine_10 : decode cX6_takeTableLine 10 = .ok (.getfield 84, 3) := by decide +kernel
theorem dX6_takeTableLine_13 : decode cX6_takeTableLine 13 = .ok (.invokevirtual 42, 3) := by decide +kernel
theorem dX6_takeTableLine_16 : decode cX6_takeTableLine 16 = .ok (.ireturn, 1) := by decide +kernel
theorem dX6_takeTableLine_17 : decode cX6_takeTableLine 17 = .ok (.aload_n 2, 1) := by decide +kernel
theorem dX6_takeTableLine_18 : decode cX6_takeTableLine 18 = .ok (.iconst 1, 1) := by decide +kernel
theorem dX6_takeTableLine_19 : decode cX6_takeTableLine 19 = .ok (.putfield 87, 3) := by decide +kernel
theorem dX6_takeTableLine_22 : decode cX6_takeTableLine 22 = .ok (.aload_n 0, 1) := by decide +kernel
theorem dX6_takeTableLine_23 : decode cX6_takeTableLine 23 = .ok (.aload_n 1, 1) := by decide +kernel
theorem dX6_takeTableLine_24 : decode cX6_takeTableLine 24 = .ok (.bipush 25, 2) := by decide +kernel
theorem dX6_takeTableLine_26 : decode cX6_takeTableLine 26 = .ok (.bipush 25, 2) := by decide +kernel
theorem dX6_takeTableLine_28 : decode cX6_takeTableLine 28 = .ok (.invokevirtual 91, 3) := by decide +kernel
theorem dX6_takeTableLine_31 : decode cX6_takeTableLine 31 = .ok (.ifCond .ne 5, 3) := by decide +kernel
theorem dX6_takeTableLine_34 : decode cX6_takeTableLine 34 = .ok (.iconst 0, 1) := by decide +kernel
theorem dX6_takeTableLine_35 : decode cX6_takeTableLine 35 = .ok (.ireturn, 1) := by decide +kernel
theorem dX6_takeTableLine_36 : decode cX6_takeTableLine 36 = .ok (.aload_n 2, 1) := by decide +kernel
theorem dX6_takeTableLine_37 : decode cX6_takeTableLine 37 = .ok (.aload_n 1, 1) := by decide +kernel
theorem dX6_takeTableLine_38 : decode cX6_takeTableLine 38 = .ok (.invokevirtual 95, 3) := by decide +kernel
theorem dX6_takeTableLine_41 : decode cX6_takeTableLine 41 = .ok (.ifCond .eq 11, 3) := by decide +kernel
theorem dX6_takeTableLine_44 : decode cX6_takeTableLine 44 = .ok (.aload_n 0, 1) := by decide +kernel
theorem dX6_takeTableLine_45 : decode cX6_takeTableLine 45 = .ok (.aload_n 1, 1) := by decide +kernel
theorem dX6_takeTableLine_46 : decode cX6_takeTableLine 46 = .ok (.invokevirtual 99, 3) := by decide +kernel
theorem dX6_takeTableLine_49 : decode cX6_takeTableLine 49 = .ok (.goto 12, 3) := by decide +kernel
theorem dX6_takeTableLine_52 : decode cX6_takeTableLine 52 = .ok (.aload_n 0, 1) := by decide +kernel
theorem dX6_takeTableLine_53 : decode cX6_takeTableLine 53 = .ok (.iconst 3, 1) := by decide +kernel
theorem dX6_takeTableLine_54 : decode cX6_takeTableLine 54 = .ok (.aload_n 1, 1) := by decide +kernel
theorem dX6_takeTableLine_55 : decode cX6_takeTableLine 55 = .ok (.getfield 84, 3) := by decide +kernel
theorem dX6_takeTableLine_58 : decode cX6_takeTableLine 58 = .ok (.invokevirtual 42, 3) := by decide +kernel
theorem dX6_takeTableLine_61 : decode cX6_takeTableLine 61 = .ok (.ireturn, 1) := by decide +kernel
theorem dX6_takeWordLine_0 : decode cX6_takeWordLine 0 = .ok (.aload_n 2, 1) := by decide +kernel
theorem dX6_takeWordLine_1 : decode cX6_takeWordLine 1 = .ok (.getfield 102, 3) := by decide +kernel
theorem dX6_takeWordLine_4 : decode cX6_takeWordLine 4 = .ok (.getfield 106, 3) := by decide +kernel
theorem dX6_takeWordLine_7 : decode cX6_takeWordLine 7 = .ok (.istore_n 3, 1) := by decide +kernel
theorem dX6_takeWordLine_8 : decode cX6_takeWordLine 8 = .ok (.iload_n 3, 1) := by decide +kernel
theorem dX6_takeWordLine_9 : decode cX6_takeWordLine 9 = .ok (.bipush 10, 2) := by decide +kernel
theorem dX6_takeWordLine_11 : decode cX6_takeWordLine 11 = .ok (.if_icmp .lt 13, 3) := by decide +kernel
theorem dX6_takeWordLine_14 : decode cX6_takeWordLine 14 = .ok (.aload_n 0, 1) := by decide +kernel
theorem dX6_takeWordLine_15 : decode cX6_takeWordLine 15 = .ok (.iconst 5, 1) := by decide +kernel
theorem dX6_takeWordLine_16 : decode cX6_takeWordLine 16 = .ok (.aload_n 1, 1) := by decide +kernel
theorem dX6_takeWordLine_17 : decode cX6_takeWordLine 17 = .ok (.getfield 84, 3) := by decide +kernel
theorem dX6_takeWordLine_20 : decode cX6_takeWordLine 20 = .ok (.invokevirtual 42, 3) := by decide +kernel
theorem dX6_takeWordLine_23 : decode cX6_takeWordLine 23 = .ok (.ireturn, 1) := by decide +kernel
theorem dX6_takeWordLine_24 : decode cX6_takeWordLine 24 = .ok (.aload_n 0, 1) := by decide +kernel
theorem dX6_takeWordLine_25 : decode cX6_takeWordLine 25 = .ok (.aload_n 1, 1) := by decide +kernel
theorem dX6_takeWordLine_26 : decode cX6_takeWordLine 26 = .ok (.iconst 1, 1) := by decide +kernel
theorem dX6_takeWordLine_27 : decode cX6_takeWordLine 27 = .ok (.bipush 8, 2) := by decide +kernel
theorem dX6_takeWordLine_29 : decode cX6_takeWordLine 29 = .ok (.invokevirtual 91, 3) := by decide +kernel
theorem dX6_takeWordLine_32 : decode cX6_takeWordLine 32 = .ok (.ifCond .ne 5, 3) := by decide +kernel
theorem dX6_takeWordLine_35 : decode cX6_takeWordLine 35 = .ok (.iconst 0, 1) := by decide +kernel
theorem dX6_takeWordLine_36 : decode cX6_takeWordLine 36 = .ok (.ireturn, 1) := by decide +kernel
theorem dX6_takeWordLine_37 : decode cX6_takeWordLine 37 = .ok (.aload_n 2, 1) := by decide +kernel
theorem dX6_takeWordLine_38 : decode cX6_takeWordLine 38 = .ok (.getfield 102, 3) := by decide +kernel
theorem dX6_takeWordLine_41 : decode cX6_takeWordLine 41 = .ok (.aload_n 1, 1) := by decide +kernel
theorem dX6_takeWordLine_42 : decode cX6_takeWordLine 42 = .ok (.invokevirtual 109, 3) := by decide +kernel
theorem dX6_takeWordLine_45 : decode cX6_takeWordLine 45 = .ok (.aload_n 0, 1) := by decide +kernel
theorem dX6_takeWordLine_46 : decode cX6_takeWordLine 46 = .ok (.aload_n 1, 1) := by decide +kernel
theorem dX6_takeWordLine_47 : decode cX6_takeWordLine 47 = .ok (.iconst 1, 1) := by decide +kernel
theorem dX6_takeWordLine_48 : decode cX6_takeWordLine 48 = .ok (.bipush 99, 2) := by decide +kernel
theorem dX6_takeWordLine_50 : decode cX6_takeWordLine 50 = .ok (.invokevirtual 113, 3) := by decide +kernel
theorem dX6_takeWordLine_53 : decode cX6_takeWordLine 53 = .ok (.ifCond .ne 5, 3) := by decide +kernel
theorem dX6_takeWordLine_56 : decode cX6_takeWordLine 56 = .ok (.iconst 0, 1) := by decide +kernel
theorem dX6_takeWordLine_57 : decode cX6_takeWordLine 57 = .ok (.ireturn, 1) := by decide +kernel
theorem dX6_takeWordLine_58 : decode cX6_takeWordLine 58 = .ok (.aload_n 2, 1) := by decide +kernel
theorem dX6_takeWordLine_59 : decode cX6_takeWordLine 59 = .ok (.getfield 116, 3) := by decide +kernel
theorem dX6_takeWordLine_62 : decode cX6_takeWordLine 62 = .ok (.iload_n 3, 1) := by decide +kernel
theorem dX6_takeWordLine_63 : decode cX6_takeWordLine 63 = .ok (.aload_n 1, 1) := by decide +kernel
theorem dX6_takeWordLine_64 : decode cX6_takeWordLine 64 = .ok (.getfield 120, 3) := by decide +kernel
theorem dX6_takeWordLine_67 : decode cX6_takeWordLine 67 = .ok (.iastore, 1) := by decide +kernel
theorem dX6_takeWordLine_68 : decode cX6_takeWordLine 68 = .ok (.aload_n 0, 1) := by decide +kernel
theorem dX6_takeWordLine_69 : decode cX6_takeWordLine 69 = .ok (.aload_n 1, 1) := by decide +kernel
theorem dX6_takeWordLine_70 : decode cX6_takeWordLine 70 = .ok (.invokevirtual 99, 3) := by decide +kernel
theorem dX6_takeWordLine_73 : decode cX6_takeWordLine 73 = .ok (.ireturn, 1) := by decide +kernel
theorem dX6_takeShortLine_0 : decode cX6_takeShortLine 0 = .ok (.aload_n 2, 1) := by decide +kernel
theorem dX6_takeShortLine_1 : decode cX6_takeShortLine 1 = .ok (.getfield 123, 3) := by decide +kernel
theorem dX6_takeShortLine_4 : decode cX6_takeShortLine 4 = .ok (.getfield 106, 3) := by decide +kernel
theorem dX6_takeShortLine_7 : decode cX6_takeShortLine 7 = .ok (.bipush 6, 2) := by decide +kernel
theorem dX6_takeShortLine_9 : decode cX6_takeShortLine 9 = .ok (.if_icmp .lt 13, 3) := by decide +kernel
theorem dX6_takeShortLine_12 : decode cX6_takeShortLine 12 = .ok (.aload_n 0, 1) := by decide +kernel
theorem dX6_takeShortLine_13 : decode cX6_takeShortLine 13 = .ok (.iconst 5, 1) := by decide +kernel
theorem dX6_takeShortLine_14 : decode cX6_takeShortLine 14 = .ok (.aload_n 1, 1) := by decide +kernel
theorem dX6_takeShortLine_15 : decode cX6_takeShortLine 15 = .ok (.getfield 84, 3) := by decide +kernel
theorem dX6_takeShortLine_18 : decode cX6_takeShortLine 18 = .ok (.invokevirtual 42, 3) := by decide +kernel
theorem dX6_takeShortLine_21 : decode cX6_takeShortLine 21 = .ok (.ireturn, 1) := by decide +kernel
theorem dX6_takeShortLine_22 : decode cX6_takeShortLine 22 = .ok (.aload_n 0, 1) := by decide +kernel
theorem dX6_takeShortLine_23 : decode cX6_takeShortLine 23 = .ok (.aload_n 1, 1) := by decide +kernel
theorem dX6_takeShortLine_24 : decode cX6_takeShortLine 24 = .ok (.iconst 1, 1) := by decide +kernel
theorem dX6_takeShortLine_25 : decode cX6_takeShortLine 25 = .ok (.iconst 3, 1) := by decide +kernel
theorem dX6_takeShortLine_26 : decode cX6_takeShortLine 26 = .ok (.invokevirtual 91, 3) := by decide +kernel
theorem dX6_takeShortLine_29 : decode cX6_takeShortLine 29 = .ok (.ifCond .ne 5, 3) := by decide +kernel
theorem dX6_takeShortLine_32 : decode cX6_takeShortLine 32 = .ok (.iconst 0, 1) := by decide +kernel
theorem dX6_takeShortLine_33 : decode cX6_takeShortLine 33 = .ok (.ireturn, 1) := by decide +kernel
theorem dX6_takeShortLine_34 : decode cX6_takeShortLine 34 = .ok (.aload_n 2, 1) := by decide +kernel
theorem dX6_takeShortLine_35 : decode cX6_takeShortLine 35 = .ok (.getfield 123, 3) := by decide +kernel
theorem dX6_takeShortLine_38 : decode cX6_takeShortLine 38 = .ok (.aload_n 1, 1) := by decide +kernel
theorem dX6_takeShortLine_39 : decode cX6_takeShortLine 39 = .ok (.invokevirtual 109, 3) := by decide +kernel
theorem dX6_takeShortLine_42 : decode cX6_takeShortLine 42 = .ok (.aload_n 0, 1) := by decide +kernel
theorem dX6_takeShortLine_43 : decode cX6_takeShortLine 43 = .ok (.aload_n 1, 1) := by decide +kernel
theorem dX6_takeShortLine_44 : decode cX6_takeShortLine 44 = .ok (.iconst 2, 1) := by decide +kernel
theorem dX6_takeShortLine_45 : decode cX6_takeShortLine 45 = .ok (.bipush 8, 2) := by decide +kernel
theorem dX6_takeShortLine_47 : decode cX6_takeShortLine 47 = .ok (.invokevirtual 91, 3) := by decide +kernel
theorem dX6_takeShortLine_50 : decode cX6_takeShortLine 50 = .ok (.ifCond .ne 5, 3) := by decide +kernel
theorem dX6_takeShortLine_53 : decode cX6_takeShortLine 53 = .ok (.iconst 0, 1) := by decide +kernel
theorem dX6_takeShortLine_54 : decode cX6_takeShortLine 54 = .ok (.ireturn, 1) := by decide +kernel
theorem dX6_takeShortLine_55 : decode cX6_takeShortLine 55 = .ok (.aload_n 2, 1) := by decide +kernel
theorem dX6_takeShortLine_56 : decode cX6_takeShortLine 56 = .ok (.getfield 126, 3) := by decide +kernel
theorem dX6_takeShortLine_59 : decode cX6_takeShortLine 59 = .ok (.aload_n 1, 1) := by decide +kernel
theorem dX6_takeShortLine_60 : decode cX6_takeShortLine 60 = .ok (.invokevirtual 109, 3) := by decide +kernel
theorem dX6_takeShortLine_63 : decode cX6_takeShortLine 63 = .ok (.aload_n 0, 1) := by decide +kernel
theorem dX6_takeShortLine_64 : decode cX6_takeShortLine 64 = .ok (.aload_n 1, 1) := by decide +kernel
theorem dX6_takeShortLine_65 : decode cX6_takeShortLine 65 = .ok (.invokevirtual 99, 3) := by decide +kernel
theorem dX6_takeShortLine_68 : decode cX6_takeShortLine 68 = .ok (.ireturn, 1) := by decide +kernel
theorem dX6_takeSlipLine_0 : decode cX6_takeSlipLine 0 = .ok (.aload_n 2, 1) := by decide +kernel
theorem dX6_takeSlipLine_1 : decode cX6_takeSlipLine 1 = .ok (.getfield 129, 3) := by decide +kernel
theorem dX6_takeSlipLine_4 : decode cX6_takeSlipLine 4 = .ok (.ifCond .eq 13, 3) := by decide +kernel
theorem dX6_takeSlipLine_7 : decode cX6_takeSlipLine 7 = .ok (.aload_n 0, 1) := by decide +kernel
theorem dX6_takeSlipLine_8 : decode cX6_takeSlipLine 8 = .ok (.iconst 4, 1) := by decide +kernel
theorem dX6_takeSlipLine_9 : decode cX6_takeSlipLine 9 = .ok (.aload_n 1, 1) := by decide +kernel
theorem dX6_takeSlipLine_10 : decode cX6_takeSlipLine 10 = .ok (.getfield 84, 3) := by decide +kernel
theorem dX6_takeSlipLine_13 : decode cX6_takeSlipLine 13 = .ok (.invokevirtual 42, 3) := by decide +kernel
theorem dX6_takeSlipLine_16 : decode cX6_takeSlipLine 16 = .ok (.ireturn, 1) := by decide +kernel
theorem dX6_takeSlipLine_17 : decode cX6_takeSlipLine 17 = .ok (.aload_n 2, 1) := by decide +kernel
theorem dX6_takeSlipLine_18 : decode cX6_takeSlipLine 18 = .ok (.iconst 1, 1) := by decide +kernel
theorem dX6_takeSlipLine_19 : decode cX6_takeSlipLine 19 = .ok (.putfield 129, 3) := by decide +kernel
theorem dX6_takeSlipLine_22 : decode cX6_takeSlipLine 22 = .ok (.aload_n 0, 1) := by decide +kernel
theorem dX6_takeSlipLine_23 : decode cX6_takeSlipLine 23 = .ok (.aload_n 1, 1) := by decide +kernel
theorem dX6_takeSlipLine_24 : decode cX6_takeSlipLine 24 = .ok (.iconst 0, 1) := by decide +kernel
theorem dX6_takeSlipLine_25 : decode cX6_takeSlipLine 25 = .ok (.bipush 9, 2) := by decide +kernel
theorem dX6_takeSlipLine_27 : decode cX6_takeSlipLine 27 = .ok (.invokevirtual 113, 3) := by decide +kernel
theorem dX6_takeSlipLine_30 : decode cX6_takeSlipLine 30 = .ok (.ifCond .ne 5, 3) := by decide +kernel
theorem dX6_takeSlipLine_33 : decode cX6_takeSlipLine 33 = .ok (.iconst 0, 1) := by decide +kernel
theorem dX6_takeSlipLine_34 : decode cX6_takeSlipLine 34 = .ok (.ireturn, 1) := by decide +kernel
theorem dX6_takeSlipLine_35 : decode cX6_takeSlipLine 35 = .ok (.aload_n 2, 1) := by decide +kernel
theorem dX6_takeSlipLine_36 : decode cX6_takeSlipLine 36 = .ok (.aload_n 1, 1) := by decide +kernel
theorem dX6_takeSlipLine_37 : decode cX6_takeSlipLine 37 = .ok (.getfield 120, 3) := by decide +kernel
theorem dX6_takeSlipLine_40 : decode cX6_takeSlipLine 40 = .ok (.putfield 132, 3) := by decide +kernel
theorem dX6_takeSlipLine_43 : decode cX6_takeSlipLine 43 = .ok (.aload_n 0, 1) := by decide +kernel
theorem dX6_takeSlipLine_44 : decode cX6_takeSlipLine 44 = .ok (.aload_n 1, 1) := by decide +kernel
theorem dX6_takeSlipLine_45 : decode cX6_takeSlipLine 45 = .ok (.iconst 0, 1) := by decide +kernel
theorem dX6_takeSlipLine_46 : decode cX6_takeSlipLine 46 = .ok (.bipush 9, 2) := by decide +kernel
theorem dX6_takeSlipLine_48 : decode cX6_takeSlipLine 48 = .ok (.invokevirtual 113, 3) := by decide +kernel
theorem dX6_takeSlipLine_51 : decode cX6_takeSlipLine 51 = .ok (.ifCond .ne 5, 3) := by decide +kernel
theorem dX6_takeSlipLine_54 : decode cX6_takeSlipLine 54 = .ok (.iconst 0, 1) := by decide +kernel
theorem dX6_takeSlipLine_55 : decode cX6_takeSlipLine 55 = .ok (.ireturn, 1) := by decide +kernel
theorem dX6_takeSlipLine_56 : decode cX6_takeSlipLine 56 = .ok (.aload_n 2, 1) := by decide +kernel
theorem dX6_takeSlipLine_57 : decode cX6_takeSlipLine 57 = .ok (.aload_n 1, 1) := by decide +kernel
theorem dX6_takeSlipLine_58 : decode cX6_takeSlipLine 58 = .ok (.getfield 120, 3) := by decide +kernel
theorem dX6_takeSlipLine_61 : decode cX6_takeSlipLine 61 = .ok (.putfield 135, 3) := by decide +kernel
theorem dX6_takeSlipLine_64 : decode cX6_takeSlipLine 64 = .ok (.aload_n 0, 1) := by decide +kernel
theorem dX6_takeSlipLine_65 : decode cX6_takeSlipLine 65 = .ok (.aload_n 1, 1) := by decide +kernel
theorem dX6_takeSlipLine_66 : decode cX6_takeSlipLine 66 = .ok (.invokevirtual 99, 3) := by decide +kernel
theorem dX6_takeSlipLine_69 : decode cX6_takeSlipLine 69 = .ok (.ireturn, 1) := by decide +kernel
theorem dX6_takeTimeLine_0 : decode cX6_takeTimeLine 0 = .ok (.aload_n 2, 1) := by decide +kernel
theorem dX6_takeTimeLine_1 : decode cX6_takeTimeLine 1 = .ok (.getfield 138, 3) := by decide +kernel
theorem dX6_takeTimeLine_4 : decode cX6_takeTimeLine 4 = .ok (.ifCond .eq 13, 3) := by decide +kernel
theorem dX6_takeTimeLine_7 : decode cX6_takeTimeLine 7 = .ok (.aload_n 0, 1) := by decide +kernel
theorem dX6_takeTimeLine_8 : decode cX6_takeTimeLine 8 = .ok (.iconst 4, 1) := by decide +kernel
theorem dX6_takeTimeLine_9 : decode cX6_takeTimeLine 9 = .ok (.aload_n 1, 1) := by decide +kernel
theorem dX6_takeTimeLine_10 : decode cX6_takeTimeLine 10 = .ok (.getfield 84, 3) := by decide +kernel
theorem dX6_takeTimeLine_13 : decode cX6_takeTimeLine 13 = .ok (.invokevirtual 42, 3) := by decide +kernel
theorem dX6_takeTimeLine_16 : decode cX6_takeTimeLine 16 = .ok (.ireturn, 1) := by decide +kernel
theorem dX6_takeTimeLine_17 : decode cX6_takeTimeLine 17 = .ok (.aload_n 2, 1) := by decide +kernel
theorem dX6_takeTimeLine_18 : decode cX6_takeTimeLine 18 = .ok (.iconst 1, 1) := by decide +kernel
theorem dX6_takeTimeLine_19 : decode cX6_takeTimeLine 19 = .ok (.putfield 138, 3) := by decide +kernel
theorem dX6_takeTimeLine_22 : decode cX6_takeTimeLine 22 = .ok (.aload_n 0, 1) := by decide +kernel
theorem dX6_takeTimeLine_23 : decode cX6_takeTimeLine 23 = .ok (.aload_n 1, 1) := by decide +kernel
theorem dX6_takeTimeLine_24 : decode cX6_takeTimeLine 24 = .ok (.iconst 1, 1) := by decide +kernel
theorem dX6_takeTimeLine_25 : decode cX6_takeTimeLine 25 = .ok (.bipush 99, 2) := by decide +kernel
theorem dX6_takeTimeLine_27 : decode cX6_takeTimeLine 27 = .ok (.invokevirtual 113, 3) := by decide +kernel
theorem dX6_takeTimeLine_30 : decode cX6_takeTimeLine 30 = .ok (.ifCond .ne 5, 3) := by decide +kernel
theorem dX6_takeTimeLine_33 : decode cX6_takeTimeLine 33 = .ok (.iconst 0, 1) := by decide +kernel
theorem dX6_takeTimeLine_34 : decode cX6_takeTimeLine 34 = .ok (.ireturn, 1) := by decide +kernel
theorem dX6_takeTimeLine_35 : decode cX6_takeTimeLine 35 = .ok (.aload_n 2, 1) := by decide +kernel
theorem dX6_takeTimeLine_36 : decode cX6_takeTimeLine 36 = .ok (.aload_n 1, 1) := by decide +kernel
theorem dX6_takeTimeLine_37 : decode cX6_takeTimeLine 37 = .ok (.getfield 120, 3) := by decide +kernel
theorem dX6_takeTimeLine_40 : decode cX6_takeTimeLine 40 = .ok (.putfield 141, 3) := by decide +kernel
theorem dX6_takeTimeLine_43 : decode cX6_takeTimeLine 43 = .ok (.aload_n 0, 1) := by decide +kernel
theorem dX6_takeTimeLine_44 : decode cX6_takeTimeLine 44 = .ok (.aload_n 1, 1) := by decide +kernel
theorem dX6_takeTimeLine_45 : decode cX6_takeTimeLine 45 = .ok (.iconst 1, 1) := by decide +kernel
theorem dX6_takeTimeLine_46 : decode cX6_takeTimeLine 46 = .ok (.bipush 99, 2) := by decide +kernel
theorem dX6_takeTimeLine_48 : decode cX6_takeTimeLine 48 = .ok (.invokevirtual 113, 3) := by decide +kernel
theorem dX6_takeTimeLine_51 : decode cX6_takeTimeLine 51 = .ok (.ifCond .ne 5, 3) := by decide +kernel
theorem dX6_takeTimeLine_54 : decode cX6_takeTimeLine 54 = .ok (.iconst 0, 1) := by decide +kernel
theorem dX6_takeTimeLine_55 : decode cX6_takeTimeLine 55 = .ok (.ireturn, 1) := by decide +kernel
theorem dX6_takeTimeLine_56 : decode cX6_takeTimeLine 56 = .ok (.aload_n 2, 1) := by decide +kernel
theorem dX6_takeTimeLine_57 : decode cX6_takeTimeLine 57 = .ok (.aload_n 1, 1) := by decide +kernel
theorem dX6_takeTimeLine_58 : decode cX6_takeTimeLine 58 = .ok (.getfield 120, 3) := by decide +kernel
theorem dX6_takeTimeLine_61 : decode cX6_takeTimeLine 61 = .ok (.putfield 144, 3) := by decide +kernel
theorem dX6_takeTimeLine_64 : decode cX6_takeTimeLine 64 = .ok (.aload_n 0, 1) := by decide +kernel
theorem dX6_takeTimeLine_65 : decode cX6_takeTimeLine 65 = .ok (.aload_n 1, 1) := by decide +kernel
theorem dX6_takeTimeLine_66 : decode cX6_takeTimeLine 66 = .ok (.iconst 1, 1) := by decide +kernel
theorem dX6_takeTimeLine_67 : decode cX6_takeTimeLine 67 = .ok (.bipush 99, 2) := by decide +kernel
theorem dX6_takeTimeLine_69 : decode cX6_takeTimeLine 69 = .ok (.invokevirtual 113, 3) := by decide +kernel
theorem dX6_takeTimeLine_72 : decode cX6_takeTimeLine 72 = .ok (.ifCond .ne 5, 3) := by decide +kernel
theorem dX6_takeTimeLine_75 : decode cX6_takeTimeLine 75 = .ok (.iconst 0, 1) := by decide +kernel
theorem dX6_takeTimeLine_76 : decode cX6_takeTimeLine 76 = .ok (.ireturn, 1) := by decide +kernel
theorem dX6_takeTimeLine_77 : decode cX6_takeTimeLine 77 = .ok (.aload_n 2, 1) := by decide +kernel
theorem dX6_takeTimeLine_78 : decode cX6_takeTimeLine 78 = .ok (.aload_n 1, 1) := by decide +kernel
theorem dX6_takeTimeLine_79 : decode cX6_takeTimeLine 79 = .ok (.getfield 120, 3) := by decide +kernel
theorem dX6_takeTimeLine_82 : decode cX6_takeTimeLine 82 = .ok (.putfield 147, 3) := by decide +kernel
theorem dX6_takeTimeLine_85 : decode cX6_takeTimeLine 85 = .ok (.aload_n 0, 1) := by decide +kernel
theorem dX6_takeTimeLine_86 : decode cX6_takeTimeLine 86 = .ok (.aload_n 1, 1) := by decide +kernel
theorem dX6_takeTimeLine_87 : decode cX6_takeTimeLine 87 = .ok (.invokevirtual 99, 3) := by decide +kernel
theorem dX6_takeTimeLine_90 : decode cX6_takeTimeLine 90 = .ok (.ireturn, 1) := by decide +kernel
theorem dX6_takeGuardLine_0 : decode cX6_takeGuardLine 0 = .ok (.aload_n 2, 1) := by decide +kernel
theorem dX6_takeGuardLine_1 : decode cX6_takeGuardLine 1 = .ok (.getfield 150, 3) := by decide +kernel
theorem dX6_takeGuardLine_4 : decode cX6_takeGuardLine 4 = .ok (.bipush 6, 2) := by decide +kernel
theorem dX6_takeGuardLine_6 : decode cX6_takeGuardLine 6 = .ok (.if_icmp .lt 13, 3) := by decide +kernel
theorem dX6_takeGuardLine_9 : decode cX6_takeGuardLine 9 = .ok (.aload_n 0, 1) := by decide +kernel
theorem dX6_takeGuardLine_10 : decode cX6_takeGuardLine 10 = .ok (.iconst 5, 1) := by decide +kernel
theorem dX6_takeGuardLine_11 : decode cX6_takeGuardLine 11 = .ok (.aload_n 1, 1) := by decide +kernel
theorem dX6_takeGuardLine_12 : decode cX6_takeGuardLine 12 = .ok (.getfield 84, 3) := by decide +kernel
theorem dX6_takeGuardLine_15 : decode cX6_takeGuardLine 15 = .ok (.invokevirtual 42, 3) := by decide +kernel
theorem dX6_takeGuardLine_18 : decode cX6_takeGuardLine 18 = .ok (.ireturn, 1) := by decide +kernel
theorem dX6_takeGuardLine_19 : decode cX6_takeGuardLine 19 = .ok (.aload_n 2, 1) := by decide +kernel
theorem dX6_takeGuardLine_20 : decode cX6_takeGuardLine 20 = .ok (.dup, 1) := by decide +kernel
theorem dX6_takeGuardLine_21 : decode cX6_takeGuardLine 21 = .ok (.getfield 150, 3) := by decide +kernel
theorem dX6_takeGuardLine_24 : decode cX6_takeGuardLine 24 = .ok (.iconst 1, 1) := by decide +kernel
theorem dX6_takeGuardLine_25 : decode cX6_takeGuardLine 25 = .ok (.iadd, 1) := by decide +kernel
theorem dX6_takeGuardLine_26 : decode cX6_takeGuardLine 26 = .ok (.putfield 150, 3) := by decide +kernel
theorem dX6_takeGuardLine_29 : decode cX6_takeGuardLine 29 = .ok (.aload_n 0, 1) := by decide +kernel
theorem dX6_takeGuardLine_30 : decode cX6_takeGuardLine 30 = .ok (.aload_n 1, 1) := by decide +kernel
theorem dX6_takeGuardLine_31 : decode cX6_takeGuardLine 31 = .ok (.iconst 0, 1) := by decide +kernel
theorem dX6_takeGuardLine_32 : decode cX6_takeGuardLine 32 = .ok (.sipush 599, 3) := by decide +kernel
theorem dX6_takeGuardLine_35 : decode cX6_takeGuardLine 35 = .ok (.invokevirtual 113, 3) := by decide +kernel
theorem dX6_takeGuardLine_38 : decode cX6_takeGuardLine 38 = .ok (.ifCond .ne 5, 3) := by decide +kernel
theorem dX6_takeGuardLine_41 : decode cX6_takeGuardLine 41 = .ok (.iconst 0, 1) := by decide +kernel
theorem dX6_takeGuardLine_42 : decode cX6_takeGuardLine 42 = .ok (.ireturn, 1) := by decide +kernel
theorem dX6_takeGuardLine_43 : decode cX6_takeGuardLine 43 = .ok (.aload_n 1, 1) := by decide +kernel
theorem dX6_takeGuardLine_44 : decode cX6_takeGuardLine 44 = .ok (.getfield 120, 3) := by decide +kernel
theorem dX6_takeGuardLine_47 : decode cX6_takeGuardLine 47 = .ok (.istore_n 3, 1) := by decide +kernel
theorem dX6_takeGuardLine_48 : decode cX6_takeGuardLine 48 = .ok (.aload_n 0, 1) := by decide +kernel
theorem dX6_takeGuardLine_49 : decode cX6_takeGuardLine 49 = .ok (.aload_n 1, 1) := by decide +kernel
theorem dX6_takeGuardLine_50 : decode cX6_takeGuardLine 50 = .ok (.iconst 1, 1) := by decide +kernel
theorem dX6_takeGuardLine_51 : decode cX6_takeGuardLine 51 = .ok (.bipush 60, 2) := by decide +kernel
theorem dX6_takeGuardLine_53 : decode cX6_takeGuardLine 53 = .ok (.invokevirtual 113, 3) := by decide +kernel
theorem dX6_takeGuardLine_56 : decode cX6_takeGuardLine 56 = .ok (.ifCond .ne 5, 3) := by decide +kernel
theorem dX6_takeGuardLine_59 : decode cX6_takeGuardLine 59 = .ok (.iconst 0, 1) := by decide +kernel
theorem dX6_takeGuardLine_60 : decode cX6_takeGuardLine 60 = .ok (.ireturn, 1) := by decide +kernel
theorem dX6_takeGuardLine_61 : decode cX6_takeGuardLine 61 = .ok (.aload_n 2, 1) := by decide +kernel
theorem dX6_takeGuardLine_62 : decode cX6_takeGuardLine 62 = .ok (.getfield 153, 3) := by decide +kernel
theorem dX6_takeGuardLine_65 : decode cX6_takeGuardLine 65 = .ok (.iload_n 3, 1) := by decide +kernel
theorem dX6_takeGuardLine_66 : decode cX6_takeGuardLine 66 = .ok (.aload_n 1, 1) := by decide +kernel
theorem dX6_takeGuardLine_67 : decode cX6_takeGuardLine 67 = .ok (.getfield 120, 3) := by decide +kernel
theorem dX6_takeGuardLine_70 : decode cX6_takeGuardLine 70 = .ok (.invokevirtual 157, 3) := by decide +kernel
theorem dX6_takeGuardLine_73 : decode cX6_takeGuardLine 73 = .ok (.aload_n 0, 1) := by decide +kernel
theorem dX6_takeGuardLine_74 : decode cX6_takeGuardLine 74 = .ok (.aload_n 1, 1) := by decide +kernel
theorem dX6_takeGuardLine_75 : decode cX6_takeGuardLine 75 = .ok (.invokevirtual 99, 3) := by decide +kernel
theorem dX6_takeGuardLine_78 : decode cX6_takeGuardLine 78 = .ok (.ireturn, 1) := by decide +kernel
theorem dX6_takeName_0 : decode cX6_takeName 0 = .ok (.aload_n 1, 1) := by decide +kernel
theorem dX6_takeName_1 : decode cX6_takeName 1 = .ok (.invokevirtual 23, 3) := by decide +kernel
theorem dX6_takeName_4 : decode cX6_takeName 4 = .ok (.aload_n 0, 1) := by decide +kernel
theorem dX6_takeName_5 : decode cX6_takeName 5 = .ok (.aload_n 1, 1) := by decide +kernel
theorem dX6_takeName_6 : decode cX6_takeName 6 = .ok (.iconst 2, 1) := by decide +kernel
theorem dX6_takeName_7 : decode cX6_takeName 7 = .ok (.invokevirtual 46, 3) := by decide +kernel
theorem dX6_takeName_10 : decode cX6_takeName 10 = .ok (.ifCond .ne 5, 3) := by decide +kernel
theorem dX6_takeName_13 : decode cX6_takeName 13 = .ok (.iconst 0, 1) := by decide +kernel
theorem dX6_takeName_14 : decode cX6_takeName 14 = .ok (.ireturn, 1) := by decide +kernel
theorem dX6_takeName_15 : decode cX6_takeName 15 = .ok (.aload_n 1, 1) := by decide +kernel
theorem dX6_takeName_16 : decode cX6_takeName 16 = .ok (.getfield 18, 3) := by decide +kernel
theorem dX6_takeName_19 : decode cX6_takeName 19 = .ok (.aload_n 1, 1) := by decide +kernel
theorem dX6_takeName_20 : decode cX6_takeName 20 = .ok (.getfield 84, 3) := by decide +kernel
theorem dX6_takeName_23 : decode cX6_takeName 23 = .ok (.isub, 1) := by decide +kernel
theorem dX6_takeName_24 : decode cX6_takeName 24 = .ok (.istore 4, 2) := by decide +kernel
theorem dX6_takeName_26 : decode cX6_takeName 26 = .ok (.iload 4, 2) := by decide +kernel
theorem dX6_takeName_28 : decode cX6_takeName 28 = .ok (.iload_n 2, 1) := by decide +kernel
theorem dX6_takeName_29 : decode cX6_takeName 29 = .ok (.if_icmp .lt 9, 3) := by decide +kernel
theorem dX6_takeName_32 : decode cX6_takeName 32 = .ok (.iload 4, 2) := by decide +kernel
theorem dX6_takeName_34 : decode cX6_takeName 34 = .ok (.iload_n 3, 1) := by decide +kernel
theorem dX6_takeName_35 : decode cX6_takeName 35 = .ok (.if_icmp .le 15, 3) := by decide +kernel
theorem dX6_takeName_38 : decode cX6_takeName 38 = .ok (.aload_n 0, 1) := by decide +kernel
theorem dX6_takeName_39 : decode cX6_takeName 39 = .ok (.iconst 3, 1) := by decide +kernel
theorem dX6_takeName_40 : decode cX6_takeName 40 = .ok (.aload_n 1, 1) := by decide +kernel
theorem dX6_takeName_41 : decode cX6_takeName 41 = .ok (.getfield 84, 3) := by decide +kernel
theorem dX6_takeName_44 : decode cX6_takeName 44 = .ok (.invokevirtual 42, 3) := by decide +kernel
theorem dX6_takeName_47 : decode cX6_takeName 47 = .ok (.ifCond .eq 7, 3) := by decide +kernel
theorem dX6_takeName_50 : decode cX6_takeName 50 = .ok (.iconst 1, 1) := by decide +kernel
theorem dX6_takeName_51 : decode cX6_takeName 51 = .ok (.goto 4, 3) := by decide +kernel
theorem dX6_takeName_54 : decode cX6_takeName 54 = .ok (.iconst 0, 1) := by decide +kernel
theorem dX6_takeName_55 : decode cX6_takeName 55 = .ok (.ireturn, 1) := by decide +kernel
theorem dX6_takeNumber_0 : decode cX6_takeNumber 0 = .ok (.aload_n 1, 1) := by decide +kernel
theorem dX6_takeNumber_1 : decode cX6_takeNumber 1 = .ok (.invokevirtual 23, 3) := by decide +kernel
theorem dX6_takeNumber_4 : decode cX6_takeNumber 4 = .ok (.aload_n 0, 1) := by decide +kernel
theorem dX6_takeNumber_5 : decode cX6_takeNumber 5 = .ok (.aload_n 1, 1) := by decide +kernel
theorem dX6_takeNumber_6 : decode cX6_takeNumber 6 = .ok (.iconst 3, 1) := by decide +kernel
theorem dX6_takeNumber_7 : decode cX6_takeNumber 7 = .ok (.invokevirtual 46, 3) := by decide +kernel
theorem dX6_takeNumber_10 : decode cX6_takeNumber 10 = .ok (.ifCond .ne 5, 3) := by decide +kernel
theorem dX6_takeNumber_13 : decode cX6_takeNumber 13 = .ok (.iconst 0, 1) := by decide +kernel
theorem dX6_takeNumber_14 : decode cX6_takeNumber 14 = .ok (.ireturn, 1) := by decide +kernel
theorem dX6_takeNumber_15 : decode cX6_takeNumber 15 = .ok (.aload_n 1, 1) := by decide +kernel
theorem dX6_takeNumber_16 : decode cX6_takeNumber 16 = .ok (.getfield 120, 3) := by decide +kernel
theorem dX6_takeNumber_19 : decode cX6_takeNumber 19 = .ok (.iload_n 2, 1) := by decide +kernel
theorem dX6_takeNumber_20 : decode cX6_takeNumber 20 = .ok (.if_icmp .lt 11, 3) := by decide +kernel
theorem dX6_takeNumber_23 : decode cX6_takeNumber 23 = .ok (.aload_n 1, 1) := by decide +kernel
theorem dX6_takeNumber_24 : decode cX6_takeNumber 24 = .ok (.getfield 120, 3) := by decide +kernel
theorem dX6_takeNumber_27 : decode cX6_takeNumber 27 = .ok (.iload_n 3, 1) := by decide +kernel
theorem dX6_takeNumber_28 : decode cX6_takeNumber 28 = .ok (.if_icmp .le 15, 3) := by decide +kernel
theorem dX6_takeNumber_31 : decode cX6_takeNumber 31 = .ok (.aload_n 0, 1) := by decide +kernel
theorem dX6_takeNumber_32 : decode cX6_takeNumber 32 = .ok (.iconst 3, 1) := by decide +kernel
theorem dX6_takeNumber_33 : decode cX6_takeNumber 33 = .ok (.aload_n 1, 1) := by decide +kernel
theorem dX6_takeNumber_34 : decode cX6_takeNumber 34 = .ok (.getfield 84, 3) := by decide +kernel
theorem dX6_takeNumber_37 : decode cX6_takeNumber 37 = .ok (.invokevirtual 42, 3) := by decide +kernel
theorem dX6_takeNumber_40 : decode cX6_takeNumber 40 = .ok (.ifCond .eq 7, 3) := by decide +kernel
theorem dX6_takeNumber_43 : decode cX6_takeNumber 43 = .ok (.iconst 1, 1) := by decide +kernel
theorem dX6_takeNumber_44 : decode cX6_takeNumber 44 = .ok (.goto 4, 3) := by decide +kernel
theorem dX6_takeNumber_47 : decode cX6_takeNumber 47 = .ok (.iconst 0, 1) := by decide +kernel
theorem dX6_takeNumber_48 : decode cX6_takeNumber 48 = .ok (.ireturn, 1) := by decide +kernel
theorem dX6_takeSign_0 : decode cX6_takeSign 0 = .ok (.aload_n 1, 1) := by decide +kernel
theorem dX6_takeSign_1 : decode cX6_takeSign 1 = .ok (.invokevirtual 23, 3) := by decide +kernel
theorem dX6_takeSign_4 : decode cX6_takeSign 4 = .ok (.aload_n 0, 1) := by decide +kernel
theorem dX6_takeSign_5 : decode cX6_takeSign 5 = .ok (.aload_n 1, 1) := by decide +kernel
theorem dX6_takeSign_6 : decode cX6_takeSign 6 = .ok (.iconst 4, 1) := by decide +kernel
theorem dX6_takeSign_7 : decode cX6_takeSign 7 = .ok (.invokevirtual 46, 3) := by decide +kernel
theorem dX6_takeSign_10 : decode cX6_takeSign 10 = .ok (.ireturn, 1) := by decide +kernel
theorem dX6_isToken_0 : decode cX6_isToken 0 = .ok (.aload_n 1, 1) := by decide +kernel
theorem dX6_isToken_1 : decode cX6_isToken 1 = .ok (.getfield 26, 3) := by decide +kernel
theorem dX6_isToken_4 : decode cX6_isToken 4 = .ok (.ifCond .ne 13, 3) := by decide +kernel
theorem dX6_isToken_7 : decode cX6_isToken 7 = .ok (.aload_n 0, 1) := by decide +kernel
theorem dX6_isToken_8 : decode cX6_isToken 8 = .ok (.iconst 1, 1) := by decide +kernel
theorem dX6_isToken_9 : decode cX6_isToken 9 = .ok (.aload_n 1, 1) := by decide +kernel
theorem dX6_isToken_10 : decode cX6_isToken 10 = .ok (.getfield 84, 3) := by decide +kernel
theorem dX6_isToken_13 : decode cX6_isToken 13 = .ok (.invokevirtual 42, 3) := by decide +kernel
theorem dX6_isToken_16 : decode cX6_isToken 16 = .ok (.ireturn, 1) := by decide +kernel
theorem dX6_isToken_17 : decode cX6_isToken 17 = .ok (.aload_n 1, 1) := by decide +kernel
theorem dX6_isToken_18 : decode cX6_isToken 18 = .ok (.getfield 26, 3) := by decide +kernel
theorem dX6_isToken_21 : decode cX6_isToken 21 = .ok (.iload_n 2, 1) := by decide +kernel
theorem dX6_isToken_22 : decode cX6_isToken 22 = .ok (.if_icmp .eq 15, 3) := by decide +kernel
theorem dX6_isToken_25 : decode cX6_isToken 25 = .ok (.aload_n 0, 1) := by decide +kernel
theorem dX6_isToken_26 : decode cX6_isToken 26 = .ok (.iconst 2, 1) := by decide +kernel
theorem dX6_isToken_27 : decode cX6_isToken 27 = .ok (.aload_n 1, 1) := by decide +kernel
theorem dX6_isToken_28 : decode cX6_isToken 28 = .ok (.getfield 84, 3) := by decide +kernel
theorem dX6_isToken_31 : decode cX6_isToken 31 = .ok (.invokevirtual 42, 3) := by decide +kernel
theorem dX6_isToken_34 : decode cX6_isToken 34 = .ok (.ifCond .eq 7, 3) := by decide +kernel
theorem dX6_isToken_37 : decode cX6_isToken 37 = .ok (.iconst 1, 1) := by decide +kernel
theorem dX6_isToken_38 : decode cX6_isToken 38 = .ok (.goto 4, 3) := by decide +kernel
theorem dX6_isToken_41 : decode cX6_isToken 41 = .ok (.iconst 0, 1) := by decide +kernel
theorem dX6_isToken_42 : decode cX6_isToken 42 = .ok (.ireturn, 1) := by decide +kernel
theorem dX6_fail_0 : decode cX6_fail 0 = .ok (.aload_n 0, 1) := by decide +kernel
theorem dX6_fail_1 : decode cX6_fail 1 = .ok (.iload_n 1, 1) := by decide +kernel
theorem dX6_fail_2 : decode cX6_fail 2 = .ok (.putfield 9, 3) := by decide +kernel
theorem dX6_fail_5 : decode cX6_fail 5 = .ok (.aload_n 0, 1) := by decide +kernel
theorem dX6_fail_6 : decode cX6_fail 6 = .ok (.iload_n 2, 1) := by decide +kernel
theorem dX6_fail_7 : decode cX6_fail 7 = .ok (.putfield 15, 3) := by decide +kernel
theorem dX6_fail_10 : decode cX6_fail 10 = .ok (.iconst 0, 1) := by decide +kernel
theorem dX6_fail_11 : decode cX6_fail 11 = .ok (.ireturn, 1) := by decide +kernel
theorem dX7_init_0 : decode cX7_init 0 = .ok (.aload_n 0, 1) := by decide +kernel
theorem dX7_init_1 : decode cX7_init 1 = .ok (.invokespecial 1, 3) := by decide +kernel
theorem dX7_init_4 : decode cX7_init 4 = .ok (.return_, 1) := by decide +kernel
theorem dX7_measure_0 : decode cX7_measure 0 = .ok (.aload_n 0, 1) := by decide +kernel
theorem dX7_measure_1 : decode cX7_measure 1 = .ok (.iconst 0, 1) := by decide +kernel
theorem dX7_measure_2 : decode cX7_measure 2 = .ok (.putfield 7, 3) := by decide +kernel
theorem dX7_measure_5 : decode cX7_measure 5 = .ok (.aload_n 0, 1) := by decide +kernel
theorem dX7_measure_6 : decode cX7_measure 6 = .ok (.iconst 0, 1) := by decide +kernel
theorem dX7_measure_7 : decode cX7_measure 7 = .ok (.putfield 13, 3) := by decide +kernel
theorem dX7_measure_10 : decode cX7_measure 10 = .ok (.aload_n 0, 1) := by decide +kernel
theorem dX7_measure_11 : decode cX7_measure 11 = .ok (.iconst 0, 1) := by decide +kernel
theorem dX7_measure_12 : decode cX7_measure 12 = .ok (.putfield 16, 3) := by decide +kernel
theorem dX7_measure_15 : decode cX7_measure 15 = .ok (.aload_n 0, 1) := by decide +kernel
theorem dX7_measure_16 : decode cX7_measure 16 = .ok (.iconst 0, 1) := by decide +kernel
theorem dX7_measure_17 : decode cX7_measure 17 = .ok (.putfield 19, 3) := by decide +kernel
theorem dX7_measure_20 : decode cX7_measure 20 = .ok (.aload_n 0, 1) := by decide +kernel
theorem dX7_measure_21 : decode cX7_measure 21 = .ok (.iconst 0, 1) := by decide +kernel
theorem dX7_measure_22 : decode cX7_measure 22 = .ok (.putfield 22, 3) := by decide +kernel
theorem dX7_measure_25 : decode cX7_measure 25 = .ok (.aload_n 0, 1) := by decide +kernel
theorem dX7_measure_26 : decode cX7_measure 26 = .ok (.iconst 0, 1) := by decide +kernel
theorem dX7_measure_27 : decode cX7_measure 27 = .ok (.putfield 25, 3) := by decide +kernel
theorem dX7_measure_30 : decode cX7_measure 30 = .ok (.aload_n 0, 1) := by decide +kernel
theorem dX7_measure_31 : decode cX7_measure 31 = .ok (.iconst 0, 1) := by decide +kernel
theorem dX7_measure_32 : decode cX7_measure 32 = .ok (.putfield 28, 3) := by decide +kernel
theorem dX7_measure_35 : decode cX7_measure 35 = .ok (.iconst 0, 1) := by decide +kernel
theorem dX7_measure_36 : decode cX7_measure 36 = .ok (.istore 4, 2) := by decide +kernel
theorem dX7_measure_38 : decode cX7_measure 38 = .ok (.iconst 0, 1) := by decide +kernel
theorem dX7_measure_39 : decode cX7_measure 39 = .ok (.istore 5, 2) := by decide +kernel
theorem dX7_measure_41 : decode cX7_measure 41 = .ok (.iload 5, 2) := by decide +kernel
theorem dX7_measure_43 : decode cX7_measure 43 = .ok (.aload_n 1, 1) := by decide +kernel
theorem dX7_measure_44 : decode cX7_measure 44 = .ok (.getfield 31, 3) := by decide +kernel
theorem dX7_measure_47 : decode cX7_measure 47 = .ok (.if_icmp .ge 49, 3) := by decide +kernel
theorem dX7_measure_50 : decode cX7_measure 50 = .ok (.aload_n 1, 1) := by decide +kernel
theorem dX7_measure_51 : decode cX7_measure 51 = .ok (.getfield 36, 3) := by decide +kernel
theorem dX7_measure_54 : decode cX7_measure 54 = .ok (.iload 5, 2) := by decide +kernel
theorem dX7_measure_56 : decode cX7_measure 56 = .ok (.baload, 1) := by decide +kernel
theorem dX7_measure_57 : decode cX7_measure 57 = .ok (.bipush 32, 2) := by decide +kernel
theorem dX7_measure_59 : decode cX7_measure 59 = .ok (.if_icmp .eq 9, 3) := by decide +kernel
theorem dX7_measure_62 : decode cX7_measure 62 = .ok (.iinc 4 1, 3) := by decide +kernel
theorem dX7_measure_65 : decode cX7_measure 65 = .ok (.goto 25, 3) := by decide +kernel
theorem dX7_measure_68 : decode cX7_measure 68 = .ok (.iload 4, 2) := by decide +kernel
theorem dX7_measure_70 : decode cX7_measure 70 = .ok (.ifCond .le 20, 3) := by decide +kernel
theorem dX7_measure_73 : decode cX7_measure 73 = .ok (.aload_n 0, 1) := by decide +kernel
theorem dX7_measure_74 : decode cX7_measure 74 = .ok (.aload_n 1, 1) := by decide +kernel
theorem dX7_measure_75 : decode cX7_measure 75 = .ok (.iload 5, 2) := by decide +kernel
theorem dX7_measure_77 : decode cX7_measure 77 = .ok (.iload 4, 2) := by decide +kernel
theorem dX7_measure_79 : decode cX7_measure 79 = .ok (.isub, 1) := by decide +kernel
theorem dX7_measure_80 : decode cX7_measure 80 = .ok (.iload 4, 2) := by decide +kernel
theorem dX7_measure_82 : decode cX7_measure 82 = .ok (.aload_n 2, 1) := by decide +kernel
theorem dX7_measure_83 : decode cX7_measure 83 = .ok (.aload_n 3, 1) := by decide +kernel
theorem dX7_measure_84 : decode cX7_measure 84 = .ok (.invokevirtual 40, 3) := by decide +kernel
theorem dX7_measure_87 : decode cX7_measure 87 = .ok (.iconst 0, 1) := by decide +kernel
theorem dX7_measure_88 : decode cX7_measure 88 = .ok (.istore 4, 2) := by decide +kernel
theorem dX7_measure_90 : decode cX7_measure 90 = .ok (.iinc 5 1, 3) := by decide +kernel
theorem dX7_measure_93 : decode cX7_measure 93 = .ok (.goto (-52), 3) := by decide +kernel
theorem dX7_measure_96 : decode cX7_measure 96 = .ok (.iload 4, 2) := by decide +kernel
theorem dX7_measure_98 : decode cX7_measure 98 = .ok (.ifCond .le 19, 3) := by decide +kernel
theorem dX7_measure_101 : decode cX7_measure 101 = .ok (.aload_n 0, 1) := by decide +kernel
theorem dX7_measure_102 : decode cX7_measure 102 = .ok (.aload_n 1, 1) := by decide +kernel
theorem dX7_measure_103 : decode cX7_measure 103 = .ok (.aload_n 1, 1) := by decide +kernel
theorem dX7_measure_104 : decode cX7_measure 104 = .ok (.getfield 31, 3) := by decide +kernel
theorem dX7_measure_107 : decode cX7_measure 107 = .ok (.iload 4, 2) := by decide +kernel
theorem dX7_measure_109 : decode cX7_measure 109 = .ok (.isub, 1) := by decide +kernel
theorem dX7_measure_110 : decode cX7_measure 110 = .ok (.iload 4, 2) := by decide +kernel
theorem dX7_measure_112 : decode cX7_measure 112 = .ok (.aload_n 2, 1) := by decide +kernel
theorem dX7_measure_113 : decode cX7_measure 113 = .ok (.aload_n 3, 1) := by decide +kernel
theorem dX7_measure_114 : decode cX7_measure 114 = .ok (.invokevirtual 40, 3) := by decide +kernel
theorem dX7_measure_117 : decode cX7_measure 117 = .ok (.return_, 1) := by decide +kernel
theorem dX7_addName_0 : decode cX7_addName 0 = .ok (.iconst 0, 1) := by decide +kernel
theorem dX7_addName_1 : decode cX7_addName 1 = .ok (.istore 6, 2) := by decide +kernel
theorem dX7_addName_3 : decode cX7_addName 3 = .ok (.iload_n 2, 1) := by decide +kernel
theorem dX7_addName_4 : decode cX7_addName 4 = .ok (.istore 7, 2) := by decide +kernel
theorem dX7_addName_6 : decode cX7_addName 6 = .ok (.iload 7, 2) := by decide +kernel
theorem dX7_addName_8 : decode cX7_addName 8 = .ok (.iload_n 2, 1) := by decide +kernel
theorem dX7_addName_9 : decode cX7_addName 9 = .ok (.iload_n 3, 1) := by decide +kernel
theorem dX7_addName_10 : decode cX7_addName 10 = .ok (.iadd, 1) := by decide +kernel
theorem dX7_addName_11 : decode cX7_addName 11 = .ok (.if_icmp .ge 26, 3) := by decide +kernel
theorem dX7_addName_14 : decode cX7_addName 14 = .ok (.iload 6, 2) := by decide +kernel
theorem dX7_addName_16 : decode cX7_addName 16 = .ok (.aload 5, 2) := by decide +kernel
theorem dX7_addName_18 : decode cX7_addName 18 = .ok (.aload_n 1, 1) := by decide +kernel
theorem dX7_addName_19 : decode cX7_addName 19 = .ok (.getfield 36, 3) := by decide +kernel
theorem dX7_addName_22 : decode cX7_addName 22 = .ok (.iload 7, 2) := by decide +kernel
theorem dX7_addName_24 : decode cX7_addName 24 = .ok (.baload, 1) := by decide +kernel
theorem dX7_addName_25 : decode cX7_addName 25 = .ok (.invokevirtual 44, 3) := by decide +kernel
theorem dX7_addName_28 : decode cX7_addName 28 = .ok (.iadd, 1) := by decide +kernel
theorem dX7_addName_29 : decode cX7_addName 29 = .ok (.istore 6, 2) := by decide +kernel
theorem dX7_addName_31 : decode cX7_addName 31 = .ok (.iinc 7 1, 3) := by decide +kernel
theorem dX7_addName_34 : decode cX7_addName 34 = .ok (.goto (-28), 3) := by decide +kernel
theorem dX7_addName_37 : decode cX7_addName 37 = .ok (.aload_n 0, 1) := by decide +kernel
theorem dX7_addName_38 : decode cX7_addName 38 = .ok (.getfield 13, 3) := by decide +kernel
theorem dX7_addName_41 : decode cX7_addName 41 = .ok (.ifCond .ne 7, 3) := by decide +kernel
theorem dX7_addName_44 : decode cX7_addName 44 = .ok (.iconst 0, 1) := by decide +kernel
theorem dX7_addName_45 : decode cX7_addName 45 = .ok (.goto 10, 3) := by decide +kernel
theorem dX7_addName_48 : decode cX7_addName 48 = .ok (.iconst 2, 1) := by decide +kernel
theorem dX7_addName_49 : decode cX7_addName 49 = .ok (.aload 4, 2) := by decide +kernel
theorem dX7_addName_51 : decode cX7_addName 51 = .ok (.getfield 50, 3) := by decide +kernel
theorem dX7_addName_54 : decode cX7_addName 54 = .ok (.imul, 1) := by decide +kernel
theorem dX7_addName_55 : decode cX7_addName 55 = .ok (.istore 7, 2) := by decide +kernel
theorem dX7_addName_57 : decode cX7_addName 57 = .ok (.iload 7, 2) := by decide +kernel
theorem dX7_addName_59 : decode cX7_addName 59 = .ok (.iload 6, 2) := by decide +kernel
theorem dX7_addName_61 : decode cX7_addName 61 = .ok (.iload_n 3, 1) := by decide +kernel
theorem dX7_addName_62 : decode cX7_addName 62 = .ok (.aload 4, 2) := by decide +kernel
theorem dX7_addName_64 : decode cX7_addName 64 = .ok (.invokestatic 55, 3) := by decide +kernel
theorem dX7_addName_67 : decode cX7_addName 67 = .ok (.iadd, 1) := by decide +kernel
theorem dX7_addName_68 : decode cX7_addName 68 = .ok (.istore 8, 2) := by decide +kernel
theorem dX7_addName_70 : decode cX7_addName 70 = .ok (.aload_n 0, 1) := by decide +kernel
theorem dX7_addName_71 : decode cX7_addName 71 = .ok (.dup, 1) := by decide +kernel
theorem dX7_addName_72 : decode cX7_addName 72 = .ok (.getfield 13, 3) := by decide +kernel
theorem dX7_addName_75 : decode cX7_addName 75 = .ok (.iconst 1, 1) := by decide +kernel
theorem dX7_addName_76 : decode cX7_addName 76 = .ok (.iadd, 1) := by decide +kernel
theorem dX7_addName_77 : decode cX7_addName 77 = .ok (.putfield 13, 3) := by decide +kernel
theorem dX7_addName_80 : decode cX7_addName 80 = .ok (.aload_n 0, 1) := by decide +kernel
theorem dX7_addName_81 : decode cX7_addName 81 = .ok (.dup, 1) := by decide +kernel
theorem dX7_addName_82 : decode cX7_addName 82 = .ok (.getfield 7, 3) := by decide +kernel
theorem dX7_addName_85 : decode cX7_addName 85 = .ok (.iload_n 3, 1) := by decide +kernel
theorem dX7_addName_86 : decode cX7_addName 86 = .ok (.iadd, 1) := by decide +kernel
theorem dX7_addName_87 : decode cX7_addName 87 = .ok (.putfield 7, 3) := by decide +kernel
theorem dX7_addName_90 : decode cX7_addName 90 = .ok (.aload_n 0, 1) := by decide +kernel
theorem dX7_addName_91 : decode cX7_addName 91 = .ok (.dup, 1) := by decide +kernel
theorem dX7_addName_92 : decode cX7_addName 92 = .ok (.getfield 16, 3) := by decide +kernel
theorem dX7_addName_95 : decode cX7_addName 95 = .ok (.iload 6, 2) := by decide +kernel
theorem dX7_addName_97 : decode cX7_addName 97 = .ok (.iadd, 1) := by decide +kernel
theorem dX7_addName_98 : decode cX7_addName 98 = .ok (.putfield 16, 3) := by decide +kernel
theorem dX7_addName_101 : decode cX7_addName 101 = .ok (.aload_n 0, 1) := by decide +kernel
theorem dX7_addName_102 : decode cX7_addName 102 = .ok (.dup, 1) := by decide +kernel
theorem dX7_addName_103 : decode cX7_addName 103 = .ok (.getfield 19, 3) := by decide +kernel
theorem dX7_addName_106 : decode cX7_addName 106 = .ok (.iload 8, 2) := by decide +kernel
theorem dX7_addName_108 : decode cX7_addName 108 = .ok (.iadd, 1) := by decide +kernel
theorem dX7_addName_109 : decode cX7_addName 109 = .ok (.putfield 19, 3) := by decide +kernel
theorem dX7_addName_112 : decode cX7_addName 112 = .ok (.aload 4, 2) := by decide +kernel
theorem dX7_addName_114 : decode cX7_addName 114 = .ok (.getfield 59, 3) := by decide +kernel
theorem dX7_addName_117 : decode cX7_addName 117 = .ok (.aload_n 1, 1) := by decide +kernel
theorem dX7_addName_118 : decode cX7_addName 118 = .ok (.iload_n 2, 1) := by decide +kernel
theorem dX7_addName_119 : decode cX7_addName 119 = .ok (.iload_n 3, 1) := by decide +kernel
theorem dX7_addName_120 : decode cX7_addName 120 = .ok (.invokevirtual 63, 3) := by decide +kernel
theorem dX7_addName_123 : decode cX7_addName 123 = .ok (.istore 9, 2) := by decide +kernel
theorem dX7_addName_125 : decode cX7_addName 125 = .ok (.iload 9, 2) := by decide +kernel
theorem dX7_addName_127 : decode cX7_addName 127 = .ok (.ifCond .ge 8, 3) := by decide +kernel
theorem dX7_addName_130 : decode cX7_addName 130 = .ok (.iload 6, 2) := by decide +kernel
theorem dX7_addName_132 : decode cX7_addName 132 = .ok (.goto 15, 3) := by decide +kernel
theorem dX7_addName_135 : decode cX7_addName 135 = .ok (.aload 5, 2) := by decide +kernel
theorem dX7_addName_137 : decode cX7_addName 137 = .ok (.aload 4, 2) := by decide +kernel
theorem dX7_addName_139 : decode cX7_addName 139 = .ok (.getfield 69, 3) := by decide +kernel
theorem dX7_addName_142 : decode cX7_addName 142 = .ok (.iload 9, 2) := by decide +kernel
theorem dX7_addName_144 : decode cX7_addName 144 = .ok (.invokevirtual 72, 3) := by decide +kernel
theorem dX7_addName_147 : decode cX7_addName 147 = .ok (.istore 10, 2) := by decide +kernel
theorem dX7_addName_149 : decode cX7_addName 149 = .ok (.iload 10, 2) := by decide +kernel
theorem dX7_addName_151 : decode cX7_addName 151 = .ok (.iload 6, 2) := by decide +kernel
theorem dX7_addName_153 : decode cX7_addName 153 = .ok (.if_icmp .ge 56, 3) := by decide +kernel
theorem dX7_addName_156 : decode cX7_addName 156 = .ok (.aload_n 0, 1) := by decide +kernel
theorem dX7_addName_157 : decode cX7_addName 157 = .ok (.dup, 1) := by decide +kernel
theorem dX7_addName_158 : decode cX7_addName 158 = .ok (.getfield 28, 3) := by decide +kernel
theorem dX7_addName_161 : decode cX7_addName 161 = .ok (.iconst 1, 1) := by decide +kernel
theorem dX7_addName_162 : decode cX7_addName 162 = .ok (.iadd, 1) := by decide +kernel
theorem dX7_addName_163 : decode cX7_addName 163 = .ok (.putfield 28, 3) := by decide +kernel
theorem dX7_addName_166 : decode cX7_addName 166 = .ok (.aload_n 0, 1) := by decide +kernel
theorem dX7_addName_167 : decode cX7_addName 167 = .ok (.dup, 1) := by decide +kernel
theorem dX7_addName_168 : decode cX7_addName 168 = .ok (.getfield 22, 3) := by decide +kernel
theorem dX7_addName_171 : decode cX7_addName 171 = .ok (.iload 10, 2) := by decide +kernel
theorem dX7_addName_173 : decode cX7_addName 173 = .ok (.iadd, 1) := by decide +kernel
theorem dX7_addName_174 : decode cX7_addName 174 = .ok (.putfield 22, 3) := by decide +kernel
theorem dX7_addName_177 : decode cX7_addName 177 = .ok (.aload_n 0, 1) := by decide +kernel
theorem dX7_addName_178 : decode cX7_addName 178 = .ok (.dup, 1) := by decide +kernel
theorem dX7_addName_179 : decode cX7_addName 179 = .ok (.getfield 25, 3) := by decide +kernel
theorem dX7_addName_182 : decode cX7_addName 182 = .ok (.iload 7, 2) := by decide +kernel
theorem dX7_addName_184 : decode cX7_addName 184 = .ok (.iload 10, 2) := by decide +kernel
theorem dX7_addName_186 : decode cX7_addName 186 = .ok (.aload 4, 2) := by decide +kernel
theorem dX7_addName_188 : decode cX7_addName 188 = .ok (.getfield 69, 3) := by decide +kernel
theorem dX7_addName_191 : decode cX7_addName 191 = .ok (.iload 9, 2) := by decide +kernel
theorem dX7_addName_193 : decode cX7_addName 193 = .ok (.invokevirtual 76, 3) := by decide +kernel
theorem dX7_addName_196 : decode cX7_addName 196 = .ok (.aload 4, 2) := by decide +kernel
theorem dX7_addName_198 : decode cX7_addName 198 = .ok (.invokestatic 55, 3) := by decide +kernel
theorem dX7_addName_201 : decode cX7_addName 201 = .ok (.iadd, 1) := by decide +kernel
theorem dX7_addName_202 : decode cX7_addName 202 = .ok (.iadd, 1) := by decide +kernel
theorem dX7_addName_203 : decode cX7_addName 203 = .ok (.putfield 25, 3) := by decide +kernel
theorem dX7_addName_206 : decode cX7_addName 206 = .ok (.goto 25, 3) := by decide +kernel
theorem dX7_addName_209 : decode cX7_addName 209 = .ok (.aload_n 0, 1) := by decide +kernel
theorem dX7_addName_210 : decode cX7_addName 210 = .ok (.dup, 1) := by decide +kernel
theorem dX7_addName_211 : decode cX7_addName 211 = .ok (.getfield 22, 3) := by decide +kernel
theorem dX7_addName_214 : decode cX7_addName 214 = .ok (.iload 6, 2) := by decide +kernel
theorem dX7_addName_216 : decode cX7_addName 216 = .ok (.iadd, 1) := by decide +kernel
theorem dX7_addName_217 : decode cX7_addName 217 = .ok (.putfield 22, 3) := by decide +kernel
theorem dX7_addName_220 : decode cX7_addName 220 = .ok (.aload_n 0, 1) := by decide +kernel
theorem dX7_addName_221 : decode cX7_addName 221 = .ok (.dup, 1) := by decide +kernel
theorem dX7_addName_222 : decode cX7_addName 222 = .ok (.getfield 25, 3) := by decide +kernel
theorem dX7_addName_225 : decode cX7_addName 225 = .ok (.iload 8, 2) := by decide +kernel
theorem dX7_addName_227 : decode cX7_addName 227 = .ok (.iadd, 1) := by decide +kernel
theorem dX7_addName_228 : decode cX7_addName 228 = .ok (.putfield 25, 3) := by decide +kernel
theorem dX7_addName_231 : decode cX7_addName 231 = .ok (.return_, 1) := by decide +kernel
theorem dX7_timeOf_0 : decode cX7_timeOf 0 = .ok (.iload_n 0, 1) := by decide +kernel
theorem dX7_timeOf_1 : decode cX7_timeOf 1 = .ok (.aload_n 2, 1) := by decide +kernel
theorem dX7_timeOf_2 : decode cX7_timeOf 2 = .ok (.getfield 79, 3) := by decide +kernel
theorem dX7_timeOf_5 : decode cX7_timeOf 5 = .ok (.imul, 1) := by decide +kernel
theorem dX7_timeOf_6 : decode cX7_timeOf 6 = .ok (.iload_n 1, 1) := by decide +kernel
theorem dX7_timeOf_7 : decode cX7_timeOf 7 = .ok (.aload_n 2, 1) := by decide +kernel
theorem dX7_timeOf_8 : decode cX7_timeOf 8 = .ok (.getfield 82, 3) := by decide +kernel
theorem dX7_timeOf_11 : decode cX7_timeOf 11 = .ok (.imul, 1) := by decide +kernel
theorem dX7_timeOf_12 : decode cX7_timeOf 12 = .ok (.iadd, 1) := by decide +kernel
theorem dX7_timeOf_13 : decode cX7_timeOf 13 = .ok (.iload_n 1, 1) := by decide +kernel
theorem dX7_timeOf_14 : decode cX7_timeOf 14 = .ok (.iconst 1, 1) := by decide +kernel
theorem dX7_timeOf_15 : decode cX7_timeOf 15 = .ok (.isub, 1) := by decide +kernel
theorem dX7_timeOf_16 : decode cX7_timeOf 16 = .ok (.aload_n 2, 1) := by decide +kernel
theorem dX7_timeOf_17 : decode cX7_timeOf 17 = .ok (.getfield 50, 3) := by decide +kernel
theorem dX7_timeOf_20 : decode cX7_timeOf 20 = .ok (.imul, 1) := by decide +kernel
theorem dX7_timeOf_21 : decode cX7_timeOf 21 = .ok (.iadd, 1) := by decide +kernel
theorem dX7_timeOf_22 : decode cX7_timeOf 22 = .ok (.ireturn, 1) := by decide +kernel
theorem dX8_init_0 : decode cX8_init 0 = .ok (.aload_n 0, 1) := by decide +kernel
theorem dX8_init_1 : decode cX8_init 1 = .ok (.invokespecial 3, 3) := by decide +kernel
theorem dX8_init_4 : decode cX8_init 4 = .ok (.aload_n 0, 1) := by decide +kernel
theorem dX8_init_5 : decode cX8_init 5 = .ok (.bipush 40, 2) := by decide +kernel
theorem dX8_init_7 : decode cX8_init 7 = .ok (.newarray .int, 2) := by decide +kernel
theorem dX8_init_9 : decode cX8_init 9 = .ok (.putfield 9, 3) := by decide +kernel
theorem dX8_init_12 : decode cX8_init 12 = .ok (.aload_n 0, 1) := by decide +kernel
theorem dX8_init_13 : decode cX8_init 13 = .ok (.iconst (-1), 1) := by decide +kernel
theorem dX8_init_14 : decode cX8_init 14 = .ok (.putfield 15, 3) := by decide +kernel
theorem dX8_init_17 : decode cX8_init 17 = .ok (.return_, 1) := by decide +kernel
theorem dX8_renew_0 : decode cX8_renew 0 = .ok (.aload_n 0, 1) := by decide +kernel
theorem dX8_renew_1 : decode cX8_renew 1 = .ok (.getfield 9, 3) := by decide +kernel
theorem dX8_renew_4 : decode cX8_renew 4 = .ok (.iconst 0, 1) := by decide +kernel
theorem dX8_renew_5 : decode cX8_renew 5 = .ok (.invokestatic 19, 3) := by decide +kernel
theorem dX8_renew_8 : decode cX8_renew 8 = .ok (.aload_n 0, 1) := by decide +kernel
theorem dX8_renew_9 : decode cX8_renew 9 = .ok (.iload_n 1, 1) := by decide +kernel
theorem dX8_renew_10 : decode cX8_renew 10 = .ok (.putfield 15, 3) := by decide +kernel
theorem dX8_renew_13 : decode cX8_renew 13 = .ok (.aload_n 0, 1) := by decide +kernel
theorem dX8_renew_14 : decode cX8_renew 14 = .ok (.iconst 0, 1) := by decide +kernel
theorem dX8_renew_15 : decode cX8_renew 15 = .ok (.bipush 40, 2) := by decide +kernel
theorem dX8_renew_17 : decode cX8_renew 17 = .ok (.iload_n 2, 1) := by decide +kernel
theorem dX8_renew_18 : decode cX8_renew 18 = .ok (.invokestatic 25, 3) := by decide +kernel
theorem dX8_renew_21 : decode cX8_renew 21 = .ok (.invokestatic 31, 3) := by decide +kernel
theorem dX8_renew_24 : decode cX8_renew 24 = .ok (.putfield 34, 3) := by decide +kernel
theorem dX8_renew_27 : decode cX8_renew 27 = .ok (.return_, 1) := by decide +kernel
theorem dX8_faultOf_0 : decode cX8_faultOf 0 = .ok (.aload_n 0, 1) := by decide +kernel
theorem dX8_faultOf_1 : decode cX8_faultOf 1 = .ok (.getfield 15, 3) := by decide +kernel
theorem dX8_faultOf_4 : decode cX8_faultOf 4 = .ok (.ifCond .lt 15, 3) := by decide +kernel
theorem dX8_faultOf_7 : decode cX8_faultOf 7 = .ok (.aload_n 0, 1) := by decide +kernel
theorem dX8_faultOf_8 : decode cX8_faultOf 8 = .ok (.getfield 15, 3) := by decide +kernel
theorem dX8_faultOf_11 : decode cX8_faultOf 11 = .ok (.iload_n 1, 1) := by decide +kernel
theorem dX8_faultOf_12 : decode cX8_faultOf 12 = .ok (.if_icmp .eq 7, 3) := by decide +kernel
theorem dX8_faultOf_15 : decode cX8_faultOf 15 = .ok (.iconst 3, 1) := by decide +kernel
theorem dX8_faultOf_16 : decode cX8_faultOf 16 = .ok (.goto 8, 3) := by decide +kernel
theorem dX8_faultOf_19 : decode cX8_faultOf 19 = .ok (.aload_n 0, 1) := by decide +kernel
theorem dX8_faultOf_20 : decode cX8_faultOf 20 = .ok (.iload_n 2, 1) := by decide +kernel
theorem dX8_faultOf_21 : decode cX8_faultOf 21 = .ok (.invokevirtual 37, 3) := by decide +kernel
theorem dX8_faultOf_24 : decode cX8_faultOf 24 = .ok (.ireturn, 1) := by decide +kernel
theorem dX8_faultAt_0 : decode cX8_faultAt 0 = .ok (.aload_n 0, 1) := by decide +kernel
theorem dX8_faultAt_1 : decode cX8_faultAt 1 = .ok (.getfield 15, 3) := by decide +kernel
theorem dX8_faultAt_4 : decode cX8_faultAt 4 = .ok (.ifCond .ge 5, 3) := by decide +kernel
theorem dX8_faultAt_7 : decode cX8_faultAt 7 = .ok (.iconst 1, 1) := by decide +kernel
theorem dX8_faultAt_8 : decode cX8_faultAt 8 = .ok (.ireturn, 1) := by decide +kernel
theorem dX8_faultAt_9 : decode cX8_faultAt 9 = .ok (.iload_n 1, 1) := by decide +kernel
theorem dX8_faultAt_10 : decode cX8_faultAt 10 = .ok (.ifCond .lt 15, 3) := by decide +kernel
theorem dX8_faultAt_13 : decode cX8_faultAt 13 = .ok (.iload_n 1, 1) := by decide +kernel
theorem dX8_faultAt_14 : decode cX8_faultAt 14 = .ok (.aload_n 0, 1) := by decide +kernel
theorem dX8_faultAt_15 : decode cX8_faultAt 15 = .ok (.getfield 34, 3) := by decide +kernel
theorem dX8_faultAt_18 : decode cX8_faultAt 18 = .ok (.if_icmp .ge 7, 3) := by decide +kernel
theorem dX8_faultAt_21 : decode cX8_faultAt 21 = .ok (.iconst 0, 1) := by decide +kernel
theorem dX8_faultAt_22 : decode cX8_faultAt 22 = .ok (.goto 4, 3) := by decide +kernel
theorem dX8_faultAt_25 : decode cX8_faultAt 25 = .ok (.iconst 2, 1) := by decide +kernel
theorem dX8_faultAt_26 : decode cX8_faultAt 26 = .ok (.ireturn, 1) := by decide +kernel
theorem dX8_cellAt_0 : decode cX8_cellAt 0 = .ok (.aload_n 0, 1) := by decide +kernel
theorem dX8_cellAt_1 : decode cX8_cellAt 1 = .ok (.iload_n 1, 1) := by decide +kernel
theorem dX8_cellAt_2 : decode cX8_cellAt 2 = .ok (.invokevirtual 37, 3) := by decide +kernel
theorem dX8_cellAt_5 : decode cX8_cellAt 5 = .ok (.ifCond .ne 12, 3) := by decide +kernel
theorem dX8_cellAt_8 : decode cX8_cellAt 8 = .ok (.aload_n 0, 1) := by decide +kernel
theorem dX8_cellAt_9 : decode cX8_cellAt 9 = .ok (.getfield 9, 3) := by decide +kernel
theorem dX8_cellAt_12 : decode cX8_cellAt 12 = .ok (.iload_n 1, 1) := by decide +kernel
theorem dX8_cellAt_13 : decode cX8_cellAt 13 = .ok (.iaload, 1) := by decide +kernel
theorem dX8_cellAt_14 : decode cX8_cellAt 14 = .ok (.goto 4, 3) := by decide +kernel
theorem dX8_cellAt_17 : decode cX8_cellAt 17 = .ok (.iconst 0, 1) := by decide +kernel
theorem dX8_cellAt_18 : decode cX8_cellAt 18 = .ok (.ireturn, 1) := by decide +kernel
theorem dX8_put_0 : decode cX8_put 0 = .ok (.aload_n 0, 1) := by decide +kernel
theorem dX8_put_1 : decode cX8_put 1 = .ok (.iload_n 1, 1) := by decide +kernel
theorem dX8_put_2 : decode cX8_put 2 = .ok (.invokevirtual 37, 3) := by decide +kernel
theorem dX8_put_5 : decode cX8_put 5 = .ok (.ifCond .eq 4, 3) := by decide +kernel
theorem dX8_put_8 : decode cX8_put 8 = .ok (.return_, 1) := by decide +kernel
theorem dX8_put_9 : decode cX8_put 9 = .ok (.aload_n 0, 1) := by decide +kernel
theorem dX8_put_10 : decode cX8_put 10 = .ok (.getfield 15, 3) := by decide +kernel
theorem dX8_put_13 : decode cX8_put 13 = .ok (.lookupswitch 49 #[(0, 27), (1, 38)], 27) := by decide +kernel
theorem dX8_put_40 : decode cX8_put 40 = .ok (.aload_n 0, 1) := by decide +kernel
theorem dX8_put_41 : decode cX8_put 41 = .ok (.getfield 9, 3) := by decide +kernel
theorem dX8_put_44 : decode cX8_put 44 = .ok (.iload_n 1, 1) := by decide +kernel
theorem dX8_put_45 : decode cX8_put 45 = .ok (.iload_n 2, 1) := by decide +kernel
theorem dX8_put_46 : decode cX8_put 46 = .ok (.i2b, 1) := by decide +kernel
theorem dX8_put_47 : decode cX8_put 47 = .ok (.iastore, 1) := by decide +kernel
theorem dX8_put_48 : decode cX8_put 48 = .ok (.goto 21, 3) := by decide +kernel
theorem dX8_put_51 : decode cX8_put 51 = .ok (.aload_n 0, 1) := by decide +kernel
theorem dX8_put_52 : decode cX8_put 52 = .ok (.getfield 9, 3) := by decide +kernel
theorem dX8_put_55 : decode cX8_put 55 = .ok (.iload_n 1, 1) := by decide +kernel
theorem dX8_put_56 : decode cX8_put 56 = .ok (.iload_n 2, 1) := by decide +kernel
theorem dX8_put_57 : decode cX8_put 57 = .ok (.i2s, 1) := by decide +kernel
theorem dX8_put_58 : decode cX8_put 58 = .ok (.iastore, 1) := by decide +kernel
theorem dX8_put_59 : decode cX8_put 59 = .ok (.goto 10, 3) := by decide +kernel
theorem dX8_put_62 : decode cX8_put 62 = .ok (.aload_n 0, 1) := by decide +kernel
theorem dX8_put_63 : decode cX8_put 63 = .ok (.getfield 9, 3) := by decide +kernel
theorem dX8_put_66 : decode cX8_put 66 = .ok (.iload_n 1, 1) := by decide +kernel
theorem dX8_put_67 : decode cX8_put 67 = .ok (.iload_n 2, 1) := by decide +kernel
theorem dX8_put_68 : decode cX8_put 68 = .ok (.iastore, 1) := by decide +kernel
theorem dX8_put_69 : decode cX8_put 69 = .ok (.return_, 1) := by decide +kernel
theorem dX9_init_0 : decode cX9_init 0 = .ok (.aload_n 0, 1) := by decide +kernel
theorem dX9_init_1 : decode cX9_init 1 = .ok (.invokespecial 3, 3) := by decide +kernel
theorem dX9_init_4 : decode cX9_init 4 = .ok (.aload_n 0, 1) := by decide +kernel
theorem dX9_init_5 : decode cX9_init 5 = .ok (.sipush 320, 3) := by decide +kernel
theorem dX9_init_8 : decode cX9_init 8 = .ok (.newarray .byte, 2) := by decide +kernel
theorem dX9_init_10 : decode cX9_init 10 = .ok (.putfield 9, 3) := by decide +kernel
theorem dX9_init_13 : decode cX9_init 13 = .ok (.return_, 1) := by decide +kernel
theorem dX9_append_0 : decode cX9_append 0 = .ok (.aload_n 0, 1) := by decide +kernel
theorem dX9_append_1 : decode cX9_append 1 = .ok (.getfield 15, 3) := by decide +kernel
theorem dX9_append_4 : decode cX9_append 4 = .ok (.bipush 8, 2) := by decide +kernel
theorem dX9_append_6 : decode cX9_append 6 = .ok (.iadd, 1) := by decide +kernel
theorem dX9_append_7 : decode cX9_append 7 = .ok (.sipush 320, 3) := by decide +kernel
theorem dX9_append_10 : decode cX9_append 10 = .ok (.if_icmp .le 5, 3) := by decide +kernel
theorem dX9_append_13 : decode cX9_append 13 = .ok (.iconst 0, 1) := by decide +kernel
theorem dX9_append_14 : decode cX9_append 14 = .ok (.ireturn, 1) := by decide +kernel
theorem dX9_append_15 : decode cX9_append 15 = .ok (.iconst 0, 1) := by decide +kernel
theorem dX9_append_16 : decode cX9_append 16 = .ok (.istore_n 3, 1) := by decide +kernel
theorem dX9_append_17 : decode cX9_append 17 = .ok (.iload_n 3, 1) := by decide +kernel
theorem dX9_append_18 : decode cX9_append 18 = .ok (.bipush 8, 2) := by decide +kernel
theorem dX9_append_20 : decode cX9_append 20 = .ok (.if_icmp .ge 31, 3) := by decide +kernel
theorem dX9_append_23 : decode cX9_append 23 = .ok (.aload_n 0, 1) := by decide +kernel
theorem dX9_append_24 : decode cX9_append 24 = .ok (.getfield 9, 3) := by decide +kernel
theorem dX9_append_27 : decode cX9_append 27 = .ok (.aload_n 0, 1) := by decide +kernel
theorem dX9_append_28 : decode cX9_append 28 = .ok (.getfield 15, 3) := by decide +kernel
theorem dX9_append_31 : decode cX9_append 31 = .ok (.iload_n 3, 1) := by decide +kernel
theorem dX9_append_32 : decode cX9_append 32 = .ok (.iadd, 1) := by decide +kernel
theorem dX9_append_33 : decode cX9_append 33 = .ok (.lload_n 1, 1) := by decide +kernel
theorem dX9_append_34 : decode cX9_append 34 = .ok (.bipush 56, 2) := by decide +kernel
theorem dX9_append_36 : decode cX9_append 36 = .ok (.bipush 8, 2) := by decide +kernel
theorem dX9_append_38 : decode cX9_append 38 = .ok (.iload_n 3, 1) := by decide +kernel
theorem dX9_append_39 : decode cX9_append 39 = .ok (.imul, 1) := by decide +kernel
theorem dX9_append_40 : decode cX9_append 40 = .ok (.isub, 1) := by decide +kernel
theorem dX9_append_41 : decode cX9_append 41 = .ok (.lshr, 1) := by decide +kernel
