theorem dX12_layName_100 : decode cX12_layName 100 = .ok (.iload 6, 2) := by decide +kernel
theorem dX12_layName_102 : decode cX12_layName 102 = .ok (.imul, 1) := by decide +kernel
theorem dX12_layName_103 : decode cX12_layName 103 = .ok (.iconst 3, 1) := by decide +kernel
theorem dX12_layName_104 : decode cX12_layName 104 = .ok (.iadd, 1) := by decide +kernel
theorem dX12_layName_105 : decode cX12_layName 105 = .ok (.iaload, 1) := by decide +kernel
theorem dX12_layName_106 : decode cX12_layName 106 = .ok (.if_icmp .ge 31, 3) := by decide +kernel
theorem dX12_layName_109 : decode cX12_layName 109 = .ok (.iload 9, 2) := by decide +kernel
theorem dX12_layName_111 : decode cX12_layName 111 = .ok (.aload_n 0, 1) := by decide +kernel
theorem dX12_layName_112 : decode cX12_layName 112 = .ok (.aload_n 0, 1) := by decide +kernel
theorem dX12_layName_113 : decode cX12_layName 113 = .ok (.getfield 28, 3) := by decide +kernel
theorem dX12_layName_116 : decode cX12_layName 116 = .ok (.bipush 13, 2) := by decide +kernel
theorem dX12_layName_118 : decode cX12_layName 118 = .ok (.iload 6, 2) := by decide +kernel
theorem dX12_layName_120 : decode cX12_layName 120 = .ok (.imul, 1) := by decide +kernel
theorem dX12_layName_121 : decode cX12_layName 121 = .ok (.iload 10, 2) := by decide +kernel
theorem dX12_layName_123 : decode cX12_layName 123 = .ok (.iadd, 1) := by decide +kernel
theorem dX12_layName_124 : decode cX12_layName 124 = .ok (.iaload, 1) := by decide +kernel
theorem dX12_layName_125 : decode cX12_layName 125 = .ok (.invokevirtual 197, 3) := by decide +kernel
theorem dX12_layName_128 : decode cX12_layName 128 = .ok (.iadd, 1) := by decide +kernel
theorem dX12_layName_129 : decode cX12_layName 129 = .ok (.istore 9, 2) := by decide +kernel
theorem dX12_layName_131 : decode cX12_layName 131 = .ok (.iinc 10 1, 3) := by decide +kernel
theorem dX12_layName_134 : decode cX12_layName 134 = .ok (.goto (-42), 3) := by decide +kernel
theorem dX12_layName_137 : decode cX12_layName 137 = .ok (.iload 9, 2) := by decide +kernel
theorem dX12_layName_139 : decode cX12_layName 139 = .ok (.iload 4, 2) := by decide +kernel
theorem dX12_layName_141 : decode cX12_layName 141 = .ok (.if_icmp .ge 32, 3) := by decide +kernel
theorem dX12_layName_144 : decode cX12_layName 144 = .ok (.aload_n 0, 1) := by decide +kernel
theorem dX12_layName_145 : decode cX12_layName 145 = .ok (.getfield 28, 3) := by decide +kernel
theorem dX12_layName_148 : decode cX12_layName 148 = .ok (.bipush 13, 2) := by decide +kernel
theorem dX12_layName_150 : decode cX12_layName 150 = .ok (.iload 6, 2) := by decide +kernel
theorem dX12_layName_152 : decode cX12_layName 152 = .ok (.imul, 1) := by decide +kernel
theorem dX12_layName_153 : decode cX12_layName 153 = .ok (.iconst 3, 1) := by decide +kernel
theorem dX12_layName_154 : decode cX12_layName 154 = .ok (.iadd, 1) := by decide +kernel
theorem dX12_layName_155 : decode cX12_layName 155 = .ok (.iaload, 1) := by decide +kernel
theorem dX12_layName_156 : decode cX12_layName 156 = .ok (.istore 7, 2) := by decide +kernel
theorem dX12_layName_158 : decode cX12_layName 158 = .ok (.iload 9, 2) := by decide +kernel
theorem dX12_layName_160 : decode cX12_layName 160 = .ok (.istore 8, 2) := by decide +kernel
theorem dX12_layName_162 : decode cX12_layName 162 = .ok (.aload_n 0, 1) := by decide +kernel
theorem dX12_layName_163 : decode cX12_layName 163 = .ok (.getfield 52, 3) := by decide +kernel
theorem dX12_layName_166 : decode cX12_layName 166 = .ok (.bipush 6, 2) := by decide +kernel
theorem dX12_layName_168 : decode cX12_layName 168 = .ok (.dup2, 1) := by decide +kernel
theorem dX12_layName_169 : decode cX12_layName 169 = .ok (.iaload, 1) := by decide +kernel
theorem dX12_layName_170 : decode cX12_layName 170 = .ok (.iconst 1, 1) := by decide +kernel
theorem dX12_layName_171 : decode cX12_layName 171 = .ok (.iadd, 1) := by decide +kernel
theorem dX12_layName_172 : decode cX12_layName 172 = .ok (.iastore, 1) := by decide +kernel
theorem dX12_layName_173 : decode cX12_layName 173 = .ok (.aload_n 0, 1) := by decide +kernel
theorem dX12_layName_174 : decode cX12_layName 174 = .ok (.getfield 52, 3) := by decide +kernel
theorem dX12_layName_177 : decode cX12_layName 177 = .ok (.iconst 0, 1) := by decide +kernel
theorem dX12_layName_178 : decode cX12_layName 178 = .ok (.dup2, 1) := by decide +kernel
theorem dX12_layName_179 : decode cX12_layName 179 = .ok (.iaload, 1) := by decide +kernel
theorem dX12_layName_180 : decode cX12_layName 180 = .ok (.iload_n 3, 1) := by decide +kernel
theorem dX12_layName_181 : decode cX12_layName 181 = .ok (.iadd, 1) := by decide +kernel
theorem dX12_layName_182 : decode cX12_layName 182 = .ok (.iastore, 1) := by decide +kernel
theorem dX12_layName_183 : decode cX12_layName 183 = .ok (.aload_n 0, 1) := by decide +kernel
theorem dX12_layName_184 : decode cX12_layName 184 = .ok (.getfield 52, 3) := by decide +kernel
theorem dX12_layName_187 : decode cX12_layName 187 = .ok (.iconst 1, 1) := by decide +kernel
theorem dX12_layName_188 : decode cX12_layName 188 = .ok (.dup2, 1) := by decide +kernel
theorem dX12_layName_189 : decode cX12_layName 189 = .ok (.iaload, 1) := by decide +kernel
theorem dX12_layName_190 : decode cX12_layName 190 = .ok (.iconst 1, 1) := by decide +kernel
theorem dX12_layName_191 : decode cX12_layName 191 = .ok (.iadd, 1) := by decide +kernel
theorem dX12_layName_192 : decode cX12_layName 192 = .ok (.iastore, 1) := by decide +kernel
theorem dX12_layName_193 : decode cX12_layName 193 = .ok (.aload_n 0, 1) := by decide +kernel
theorem dX12_layName_194 : decode cX12_layName 194 = .ok (.getfield 52, 3) := by decide +kernel
theorem dX12_layName_197 : decode cX12_layName 197 = .ok (.iconst 2, 1) := by decide +kernel
theorem dX12_layName_198 : decode cX12_layName 198 = .ok (.dup2, 1) := by decide +kernel
theorem dX12_layName_199 : decode cX12_layName 199 = .ok (.iaload, 1) := by decide +kernel
theorem dX12_layName_200 : decode cX12_layName 200 = .ok (.iload 4, 2) := by decide +kernel
theorem dX12_layName_202 : decode cX12_layName 202 = .ok (.iadd, 1) := by decide +kernel
theorem dX12_layName_203 : decode cX12_layName 203 = .ok (.iastore, 1) := by decide +kernel
theorem dX12_layName_204 : decode cX12_layName 204 = .ok (.aload_n 0, 1) := by decide +kernel
theorem dX12_layName_205 : decode cX12_layName 205 = .ok (.getfield 52, 3) := by decide +kernel
theorem dX12_layName_208 : decode cX12_layName 208 = .ok (.iconst 3, 1) := by decide +kernel
theorem dX12_layName_209 : decode cX12_layName 209 = .ok (.dup2, 1) := by decide +kernel
theorem dX12_layName_210 : decode cX12_layName 210 = .ok (.iaload, 1) := by decide +kernel
theorem dX12_layName_211 : decode cX12_layName 211 = .ok (.iload 5, 2) := by decide +kernel
theorem dX12_layName_213 : decode cX12_layName 213 = .ok (.aload_n 0, 1) := by decide +kernel
theorem dX12_layName_214 : decode cX12_layName 214 = .ok (.iload_n 3, 1) := by decide +kernel
theorem dX12_layName_215 : decode cX12_layName 215 = .ok (.iload 4, 2) := by decide +kernel
theorem dX12_layName_217 : decode cX12_layName 217 = .ok (.invokevirtual 214, 3) := by decide +kernel
theorem dX12_layName_220 : decode cX12_layName 220 = .ok (.iadd, 1) := by decide +kernel
theorem dX12_layName_221 : decode cX12_layName 221 = .ok (.iadd, 1) := by decide +kernel
theorem dX12_layName_222 : decode cX12_layName 222 = .ok (.iastore, 1) := by decide +kernel
theorem dX12_layName_223 : decode cX12_layName 223 = .ok (.aload_n 0, 1) := by decide +kernel
theorem dX12_layName_224 : decode cX12_layName 224 = .ok (.getfield 52, 3) := by decide +kernel
theorem dX12_layName_227 : decode cX12_layName 227 = .ok (.iconst 4, 1) := by decide +kernel
theorem dX12_layName_228 : decode cX12_layName 228 = .ok (.dup2, 1) := by decide +kernel
theorem dX12_layName_229 : decode cX12_layName 229 = .ok (.iaload, 1) := by decide +kernel
theorem dX12_layName_230 : decode cX12_layName 230 = .ok (.iload 8, 2) := by decide +kernel
theorem dX12_layName_232 : decode cX12_layName 232 = .ok (.iadd, 1) := by decide +kernel
theorem dX12_layName_233 : decode cX12_layName 233 = .ok (.iastore, 1) := by decide +kernel
theorem dX12_layName_234 : decode cX12_layName 234 = .ok (.aload_n 0, 1) := by decide +kernel
theorem dX12_layName_235 : decode cX12_layName 235 = .ok (.getfield 52, 3) := by decide +kernel
theorem dX12_layName_238 : decode cX12_layName 238 = .ok (.iconst 5, 1) := by decide +kernel
theorem dX12_layName_239 : decode cX12_layName 239 = .ok (.dup2, 1) := by decide +kernel
theorem dX12_layName_240 : decode cX12_layName 240 = .ok (.iaload, 1) := by decide +kernel
theorem dX12_layName_241 : decode cX12_layName 241 = .ok (.iload 5, 2) := by decide +kernel
theorem dX12_layName_243 : decode cX12_layName 243 = .ok (.aload_n 0, 1) := by decide +kernel
theorem dX12_layName_244 : decode cX12_layName 244 = .ok (.iload 7, 2) := by decide +kernel
theorem dX12_layName_246 : decode cX12_layName 246 = .ok (.iload 8, 2) := by decide +kernel
theorem dX12_layName_248 : decode cX12_layName 248 = .ok (.invokevirtual 214, 3) := by decide +kernel
theorem dX12_layName_251 : decode cX12_layName 251 = .ok (.iadd, 1) := by decide +kernel
theorem dX12_layName_252 : decode cX12_layName 252 = .ok (.iadd, 1) := by decide +kernel
theorem dX12_layName_253 : decode cX12_layName 253 = .ok (.iastore, 1) := by decide +kernel
theorem dX12_layName_254 : decode cX12_layName 254 = .ok (.return_, 1) := by decide +kernel
theorem dX12_takes_0 : decode cX12_takes 0 = .ok (.aload_n 0, 1) := by decide +kernel
theorem dX12_takes_1 : decode cX12_takes 1 = .ok (.invokevirtual 182, 3) := by decide +kernel
theorem dX12_takes_4 : decode cX12_takes 4 = .ok (.iload_n 1, 1) := by decide +kernel
theorem dX12_takes_5 : decode cX12_takes 5 = .ok (.i2l, 1) := by decide +kernel
theorem dX12_takes_6 : decode cX12_takes 6 = .ok (.lconst 0, 1) := by decide +kernel
theorem dX12_takes_7 : decode cX12_takes 7 = .ok (.ldc2_w 217, 3) := by decide +kernel
theorem dX12_takes_10 : decode cX12_takes 10 = .ok (.invokestatic 88, 3) := by decide +kernel
theorem dX12_takes_13 : decode cX12_takes 13 = .ok (.ifCond .ne 5, 3) := by decide +kernel
theorem dX12_takes_16 : decode cX12_takes 16 = .ok (.iconst (-1), 1) := by decide +kernel
theorem dX12_takes_17 : decode cX12_takes 17 = .ok (.ireturn, 1) := by decide +kernel
theorem dX12_takes_18 : decode cX12_takes 18 = .ok (.aload_n 0, 1) := by decide +kernel
theorem dX12_takes_19 : decode cX12_takes 19 = .ok (.invokevirtual 208, 3) := by decide +kernel
theorem dX12_takes_22 : decode cX12_takes 22 = .ok (.bipush (-4), 2) := by decide +kernel
theorem dX12_takes_24 : decode cX12_takes 24 = .ok (.if_icmp .eq 6, 3) := by decide +kernel
theorem dX12_takes_27 : decode cX12_takes 27 = .ok (.bipush (-2), 2) := by decide +kernel
theorem dX12_takes_29 : decode cX12_takes 29 = .ok (.ireturn, 1) := by decide +kernel
theorem dX12_takes_30 : decode cX12_takes 30 = .ok (.iconst 0, 1) := by decide +kernel
theorem dX12_takes_31 : decode cX12_takes 31 = .ok (.istore_n 2, 1) := by decide +kernel
theorem dX12_takes_32 : decode cX12_takes 32 = .ok (.iload_n 2, 1) := by decide +kernel
theorem dX12_takes_33 : decode cX12_takes 33 = .ok (.bipush 7, 2) := by decide +kernel
theorem dX12_takes_35 : decode cX12_takes 35 = .ok (.if_icmp .ge 16, 3) := by decide +kernel
theorem dX12_takes_38 : decode cX12_takes 38 = .ok (.aload_n 0, 1) := by decide +kernel
theorem dX12_takes_39 : decode cX12_takes 39 = .ok (.getfield 52, 3) := by decide +kernel
theorem dX12_takes_42 : decode cX12_takes 42 = .ok (.iload_n 2, 1) := by decide +kernel
theorem dX12_takes_43 : decode cX12_takes 43 = .ok (.iconst 0, 1) := by decide +kernel
theorem dX12_takes_44 : decode cX12_takes 44 = .ok (.iastore, 1) := by decide +kernel
theorem dX12_takes_45 : decode cX12_takes 45 = .ok (.iinc 2 1, 3) := by decide +kernel
theorem dX12_takes_48 : decode cX12_takes 48 = .ok (.goto (-16), 3) := by decide +kernel
theorem dX12_takes_51 : decode cX12_takes 51 = .ok (.iconst 0, 1) := by decide +kernel
theorem dX12_takes_52 : decode cX12_takes 52 = .ok (.istore_n 2, 1) := by decide +kernel
theorem dX12_takes_53 : decode cX12_takes 53 = .ok (.iconst 0, 1) := by decide +kernel
theorem dX12_takes_54 : decode cX12_takes 54 = .ok (.istore_n 3, 1) := by decide +kernel
theorem dX12_takes_55 : decode cX12_takes 55 = .ok (.iload_n 3, 1) := by decide +kernel
theorem dX12_takes_56 : decode cX12_takes 56 = .ok (.aload_n 0, 1) := by decide +kernel
theorem dX12_takes_57 : decode cX12_takes 57 = .ok (.getfield 84, 3) := by decide +kernel
theorem dX12_takes_60 : decode cX12_takes 60 = .ok (.if_icmp .gt 42, 3) := by decide +kernel
theorem dX12_takes_63 : decode cX12_takes 63 = .ok (.aload_n 0, 1) := by decide +kernel
theorem dX12_takes_64 : decode cX12_takes 64 = .ok (.iload_n 3, 1) := by decide +kernel
theorem dX12_takes_65 : decode cX12_takes 65 = .ok (.invokevirtual 107, 3) := by decide +kernel
theorem dX12_takes_68 : decode cX12_takes 68 = .ok (.bipush 32, 2) := by decide +kernel
theorem dX12_takes_70 : decode cX12_takes 70 = .ok (.if_icmp .eq 11, 3) := by decide +kernel
theorem dX12_takes_73 : decode cX12_takes 73 = .ok (.iload_n 3, 1) := by decide +kernel
theorem dX12_takes_74 : decode cX12_takes 74 = .ok (.aload_n 0, 1) := by decide +kernel
theorem dX12_takes_75 : decode cX12_takes 75 = .ok (.getfield 84, 3) := by decide +kernel
theorem dX12_takes_78 : decode cX12_takes 78 = .ok (.if_icmp .ne 18, 3) := by decide +kernel
theorem dX12_takes_81 : decode cX12_takes 81 = .ok (.iload_n 3, 1) := by decide +kernel
theorem dX12_takes_82 : decode cX12_takes 82 = .ok (.iload_n 2, 1) := by decide +kernel
theorem dX12_takes_83 : decode cX12_takes 83 = .ok (.if_icmp .le 9, 3) := by decide +kernel
theorem dX12_takes_86 : decode cX12_takes 86 = .ok (.aload_n 0, 1) := by decide +kernel
theorem dX12_takes_87 : decode cX12_takes 87 = .ok (.iload_n 2, 1) := by decide +kernel
theorem dX12_takes_88 : decode cX12_takes 88 = .ok (.iload_n 3, 1) := by decide +kernel
theorem dX12_takes_89 : decode cX12_takes 89 = .ok (.invokevirtual 219, 3) := by decide +kernel
theorem dX12_takes_92 : decode cX12_takes 92 = .ok (.iload_n 3, 1) := by decide +kernel
theorem dX12_takes_93 : decode cX12_takes 93 = .ok (.iconst 1, 1) := by decide +kernel
theorem dX12_takes_94 : decode cX12_takes 94 = .ok (.iadd, 1) := by decide +kernel
theorem dX12_takes_95 : decode cX12_takes 95 = .ok (.istore_n 2, 1) := by decide +kernel
theorem dX12_takes_96 : decode cX12_takes 96 = .ok (.iinc 3 1, 3) := by decide +kernel
theorem dX12_takes_99 : decode cX12_takes 99 = .ok (.goto (-44), 3) := by decide +kernel
theorem dX12_takes_102 : decode cX12_takes 102 = .ok (.aload_n 0, 1) := by decide +kernel
theorem dX12_takes_103 : decode cX12_takes 103 = .ok (.getfield 52, 3) := by decide +kernel
theorem dX12_takes_106 : decode cX12_takes 106 = .ok (.iload_n 1, 1) := by decide +kernel
theorem dX12_takes_107 : decode cX12_takes 107 = .ok (.iaload, 1) := by decide +kernel
theorem dX12_takes_108 : decode cX12_takes 108 = .ok (.ireturn, 1) := by decide +kernel
theorem dX12_layBest_0 : decode cX12_layBest 0 = .ok (.iconst 0, 1) := by decide +kernel
theorem dX12_layBest_1 : decode cX12_layBest 1 = .ok (.istore_n 1, 1) := by decide +kernel
theorem dX12_layBest_2 : decode cX12_layBest 2 = .ok (.iload_n 1, 1) := by decide +kernel
theorem dX12_layBest_3 : decode cX12_layBest 3 = .ok (.bipush 26, 2) := by decide +kernel
theorem dX12_layBest_5 : decode cX12_layBest 5 = .ok (.if_icmp .ge 16, 3) := by decide +kernel
theorem dX12_layBest_8 : decode cX12_layBest 8 = .ok (.aload_n 0, 1) := by decide +kernel
theorem dX12_layBest_9 : decode cX12_layBest 9 = .ok (.getfield 55, 3) := by decide +kernel
theorem dX12_layBest_12 : decode cX12_layBest 12 = .ok (.iload_n 1, 1) := by decide +kernel
theorem dX12_layBest_13 : decode cX12_layBest 13 = .ok (.iconst 0, 1) := by decide +kernel
theorem dX12_layBest_14 : decode cX12_layBest 14 = .ok (.iastore, 1) := by decide +kernel
theorem dX12_layBest_15 : decode cX12_layBest 15 = .ok (.iinc 1 1, 3) := by decide +kernel
theorem dX12_layBest_18 : decode cX12_layBest 18 = .ok (.goto (-16), 3) := by decide +kernel
theorem dX12_layBest_21 : decode cX12_layBest 21 = .ok (.iconst 0, 1) := by decide +kernel
theorem dX12_layBest_22 : decode cX12_layBest 22 = .ok (.istore_n 1, 1) := by decide +kernel
theorem dX12_layBest_23 : decode cX12_layBest 23 = .ok (.iload_n 1, 1) := by decide +kernel
theorem dX12_layBest_24 : decode cX12_layBest 24 = .ok (.aload_n 0, 1) := by decide +kernel
theorem dX12_layBest_25 : decode cX12_layBest 25 = .ok (.getfield 22, 3) := by decide +kernel
theorem dX12_layBest_28 : decode cX12_layBest 28 = .ok (.iconst 5, 1) := by decide +kernel
theorem dX12_layBest_29 : decode cX12_layBest 29 = .ok (.iaload, 1) := by decide +kernel
theorem dX12_layBest_30 : decode cX12_layBest 30 = .ok (.if_icmp .ge 57, 3) := by decide +kernel
theorem dX12_layBest_33 : decode cX12_layBest 33 = .ok (.iconst 0, 1) := by decide +kernel
theorem dX12_layBest_34 : decode cX12_layBest 34 = .ok (.istore_n 2, 1) := by decide +kernel
theorem dX12_layBest_35 : decode cX12_layBest 35 = .ok (.iload_n 2, 1) := by decide +kernel
theorem dX12_layBest_36 : decode cX12_layBest 36 = .ok (.aload_n 0, 1) := by decide +kernel
theorem dX12_layBest_37 : decode cX12_layBest 37 = .ok (.iload_n 1, 1) := by decide +kernel
theorem dX12_layBest_38 : decode cX12_layBest 38 = .ok (.invokevirtual 194, 3) := by decide +kernel
theorem dX12_layBest_41 : decode cX12_layBest 41 = .ok (.if_icmp .ge 40, 3) := by decide +kernel
theorem dX12_layBest_44 : decode cX12_layBest 44 = .ok (.aload_n 0, 1) := by decide +kernel
theorem dX12_layBest_45 : decode cX12_layBest 45 = .ok (.getfield 55, 3) := by decide +kernel
theorem dX12_layBest_48 : decode cX12_layBest 48 = .ok (.aload_n 0, 1) := by decide +kernel
theorem dX12_layBest_49 : decode cX12_layBest 49 = .ok (.getfield 25, 3) := by decide +kernel
theorem dX12_layBest_52 : decode cX12_layBest 52 = .ok (.bipush 10, 2) := by decide +kernel
theorem dX12_layBest_54 : decode cX12_layBest 54 = .ok (.iload_n 1, 1) := by decide +kernel
theorem dX12_layBest_55 : decode cX12_layBest 55 = .ok (.imul, 1) := by decide +kernel
theorem dX12_layBest_56 : decode cX12_layBest 56 = .ok (.iload_n 2, 1) := by decide +kernel
theorem dX12_layBest_57 : decode cX12_layBest 57 = .ok (.iadd, 1) := by decide +kernel
theorem dX12_layBest_58 : decode cX12_layBest 58 = .ok (.iaload, 1) := by decide +kernel
theorem dX12_layBest_59 : decode cX12_layBest 59 = .ok (.dup2, 1) := by decide +kernel
theorem dX12_layBest_60 : decode cX12_layBest 60 = .ok (.iaload, 1) := by decide +kernel
theorem dX12_layBest_61 : decode cX12_layBest 61 = .ok (.aload_n 0, 1) := by decide +kernel
theorem dX12_layBest_62 : decode cX12_layBest 62 = .ok (.getfield 25, 3) := by decide +kernel
theorem dX12_layBest_65 : decode cX12_layBest 65 = .ok (.bipush 10, 2) := by decide +kernel
theorem dX12_layBest_67 : decode cX12_layBest 67 = .ok (.iload_n 1, 1) := by decide +kernel
theorem dX12_layBest_68 : decode cX12_layBest 68 = .ok (.imul, 1) := by decide +kernel
theorem dX12_layBest_69 : decode cX12_layBest 69 = .ok (.bipush 9, 2) := by decide +kernel
theorem dX12_layBest_71 : decode cX12_layBest 71 = .ok (.iadd, 1) := by decide +kernel
theorem dX12_layBest_72 : decode cX12_layBest 72 = .ok (.iaload, 1) := by decide +kernel
theorem dX12_layBest_73 : decode cX12_layBest 73 = .ok (.iadd, 1) := by decide +kernel
theorem dX12_layBest_74 : decode cX12_layBest 74 = .ok (.iastore, 1) := by decide +kernel
theorem dX12_layBest_75 : decode cX12_layBest 75 = .ok (.iinc 2 1, 3) := by decide +kernel
theorem dX12_layBest_78 : decode cX12_layBest 78 = .ok (.goto (-43), 3) := by decide +kernel
theorem dX12_layBest_81 : decode cX12_layBest 81 = .ok (.iinc 1 1, 3) := by decide +kernel
theorem dX12_layBest_84 : decode cX12_layBest 84 = .ok (.goto (-61), 3) := by decide +kernel
theorem dX12_layBest_87 : decode cX12_layBest 87 = .ok (.iconst 0, 1) := by decide +kernel
theorem dX12_layBest_88 : decode cX12_layBest 88 = .ok (.istore_n 1, 1) := by decide +kernel
theorem dX12_layBest_89 : decode cX12_layBest 89 = .ok (.iconst 0, 1) := by decide +kernel
theorem dX12_layBest_90 : decode cX12_layBest 90 = .ok (.istore_n 2, 1) := by decide +kernel
theorem dX12_layBest_91 : decode cX12_layBest 91 = .ok (.iconst 0, 1) := by decide +kernel
theorem dX12_layBest_92 : decode cX12_layBest 92 = .ok (.istore_n 3, 1) := by decide +kernel
theorem dX12_layBest_93 : decode cX12_layBest 93 = .ok (.iload_n 3, 1) := by decide +kernel
theorem dX12_layBest_94 : decode cX12_layBest 94 = .ok (.bipush 25, 2) := by decide +kernel
theorem dX12_layBest_96 : decode cX12_layBest 96 = .ok (.if_icmp .ge 187, 3) := by decide +kernel
theorem dX12_layBest_99 : decode cX12_layBest 99 = .ok (.bipush (-4), 2) := by decide +kernel
theorem dX12_layBest_101 : decode cX12_layBest 101 = .ok (.istore 4, 2) := by decide +kernel
theorem dX12_layBest_103 : decode cX12_layBest 103 = .ok (.bipush (-4), 2) := by decide +kernel
theorem dX12_layBest_105 : decode cX12_layBest 105 = .ok (.istore 5, 2) := by decide +kernel
theorem dX12_layBest_107 : decode cX12_layBest 107 = .ok (.iconst 0, 1) := by decide +kernel
theorem dX12_layBest_108 : decode cX12_layBest 108 = .ok (.istore 6, 2) := by decide +kernel
theorem dX12_layBest_110 : decode cX12_layBest 110 = .ok (.iload 6, 2) := by decide +kernel
theorem dX12_layBest_112 : decode cX12_layBest 112 = .ok (.bipush 26, 2) := by decide +kernel
theorem dX12_layBest_114 : decode cX12_layBest 114 = .ok (.if_icmp .ge 74, 3) := by decide +kernel
theorem dX12_layBest_117 : decode cX12_layBest 117 = .ok (.aload_n 0, 1) := by decide +kernel
theorem dX12_layBest_118 : decode cX12_layBest 118 = .ok (.iload 6, 2) := by decide +kernel
theorem dX12_layBest_120 : decode cX12_layBest 120 = .ok (.invokevirtual 188, 3) := by decide +kernel
theorem dX12_layBest_123 : decode cX12_layBest 123 = .ok (.bipush (-4), 2) := by decide +kernel
theorem dX12_layBest_125 : decode cX12_layBest 125 = .ok (.if_icmp .eq 16, 3) := by decide +kernel
theorem dX12_layBest_128 : decode cX12_layBest 128 = .ok (.iload_n 1, 1) := by decide +kernel
theorem dX12_layBest_129 : decode cX12_layBest 129 = .ok (.iload 6, 2) := by decide +kernel
theorem dX12_layBest_131 : decode cX12_layBest 131 = .ok (.ishr, 1) := by decide +kernel
theorem dX12_layBest_132 : decode cX12_layBest 132 = .ok (.iconst 1, 1) := by decide +kernel
theorem dX12_layBest_133 : decode cX12_layBest 133 = .ok (.iand, 1) := by decide +kernel
theorem dX12_layBest_134 : decode cX12_layBest 134 = .ok (.ifCond .ne 7, 3) := by decide +kernel
theorem dX12_layBest_137 : decode cX12_layBest 137 = .ok (.iconst 1, 1) := by decide +kernel
theorem dX12_layBest_138 : decode cX12_layBest 138 = .ok (.goto 4, 3) := by decide +kernel
theorem dX12_layBest_141 : decode cX12_layBest 141 = .ok (.iconst 0, 1) := by decide +kernel
theorem dX12_layBest_142 : decode cX12_layBest 142 = .ok (.istore 7, 2) := by decide +kernel
theorem dX12_layBest_144 : decode cX12_layBest 144 = .ok (.iload 7, 2) := by decide +kernel
theorem dX12_layBest_146 : decode cX12_layBest 146 = .ok (.ifCond .eq 32, 3) := by decide +kernel
theorem dX12_layBest_149 : decode cX12_layBest 149 = .ok (.iload 4, 2) := by decide +kernel
theorem dX12_layBest_151 : decode cX12_layBest 151 = .ok (.bipush (-4), 2) := by decide +kernel
theorem dX12_layBest_153 : decode cX12_layBest 153 = .ok (.if_icmp .eq 20, 3) := by decide +kernel
theorem dX12_layBest_156 : decode cX12_layBest 156 = .ok (.aload_n 0, 1) := by decide +kernel
theorem dX12_layBest_157 : decode cX12_layBest 157 = .ok (.getfield 55, 3) := by decide +kernel
theorem dX12_layBest_160 : decode cX12_layBest 160 = .ok (.iload 6, 2) := by decide +kernel
theorem dX12_layBest_162 : decode cX12_layBest 162 = .ok (.iaload, 1) := by decide +kernel
theorem dX12_layBest_163 : decode cX12_layBest 163 = .ok (.aload_n 0, 1) := by decide +kernel
theorem dX12_layBest_164 : decode cX12_layBest 164 = .ok (.getfield 55, 3) := by decide +kernel
theorem dX12_layBest_167 : decode cX12_layBest 167 = .ok (.iload 4, 2) := by decide +kernel
theorem dX12_layBest_169 : decode cX12_layBest 169 = .ok (.iaload, 1) := by decide +kernel
theorem dX12_layBest_170 : decode cX12_layBest 170 = .ok (.if_icmp .le 8, 3) := by decide +kernel
theorem dX12_layBest_173 : decode cX12_layBest 173 = .ok (.iload 6, 2) := by decide +kernel
theorem dX12_layBest_175 : decode cX12_layBest 175 = .ok (.goto 5, 3) := by decide +kernel
theorem dX12_layBest_178 : decode cX12_layBest 178 = .ok (.iload 4, 2) := by decide +kernel
theorem dX12_layBest_180 : decode cX12_layBest 180 = .ok (.istore 4, 2) := by decide +kernel
theorem dX12_layBest_182 : decode cX12_layBest 182 = .ok (.iinc 6 1, 3) := by decide +kernel
theorem dX12_layBest_185 : decode cX12_layBest 185 = .ok (.goto (-75), 3) := by decide +kernel
theorem dX12_layBest_188 : decode cX12_layBest 188 = .ok (.iconst 0, 1) := by decide +kernel
theorem dX12_layBest_189 : decode cX12_layBest 189 = .ok (.istore 6, 2) := by decide +kernel
theorem dX12_layBest_191 : decode cX12_layBest 191 = .ok (.iload 6, 2) := by decide +kernel
theorem dX12_layBest_193 : decode cX12_layBest 193 = .ok (.bipush 25, 2) := by decide +kernel
theorem dX12_layBest_195 : decode cX12_layBest 195 = .ok (.if_icmp .ge 59, 3) := by decide +kernel
theorem dX12_layBest_198 : decode cX12_layBest 198 = .ok (.iload_n 2, 1) := by decide +kernel
theorem dX12_layBest_199 : decode cX12_layBest 199 = .ok (.iload 6, 2) := by decide +kernel
theorem dX12_layBest_201 : decode cX12_layBest 201 = .ok (.ishr, 1) := by decide +kernel
theorem dX12_layBest_202 : decode cX12_layBest 202 = .ok (.iconst 1, 1) := by decide +kernel
theorem dX12_layBest_203 : decode cX12_layBest 203 = .ok (.iand, 1) := by decide +kernel
theorem dX12_layBest_204 : decode cX12_layBest 204 = .ok (.ifCond .ne 7, 3) := by decide +kernel
theorem dX12_layBest_207 : decode cX12_layBest 207 = .ok (.iconst 1, 1) := by decide +kernel
theorem dX12_layBest_208 : decode cX12_layBest 208 = .ok (.goto 4, 3) := by decide +kernel
theorem dX12_layBest_211 : decode cX12_layBest 211 = .ok (.iconst 0, 1) := by decide +kernel
theorem dX12_layBest_212 : decode cX12_layBest 212 = .ok (.istore 7, 2) := by decide +kernel
theorem dX12_layBest_214 : decode cX12_layBest 214 = .ok (.iload 7, 2) := by decide +kernel
theorem dX12_layBest_216 : decode cX12_layBest 216 = .ok (.ifCond .eq 28, 3) := by decide +kernel
theorem dX12_layBest_219 : decode cX12_layBest 219 = .ok (.iload 5, 2) := by decide +kernel
theorem dX12_layBest_221 : decode cX12_layBest 221 = .ok (.bipush (-4), 2) := by decide +kernel
theorem dX12_layBest_223 : decode cX12_layBest 223 = .ok (.if_icmp .eq 16, 3) := by decide +kernel
theorem dX12_layBest_226 : decode cX12_layBest 226 = .ok (.iload 6, 2) := by decide +kernel
theorem dX12_layBest_228 : decode cX12_layBest 228 = .ok (.invokestatic 191, 3) := by decide +kernel
theorem dX12_layBest_231 : decode cX12_layBest 231 = .ok (.iload 5, 2) := by decide +kernel
theorem dX12_layBest_233 : decode cX12_layBest 233 = .ok (.invokestatic 191, 3) := by decide +kernel
theorem dX12_layBest_236 : decode cX12_layBest 236 = .ok (.if_icmp .ge 8, 3) := by decide +kernel
theorem dX12_layBest_239 : decode cX12_layBest 239 = .ok (.iload 6, 2) := by decide +kernel
theorem dX12_layBest_241 : decode cX12_layBest 241 = .ok (.goto 5, 3) := by decide +kernel
theorem dX12_layBest_244 : decode cX12_layBest 244 = .ok (.iload 5, 2) := by decide +kernel
theorem dX12_layBest_246 : decode cX12_layBest 246 = .ok (.istore 5, 2) := by decide +kernel
theorem dX12_layBest_248 : decode cX12_layBest 248 = .ok (.iinc 6 1, 3) := by decide +kernel
theorem dX12_layBest_251 : decode cX12_layBest 251 = .ok (.goto (-60), 3) := by decide +kernel
theorem dX12_layBest_254 : decode cX12_layBest 254 = .ok (.iload_n 1, 1) := by decide +kernel
theorem dX12_layBest_255 : decode cX12_layBest 255 = .ok (.iconst 1, 1) := by decide +kernel
theorem dX12_layBest_256 : decode cX12_layBest 256 = .ok (.iload 4, 2) := by decide +kernel
theorem dX12_layBest_258 : decode cX12_layBest 258 = .ok (.ishl, 1) := by decide +kernel
theorem dX12_layBest_259 : decode cX12_layBest 259 = .ok (.ior, 1) := by decide +kernel
theorem dX12_layBest_260 : decode cX12_layBest 260 = .ok (.istore_n 1, 1) := by decide +kernel
theorem dX12_layBest_261 : decode cX12_layBest 261 = .ok (.iload_n 2, 1) := by decide +kernel
theorem dX12_layBest_262 : decode cX12_layBest 262 = .ok (.iconst 1, 1) := by decide +kernel
theorem dX12_layBest_263 : decode cX12_layBest 263 = .ok (.iload 5, 2) := by decide +kernel
theorem dX12_layBest_265 : decode cX12_layBest 265 = .ok (.ishl, 1) := by decide +kernel
theorem dX12_layBest_266 : decode cX12_layBest 266 = .ok (.ior, 1) := by decide +kernel
theorem dX12_layBest_267 : decode cX12_layBest 267 = .ok (.istore_n 2, 1) := by decide +kernel
theorem dX12_layBest_268 : decode cX12_layBest 268 = .ok (.aload_n 0, 1) := by decide +kernel
theorem dX12_layBest_269 : decode cX12_layBest 269 = .ok (.getfield 58, 3) := by decide +kernel
theorem dX12_layBest_272 : decode cX12_layBest 272 = .ok (.iload 5, 2) := by decide +kernel
theorem dX12_layBest_274 : decode cX12_layBest 274 = .ok (.iload 4, 2) := by decide +kernel
theorem dX12_layBest_276 : decode cX12_layBest 276 = .ok (.iastore, 1) := by decide +kernel
theorem dX12_layBest_277 : decode cX12_layBest 277 = .ok (.iinc 3 1, 3) := by decide +kernel
theorem dX12_layBest_280 : decode cX12_layBest 280 = .ok (.goto (-187), 3) := by decide +kernel
theorem dX12_layBest_283 : decode cX12_layBest 283 = .ok (.return_, 1) := by decide +kernel
theorem dX12_mean_0 : decode cX12_mean 0 = .ok (.aload_n 0, 1) := by decide +kernel
theorem dX12_mean_1 : decode cX12_mean 1 = .ok (.invokevirtual 182, 3) := by decide +kernel
theorem dX12_mean_4 : decode cX12_mean 4 = .ok (.iload_n 1, 1) := by decide +kernel
theorem dX12_mean_5 : decode cX12_mean 5 = .ok (.i2l, 1) := by decide +kernel
theorem dX12_mean_6 : decode cX12_mean 6 = .ok (.lconst 0, 1) := by decide +kernel
theorem dX12_mean_7 : decode cX12_mean 7 = .ok (.lconst 1, 1) := by decide +kernel
theorem dX12_mean_8 : decode cX12_mean 8 = .ok (.invokestatic 88, 3) := by decide +kernel
theorem dX12_mean_11 : decode cX12_mean 11 = .ok (.ifCond .ne 5, 3) := by decide +kernel
theorem dX12_mean_14 : decode cX12_mean 14 = .ok (.iconst (-1), 1) := by decide +kernel
theorem dX12_mean_15 : decode cX12_mean 15 = .ok (.ireturn, 1) := by decide +kernel
theorem dX12_mean_16 : decode cX12_mean 16 = .ok (.aload_n 0, 1) := by decide +kernel
theorem dX12_mean_17 : decode cX12_mean 17 = .ok (.invokevirtual 223, 3) := by decide +kernel
theorem dX12_mean_20 : decode cX12_mean 20 = .ok (.iconst 0, 1) := by decide +kernel
theorem dX12_mean_21 : decode cX12_mean 21 = .ok (.istore_n 2, 1) := by decide +kernel
theorem dX12_mean_22 : decode cX12_mean 22 = .ok (.iconst 0, 1) := by decide +kernel
theorem dX12_mean_23 : decode cX12_mean 23 = .ok (.istore_n 3, 1) := by decide +kernel
theorem dX12_mean_24 : decode cX12_mean 24 = .ok (.iload_n 3, 1) := by decide +kernel
theorem dX12_mean_25 : decode cX12_mean 25 = .ok (.bipush 25, 2) := by decide +kernel
theorem dX12_mean_27 : decode cX12_mean 27 = .ok (.if_icmp .ge 41, 3) := by decide +kernel
theorem dX12_mean_30 : decode cX12_mean 30 = .ok (.iload_n 2, 1) := by decide +kernel
theorem dX12_mean_31 : decode cX12_mean 31 = .ok (.aload_n 0, 1) := by decide +kernel
theorem dX12_mean_32 : decode cX12_mean 32 = .ok (.getfield 55, 3) := by decide +kernel
theorem dX12_mean_35 : decode cX12_mean 35 = .ok (.iload_n 1, 1) := by decide +kernel
theorem dX12_mean_36 : decode cX12_mean 36 = .ok (.ifCond .ne 12, 3) := by decide +kernel
theorem dX12_mean_39 : decode cX12_mean 39 = .ok (.aload_n 0, 1) := by decide +kernel
theorem dX12_mean_40 : decode cX12_mean 40 = .ok (.getfield 49, 3) := by decide +kernel
theorem dX12_mean_43 : decode cX12_mean 43 = .ok (.iload_n 3, 1) := by decide +kernel
theorem dX12_mean_44 : decode cX12_mean 44 = .ok (.iaload, 1) := by decide +kernel
theorem dX12_mean_45 : decode cX12_mean 45 = .ok (.goto 9, 3) := by decide +kernel
theorem dX12_mean_48 : decode cX12_mean 48 = .ok (.aload_n 0, 1) := by decide +kernel
theorem dX12_mean_49 : decode cX12_mean 49 = .ok (.getfield 58, 3) := by decide +kernel
theorem dX12_mean_52 : decode cX12_mean 52 = .ok (.iload_n 3, 1) := by decide +kernel
theorem dX12_mean_53 : decode cX12_mean 53 = .ok (.iaload, 1) := by decide +kernel
theorem dX12_mean_54 : decode cX12_mean 54 = .ok (.iaload, 1) := by decide +kernel
theorem dX12_mean_55 : decode cX12_mean 55 = .ok (.iload_n 3, 1) := by decide +kernel
theorem dX12_mean_56 : decode cX12_mean 56 = .ok (.invokestatic 191, 3) := by decide +kernel
theorem dX12_mean_59 : decode cX12_mean 59 = .ok (.imul, 1) := by decide +kernel
theorem dX12_mean_60 : decode cX12_mean 60 = .ok (.iadd, 1) := by decide +kernel
theorem dX12_mean_61 : decode cX12_mean 61 = .ok (.istore_n 2, 1) := by decide +kernel
theorem dX12_mean_62 : decode cX12_mean 62 = .ok (.iinc 3 1, 3) := by decide +kernel
theorem dX12_mean_65 : decode cX12_mean 65 = .ok (.goto (-41), 3) := by decide +kernel
theorem dX12_mean_68 : decode cX12_mean 68 = .ok (.iload_n 2, 1) := by decide +kernel
theorem dX12_mean_69 : decode cX12_mean 69 = .ok (.ireturn, 1) := by decide +kernel
theorem dX12_best_0 : decode cX12_best 0 = .ok (.aload_n 0, 1) := by decide +kernel
theorem dX12_best_1 : decode cX12_best 1 = .ok (.invokevirtual 182, 3) := by decide +kernel
theorem dX12_best_4 : decode cX12_best 4 = .ok (.iload_n 1, 1) := by decide +kernel
theorem dX12_best_5 : decode cX12_best 5 = .ok (.invokestatic 185, 3) := by decide +kernel
theorem dX12_best_8 : decode cX12_best 8 = .ok (.ifCond .ne 5, 3) := by decide +kernel
theorem dX12_best_11 : decode cX12_best 11 = .ok (.iconst (-1), 1) := by decide +kernel
theorem dX12_best_12 : decode cX12_best 12 = .ok (.ireturn, 1) := by decide +kernel
theorem dX12_best_13 : decode cX12_best 13 = .ok (.aload_n 0, 1) := by decide +kernel
theorem dX12_best_14 : decode cX12_best 14 = .ok (.invokevirtual 223, 3) := by decide +kernel
theorem dX12_best_17 : decode cX12_best 17 = .ok (.aload_n 0, 1) := by decide +kernel
theorem dX12_best_18 : decode cX12_best 18 = .ok (.getfield 58, 3) := by decide +kernel
theorem dX12_best_21 : decode cX12_best 21 = .ok (.iload_n 1, 1) := by decide +kernel
theorem dX12_best_22 : decode cX12_best 22 = .ok (.iaload, 1) := by decide +kernel
theorem dX12_best_23 : decode cX12_best 23 = .ok (.bipush 97, 2) := by decide +kernel
theorem dX12_best_25 : decode cX12_best 25 = .ok (.iadd, 1) := by decide +kernel
theorem dX12_best_26 : decode cX12_best 26 = .ok (.ireturn, 1) := by decide +kernel
theorem dX12_adopt_0 : decode cX12_adopt 0 = .ok (.aload_n 0, 1) := by decide +kernel
theorem dX12_adopt_1 : decode cX12_adopt 1 = .ok (.invokevirtual 182, 3) := by decide +kernel
theorem dX12_adopt_4 : decode cX12_adopt 4 = .ok (.aload_n 0, 1) := by decide +kernel
theorem dX12_adopt_5 : decode cX12_adopt 5 = .ok (.invokevirtual 223, 3) := by decide +kernel
theorem dX12_adopt_8 : decode cX12_adopt 8 = .ok (.iconst 0, 1) := by decide +kernel
theorem dX12_adopt_9 : decode cX12_adopt 9 = .ok (.istore_n 1, 1) := by decide +kernel
theorem dX12_adopt_10 : decode cX12_adopt 10 = .ok (.iconst 0, 1) := by decide +kernel
theorem dX12_adopt_11 : decode cX12_adopt 11 = .ok (.istore_n 2, 1) := by decide +kernel
theorem dX12_adopt_12 : decode cX12_adopt 12 = .ok (.iload_n 2, 1) := by decide +kernel
theorem dX12_adopt_13 : decode cX12_adopt 13 = .ok (.bipush 25, 2) := by decide +kernel
theorem dX12_adopt_15 : decode cX12_adopt 15 = .ok (.if_icmp .ge 44, 3) := by decide +kernel
theorem dX12_adopt_18 : decode cX12_adopt 18 = .ok (.iload_n 1, 1) := by decide +kernel
theorem dX12_adopt_19 : decode cX12_adopt 19 = .ok (.aload_n 0, 1) := by decide +kernel
theorem dX12_adopt_20 : decode cX12_adopt 20 = .ok (.getfield 49, 3) := by decide +kernel
theorem dX12_adopt_23 : decode cX12_adopt 23 = .ok (.iload_n 2, 1) := by decide +kernel
theorem dX12_adopt_24 : decode cX12_adopt 24 = .ok (.iaload, 1) := by decide +kernel
theorem dX12_adopt_25 : decode cX12_adopt 25 = .ok (.aload_n 0, 1) := by decide +kernel
theorem dX12_adopt_26 : decode cX12_adopt 26 = .ok (.getfield 58, 3) := by decide +kernel
theorem dX12_adopt_29 : decode cX12_adopt 29 = .ok (.iload_n 2, 1) := by decide +kernel
theorem dX12_adopt_30 : decode cX12_adopt 30 = .ok (.iaload, 1) := by decide +kernel
theorem dX12_adopt_31 : decode cX12_adopt 31 = .ok (.if_icmp .ne 7, 3) := by decide +kernel
theorem dX12_adopt_34 : decode cX12_adopt 34 = .ok (.iconst 0, 1) := by decide +kernel
theorem dX12_adopt_35 : decode cX12_adopt 35 = .ok (.goto 4, 3) := by decide +kernel
theorem dX12_adopt_38 : decode cX12_adopt 38 = .ok (.iconst 1, 1) := by decide +kernel
theorem dX12_adopt_39 : decode cX12_adopt 39 = .ok (.iadd, 1) := by decide +kernel
theorem dX12_adopt_40 : decode cX12_adopt 40 = .ok (.istore_n 1, 1) := by decide +kernel
theorem dX12_adopt_41 : decode cX12_adopt 41 = .ok (.aload_n 0, 1) := by decide +kernel
theorem dX12_adopt_42 : decode cX12_adopt 42 = .ok (.getfield 49, 3) := by decide +kernel
theorem dX12_adopt_45 : decode cX12_adopt 45 = .ok (.iload_n 2, 1) := by decide +kernel
theorem dX12_adopt_46 : decode cX12_adopt 46 = .ok (.aload_n 0, 1) := by decide +kernel
theorem dX12_adopt_47 : decode cX12_adopt 47 = .ok (.getfield 58, 3) := by decide +kernel
theorem dX12_adopt_50 : decode cX12_adopt 50 = .ok (.iload_n 2, 1) := by decide +kernel
theorem dX12_adopt_51 : decode cX12_adopt 51 = .ok (.iaload, 1) := by decide +kernel
theorem dX12_adopt_52 : decode cX12_adopt 52 = .ok (.iastore, 1) := by decide +kernel
theorem dX12_adopt_53 : decode cX12_adopt 53 = .ok (.iinc 2 1, 3) := by decide +kernel
theorem dX12_adopt_56 : decode cX12_adopt 56 = .ok (.goto (-44), 3) := by decide +kernel
theorem dX12_adopt_59 : decode cX12_adopt 59 = .ok (.iload_n 1, 1) := by decide +kernel
theorem dX12_adopt_60 : decode cX12_adopt 60 = .ok (.ireturn, 1) := by decide +kernel
theorem dX12_isCount_0 : decode cX12_isCount 0 = .ok (.iload_n 0, 1) := by decide +kernel
theorem dX12_isCount_1 : decode cX12_isCount 1 = .ok (.i2l, 1) := by decide +kernel
theorem dX12_isCount_2 : decode cX12_isCount 2 = .ok (.lconst 0, 1) := by decide +kernel
theorem dX12_isCount_3 : decode cX12_isCount 3 = .ok (.ldc2_w 217, 3) := by decide +kernel
theorem dX12_isCount_6 : decode cX12_isCount 6 = .ok (.invokestatic 88, 3) := by decide +kernel
theorem dX12_isCount_9 : decode cX12_isCount 9 = .ok (.ireturn, 1) := by decide +kernel
theorem dX12_hear_0 : decode cX12_hear 0 = .ok (.aload_n 0, 1) := by decide +kernel
theorem dX12_hear_1 : decode cX12_hear 1 = .ok (.invokevirtual 182, 3) := by decide +kernel
theorem dX12_hear_4 : decode cX12_hear 4 = .ok (.iload_n 1, 1) := by decide +kernel
theorem dX12_hear_5 : decode cX12_hear 5 = .ok (.invokestatic 226, 3) := by decide +kernel
theorem dX12_hear_8 : decode cX12_hear 8 = .ok (.ifCond .ne 5, 3) := by decide +kernel
theorem dX12_hear_11 : decode cX12_hear 11 = .ok (.iconst (-1), 1) := by decide +kernel
theorem dX12_hear_12 : decode cX12_hear 12 = .ok (.ireturn, 1) := by decide +kernel
theorem dX12_hear_13 : decode cX12_hear 13 = .ok (.aload_n 0, 1) := by decide +kernel
theorem dX12_hear_14 : decode cX12_hear 14 = .ok (.getfield 49, 3) := by decide +kernel
theorem dX12_hear_17 : decode cX12_hear 17 = .ok (.bipush 49, 2) := by decide +kernel
theorem dX12_hear_19 : decode cX12_hear 19 = .ok (.iaload, 1) := by decide +kernel
theorem dX12_hear_20 : decode cX12_hear 20 = .ok (.bipush 24, 2) := by decide +kernel
theorem dX12_hear_22 : decode cX12_hear 22 = .ok (.if_icmp .ne 6, 3) := by decide +kernel
theorem dX12_hear_25 : decode cX12_hear 25 = .ok (.bipush (-3), 2) := by decide +kernel
theorem dX12_hear_27 : decode cX12_hear 27 = .ok (.ireturn, 1) := by decide +kernel
theorem dX12_hear_28 : decode cX12_hear 28 = .ok (.aload_n 0, 1) := by decide +kernel
theorem dX12_hear_29 : decode cX12_hear 29 = .ok (.getfield 49, 3) := by decide +kernel
theorem dX12_hear_32 : decode cX12_hear 32 = .ok (.bipush 25, 2) := by decide +kernel
theorem dX12_hear_34 : decode cX12_hear 34 = .ok (.aload_n 0, 1) := by decide +kernel
theorem dX12_hear_35 : decode cX12_hear 35 = .ok (.getfield 49, 3) := by decide +kernel
theorem dX12_hear_38 : decode cX12_hear 38 = .ok (.bipush 49, 2) := by decide +kernel
theorem dX12_hear_40 : decode cX12_hear 40 = .ok (.iaload, 1) := by decide +kernel
theorem dX12_hear_41 : decode cX12_hear 41 = .ok (.iadd, 1) := by decide +kernel
theorem dX12_hear_42 : decode cX12_hear 42 = .ok (.iload_n 1, 1) := by decide +kernel
theorem dX12_hear_43 : decode cX12_hear 43 = .ok (.iastore, 1) := by decide +kernel
theorem dX12_hear_44 : decode cX12_hear 44 = .ok (.aload_n 0, 1) := by decide +kernel
theorem dX12_hear_45 : decode cX12_hear 45 = .ok (.getfield 49, 3) := by decide +kernel
theorem dX12_hear_48 : decode cX12_hear 48 = .ok (.bipush 49, 2) := by decide +kernel
theorem dX12_hear_50 : decode cX12_hear 50 = .ok (.dup2, 1) := by decide +kernel
theorem dX12_hear_51 : decode cX12_hear 51 = .ok (.iaload, 1) := by decide +kernel
theorem dX12_hear_52 : decode cX12_hear 52 = .ok (.iconst 1, 1) := by decide +kernel
theorem dX12_hear_53 : decode cX12_hear 53 = .ok (.iadd, 1) := by decide +kernel
theorem dX12_hear_54 : decode cX12_hear 54 = .ok (.iastore, 1) := by decide +kernel
theorem dX12_hear_55 : decode cX12_hear 55 = .ok (.aload_n 0, 1) := by decide +kernel
theorem dX12_hear_56 : decode cX12_hear 56 = .ok (.getfield 49, 3) := by decide +kernel
theorem dX12_hear_59 : decode cX12_hear 59 = .ok (.bipush 49, 2) := by decide +kernel
theorem dX12_hear_61 : decode cX12_hear 61 = .ok (.iaload, 1) := by decide +kernel
theorem dX12_hear_62 : decode cX12_hear 62 = .ok (.ireturn, 1) := by decide +kernel
theorem dX12_hush_0 : decode cX12_hush 0 = .ok (.aload_n 0, 1) := by decide +kernel
theorem dX12_hush_1 : decode cX12_hush 1 = .ok (.getfield 49, 3) := by decide +kernel
theorem dX12_hush_4 : decode cX12_hush 4 = .ok (.bipush 49, 2) := by decide +kernel
theorem dX12_hush_6 : decode cX12_hush 6 = .ok (.iaload, 1) := by decide +kernel
theorem dX12_hush_7 : decode cX12_hush 7 = .ok (.istore_n 1, 1) := by decide +kernel
theorem dX12_hush_8 : decode cX12_hush 8 = .ok (.aload_n 0, 1) := by decide +kernel
theorem dX12_hush_9 : decode cX12_hush 9 = .ok (.getfield 49, 3) := by decide +kernel
theorem dX12_hush_12 : decode cX12_hush 12 = .ok (.bipush 49, 2) := by decide +kernel
theorem dX12_hush_14 : decode cX12_hush 14 = .ok (.iconst 0, 1) := by decide +kernel
theorem dX12_hush_15 : decode cX12_hush 15 = .ok (.iastore, 1) := by decide +kernel
theorem dX12_hush_16 : decode cX12_hush 16 = .ok (.iload_n 1, 1) := by decide +kernel
theorem dX12_hush_17 : decode cX12_hush 17 = .ok (.ireturn, 1) := by decide +kernel
theorem dX12_heard_0 : decode cX12_heard 0 = .ok (.iload_n 1, 1) := by decide +kernel
theorem dX12_heard_1 : decode cX12_heard 1 = .ok (.i2l, 1) := by decide +kernel
theorem dX12_heard_2 : decode cX12_heard 2 = .ok (.lconst 0, 1) := by decide +kernel
theorem dX12_heard_3 : decode cX12_heard 3 = .ok (.aload_n 0, 1) := by decide +kernel
theorem dX12_heard_4 : decode cX12_heard 4 = .ok (.getfield 49, 3) := by decide +kernel
theorem dX12_heard_7 : decode cX12_heard 7 = .ok (.bipush 49, 2) := by decide +kernel
theorem dX12_heard_9 : decode cX12_heard 9 = .ok (.iaload, 1) := by decide +kernel
theorem dX12_heard_10 : decode cX12_heard 10 = .ok (.iconst 1, 1) := by decide +kernel
theorem dX12_heard_11 : decode cX12_heard 11 = .ok (.isub, 1) := by decide +kernel
theorem dX12_heard_12 : decode cX12_heard 12 = .ok (.i2l, 1) := by decide +kernel
theorem dX12_heard_13 : decode cX12_heard 13 = .ok (.invokestatic 88, 3) := by decide +kernel
theorem dX12_heard_16 : decode cX12_heard 16 = .ok (.ifCond .eq 15, 3) := by decide +kernel
theorem dX12_heard_19 : decode cX12_heard 19 = .ok (.aload_n 0, 1) := by decide +kernel
theorem dX12_heard_20 : decode cX12_heard 20 = .ok (.getfield 49, 3) := by decide +kernel
theorem dX12_heard_23 : decode cX12_heard 23 = .ok (.bipush 25, 2) := by decide +kernel
theorem dX12_heard_25 : decode cX12_heard 25 = .ok (.iload_n 1, 1) := by decide +kernel
theorem dX12_heard_26 : decode cX12_heard 26 = .ok (.iadd, 1) := by decide +kernel
theorem dX12_heard_27 : decode cX12_heard 27 = .ok (.iaload, 1) := by decide +kernel
theorem dX12_heard_28 : decode cX12_heard 28 = .ok (.goto 4, 3) := by decide +kernel
theorem dX12_heard_31 : decode cX12_heard 31 = .ok (.iconst (-1), 1) := by decide +kernel
theorem dX12_heard_32 : decode cX12_heard 32 = .ok (.ireturn, 1) := by decide +kernel
theorem dX12_hears_0 : decode cX12_hears 0 = .ok (.iload_n 2, 1) := by decide +kernel
theorem dX12_hears_1 : decode cX12_hears 1 = .ok (.iload_n 1, 1) := by decide +kernel
theorem dX12_hears_2 : decode cX12_hears 2 = .ok (.if_icmp .ne 22, 3) := by decide +kernel
theorem dX12_hears_5 : decode cX12_hears 5 = .ok (.bipush 20, 2) := by decide +kernel
theorem dX12_hears_7 : decode cX12_hears 7 = .ok (.aload_n 0, 1) := by decide +kernel
theorem dX12_hears_8 : decode cX12_hears 8 = .ok (.getfield 22, 3) := by decide +kernel
theorem dX12_hears_11 : decode cX12_hears 11 = .ok (.iconst 0, 1) := by decide +kernel
theorem dX12_hears_12 : decode cX12_hears 12 = .ok (.iaload, 1) := by decide +kernel
theorem dX12_hears_13 : decode cX12_hears 13 = .ok (.isub, 1) := by decide +kernel
theorem dX12_hears_14 : decode cX12_hears 14 = .ok (.aload_n 0, 1) := by decide +kernel
theorem dX12_hears_15 : decode cX12_hears 15 = .ok (.getfield 22, 3) := by decide +kernel
theorem dX12_hears_18 : decode cX12_hears 18 = .ok (.iconst 1, 1) := by decide +kernel
theorem dX12_hears_19 : decode cX12_hears 19 = .ok (.iaload, 1) := by decide +kernel
theorem dX12_hears_20 : decode cX12_hears 20 = .ok (.isub, 1) := by decide +kernel
theorem dX12_hears_21 : decode cX12_hears 21 = .ok (.goto 36, 3) := by decide +kernel
theorem dX12_hears_24 : decode cX12_hears 24 = .ok (.iload_n 2, 1) := by decide +kernel
theorem dX12_hears_25 : decode cX12_hears 25 = .ok (.iload_n 1, 1) := by decide +kernel
theorem dX12_hears_26 : decode cX12_hears 26 = .ok (.iconst 1, 1) := by decide +kernel
theorem dX12_hears_27 : decode cX12_hears 27 = .ok (.isub, 1) := by decide +kernel
theorem dX12_hears_28 : decode cX12_hears 28 = .ok (.if_icmp .ne 12, 3) := by decide +kernel
theorem dX12_hears_31 : decode cX12_hears 31 = .ok (.aload_n 0, 1) := by decide +kernel
theorem dX12_hears_32 : decode cX12_hears 32 = .ok (.getfield 22, 3) := by decide +kernel
theorem dX12_hears_35 : decode cX12_hears 35 = .ok (.iconst 0, 1) := by decide +kernel
theorem dX12_hears_36 : decode cX12_hears 36 = .ok (.iaload, 1) := by decide +kernel
theorem dX12_hears_37 : decode cX12_hears 37 = .ok (.goto 20, 3) := by decide +kernel
theorem dX12_hears_40 : decode cX12_hears 40 = .ok (.iload_n 2, 1) := by decide +kernel
theorem dX12_hears_41 : decode cX12_hears 41 = .ok (.iload_n 1, 1) := by decide +kernel
theorem dX12_hears_42 : decode cX12_hears 42 = .ok (.iconst 1, 1) := by decide +kernel
theorem dX12_hears_43 : decode cX12_hears 43 = .ok (.iadd, 1) := by decide +kernel
theorem dX12_hears_44 : decode cX12_hears 44 = .ok (.if_icmp .ne 12, 3) := by decide +kernel
theorem dX12_hears_47 : decode cX12_hears 47 = .ok (.aload_n 0, 1) := by decide +kernel
theorem dX12_hears_48 : decode cX12_hears 48 = .ok (.getfield 22, 3) := by decide +kernel
theorem dX12_hears_51 : decode cX12_hears 51 = .ok (.iconst 1, 1) := by decide +kernel
theorem dX12_hears_52 : decode cX12_hears 52 = .ok (.iaload, 1) := by decide +kernel
theorem dX12_hears_53 : decode cX12_hears 53 = .ok (.goto 4, 3) := by decide +kernel
theorem dX12_hears_56 : decode cX12_hears 56 = .ok (.iconst 0, 1) := by decide +kernel
theorem dX12_hears_57 : decode cX12_hears 57 = .ok (.ireturn, 1) := by decide +kernel
theorem dX12_countOf_0 : decode cX12_countOf 0 = .ok (.aload_n 0, 1) := by decide +kernel
theorem dX12_countOf_1 : decode cX12_countOf 1 = .ok (.aload_n 0, 1) := by decide +kernel
theorem dX12_countOf_2 : decode cX12_countOf 2 = .ok (.getfield 25, 3) := by decide +kernel
theorem dX12_countOf_5 : decode cX12_countOf 5 = .ok (.bipush 10, 2) := by decide +kernel
theorem dX12_countOf_7 : decode cX12_countOf 7 = .ok (.iload_n 1, 1) := by decide +kernel
theorem dX12_countOf_8 : decode cX12_countOf 8 = .ok (.imul, 1) := by decide +kernel
theorem dX12_countOf_9 : decode cX12_countOf 9 = .ok (.iload_n 2, 1) := by decide +kernel
theorem dX12_countOf_10 : decode cX12_countOf 10 = .ok (.iconst 2, 1) := by decide +kernel
theorem dX12_countOf_11 : decode cX12_countOf 11 = .ok (.idiv, 1) := by decide +kernel
theorem dX12_countOf_12 : decode cX12_countOf 12 = .ok (.iadd, 1) := by decide +kernel
theorem dX12_countOf_13 : decode cX12_countOf 13 = .ok (.iaload, 1) := by decide +kernel
theorem dX12_countOf_14 : decode cX12_countOf 14 = .ok (.invokevirtual 188, 3) := by decide +kernel
theorem dX12_countOf_17 : decode cX12_countOf 17 = .ok (.istore_n 3, 1) := by decide +kernel
theorem dX12_countOf_18 : decode cX12_countOf 18 = .ok (.iload_n 2, 1) := by decide +kernel
theorem dX12_countOf_19 : decode cX12_countOf 19 = .ok (.iconst 2, 1) := by decide +kernel
theorem dX12_countOf_20 : decode cX12_countOf 20 = .ok (.irem, 1) := by decide +kernel
theorem dX12_countOf_21 : decode cX12_countOf 21 = .ok (.ifCond .ne 11, 3) := by decide +kernel
theorem dX12_countOf_24 : decode cX12_countOf 24 = .ok (.iload_n 3, 1) := by decide +kernel
theorem dX12_countOf_25 : decode cX12_countOf 25 = .ok (.iconst 5, 1) := by decide +kernel
theorem dX12_countOf_26 : decode cX12_countOf 26 = .ok (.idiv, 1) := by decide +kernel
theorem dX12_countOf_27 : decode cX12_countOf 27 = .ok (.iconst 1, 1) := by decide +kernel
theorem dX12_countOf_28 : decode cX12_countOf 28 = .ok (.iadd, 1) := by decide +kernel
theorem dX12_countOf_29 : decode cX12_countOf 29 = .ok (.goto 8, 3) := by decide +kernel
theorem dX12_countOf_32 : decode cX12_countOf 32 = .ok (.iload_n 3, 1) := by decide +kernel
theorem dX12_countOf_33 : decode cX12_countOf 33 = .ok (.iconst 5, 1) := by decide +kernel
theorem dX12_countOf_34 : decode cX12_countOf 34 = .ok (.irem, 1) := by decide +kernel
theorem dX12_countOf_35 : decode cX12_countOf 35 = .ok (.iconst 1, 1) := by decide +kernel
theorem dX12_countOf_36 : decode cX12_countOf 36 = .ok (.iadd, 1) := by decide +kernel
theorem dX12_countOf_37 : decode cX12_countOf 37 = .ok (.ireturn, 1) := by decide +kernel
theorem dX12_chanceOf_0 : decode cX12_chanceOf 0 = .ok (.iconst 2, 1) := by decide +kernel
theorem dX12_chanceOf_1 : decode cX12_chanceOf 1 = .ok (.aload_n 0, 1) := by decide +kernel
theorem dX12_chanceOf_2 : decode cX12_chanceOf 2 = .ok (.iload_n 1, 1) := by decide +kernel
theorem dX12_chanceOf_3 : decode cX12_chanceOf 3 = .ok (.invokevirtual 194, 3) := by decide +kernel
theorem dX12_chanceOf_6 : decode cX12_chanceOf 6 = .ok (.imul, 1) := by decide +kernel
theorem dX12_chanceOf_7 : decode cX12_chanceOf 7 = .ok (.aload_n 0, 1) := by decide +kernel
theorem dX12_chanceOf_8 : decode cX12_chanceOf 8 = .ok (.getfield 49, 3) := by decide +kernel
theorem dX12_chanceOf_11 : decode cX12_chanceOf 11 = .ok (.bipush 49, 2) := by decide +kernel
theorem dX12_chanceOf_13 : decode cX12_chanceOf 13 = .ok (.iaload, 1) := by decide +kernel
theorem dX12_chanceOf_14 : decode cX12_chanceOf 14 = .ok (.if_icmp .eq 5, 3) := by decide +kernel
theorem dX12_chanceOf_17 : decode cX12_chanceOf 17 = .ok (.lconst 0, 1) := by decide +kernel
theorem dX12_chanceOf_18 : decode cX12_chanceOf 18 = .ok (.lreturn, 1) := by decide +kernel
theorem dX12_chanceOf_19 : decode cX12_chanceOf 19 = .ok (.aload_n 0, 1) := by decide +kernel
theorem dX12_chanceOf_20 : decode cX12_chanceOf 20 = .ok (.getfield 25, 3) := by decide +kernel
theorem dX12_chanceOf_23 : decode cX12_chanceOf 23 = .ok (.bipush 10, 2) := by decide +kernel
theorem dX12_chanceOf_25 : decode cX12_chanceOf 25 = .ok (.iload_n 1, 1) := by decide +kernel
theorem dX12_chanceOf_26 : decode cX12_chanceOf 26 = .ok (.imul, 1) := by decide +kernel
theorem dX12_chanceOf_27 : decode cX12_chanceOf 27 = .ok (.bipush 9, 2) := by decide +kernel
theorem dX12_chanceOf_29 : decode cX12_chanceOf 29 = .ok (.iadd, 1) := by decide +kernel
theorem dX12_chanceOf_30 : decode cX12_chanceOf 30 = .ok (.iaload, 1) := by decide +kernel
theorem dX12_chanceOf_31 : decode cX12_chanceOf 31 = .ok (.i2l, 1) := by decide +kernel
theorem dX12_chanceOf_32 : decode cX12_chanceOf 32 = .ok (.lstore_n 2, 1) := by decide +kernel
theorem dX12_chanceOf_33 : decode cX12_chanceOf 33 = .ok (.iconst 0, 1) := by decide +kernel
theorem dX12_chanceOf_34 : decode cX12_chanceOf 34 = .ok (.istore 4, 2) := by decide +kernel
theorem dX12_chanceOf_36 : decode cX12_chanceOf 36 = .ok (.iload 4, 2) := by decide +kernel
theorem dX12_chanceOf_38 : decode cX12_chanceOf 38 = .ok (.aload_n 0, 1) := by decide +kernel
theorem dX12_chanceOf_39 : decode cX12_chanceOf 39 = .ok (.getfield 49, 3) := by decide +kernel
theorem dX12_chanceOf_42 : decode cX12_chanceOf 42 = .ok (.bipush 49, 2) := by decide +kernel
theorem dX12_chanceOf_44 : decode cX12_chanceOf 44 = .ok (.iaload, 1) := by decide +kernel
theorem dX12_chanceOf_45 : decode cX12_chanceOf 45 = .ok (.if_icmp .ge 34, 3) := by decide +kernel
theorem dX12_chanceOf_48 : decode cX12_chanceOf 48 = .ok (.lload_n 2, 1) := by decide +kernel
theorem dX12_chanceOf_49 : decode cX12_chanceOf 49 = .ok (.aload_n 0, 1) := by decide +kernel
theorem dX12_chanceOf_50 : decode cX12_chanceOf 50 = .ok (.aload_n 0, 1) := by decide +kernel
theorem dX12_chanceOf_51 : decode cX12_chanceOf 51 = .ok (.iload_n 1, 1) := by decide +kernel
theorem dX12_chanceOf_52 : decode cX12_chanceOf 52 = .ok (.iload 4, 2) := by decide +kernel
theorem dX12_chanceOf_54 : decode cX12_chanceOf 54 = .ok (.invokevirtual 229, 3) := by decide +kernel
theorem dX12_chanceOf_57 : decode cX12_chanceOf 57 = .ok (.aload_n 0, 1) := by decide +kernel
theorem dX12_chanceOf_58 : decode cX12_chanceOf 58 = .ok (.getfield 49, 3) := by decide +kernel
theorem dX12_chanceOf_61 : decode cX12_chanceOf 61 = .ok (.bipush 25, 2) := by decide +kernel
theorem dX12_chanceOf_63 : decode cX12_chanceOf 63 = .ok (.iload 4, 2) := by decide +kernel
theorem dX12_chanceOf_65 : decode cX12_chanceOf 65 = .ok (.iadd, 1) := by decide +kernel
theorem dX12_chanceOf_66 : decode cX12_chanceOf 66 = .ok (.iaload, 1) := by decide +kernel
theorem dX12_chanceOf_67 : decode cX12_chanceOf 67 = .ok (.invokevirtual 232, 3) := by decide +kernel
theorem dX12_chanceOf_70 : decode cX12_chanceOf 70 = .ok (.i2l, 1) := by decide +kernel
theorem dX12_chanceOf_71 : decode cX12_chanceOf 71 = .ok (.lmul, 1) := by decide +kernel
theorem dX12_chanceOf_72 : decode cX12_chanceOf 72 = .ok (.lstore_n 2, 1) := by decide +kernel
theorem dX12_chanceOf_73 : decode cX12_chanceOf 73 = .ok (.iinc 4 1, 3) := by decide +kernel
theorem dX12_chanceOf_76 : decode cX12_chanceOf 76 = .ok (.goto (-40), 3) := by decide +kernel
theorem dX12_chanceOf_79 : decode cX12_chanceOf 79 = .ok (.lload_n 2, 1) := by decide +kernel
theorem dX12_chanceOf_80 : decode cX12_chanceOf 80 = .ok (.lreturn, 1) := by decide +kernel
theorem dX12_allChances_0 : decode cX12_allChances 0 = .ok (.lconst 0, 1) := by decide +kernel
theorem dX12_allChances_1 : decode cX12_allChances 1 = .ok (.lstore_n 1, 1) := by decide +kernel
theorem dX12_allChances_2 : decode cX12_allChances 2 = .ok (.iconst 0, 1) := by decide +kernel
theorem dX12_allChances_3 : decode cX12_allChances 3 = .ok (.istore_n 3, 1) := by decide +kernel
theorem dX12_allChances_4 : decode cX12_allChances 4 = .ok (.iload_n 3, 1) := by decide +kernel
theorem dX12_allChances_5 : decode cX12_allChances 5 = .ok (.aload_n 0, 1) := by decide +kernel
theorem dX12_allChances_6 : decode cX12_allChances 6 = .ok (.getfield 22, 3) := by decide +kernel
theorem dX12_allChances_9 : decode cX12_allChances 9 = .ok (.iconst 5, 1) := by decide +kernel
theorem dX12_allChances_10 : decode cX12_allChances 10 = .ok (.iaload, 1) := by decide +kernel
theorem dX12_allChances_11 : decode cX12_allChances 11 = .ok (.if_icmp .ge 17, 3) := by decide +kernel
theorem dX12_allChances_14 : decode cX12_allChances 14 = .ok (.lload_n 1, 1) := by decide +kernel
theorem dX12_allChances_15 : decode cX12_allChances 15 = .ok (.aload_n 0, 1) := by decide +kernel
theorem dX12_allChances_16 : decode cX12_allChances 16 = .ok (.iload_n 3, 1) := by decide +kernel
theorem dX12_allChances_17 : decode cX12_allChances 17 = .ok (.invokevirtual 235, 3) := by decide +kernel
theorem dX12_allChances_20 : decode cX12_allChances 20 = .ok (.ladd, 1) := by decide +kernel
theorem dX12_allChances_21 : decode cX12_allChances 21 = .ok (.lstore_n 1, 1) := by decide +kernel
theorem dX12_allChances_22 : decode cX12_allChances 22 = .ok (.iinc 3 1, 3) := by decide +kernel
theorem dX12_allChances_25 : decode cX12_allChances 25 = .ok (.goto (-21), 3) := by decide +kernel
theorem dX12_allChances_28 : decode cX12_allChances 28 = .ok (.lload_n 1, 1) := by decide +kernel
theorem dX12_allChances_29 : decode cX12_allChances 29 = .ok (.lreturn, 1) := by decide +kernel
theorem dX12_isHeard_0 : decode cX12_isHeard 0 = .ok (.aload_n 0, 1) := by decide +kernel
theorem dX12_isHeard_1 : decode cX12_isHeard 1 = .ok (.getfield 49, 3) := by decide +kernel
theorem dX12_isHeard_4 : decode cX12_isHeard 4 = .ok (.bipush 49, 2) := by decide +kernel
theorem dX12_isHeard_6 : decode cX12_isHeard 6 = .ok (.iaload, 1) := by decide +kernel
theorem dX12_isHeard_7 : decode cX12_isHeard 7 = .ok (.iconst 2, 1) := by decide +kernel
theorem dX12_isHeard_8 : decode cX12_isHeard 8 = .ok (.irem, 1) := by decide +kernel
theorem dX12_isHeard_9 : decode cX12_isHeard 9 = .ok (.ifCond .ne 25, 3) := by decide +kernel
theorem dX12_isHeard_12 : decode cX12_isHeard 12 = .ok (.aload_n 0, 1) := by decide +kernel
theorem dX12_isHeard_13 : decode cX12_isHeard 13 = .ok (.getfield 49, 3) := by decide +kernel
theorem dX12_isHeard_16 : decode cX12_isHeard 16 = .ok (.bipush 49, 2) := by decide +kernel
theorem dX12_isHeard_18 : decode cX12_isHeard 18 = .ok (.iaload, 1) := by decide +kernel
theorem dX12_isHeard_19 : decode cX12_isHeard 19 = .ok (.i2l, 1) := by decide +kernel
theorem dX12_isHeard_20 : decode cX12_isHeard 20 = .ok (.lconst 1, 1) := by decide +kernel
theorem dX12_isHeard_21 : decode cX12_isHeard 21 = .ok (.ldc2_w 239, 3) := by decide +kernel
theorem dX12_isHeard_24 : decode cX12_isHeard 24 = .ok (.invokestatic 88, 3) := by decide +kernel
theorem dX12_isHeard_27 : decode cX12_isHeard 27 = .ok (.ifCond .eq 7, 3) := by decide +kernel
theorem dX12_isHeard_30 : decode cX12_isHeard 30 = .ok (.iconst 1, 1) := by decide +kernel
theorem dX12_isHeard_31 : decode cX12_isHeard 31 = .ok (.goto 4, 3) := by decide +kernel
theorem dX12_isHeard_34 : decode cX12_isHeard 34 = .ok (.iconst 0, 1) := by decide +kernel
theorem dX12_isHeard_35 : decode cX12_isHeard 35 = .ok (.ireturn, 1) := by decide +kernel
theorem dX12_chance_0 : decode cX12_chance 0 = .ok (.aload_n 0, 1) := by decide +kernel
theorem dX12_chance_1 : decode cX12_chance 1 = .ok (.invokevirtual 182, 3) := by decide +kernel
theorem dX12_chance_4 : decode cX12_chance 4 = .ok (.aload_n 0, 1) := by decide +kernel
theorem dX12_chance_5 : decode cX12_chance 5 = .ok (.iload_n 1, 1) := by decide +kernel
theorem dX12_chance_6 : decode cX12_chance 6 = .ok (.invokevirtual 200, 3) := by decide +kernel
theorem dX12_chance_9 : decode cX12_chance 9 = .ok (.ifCond .eq 13, 3) := by decide +kernel
theorem dX12_chance_12 : decode cX12_chance 12 = .ok (.iload_n 2, 1) := by decide +kernel
theorem dX12_chance_13 : decode cX12_chance 13 = .ok (.i2l, 1) := by decide +kernel
theorem dX12_chance_14 : decode cX12_chance 14 = .ok (.lconst 0, 1) := by decide +kernel
theorem dX12_chance_15 : decode cX12_chance 15 = .ok (.lconst 1, 1) := by decide +kernel
theorem dX12_chance_16 : decode cX12_chance 16 = .ok (.invokestatic 88, 3) := by decide +kernel
theorem dX12_chance_19 : decode cX12_chance 19 = .ok (.ifCond .ne 7, 3) := by decide +kernel
theorem dX12_chance_22 : decode cX12_chance 22 = .ok (.ldc2_w 241, 3) := by decide +kernel
theorem dX12_chance_25 : decode cX12_chance 25 = .ok (.lreturn, 1) := by decide +kernel
theorem dX12_chance_26 : decode cX12_chance 26 = .ok (.aload_n 0, 1) := by decide +kernel
theorem dX12_chance_27 : decode cX12_chance 27 = .ok (.invokevirtual 243, 3) := by decide +kernel
theorem dX12_chance_30 : decode cX12_chance 30 = .ok (.ifCond .ne 7, 3) := by decide +kernel
theorem dX12_chance_33 : decode cX12_chance 33 = .ok (.ldc2_w 246, 3) := by decide +kernel
theorem dX12_chance_36 : decode cX12_chance 36 = .ok (.lreturn, 1) := by decide +kernel
theorem dX12_chance_37 : decode cX12_chance 37 = .ok (.iload_n 2, 1) := by decide +kernel
theorem dX12_chance_38 : decode cX12_chance 38 = .ok (.ifCond .ne 11, 3) := by decide +kernel
theorem dX12_chance_41 : decode cX12_chance 41 = .ok (.aload_n 0, 1) := by decide +kernel
theorem dX12_chance_42 : decode cX12_chance 42 = .ok (.iload_n 1, 1) := by decide +kernel
theorem dX12_chance_43 : decode cX12_chance 43 = .ok (.invokevirtual 235, 3) := by decide +kernel
theorem dX12_chance_46 : decode cX12_chance 46 = .ok (.goto 7, 3) := by decide +kernel
theorem dX12_chance_49 : decode cX12_chance 49 = .ok (.aload_n 0, 1) := by decide +kernel
theorem dX12_chance_50 : decode cX12_chance 50 = .ok (.invokevirtual 248, 3) := by decide +kernel
theorem dX12_chance_53 : decode cX12_chance 53 = .ok (.lreturn, 1) := by decide +kernel
theorem dX12_likely_0 : decode cX12_likely 0 = .ok (.bipush (-4), 2) := by decide +kernel
theorem dX12_likely_2 : decode cX12_likely 2 = .ok (.istore_n 1, 1) := by decide +kernel
theorem dX12_likely_3 : decode cX12_likely 3 = .ok (.lconst 0, 1) := by decide +kernel
theorem dX12_likely_4 : decode cX12_likely 4 = .ok (.lstore_n 2, 1) := by decide +kernel
theorem dX12_likely_5 : decode cX12_likely 5 = .ok (.iconst 0, 1) := by decide +kernel
theorem dX12_likely_6 : decode cX12_likely 6 = .ok (.istore 4, 2) := by decide +kernel
theorem dX12_likely_8 : decode cX12_likely 8 = .ok (.iload 4, 2) := by decide +kernel
theorem dX12_likely_10 : decode cX12_likely 10 = .ok (.aload_n 0, 1) := by decide +kernel
theorem dX12_likely_11 : decode cX12_likely 11 = .ok (.getfield 22, 3) := by decide +kernel
theorem dX12_likely_14 : decode cX12_likely 14 = .ok (.iconst 5, 1) := by decide +kernel
theorem dX12_likely_15 : decode cX12_likely 15 = .ok (.iaload, 1) := by decide +kernel
theorem dX12_likely_16 : decode cX12_likely 16 = .ok (.if_icmp .ge 45, 3) := by decide +kernel
theorem dX12_likely_19 : decode cX12_likely 19 = .ok (.aload_n 0, 1) := by decide +kernel
theorem dX12_likely_20 : decode cX12_likely 20 = .ok (.iload 4, 2) := by decide +kernel
theorem dX12_likely_22 : decode cX12_likely 22 = .ok (.invokevirtual 235, 3) := by decide +kernel
theorem dX12_likely_25 : decode cX12_likely 25 = .ok (.lstore 5, 2) := by decide +kernel
theorem dX12_likely_27 : decode cX12_likely 27 = .ok (.lload 5, 2) := by decide +kernel
theorem dX12_likely_29 : decode cX12_likely 29 = .ok (.lload_n 2, 1) := by decide +kernel
theorem dX12_likely_30 : decode cX12_likely 30 = .ok (.lcmp, 1) := by decide +kernel
theorem dX12_likely_31 : decode cX12_likely 31 = .ok (.ifCond .le 8, 3) := by decide +kernel
theorem dX12_likely_34 : decode cX12_likely 34 = .ok (.iload 4, 2) := by decide +kernel
theorem dX12_likely_36 : decode cX12_likely 36 = .ok (.goto 4, 3) := by decide +kernel
theorem dX12_likely_39 : decode cX12_likely 39 = .ok (.iload_n 1, 1) := by decide +kernel
theorem dX12_likely_40 : decode cX12_likely 40 = .ok (.istore_n 1, 1) := by decide +kernel
theorem dX12_likely_41 : decode cX12_likely 41 = .ok (.lload 5, 2) := by decide +kernel
theorem dX12_likely_43 : decode cX12_likely 43 = .ok (.lload_n 2, 1) := by decide +kernel
theorem dX12_likely_44 : decode cX12_likely 44 = .ok (.lcmp, 1) := by decide +kernel
theorem dX12_likely_45 : decode cX12_likely 45 = .ok (.ifCond .le 8, 3) := by decide +kernel
theorem dX12_likely_48 : decode cX12_likely 48 = .ok (.lload 5, 2) := by decide +kernel
theorem dX12_likely_50 : decode cX12_likely 50 = .ok (.goto 4, 3) := by decide +kernel
theorem dX12_likely_53 : decode cX12_likely 53 = .ok (.lload_n 2, 1) := by decide +kernel
theorem dX12_likely_54 : decode cX12_likely 54 = .ok (.lstore_n 2, 1) := by decide +kernel
theorem dX12_likely_55 : decode cX12_likely 55 = .ok (.iinc 4 1, 3) := by decide +kernel
theorem dX12_likely_58 : decode cX12_likely 58 = .ok (.goto (-50), 3) := by decide +kernel
theorem dX12_likely_61 : decode cX12_likely 61 = .ok (.iload_n 1, 1) := by decide +kernel
theorem dX12_likely_62 : decode cX12_likely 62 = .ok (.ireturn, 1) := by decide +kernel
theorem dX12_likeliest_0 : decode cX12_likeliest 0 = .ok (.aload_n 0, 1) := by decide +kernel
theorem dX12_likeliest_1 : decode cX12_likeliest 1 = .ok (.invokevirtual 182, 3) := by decide +kernel
theorem dX12_likeliest_4 : decode cX12_likeliest 4 = .ok (.aload_n 0, 1) := by decide +kernel
theorem dX12_likeliest_5 : decode cX12_likeliest 5 = .ok (.invokevirtual 243, 3) := by decide +kernel
theorem dX12_likeliest_8 : decode cX12_likeliest 8 = .ok (.ifCond .eq 10, 3) := by decide +kernel
theorem dX12_likeliest_11 : decode cX12_likeliest 11 = .ok (.aload_n 0, 1) := by decide +kernel
theorem dX12_likeliest_12 : decode cX12_likeliest 12 = .ok (.invokevirtual 252, 3) := by decide +kernel
theorem dX12_likeliest_15 : decode cX12_likeliest 15 = .ok (.goto 5, 3) := by decide +kernel
theorem dX12_likeliest_18 : decode cX12_likeliest 18 = .ok (.bipush (-2), 2) := by decide +kernel
theorem dX12_likeliest_20 : decode cX12_likeliest 20 = .ok (.ireturn, 1) := by decide +kernel
theorem dX12_lowest_0 : decode cX12_lowest 0 = .ok (.lload_n 0, 1) := by decide +kernel
theorem dX12_lowest_1 : decode cX12_lowest 1 = .ok (.lstore 5, 2) := by decide +kernel
theorem dX12_lowest_3 : decode cX12_lowest 3 = .ok (.lload_n 2, 1) := by decide +kernel
theorem dX12_lowest_4 : decode cX12_lowest 4 = .ok (.lstore 7, 2) := by decide +kernel
theorem dX12_lowest_6 : decode cX12_lowest 6 = .ok (.lload 7, 2) := by decide +kernel
theorem dX12_lowest_8 : decode cX12_lowest 8 = .ok (.lconst 0, 1) := by decide +kernel
theorem dX12_lowest_9 : decode cX12_lowest 9 = .ok (.lcmp, 1) := by decide +kernel
theorem dX12_lowest_10 : decode cX12_lowest 10 = .ok (.ifCond .eq 21, 3) := by decide +kernel
theorem dX12_lowest_13 : decode cX12_lowest 13 = .ok (.lload 5, 2) := by decide +kernel
theorem dX12_lowest_15 : decode cX12_lowest 15 = .ok (.lload 7, 2) := by decide +kernel
theorem dX12_lowest_17 : decode cX12_lowest 17 = .ok (.lrem, 1) := by decide +kernel
theorem dX12_lowest_18 : decode cX12_lowest 18 = .ok (.lstore 9, 2) := by decide +kernel
theorem dX12_lowest_20 : decode cX12_lowest 20 = .ok (.lload 7, 2) := by decide +kernel
theorem dX12_lowest_22 : decode cX12_lowest 22 = .ok (.lstore 5, 2) := by decide +kernel
theorem dX12_lowest_24 : decode cX12_lowest 24 = .ok (.lload 9, 2) := by decide +kernel
theorem dX12_lowest_26 : decode cX12_lowest 26 = .ok (.lstore 7, 2) := by decide +kernel
theorem dX12_lowest_28 : decode cX12_lowest 28 = .ok (.goto (-22), 3) := by decide +kernel
theorem dX12_lowest_31 : decode cX12_lowest 31 = .ok (.iload 4, 2) := by decide +kernel
theorem dX12_lowest_33 : decode cX12_lowest 33 = .ok (.ifCond .ne 7, 3) := by decide +kernel
theorem dX12_lowest_36 : decode cX12_lowest 36 = .ok (.lload_n 0, 1) := by decide +kernel
theorem dX12_lowest_37 : decode cX12_lowest 37 = .ok (.goto 4, 3) := by decide +kernel
theorem dX12_lowest_40 : decode cX12_lowest 40 = .ok (.lload_n 2, 1) := by decide +kernel
theorem dX12_lowest_41 : decode cX12_lowest 41 = .ok (.lload 5, 2) := by decide +kernel
theorem dX12_lowest_43 : decode cX12_lowest 43 = .ok (.ldiv, 1) := by decide +kernel
theorem dX12_lowest_44 : decode cX12_lowest 44 = .ok (.lreturn, 1) := by decide +kernel
theorem dX12_sure_0 : decode cX12_sure 0 = .ok (.aload_n 0, 1) := by decide +kernel
theorem dX12_sure_1 : decode cX12_sure 1 = .ok (.invokevirtual 182, 3) := by decide +kernel
theorem dX12_sure_4 : decode cX12_sure 4 = .ok (.iload_n 1, 1) := by decide +kernel
theorem dX12_sure_5 : decode cX12_sure 5 = .ok (.i2l, 1) := by decide +kernel
theorem dX12_sure_6 : decode cX12_sure 6 = .ok (.lconst 0, 1) := by decide +kernel
theorem dX12_sure_7 : decode cX12_sure 7 = .ok (.lconst 1, 1) := by decide +kernel
theorem dX12_sure_8 : decode cX12_sure 8 = .ok (.invokestatic 88, 3) := by decide +kernel
theorem dX12_sure_11 : decode cX12_sure 11 = .ok (.ifCond .ne 7, 3) := by decide +kernel
theorem dX12_sure_14 : decode cX12_sure 14 = .ok (.ldc2_w 241, 3) := by decide +kernel
theorem dX12_sure_17 : decode cX12_sure 17 = .ok (.lreturn, 1) := by decide +kernel
theorem dX12_sure_18 : decode cX12_sure 18 = .ok (.aload_n 0, 1) := by decide +kernel
theorem dX12_sure_19 : decode cX12_sure 19 = .ok (.invokevirtual 243, 3) := by decide +kernel
theorem dX12_sure_22 : decode cX12_sure 22 = .ok (.ifCond .ne 7, 3) := by decide +kernel
theorem dX12_sure_25 : decode cX12_sure 25 = .ok (.ldc2_w 246, 3) := by decide +kernel
theorem dX12_sure_28 : decode cX12_sure 28 = .ok (.lreturn, 1) := by decide +kernel
theorem dX12_sure_29 : decode cX12_sure 29 = .ok (.aload_n 0, 1) := by decide +kernel
theorem dX12_sure_30 : decode cX12_sure 30 = .ok (.invokevirtual 252, 3) := by decide +kernel
theorem dX12_sure_33 : decode cX12_sure 33 = .ok (.istore_n 2, 1) := by decide +kernel
theorem dX12_sure_34 : decode cX12_sure 34 = .ok (.iload_n 2, 1) := by decide +kernel
theorem dX12_sure_35 : decode cX12_sure 35 = .ok (.bipush (-4), 2) := by decide +kernel
theorem dX12_sure_37 : decode cX12_sure 37 = .ok (.if_icmp .ne 9, 3) := by decide +kernel
theorem dX12_sure_40 : decode cX12_sure 40 = .ok (.ldc2_w 255, 3) := by decide +kernel
theorem dX12_sure_43 : decode cX12_sure 43 = .ok (.goto 16, 3) := by decide +kernel
theorem dX12_sure_46 : decode cX12_sure 46 = .ok (.aload_n 0, 1) := by decide +kernel
theorem dX12_sure_47 : decode cX12_sure 47 = .ok (.iload_n 2, 1) := by decide +kernel
theorem dX12_sure_48 : decode cX12_sure 48 = .ok (.invokevirtual 235, 3) := by decide +kernel
theorem dX12_sure_51 : decode cX12_sure 51 = .ok (.aload_n 0, 1) := by decide +kernel
theorem dX12_sure_52 : decode cX12_sure 52 = .ok (.invokevirtual 248, 3) := by decide +kernel
theorem dX12_sure_55 : decode cX12_sure 55 = .ok (.iload_n 1, 1) := by decide +kernel
theorem dX12_sure_56 : decode cX12_sure 56 = .ok (.invokestatic 257, 3) := by decide +kernel
theorem dX12_sure_59 : decode cX12_sure 59 = .ok (.lreturn, 1) := by decide +kernel
theorem dX12_fits_0 : decode cX12_fits 0 = .ok (.aload_n 0, 1) := by decide +kernel
theorem dX12_fits_1 : decode cX12_fits 1 = .ok (.invokevirtual 182, 3) := by decide +kernel
theorem dX12_fits_4 : decode cX12_fits 4 = .ok (.aload_n 0, 1) := by decide +kernel
theorem dX12_fits_5 : decode cX12_fits 5 = .ok (.invokevirtual 243, 3) := by decide +kernel
theorem dX12_fits_8 : decode cX12_fits 8 = .ok (.ifCond .ne 6, 3) := by decide +kernel
theorem dX12_fits_11 : decode cX12_fits 11 = .ok (.bipush (-2), 2) := by decide +kernel
theorem dX12_fits_13 : decode cX12_fits 13 = .ok (.ireturn, 1) := by decide +kernel
theorem dX12_fits_14 : decode cX12_fits 14 = .ok (.iconst 0, 1) := by decide +kernel
theorem dX12_fits_15 : decode cX12_fits 15 = .ok (.istore_n 1, 1) := by decide +kernel
theorem dX12_fits_16 : decode cX12_fits 16 = .ok (.iconst 0, 1) := by decide +kernel
theorem dX12_fits_17 : decode cX12_fits 17 = .ok (.istore_n 2, 1) := by decide +kernel
theorem dX12_fits_18 : decode cX12_fits 18 = .ok (.iload_n 2, 1) := by decide +kernel
theorem dX12_fits_19 : decode cX12_fits 19 = .ok (.aload_n 0, 1) := by decide +kernel
theorem dX12_fits_20 : decode cX12_fits 20 = .ok (.getfield 22, 3) := by decide +kernel
theorem dX12_fits_23 : decode cX12_fits 23 = .ok (.iconst 5, 1) := by decide +kernel
theorem dX12_fits_24 : decode cX12_fits 24 = .ok (.iaload, 1) := by decide +kernel
theorem dX12_fits_25 : decode cX12_fits 25 = .ok (.if_icmp .ge 29, 3) := by decide +kernel
theorem dX12_fits_28 : decode cX12_fits 28 = .ok (.iload_n 1, 1) := by decide +kernel
theorem dX12_fits_29 : decode cX12_fits 29 = .ok (.aload_n 0, 1) := by decide +kernel
theorem dX12_fits_30 : decode cX12_fits 30 = .ok (.iload_n 2, 1) := by decide +kernel
theorem dX12_fits_31 : decode cX12_fits 31 = .ok (.invokevirtual 235, 3) := by decide +kernel
theorem dX12_fits_34 : decode cX12_fits 34 = .ok (.lconst 0, 1) := by decide +kernel
theorem dX12_fits_35 : decode cX12_fits 35 = .ok (.lcmp, 1) := by decide +kernel
theorem dX12_fits_36 : decode cX12_fits 36 = .ok (.ifCond .le 9, 3) := by decide +kernel
theorem dX12_fits_39 : decode cX12_fits 39 = .ok (.iconst 1, 1) := by decide +kernel
theorem dX12_fits_40 : decode cX12_fits 40 = .ok (.iload_n 2, 1) := by decide +kernel
theorem dX12_fits_41 : decode cX12_fits 41 = .ok (.ishl, 1) := by decide +kernel
theorem dX12_fits_42 : decode cX12_fits 42 = .ok (.goto 4, 3) := by decide +kernel
theorem dX12_fits_45 : decode cX12_fits 45 = .ok (.iconst 0, 1) := by decide +kernel
theorem dX12_fits_46 : decode cX12_fits 46 = .ok (.ior, 1) := by decide +kernel
theorem dX12_fits_47 : decode cX12_fits 47 = .ok (.istore_n 1, 1) := by decide +kernel
theorem dX12_fits_48 : decode cX12_fits 48 = .ok (.iinc 2 1, 3) := by decide +kernel
theorem dX12_fits_51 : decode cX12_fits 51 = .ok (.goto (-33), 3) := by decide +kernel
theorem dX12_fits_54 : decode cX12_fits 54 = .ok (.iload_n 1, 1) := by decide +kernel
theorem dX12_fits_55 : decode cX12_fits 55 = .ok (.ireturn, 1) := by decide +kernel
theorem dX12_chanceBy_0 : decode cX12_chanceBy 0 = .ok (.lconst 1, 1) := by decide +kernel
theorem dX12_chanceBy_1 : decode cX12_chanceBy 1 = .ok (.lstore_n 3, 1) := by decide +kernel
theorem dX12_chanceBy_2 : decode cX12_chanceBy 2 = .ok (.iconst 0, 1) := by decide +kernel
theorem dX12_chanceBy_3 : decode cX12_chanceBy 3 = .ok (.istore 5, 2) := by decide +kernel
theorem dX12_chanceBy_5 : decode cX12_chanceBy 5 = .ok (.iload 5, 2) := by decide +kernel
theorem dX12_chanceBy_7 : decode cX12_chanceBy 7 = .ok (.iload_n 2, 1) := by decide +kernel
theorem dX12_chanceBy_8 : decode cX12_chanceBy 8 = .ok (.if_icmp .ge 39, 3) := by decide +kernel
theorem dX12_chanceBy_11 : decode cX12_chanceBy 11 = .ok (.lload_n 3, 1) := by decide +kernel
theorem dX12_chanceBy_12 : decode cX12_chanceBy 12 = .ok (.aload_n 0, 1) := by decide +kernel
theorem dX12_chanceBy_13 : decode cX12_chanceBy 13 = .ok (.aload_n 0, 1) := by decide +kernel
theorem dX12_chanceBy_14 : decode cX12_chanceBy 14 = .ok (.iload_n 1, 1) := by decide +kernel
theorem dX12_chanceBy_15 : decode cX12_chanceBy 15 = .ok (.iload 5, 2) := by decide +kernel
theorem dX12_chanceBy_17 : decode cX12_chanceBy 17 = .ok (.iconst 2, 1) := by decide +kernel
theorem dX12_chanceBy_18 : decode cX12_chanceBy 18 = .ok (.aload_n 0, 1) := by decide +kernel
theorem dX12_chanceBy_19 : decode cX12_chanceBy 19 = .ok (.iload_n 1, 1) := by decide +kernel
theorem dX12_chanceBy_20 : decode cX12_chanceBy 20 = .ok (.invokevirtual 194, 3) := by decide +kernel
theorem dX12_chanceBy_23 : decode cX12_chanceBy 23 = .ok (.imul, 1) := by decide +kernel
theorem dX12_chanceBy_24 : decode cX12_chanceBy 24 = .ok (.irem, 1) := by decide +kernel
theorem dX12_chanceBy_25 : decode cX12_chanceBy 25 = .ok (.invokevirtual 229, 3) := by decide +kernel
theorem dX12_chanceBy_28 : decode cX12_chanceBy 28 = .ok (.aload_n 0, 1) := by decide +kernel
theorem dX12_chanceBy_29 : decode cX12_chanceBy 29 = .ok (.getfield 61, 3) := by decide +kernel
theorem dX12_chanceBy_32 : decode cX12_chanceBy 32 = .ok (.iload 5, 2) := by decide +kernel
theorem dX12_chanceBy_34 : decode cX12_chanceBy 34 = .ok (.iaload, 1) := by decide +kernel
theorem dX12_chanceBy_35 : decode cX12_chanceBy 35 = .ok (.invokevirtual 232, 3) := by decide +kernel
theorem dX12_chanceBy_38 : decode cX12_chanceBy 38 = .ok (.i2l, 1) := by decide +kernel
theorem dX12_chanceBy_39 : decode cX12_chanceBy 39 = .ok (.lmul, 1) := by decide +kernel
theorem dX12_chanceBy_40 : decode cX12_chanceBy 40 = .ok (.lstore_n 3, 1) := by decide +kernel
theorem dX12_chanceBy_41 : decode cX12_chanceBy 41 = .ok (.iinc 5 1, 3) := by decide +kernel
theorem dX12_chanceBy_44 : decode cX12_chanceBy 44 = .ok (.goto (-39), 3) := by decide +kernel
theorem dX12_chanceBy_47 : decode cX12_chanceBy 47 = .ok (.lload_n 3, 1) := by decide +kernel
theorem dX12_chanceBy_48 : decode cX12_chanceBy 48 = .ok (.lreturn, 1) := by decide +kernel
theorem dX12_isRead_0 : decode cX12_isRead 0 = .ok (.aload_n 0, 1) := by decide +kernel
theorem dX12_isRead_1 : decode cX12_isRead 1 = .ok (.iload_n 1, 1) := by decide +kernel
theorem dX12_isRead_2 : decode cX12_isRead 2 = .ok (.iload_n 2, 1) := by decide +kernel
theorem dX12_isRead_3 : decode cX12_isRead 3 = .ok (.invokevirtual 261, 3) := by decide +kernel
theorem dX12_isRead_6 : decode cX12_isRead 6 = .ok (.aload_n 0, 1) := by decide +kernel
theorem dX12_isRead_7 : decode cX12_isRead 7 = .ok (.getfield 25, 3) := by decide +kernel
theorem dX12_isRead_10 : decode cX12_isRead 10 = .ok (.bipush 10, 2) := by decide +kernel
theorem dX12_isRead_12 : decode cX12_isRead 12 = .ok (.iload_n 1, 1) := by decide +kernel
theorem dX12_isRead_13 : decode cX12_isRead 13 = .ok (.imul, 1) := by decide +kernel
theorem dX12_isRead_14 : decode cX12_isRead 14 = .ok (.bipush 9, 2) := by decide +kernel
theorem dX12_isRead_16 : decode cX12_isRead 16 = .ok (.iadd, 1) := by decide +kernel
theorem dX12_isRead_17 : decode cX12_isRead 17 = .ok (.iaload, 1) := by decide +kernel
theorem dX12_isRead_18 : decode cX12_isRead 18 = .ok (.i2l, 1) := by decide +kernel
theorem dX12_isRead_19 : decode cX12_isRead 19 = .ok (.lmul, 1) := by decide +kernel
theorem dX12_isRead_20 : decode cX12_isRead 20 = .ok (.lstore_n 3, 1) := by decide +kernel
theorem dX12_isRead_21 : decode cX12_isRead 21 = .ok (.lload_n 3, 1) := by decide +kernel
theorem dX12_isRead_22 : decode cX12_isRead 22 = .ok (.lconst 0, 1) := by decide +kernel
theorem dX12_isRead_23 : decode cX12_isRead 23 = .ok (.lcmp, 1) := by decide +kernel
theorem dX12_isRead_24 : decode cX12_isRead 24 = .ok (.ifCond .le 7, 3) := by decide +kernel
theorem dX12_isRead_27 : decode cX12_isRead 27 = .ok (.iconst 1, 1) := by decide +kernel
theorem dX12_isRead_28 : decode cX12_isRead 28 = .ok (.goto 4, 3) := by decide +kernel
theorem dX12_isRead_31 : decode cX12_isRead 31 = .ok (.iconst 0, 1) := by decide +kernel
theorem dX12_isRead_32 : decode cX12_isRead 32 = .ok (.istore 5, 2) := by decide +kernel
theorem dX12_isRead_34 : decode cX12_isRead 34 = .ok (.iconst 0, 1) := by decide +kernel
theorem dX12_isRead_35 : decode cX12_isRead 35 = .ok (.istore 6, 2) := by decide +kernel
theorem dX12_isRead_37 : decode cX12_isRead 37 = .ok (.iload 6, 2) := by decide +kernel
theorem dX12_isRead_39 : decode cX12_isRead 39 = .ok (.aload_n 0, 1) := by decide +kernel
theorem dX12_isRead_40 : decode cX12_isRead 40 = .ok (.getfield 22, 3) := by decide +kernel
theorem dX12_isRead_43 : decode cX12_isRead 43 = .ok (.iconst 5, 1) := by decide +kernel
theorem dX12_isRead_44 : decode cX12_isRead 44 = .ok (.iaload, 1) := by decide +kernel
theorem dX12_isRead_45 : decode cX12_isRead 45 = .ok (.if_icmp .ge 85, 3) := by decide +kernel
theorem dX12_isRead_48 : decode cX12_isRead 48 = .ok (.aload_n 0, 1) := by decide +kernel
theorem dX12_isRead_49 : decode cX12_isRead 49 = .ok (.iload 6, 2) := by decide +kernel
theorem dX12_isRead_51 : decode cX12_isRead 51 = .ok (.invokevirtual 194, 3) := by decide +kernel
theorem dX12_isRead_54 : decode cX12_isRead 54 = .ok (.aload_n 0, 1) := by decide +kernel
theorem dX12_isRead_55 : decode cX12_isRead 55 = .ok (.iload_n 1, 1) := by decide +kernel
theorem dX12_isRead_56 : decode cX12_isRead 56 = .ok (.invokevirtual 194, 3) := by decide +kernel
theorem dX12_isRead_59 : decode cX12_isRead 59 = .ok (.if_icmp .ne 65, 3) := by decide +kernel
theorem dX12_isRead_62 : decode cX12_isRead 62 = .ok (.iload 6, 2) := by decide +kernel
theorem dX12_isRead_64 : decode cX12_isRead 64 = .ok (.iload_n 1, 1) := by decide +kernel
theorem dX12_isRead_65 : decode cX12_isRead 65 = .ok (.if_icmp .eq 59, 3) := by decide +kernel
theorem dX12_isRead_68 : decode cX12_isRead 68 = .ok (.aload_n 0, 1) := by decide +kernel
theorem dX12_isRead_69 : decode cX12_isRead 69 = .ok (.iload 6, 2) := by decide +kernel
theorem dX12_isRead_71 : decode cX12_isRead 71 = .ok (.iload_n 2, 1) := by decide +kernel
theorem dX12_isRead_72 : decode cX12_isRead 72 = .ok (.invokevirtual 261, 3) := by decide +kernel
theorem dX12_isRead_75 : decode cX12_isRead 75 = .ok (.aload_n 0, 1) := by decide +kernel
theorem dX12_isRead_76 : decode cX12_isRead 76 = .ok (.getfield 25, 3) := by decide +kernel
theorem dX12_isRead_79 : decode cX12_isRead 79 = .ok (.bipush 10, 2) := by decide +kernel
theorem dX12_isRead_81 : decode cX12_isRead 81 = .ok (.iload 6, 2) := by decide +kernel
theorem dX12_isRead_83 : decode cX12_isRead 83 = .ok (.imul, 1) := by decide +kernel
theorem dX12_isRead_84 : decode cX12_isRead 84 = .ok (.bipush 9, 2) := by decide +kernel
theorem dX12_isRead_86 : decode cX12_isRead 86 = .ok (.iadd, 1) := by decide +kernel
theorem dX12_isRead_87 : decode cX12_isRead 87 = .ok (.iaload, 1) := by decide +kernel
theorem dX12_isRead_88 : decode cX12_isRead 88 = .ok (.i2l, 1) := by decide +kernel
theorem dX12_isRead_89 : decode cX12_isRead 89 = .ok (.lmul, 1) := by decide +kernel
theorem dX12_isRead_90 : decode cX12_isRead 90 = .ok (.lstore 7, 2) := by decide +kernel
theorem dX12_isRead_92 : decode cX12_isRead 92 = .ok (.iload 5, 2) := by decide +kernel
theorem dX12_isRead_94 : decode cX12_isRead 94 = .ok (.ifCond .eq 27, 3) := by decide +kernel
theorem dX12_isRead_97 : decode cX12_isRead 97 = .ok (.lload 7, 2) := by decide +kernel
theorem dX12_isRead_99 : decode cX12_isRead 99 = .ok (.lload_n 3, 1) := by decide +kernel
theorem dX12_isRead_100 : decode cX12_isRead 100 = .ok (.lcmp, 1) := by decide +kernel
theorem dX12_isRead_101 : decode cX12_isRead 101 = .ok (.ifCond .lt 16, 3) := by decide +kernel
theorem dX12_isRead_104 : decode cX12_isRead 104 = .ok (.lload 7, 2) := by decide +kernel
theorem dX12_isRead_106 : decode cX12_isRead 106 = .ok (.lload_n 3, 1) := by decide +kernel
theorem dX12_isRead_107 : decode cX12_isRead 107 = .ok (.lcmp, 1) := by decide +kernel
theorem dX12_isRead_108 : decode cX12_isRead 108 = .ok (.ifCond .ne 13, 3) := by decide +kernel
theorem dX12_isRead_111 : decode cX12_isRead 111 = .ok (.iload_n 1, 1) := by decide +kernel
theorem dX12_isRead_112 : decode cX12_isRead 112 = .ok (.iload 6, 2) := by decide +kernel
theorem dX12_isRead_114 : decode cX12_isRead 114 = .ok (.if_icmp .ge 7, 3) := by decide +kernel
theorem dX12_isRead_117 : decode cX12_isRead 117 = .ok (.iconst 1, 1) := by decide +kernel
theorem dX12_isRead_118 : decode cX12_isRead 118 = .ok (.goto 4, 3) := by decide +kernel
theorem dX12_isRead_121 : decode cX12_isRead 121 = .ok (.iconst 0, 1) := by decide +kernel
theorem dX12_isRead_122 : decode cX12_isRead 122 = .ok (.istore 5, 2) := by decide +kernel
theorem dX12_isRead_124 : decode cX12_isRead 124 = .ok (.iinc 6 1, 3) := by decide +kernel
theorem dX12_isRead_127 : decode cX12_isRead 127 = .ok (.goto (-90), 3) := by decide +kernel
theorem dX12_isRead_130 : decode cX12_isRead 130 = .ok (.iload 5, 2) := by decide +kernel
theorem dX12_isRead_132 : decode cX12_isRead 132 = .ok (.ireturn, 1) := by decide +kernel
theorem dX12_right_0 : decode cX12_right 0 = .ok (.aload_n 0, 1) := by decide +kernel
theorem dX12_right_1 : decode cX12_right 1 = .ok (.invokevirtual 182, 3) := by decide +kernel
theorem dX12_right_4 : decode cX12_right 4 = .ok (.aload_n 0, 1) := by decide +kernel
theorem dX12_right_5 : decode cX12_right 5 = .ok (.iload_n 1, 1) := by decide +kernel
theorem dX12_right_6 : decode cX12_right 6 = .ok (.invokevirtual 200, 3) := by decide +kernel
theorem dX12_right_9 : decode cX12_right 9 = .ok (.ifCond .eq 25, 3) := by decide +kernel
theorem dX12_right_12 : decode cX12_right 12 = .ok (.iload_n 2, 1) := by decide +kernel
theorem dX12_right_13 : decode cX12_right 13 = .ok (.i2l, 1) := by decide +kernel
theorem dX12_right_14 : decode cX12_right 14 = .ok (.lconst 1, 1) := by decide +kernel
theorem dX12_right_15 : decode cX12_right 15 = .ok (.ldc2_w 265, 3) := by decide +kernel
theorem dX12_right_18 : decode cX12_right 18 = .ok (.invokestatic 88, 3) := by decide +kernel
theorem dX12_right_21 : decode cX12_right 21 = .ok (.ifCond .eq 13, 3) := by decide +kernel
theorem dX12_right_24 : decode cX12_right 24 = .ok (.iload_n 3, 1) := by decide +kernel
theorem dX12_right_25 : decode cX12_right 25 = .ok (.i2l, 1) := by decide +kernel
theorem dX12_right_26 : decode cX12_right 26 = .ok (.lconst 0, 1) := by decide +kernel
theorem dX12_right_27 : decode cX12_right 27 = .ok (.lconst 1, 1) := by decide +kernel
theorem dX12_right_28 : decode cX12_right 28 = .ok (.invokestatic 88, 3) := by decide +kernel
theorem dX12_right_31 : decode cX12_right 31 = .ok (.ifCond .ne 7, 3) := by decide +kernel
theorem dX12_right_34 : decode cX12_right 34 = .ok (.ldc2_w 241, 3) := by decide +kernel
theorem dX12_right_37 : decode cX12_right 37 = .ok (.lreturn, 1) := by decide +kernel
theorem dX12_right_38 : decode cX12_right 38 = .ok (.aload_n 0, 1) := by decide +kernel
theorem dX12_right_39 : decode cX12_right 39 = .ok (.iload_n 1, 1) := by decide +kernel
theorem dX12_right_40 : decode cX12_right 40 = .ok (.invokevirtual 194, 3) := by decide +kernel
theorem dX12_right_43 : decode cX12_right 43 = .ok (.iload_n 2, 1) := by decide +kernel
theorem dX12_right_44 : decode cX12_right 44 = .ok (.imul, 1) := by decide +kernel
theorem dX12_right_45 : decode cX12_right 45 = .ok (.iconst 3, 1) := by decide +kernel
theorem dX12_right_46 : decode cX12_right 46 = .ok (.if_icmp .le 7, 3) := by decide +kernel
theorem dX12_right_49 : decode cX12_right 49 = .ok (.ldc2_w 246, 3) := by decide +kernel
theorem dX12_right_52 : decode cX12_right 52 = .ok (.lreturn, 1) := by decide +kernel
theorem dX12_right_53 : decode cX12_right 53 = .ok (.iconst 2, 1) := by decide +kernel
theorem dX12_right_54 : decode cX12_right 54 = .ok (.aload_n 0, 1) := by decide +kernel
theorem dX12_right_55 : decode cX12_right 55 = .ok (.iload_n 1, 1) := by decide +kernel
theorem dX12_right_56 : decode cX12_right 56 = .ok (.invokevirtual 194, 3) := by decide +kernel
theorem dX12_right_59 : decode cX12_right 59 = .ok (.imul, 1) := by decide +kernel
theorem dX12_right_60 : decode cX12_right 60 = .ok (.iload_n 2, 1) := by decide +kernel
theorem dX12_right_61 : decode cX12_right 61 = .ok (.imul, 1) := by decide +kernel
theorem dX12_right_62 : decode cX12_right 62 = .ok (.istore 4, 2) := by decide +kernel
theorem dX12_right_64 : decode cX12_right 64 = .ok (.iconst 1, 1) := by decide +kernel
theorem dX12_right_65 : decode cX12_right 65 = .ok (.istore 5, 2) := by decide +kernel
theorem dX12_right_67 : decode cX12_right 67 = .ok (.lconst 1, 1) := by decide +kernel
theorem dX12_right_68 : decode cX12_right 68 = .ok (.lstore 6, 2) := by decide +kernel
theorem dX12_right_70 : decode cX12_right 70 = .ok (.iconst 0, 1) := by decide +kernel
theorem dX12_right_71 : decode cX12_right 71 = .ok (.istore 8, 2) := by decide +kernel
theorem dX12_right_73 : decode cX12_right 73 = .ok (.iload 8, 2) := by decide +kernel
theorem dX12_right_75 : decode cX12_right 75 = .ok (.iload 4, 2) := by decide +kernel
theorem dX12_right_77 : decode cX12_right 77 = .ok (.if_icmp .ge 23, 3) := by decide +kernel
theorem dX12_right_80 : decode cX12_right 80 = .ok (.iload 5, 2) := by decide +kernel
theorem dX12_right_82 : decode cX12_right 82 = .ok (.iconst 3, 1) := by decide +kernel
theorem dX12_right_83 : decode cX12_right 83 = .ok (.imul, 1) := by decide +kernel
theorem dX12_right_84 : decode cX12_right 84 = .ok (.istore 5, 2) := by decide +kernel
theorem dX12_right_86 : decode cX12_right 86 = .ok (.lload 6, 2) := by decide +kernel
theorem dX12_right_88 : decode cX12_right 88 = .ok (.ldc2_w 267, 3) := by decide +kernel
theorem dX12_right_91 : decode cX12_right 91 = .ok (.lmul, 1) := by decide +kernel
theorem dX12_right_92 : decode cX12_right 92 = .ok (.lstore 6, 2) := by decide +kernel
theorem dX12_right_94 : decode cX12_right 94 = .ok (.iinc 8 1, 3) := by decide +kernel
theorem dX12_right_97 : decode cX12_right 97 = .ok (.goto (-24), 3) := by decide +kernel
theorem dX12_right_100 : decode cX12_right 100 = .ok (.lconst 0, 1) := by decide +kernel
theorem dX12_right_101 : decode cX12_right 101 = .ok (.lstore 8, 2) := by decide +kernel
theorem dX12_right_103 : decode cX12_right 103 = .ok (.iconst 0, 1) := by decide +kernel
theorem dX12_right_104 : decode cX12_right 104 = .ok (.istore 10, 2) := by decide +kernel
theorem dX12_right_106 : decode cX12_right 106 = .ok (.iload 10, 2) := by decide +kernel
theorem dX12_right_108 : decode cX12_right 108 = .ok (.iload 5, 2) := by decide +kernel
theorem dX12_right_110 : decode cX12_right 110 = .ok (.if_icmp .ge 90, 3) := by decide +kernel
theorem dX12_right_113 : decode cX12_right 113 = .ok (.iload 10, 2) := by decide +kernel
theorem dX12_right_115 : decode cX12_right 115 = .ok (.istore 11, 2) := by decide +kernel
theorem dX12_right_117 : decode cX12_right 117 = .ok (.iconst 0, 1) := by decide +kernel
theorem dX12_right_118 : decode cX12_right 118 = .ok (.istore 12, 2) := by decide +kernel
theorem dX12_right_120 : decode cX12_right 120 = .ok (.iload 12, 2) := by decide +kernel
theorem dX12_right_122 : decode cX12_right 122 = .ok (.iload 4, 2) := by decide +kernel
theorem dX12_right_124 : decode cX12_right 124 = .ok (.if_icmp .ge 44, 3) := by decide +kernel
theorem dX12_right_127 : decode cX12_right 127 = .ok (.aload_n 0, 1) := by decide +kernel
theorem dX12_right_128 : decode cX12_right 128 = .ok (.getfield 61, 3) := by decide +kernel
theorem dX12_right_131 : decode cX12_right 131 = .ok (.iload 12, 2) := by decide +kernel
theorem dX12_right_133 : decode cX12_right 133 = .ok (.aload_n 0, 1) := by decide +kernel
theorem dX12_right_134 : decode cX12_right 134 = .ok (.iload_n 1, 1) := by decide +kernel
theorem dX12_right_135 : decode cX12_right 135 = .ok (.iload 12, 2) := by decide +kernel
theorem dX12_right_137 : decode cX12_right 137 = .ok (.iconst 2, 1) := by decide +kernel
theorem dX12_right_138 : decode cX12_right 138 = .ok (.aload_n 0, 1) := by decide +kernel
theorem dX12_right_139 : decode cX12_right 139 = .ok (.iload_n 1, 1) := by decide +kernel
theorem dX12_right_140 : decode cX12_right 140 = .ok (.invokevirtual 194, 3) := by decide +kernel
theorem dX12_right_143 : decode cX12_right 143 = .ok (.imul, 1) := by decide +kernel
theorem dX12_right_144 : decode cX12_right 144 = .ok (.irem, 1) := by decide +kernel
theorem dX12_right_145 : decode cX12_right 145 = .ok (.invokevirtual 229, 3) := by decide +kernel
theorem dX12_right_148 : decode cX12_right 148 = .ok (.iload 11, 2) := by decide +kernel
theorem dX12_right_150 : decode cX12_right 150 = .ok (.iconst 3, 1) := by decide +kernel
theorem dX12_right_151 : decode cX12_right 151 = .ok (.irem, 1) := by decide +kernel
theorem dX12_right_152 : decode cX12_right 152 = .ok (.iadd, 1) := by decide +kernel
theorem dX12_right_153 : decode cX12_right 153 = .ok (.iconst 1, 1) := by decide +kernel
theorem dX12_right_154 : decode cX12_right 154 = .ok (.isub, 1) := by decide +kernel
theorem dX12_right_155 : decode cX12_right 155 = .ok (.iastore, 1) := by decide +kernel
theorem dX12_right_156 : decode cX12_right 156 = .ok (.iload 11, 2) := by decide +kernel
theorem dX12_right_158 : decode cX12_right 158 = .ok (.iconst 3, 1) := by decide +kernel
theorem dX12_right_159 : decode cX12_right 159 = .ok (.idiv, 1) := by decide +kernel
theorem dX12_right_160 : decode cX12_right 160 = .ok (.istore 11, 2) := by decide +kernel
theorem dX12_right_162 : decode cX12_right 162 = .ok (.iinc 12 1, 3) := by decide +kernel
theorem dX12_right_165 : decode cX12_right 165 = .ok (.goto (-45), 3) := by decide +kernel
theorem dX12_right_168 : decode cX12_right 168 = .ok (.lload 8, 2) := by decide +kernel
theorem dX12_right_170 : decode cX12_right 170 = .ok (.aload_n 0, 1) := by decide +kernel
theorem dX12_right_171 : decode cX12_right 171 = .ok (.iload_n 1, 1) := by decide +kernel
theorem dX12_right_172 : decode cX12_right 172 = .ok (.iload 4, 2) := by decide +kernel
theorem dX12_right_174 : decode cX12_right 174 = .ok (.invokevirtual 269, 3) := by decide +kernel
theorem dX12_right_177 : decode cX12_right 177 = .ok (.ifCond .eq 13, 3) := by decide +kernel
theorem dX12_right_180 : decode cX12_right 180 = .ok (.aload_n 0, 1) := by decide +kernel
theorem dX12_right_181 : decode cX12_right 181 = .ok (.iload_n 1, 1) := by decide +kernel
theorem dX12_right_182 : decode cX12_right 182 = .ok (.iload 4, 2) := by decide +kernel
theorem dX12_right_184 : decode cX12_right 184 = .ok (.invokevirtual 261, 3) := by decide +kernel
theorem dX12_right_187 : decode cX12_right 187 = .ok (.goto 4, 3) := by decide +kernel
theorem dX12_right_190 : decode cX12_right 190 = .ok (.lconst 0, 1) := by decide +kernel
theorem dX12_right_191 : decode cX12_right 191 = .ok (.ladd, 1) := by decide +kernel
theorem dX12_right_192 : decode cX12_right 192 = .ok (.lstore 8, 2) := by decide +kernel
theorem dX12_right_194 : decode cX12_right 194 = .ok (.iinc 10 1, 3) := by decide +kernel
theorem dX12_right_197 : decode cX12_right 197 = .ok (.goto (-91), 3) := by decide +kernel
theorem dX12_right_200 : decode cX12_right 200 = .ok (.lload 8, 2) := by decide +kernel
theorem dX12_right_202 : decode cX12_right 202 = .ok (.lload 6, 2) := by decide +kernel
theorem dX12_right_204 : decode cX12_right 204 = .ok (.iload_n 3, 1) := by decide +kernel
theorem dX12_right_205 : decode cX12_right 205 = .ok (.invokestatic 257, 3) := by decide +kernel
theorem dX12_right_208 : decode cX12_right 208 = .ok (.lreturn, 1) := by decide +kernel
theorem dX12_layMouths_0 : decode cX12_layMouths 0 = .ok (.iconst 0, 1) := by decide +kernel
theorem dX12_layMouths_1 : decode cX12_layMouths 1 = .ok (.istore_n 3, 1) := by decide +kernel
theorem dX12_layMouths_2 : decode cX12_layMouths 2 = .ok (.iload_n 3, 1) := by decide +kernel
theorem dX12_layMouths_3 : decode cX12_layMouths 3 = .ok (.bipush 7, 2) := by decide +kernel
theorem dX12_layMouths_5 : decode cX12_layMouths 5 = .ok (.if_icmp .ge 25, 3) := by decide +kernel
theorem dX12_layMouths_8 : decode cX12_layMouths 8 = .ok (.aload_n 0, 1) := by decide +kernel
theorem dX12_layMouths_9 : decode cX12_layMouths 9 = .ok (.getfield 64, 3) := by decide +kernel
theorem dX12_layMouths_12 : decode cX12_layMouths 12 = .ok (.iload_n 3, 1) := by decide +kernel
theorem dX12_layMouths_13 : decode cX12_layMouths 13 = .ok (.iload_n 3, 1) := by decide +kernel
theorem dX12_layMouths_14 : decode cX12_layMouths 14 = .ok (.iload_n 1, 1) := by decide +kernel
theorem dX12_layMouths_15 : decode cX12_layMouths 15 = .ok (.if_icmp .ne 7, 3) := by decide +kernel
theorem dX12_layMouths_18 : decode cX12_layMouths 18 = .ok (.lconst 1, 1) := by decide +kernel
theorem dX12_layMouths_19 : decode cX12_layMouths 19 = .ok (.goto 4, 3) := by decide +kernel
theorem dX12_layMouths_22 : decode cX12_layMouths 22 = .ok (.lconst 0, 1) := by decide +kernel
theorem dX12_layMouths_23 : decode cX12_layMouths 23 = .ok (.lastore, 1) := by decide +kernel
theorem dX12_layMouths_24 : decode cX12_layMouths 24 = .ok (.iinc 3 1, 3) := by decide +kernel
theorem dX12_layMouths_27 : decode cX12_layMouths 27 = .ok (.goto (-25), 3) := by decide +kernel
theorem dX12_layMouths_30 : decode cX12_layMouths 30 = .ok (.iconst 0, 1) := by decide +kernel
theorem dX12_layMouths_31 : decode cX12_layMouths 31 = .ok (.istore_n 3, 1) := by decide +kernel
theorem dX12_layMouths_32 : decode cX12_layMouths 32 = .ok (.iload_n 3, 1) := by decide +kernel
theorem dX12_layMouths_33 : decode cX12_layMouths 33 = .ok (.iload_n 2, 1) := by decide +kernel
theorem dX12_layMouths_34 : decode cX12_layMouths 34 = .ok (.if_icmp .ge 157, 3) := by decide +kernel
theorem dX12_layMouths_37 : decode cX12_layMouths 37 = .ok (.iconst 0, 1) := by decide +kernel
theorem dX12_layMouths_38 : decode cX12_layMouths 38 = .ok (.istore 4, 2) := by decide +kernel
theorem dX12_layMouths_40 : decode cX12_layMouths 40 = .ok (.iload 4, 2) := by decide +kernel
theorem dX12_layMouths_42 : decode cX12_layMouths 42 = .ok (.bipush 7, 2) := by decide +kernel
theorem dX12_layMouths_44 : decode cX12_layMouths 44 = .ok (.if_icmp .ge 17, 3) := by decide +kernel
theorem dX12_layMouths_47 : decode cX12_layMouths 47 = .ok (.aload_n 0, 1) := by decide +kernel
theorem dX12_layMouths_48 : decode cX12_layMouths 48 = .ok (.getfield 68, 3) := by decide +kernel
theorem dX12_layMouths_51 : decode cX12_layMouths 51 = .ok (.iload 4, 2) := by decide +kernel
theorem dX12_layMouths_53 : decode cX12_layMouths 53 = .ok (.lconst 0, 1) := by decide +kernel
theorem dX12_layMouths_54 : decode cX12_layMouths 54 = .ok (.lastore, 1) := by decide +kernel
theorem dX12_layMouths_55 : decode cX12_layMouths 55 = .ok (.iinc 4 1, 3) := by decide +kernel
theorem dX12_layMouths_58 : decode cX12_layMouths 58 = .ok (.goto (-18), 3) := by decide +kernel
theorem dX12_layMouths_61 : decode cX12_layMouths 61 = .ok (.iconst 1, 1) := by decide +kernel
theorem dX12_layMouths_62 : decode cX12_layMouths 62 = .ok (.istore 4, 2) := by decide +kernel
theorem dX12_layMouths_64 : decode cX12_layMouths 64 = .ok (.iload 4, 2) := by decide +kernel
theorem dX12_layMouths_66 : decode cX12_layMouths 66 = .ok (.bipush 6, 2) := by decide +kernel
theorem dX12_layMouths_68 : decode cX12_layMouths 68 = .ok (.if_icmp .ge 87, 3) := by decide +kernel
theorem dX12_layMouths_71 : decode cX12_layMouths 71 = .ok (.iconst (-1), 1) := by decide +kernel
theorem dX12_layMouths_72 : decode cX12_layMouths 72 = .ok (.istore 5, 2) := by decide +kernel
theorem dX12_layMouths_74 : decode cX12_layMouths 74 = .ok (.iload 5, 2) := by decide +kernel
theorem dX12_layMouths_76 : decode cX12_layMouths 76 = .ok (.iconst 2, 1) := by decide +kernel
theorem dX12_layMouths_77 : decode cX12_layMouths 77 = .ok (.if_icmp .ge 72, 3) := by decide +kernel
theorem dX12_layMouths_80 : decode cX12_layMouths 80 = .ok (.iload 4, 2) := by decide +kernel
theorem dX12_layMouths_82 : decode cX12_layMouths 82 = .ok (.iload 5, 2) := by decide +kernel
theorem dX12_layMouths_84 : decode cX12_layMouths 84 = .ok (.iadd, 1) := by decide +kernel
theorem dX12_layMouths_85 : decode cX12_layMouths 85 = .ok (.iconst 1, 1) := by decide +kernel
theorem dX12_layMouths_86 : decode cX12_layMouths 86 = .ok (.if_icmp .ge 7, 3) := by decide +kernel
theorem dX12_layMouths_89 : decode cX12_layMouths 89 = .ok (.iconst 1, 1) := by decide +kernel
theorem dX12_layMouths_90 : decode cX12_layMouths 90 = .ok (.goto 21, 3) := by decide +kernel
theorem dX12_layMouths_93 : decode cX12_layMouths 93 = .ok (.iload 4, 2) := by decide +kernel
theorem dX12_layMouths_95 : decode cX12_layMouths 95 = .ok (.iload 5, 2) := by decide +kernel
theorem dX12_layMouths_97 : decode cX12_layMouths 97 = .ok (.iadd, 1) := by decide +kernel
theorem dX12_layMouths_98 : decode cX12_layMouths 98 = .ok (.iconst 5, 1) := by decide +kernel
theorem dX12_layMouths_99 : decode cX12_layMouths 99 = .ok (.if_icmp .le 7, 3) := by decide +kernel
theorem dX12_layMouths_102 : decode cX12_layMouths 102 = .ok (.iconst 5, 1) := by decide +kernel
theorem dX12_layMouths_103 : decode cX12_layMouths 103 = .ok (.goto 8, 3) := by decide +kernel
theorem dX12_layMouths_106 : decode cX12_layMouths 106 = .ok (.iload 4, 2) := by decide +kernel
theorem dX12_layMouths_108 : decode cX12_layMouths 108 = .ok (.iload 5, 2) := by decide +kernel
theorem dX12_layMouths_110 : decode cX12_layMouths 110 = .ok (.iadd, 1) := by decide +kernel
theorem dX12_layMouths_111 : decode cX12_layMouths 111 = .ok (.istore 6, 2) := by decide +kernel
theorem dX12_layMouths_113 : decode cX12_layMouths 113 = .ok (.aload_n 0, 1) := by decide +kernel
theorem dX12_layMouths_114 : decode cX12_layMouths 114 = .ok (.getfield 68, 3) := by decide +kernel
theorem dX12_layMouths_117 : decode cX12_layMouths 117 = .ok (.iload 6, 2) := by decide +kernel
theorem dX12_layMouths_119 : decode cX12_layMouths 119 = .ok (.dup2, 1) := by decide +kernel
theorem dX12_layMouths_120 : decode cX12_layMouths 120 = .ok (.laload, 1) := by decide +kernel
theorem dX12_layMouths_121 : decode cX12_layMouths 121 = .ok (.aload_n 0, 1) := by decide +kernel
theorem dX12_layMouths_122 : decode cX12_layMouths 122 = .ok (.getfield 64, 3) := by decide +kernel
theorem dX12_layMouths_125 : decode cX12_layMouths 125 = .ok (.iload 4, 2) := by decide +kernel
theorem dX12_layMouths_127 : decode cX12_layMouths 127 = .ok (.laload, 1) := by decide +kernel
theorem dX12_layMouths_128 : decode cX12_layMouths 128 = .ok (.aload_n 0, 1) := by decide +kernel
theorem dX12_layMouths_129 : decode cX12_layMouths 129 = .ok (.iload 4, 2) := by decide +kernel
theorem dX12_layMouths_131 : decode cX12_layMouths 131 = .ok (.iload 4, 2) := by decide +kernel
theorem dX12_layMouths_133 : decode cX12_layMouths 133 = .ok (.iload 5, 2) := by decide +kernel
theorem dX12_layMouths_135 : decode cX12_layMouths 135 = .ok (.iadd, 1) := by decide +kernel
theorem dX12_layMouths_136 : decode cX12_layMouths 136 = .ok (.invokevirtual 232, 3) := by decide +kernel
theorem dX12_layMouths_139 : decode cX12_layMouths 139 = .ok (.i2l, 1) := by decide +kernel
theorem dX12_layMouths_140 : decode cX12_layMouths 140 = .ok (.lmul, 1) := by decide +kernel
theorem dX12_layMouths_141 : decode cX12_layMouths 141 = .ok (.ladd, 1) := by decide +kernel
theorem dX12_layMouths_142 : decode cX12_layMouths 142 = .ok (.lastore, 1) := by decide +kernel
theorem dX12_layMouths_143 : decode cX12_layMouths 143 = .ok (.iinc 5 1, 3) := by decide +kernel
theorem dX12_layMouths_146 : decode cX12_layMouths 146 = .ok (.goto (-72), 3) := by decide +kernel
theorem dX12_layMouths_149 : decode cX12_layMouths 149 = .ok (.iinc 4 1, 3) := by decide +kernel
theorem dX12_layMouths_152 : decode cX12_layMouths 152 = .ok (.goto (-88), 3) := by decide +kernel
theorem dX12_layMouths_155 : decode cX12_layMouths 155 = .ok (.iconst 0, 1) := by decide +kernel
theorem dX12_layMouths_156 : decode cX12_layMouths 156 = .ok (.istore 4, 2) := by decide +kernel
theorem dX12_layMouths_158 : decode cX12_layMouths 158 = .ok (.iload 4, 2) := by decide +kernel
theorem dX12_layMouths_160 : decode cX12_layMouths 160 = .ok (.bipush 7, 2) := by decide +kernel
theorem dX12_layMouths_162 : decode cX12_layMouths 162 = .ok (.if_icmp .ge 23, 3) := by decide +kernel
theorem dX12_layMouths_165 : decode cX12_layMouths 165 = .ok (.aload_n 0, 1) := by decide +kernel
theorem dX12_layMouths_166 : decode cX12_layMouths 166 = .ok (.getfield 64, 3) := by decide +kernel
theorem dX12_layMouths_169 : decode cX12_layMouths 169 = .ok (.iload 4, 2) := by decide +kernel
theorem dX12_layMouths_171 : decode cX12_layMouths 171 = .ok (.aload_n 0, 1) := by decide +kernel
theorem dX12_layMouths_172 : decode cX12_layMouths 172 = .ok (.getfield 68, 3) := by decide +kernel
theorem dX12_layMouths_175 : decode cX12_layMouths 175 = .ok (.iload 4, 2) := by decide +kernel
theorem dX12_layMouths_177 : decode cX12_layMouths 177 = .ok (.laload, 1) := by decide +kernel
theorem dX12_layMouths_178 : decode cX12_layMouths 178 = .ok (.lastore, 1) := by decide +kernel
theorem dX12_layMouths_179 : decode cX12_layMouths 179 = .ok (.iinc 4 1, 3) := by decide +kernel
theorem dX12_layMouths_182 : decode cX12_layMouths 182 = .ok (.goto (-24), 3) := by decide +kernel
theorem dX12_layMouths_185 : decode cX12_layMouths 185 = .ok (.iinc 3 1, 3) := by decide +kernel
theorem dX12_layMouths_188 : decode cX12_layMouths 188 = .ok (.goto (-156), 3) := by decide +kernel
theorem dX12_layMouths_191 : decode cX12_layMouths 191 = .ok (.return_, 1) := by decide +kernel
theorem dX12_twenties_0 : decode cX12_twenties 0 = .ok (.lconst 1, 1) := by decide +kernel
theorem dX12_twenties_1 : decode cX12_twenties 1 = .ok (.lstore_n 1, 1) := by decide +kernel
theorem dX12_twenties_2 : decode cX12_twenties 2 = .ok (.iconst 0, 1) := by decide +kernel
theorem dX12_twenties_3 : decode cX12_twenties 3 = .ok (.istore_n 3, 1) := by decide +kernel
theorem dX12_twenties_4 : decode cX12_twenties 4 = .ok (.iload_n 3, 1) := by decide +kernel
theorem dX12_twenties_5 : decode cX12_twenties 5 = .ok (.iload_n 0, 1) := by decide +kernel
theorem dX12_twenties_6 : decode cX12_twenties 6 = .ok (.if_icmp .ge 15, 3) := by decide +kernel
theorem dX12_twenties_9 : decode cX12_twenties 9 = .ok (.lload_n 1, 1) := by decide +kernel
theorem dX12_twenties_10 : decode cX12_twenties 10 = .ok (.ldc2_w 267, 3) := by decide +kernel
theorem dX12_twenties_13 : decode cX12_twenties 13 = .ok (.lmul, 1) := by decide +kernel
theorem dX12_twenties_14 : decode cX12_twenties 14 = .ok (.lstore_n 1, 1) := by decide +kernel
theorem dX12_twenties_15 : decode cX12_twenties 15 = .ok (.iinc 3 1, 3) := by decide +kernel
theorem dX12_twenties_18 : decode cX12_twenties 18 = .ok (.goto (-14), 3) := by decide +kernel
theorem dX12_twenties_21 : decode cX12_twenties 21 = .ok (.lload_n 1, 1) := by decide +kernel
theorem dX12_twenties_22 : decode cX12_twenties 22 = .ok (.lreturn, 1) := by decide +kernel
theorem dX12_mouths_0 : decode cX12_mouths 0 = .ok (.iload_n 1, 1) := by decide +kernel
theorem dX12_mouths_1 : decode cX12_mouths 1 = .ok (.i2l, 1) := by decide +kernel
theorem dX12_mouths_2 : decode cX12_mouths 2 = .ok (.lconst 1, 1) := by decide +kernel
theorem dX12_mouths_3 : decode cX12_mouths 3 = .ok (.ldc2_w 273, 3) := by decide +kernel
theorem dX12_mouths_6 : decode cX12_mouths 6 = .ok (.invokestatic 88, 3) := by decide +kernel
theorem dX12_mouths_9 : decode cX12_mouths 9 = .ok (.ifCond .eq 38, 3) := by decide +kernel
theorem dX12_mouths_12 : decode cX12_mouths 12 = .ok (.iload_n 2, 1) := by decide +kernel
theorem dX12_mouths_13 : decode cX12_mouths 13 = .ok (.i2l, 1) := by decide +kernel
theorem dX12_mouths_14 : decode cX12_mouths 14 = .ok (.lconst 1, 1) := by decide +kernel
theorem dX12_mouths_15 : decode cX12_mouths 15 = .ok (.ldc2_w 273, 3) := by decide +kernel
theorem dX12_mouths_18 : decode cX12_mouths 18 = .ok (.invokestatic 88, 3) := by decide +kernel
theorem dX12_mouths_21 : decode cX12_mouths 21 = .ok (.ifCond .eq 26, 3) := by decide +kernel
theorem dX12_mouths_24 : decode cX12_mouths 24 = .ok (.iload_n 3, 1) := by decide +kernel
theorem dX12_mouths_25 : decode cX12_mouths 25 = .ok (.i2l, 1) := by decide +kernel
theorem dX12_mouths_26 : decode cX12_mouths 26 = .ok (.lconst 0, 1) := by decide +kernel
theorem dX12_mouths_27 : decode cX12_mouths 27 = .ok (.ldc2_w 206, 3) := by decide +kernel
theorem dX12_mouths_30 : decode cX12_mouths 30 = .ok (.invokestatic 88, 3) := by decide +kernel
theorem dX12_mouths_33 : decode cX12_mouths 33 = .ok (.ifCond .eq 14, 3) := by decide +kernel
theorem dX12_mouths_36 : decode cX12_mouths 36 = .ok (.iload 4, 2) := by decide +kernel
theorem dX12_mouths_38 : decode cX12_mouths 38 = .ok (.i2l, 1) := by decide +kernel
theorem dX12_mouths_39 : decode cX12_mouths 39 = .ok (.lconst 0, 1) := by decide +kernel
theorem dX12_mouths_40 : decode cX12_mouths 40 = .ok (.lconst 1, 1) := by decide +kernel
theorem dX12_mouths_41 : decode cX12_mouths 41 = .ok (.invokestatic 88, 3) := by decide +kernel
theorem dX12_mouths_44 : decode cX12_mouths 44 = .ok (.ifCond .ne 7, 3) := by decide +kernel
theorem dX12_mouths_47 : decode cX12_mouths 47 = .ok (.ldc2_w 241, 3) := by decide +kernel
theorem dX12_mouths_50 : decode cX12_mouths 50 = .ok (.lreturn, 1) := by decide +kernel
theorem dX12_mouths_51 : decode cX12_mouths 51 = .ok (.aload_n 0, 1) := by decide +kernel
theorem dX12_mouths_52 : decode cX12_mouths 52 = .ok (.iload_n 1, 1) := by decide +kernel
theorem dX12_mouths_53 : decode cX12_mouths 53 = .ok (.iload_n 3, 1) := by decide +kernel
theorem dX12_mouths_54 : decode cX12_mouths 54 = .ok (.invokevirtual 275, 3) := by decide +kernel
theorem dX12_mouths_57 : decode cX12_mouths 57 = .ok (.aload_n 0, 1) := by decide +kernel
theorem dX12_mouths_58 : decode cX12_mouths 58 = .ok (.getfield 64, 3) := by decide +kernel
theorem dX12_mouths_61 : decode cX12_mouths 61 = .ok (.iload_n 2, 1) := by decide +kernel
theorem dX12_mouths_62 : decode cX12_mouths 62 = .ok (.laload, 1) := by decide +kernel
theorem dX12_mouths_63 : decode cX12_mouths 63 = .ok (.iload_n 3, 1) := by decide +kernel
theorem dX12_mouths_64 : decode cX12_mouths 64 = .ok (.invokestatic 278, 3) := by decide +kernel
theorem dX12_mouths_67 : decode cX12_mouths 67 = .ok (.iload 4, 2) := by decide +kernel
theorem dX12_mouths_69 : decode cX12_mouths 69 = .ok (.invokestatic 257, 3) := by decide +kernel
theorem dX12_mouths_72 : decode cX12_mouths 72 = .ok (.lreturn, 1) := by decide +kernel
theorem dX12_becomesBy_0 : decode cX12_becomesBy 0 = .ok (.aload_n 0, 1) := by decide +kernel
theorem dX12_becomesBy_1 : decode cX12_becomesBy 1 = .ok (.iload_n 1, 1) := by decide +kernel
theorem dX12_becomesBy_2 : decode cX12_becomesBy 2 = .ok (.iconst 5, 1) := by decide +kernel
theorem dX12_becomesBy_3 : decode cX12_becomesBy 3 = .ok (.idiv, 1) := by decide +kernel
theorem dX12_becomesBy_4 : decode cX12_becomesBy 4 = .ok (.iconst 1, 1) := by decide +kernel
theorem dX12_becomesBy_5 : decode cX12_becomesBy 5 = .ok (.iadd, 1) := by decide +kernel
theorem dX12_becomesBy_6 : decode cX12_becomesBy 6 = .ok (.iload_n 3, 1) := by decide +kernel
theorem dX12_becomesBy_7 : decode cX12_becomesBy 7 = .ok (.invokevirtual 275, 3) := by decide +kernel
theorem dX12_becomesBy_10 : decode cX12_becomesBy 10 = .ok (.aload_n 0, 1) := by decide +kernel
theorem dX12_becomesBy_11 : decode cX12_becomesBy 11 = .ok (.getfield 64, 3) := by decide +kernel
theorem dX12_becomesBy_14 : decode cX12_becomesBy 14 = .ok (.iload_n 2, 1) := by decide +kernel
theorem dX12_becomesBy_15 : decode cX12_becomesBy 15 = .ok (.iconst 5, 1) := by decide +kernel
theorem dX12_becomesBy_16 : decode cX12_becomesBy 16 = .ok (.idiv, 1) := by decide +kernel
theorem dX12_becomesBy_17 : decode cX12_becomesBy 17 = .ok (.iconst 1, 1) := by decide +kernel
theorem dX12_becomesBy_18 : decode cX12_becomesBy 18 = .ok (.iadd, 1) := by decide +kernel
theorem dX12_becomesBy_19 : decode cX12_becomesBy 19 = .ok (.laload, 1) := by decide +kernel
theorem dX12_becomesBy_20 : decode cX12_becomesBy 20 = .ok (.lstore 4, 2) := by decide +kernel
theorem dX12_becomesBy_22 : decode cX12_becomesBy 22 = .ok (.aload_n 0, 1) := by decide +kernel
theorem dX12_becomesBy_23 : decode cX12_becomesBy 23 = .ok (.iload_n 1, 1) := by decide +kernel
theorem dX12_becomesBy_24 : decode cX12_becomesBy 24 = .ok (.iconst 5, 1) := by decide +kernel
theorem dX12_becomesBy_25 : decode cX12_becomesBy 25 = .ok (.irem, 1) := by decide +kernel
theorem dX12_becomesBy_26 : decode cX12_becomesBy 26 = .ok (.iconst 1, 1) := by decide +kernel
theorem dX12_becomesBy_27 : decode cX12_becomesBy 27 = .ok (.iadd, 1) := by decide +kernel
theorem dX12_becomesBy_28 : decode cX12_becomesBy 28 = .ok (.iload_n 3, 1) := by decide +kernel
theorem dX12_becomesBy_29 : decode cX12_becomesBy 29 = .ok (.invokevirtual 275, 3) := by decide +kernel
theorem dX12_becomesBy_32 : decode cX12_becomesBy 32 = .ok (.lload 4, 2) := by decide +kernel
theorem dX12_becomesBy_34 : decode cX12_becomesBy 34 = .ok (.aload_n 0, 1) := by decide +kernel
theorem dX12_becomesBy_35 : decode cX12_becomesBy 35 = .ok (.getfield 64, 3) := by decide +kernel
theorem dX12_becomesBy_38 : decode cX12_becomesBy 38 = .ok (.iload_n 2, 1) := by decide +kernel
theorem dX12_becomesBy_39 : decode cX12_becomesBy 39 = .ok (.iconst 5, 1) := by decide +kernel
theorem dX12_becomesBy_40 : decode cX12_becomesBy 40 = .ok (.irem, 1) := by decide +kernel
theorem dX12_becomesBy_41 : decode cX12_becomesBy 41 = .ok (.iconst 1, 1) := by decide +kernel
theorem dX12_becomesBy_42 : decode cX12_becomesBy 42 = .ok (.iadd, 1) := by decide +kernel
theorem dX12_becomesBy_43 : decode cX12_becomesBy 43 = .ok (.laload, 1) := by decide +kernel
theorem dX12_becomesBy_44 : decode cX12_becomesBy 44 = .ok (.lmul, 1) := by decide +kernel
theorem dX12_becomesBy_45 : decode cX12_becomesBy 45 = .ok (.lreturn, 1) := by decide +kernel
theorem dX12_letter_0 : decode cX12_letter 0 = .ok (.iload_n 1, 1) := by decide +kernel
theorem dX12_letter_1 : decode cX12_letter 1 = .ok (.invokestatic 185, 3) := by decide +kernel
theorem dX12_letter_4 : decode cX12_letter 4 = .ok (.ifCond .eq 33, 3) := by decide +kernel
theorem dX12_letter_7 : decode cX12_letter 7 = .ok (.iload_n 2, 1) := by decide +kernel
theorem dX12_letter_8 : decode cX12_letter 8 = .ok (.invokestatic 185, 3) := by decide +kernel
theorem dX12_letter_11 : decode cX12_letter 11 = .ok (.ifCond .eq 26, 3) := by decide +kernel
theorem dX12_letter_14 : decode cX12_letter 14 = .ok (.iload_n 3, 1) := by decide +kernel
theorem dX12_letter_15 : decode cX12_letter 15 = .ok (.i2l, 1) := by decide +kernel
theorem dX12_letter_16 : decode cX12_letter 16 = .ok (.lconst 0, 1) := by decide +kernel
theorem dX12_letter_17 : decode cX12_letter 17 = .ok (.ldc2_w 273, 3) := by decide +kernel
theorem dX12_letter_20 : decode cX12_letter 20 = .ok (.invokestatic 88, 3) := by decide +kernel
theorem dX12_letter_23 : decode cX12_letter 23 = .ok (.ifCond .eq 14, 3) := by decide +kernel
theorem dX12_letter_26 : decode cX12_letter 26 = .ok (.iload 4, 2) := by decide +kernel
theorem dX12_letter_28 : decode cX12_letter 28 = .ok (.i2l, 1) := by decide +kernel
theorem dX12_letter_29 : decode cX12_letter 29 = .ok (.lconst 0, 1) := by decide +kernel
theorem dX12_letter_30 : decode cX12_letter 30 = .ok (.lconst 1, 1) := by decide +kernel
theorem dX12_letter_31 : decode cX12_letter 31 = .ok (.invokestatic 88, 3) := by decide +kernel
theorem dX12_letter_34 : decode cX12_letter 34 = .ok (.ifCond .ne 7, 3) := by decide +kernel
theorem dX12_letter_37 : decode cX12_letter 37 = .ok (.ldc2_w 241, 3) := by decide +kernel
theorem dX12_letter_40 : decode cX12_letter 40 = .ok (.lreturn, 1) := by decide +kernel
theorem dX12_letter_41 : decode cX12_letter 41 = .ok (.aload_n 0, 1) := by decide +kernel
theorem dX12_letter_42 : decode cX12_letter 42 = .ok (.iload_n 1, 1) := by decide +kernel
theorem dX12_letter_43 : decode cX12_letter 43 = .ok (.iload_n 2, 1) := by decide +kernel
theorem dX12_letter_44 : decode cX12_letter 44 = .ok (.iload_n 3, 1) := by decide +kernel
theorem dX12_letter_45 : decode cX12_letter 45 = .ok (.invokevirtual 281, 3) := by decide +kernel
theorem dX12_letter_48 : decode cX12_letter 48 = .ok (.iconst 2, 1) := by decide +kernel
theorem dX12_letter_49 : decode cX12_letter 49 = .ok (.iload_n 3, 1) := by decide +kernel
theorem dX12_letter_50 : decode cX12_letter 50 = .ok (.imul, 1) := by decide +kernel
theorem dX12_letter_51 : decode cX12_letter 51 = .ok (.invokestatic 278, 3) := by decide +kernel
theorem dX12_letter_54 : decode cX12_letter 54 = .ok (.iload 4, 2) := by decide +kernel
theorem dX12_letter_56 : decode cX12_letter 56 = .ok (.invokestatic 257, 3) := by decide +kernel
theorem dX12_letter_59 : decode cX12_letter 59 = .ok (.lreturn, 1) := by decide +kernel
theorem dX12_becomes_0 : decode cX12_becomes 0 = .ok (.iload_n 1, 1) := by decide +kernel
theorem dX12_becomes_1 : decode cX12_becomes 1 = .ok (.invokestatic 185, 3) := by decide +kernel
theorem dX12_becomes_4 : decode cX12_becomes 4 = .ok (.ifCond .eq 15, 3) := by decide +kernel
theorem dX12_becomes_7 : decode cX12_becomes 7 = .ok (.iload_n 2, 1) := by decide +kernel
theorem dX12_becomes_8 : decode cX12_becomes 8 = .ok (.i2l, 1) := by decide +kernel
theorem dX12_becomes_9 : decode cX12_becomes 9 = .ok (.lconst 0, 1) := by decide +kernel
theorem dX12_becomes_10 : decode cX12_becomes 10 = .ok (.ldc2_w 273, 3) := by decide +kernel
theorem dX12_becomes_13 : decode cX12_becomes 13 = .ok (.invokestatic 88, 3) := by decide +kernel
theorem dX12_becomes_16 : decode cX12_becomes 16 = .ok (.ifCond .ne 5, 3) := by decide +kernel
theorem dX12_becomes_19 : decode cX12_becomes 19 = .ok (.iconst (-1), 1) := by decide +kernel
theorem dX12_becomes_20 : decode cX12_becomes 20 = .ok (.ireturn, 1) := by decide +kernel
theorem dX12_becomes_21 : decode cX12_becomes 21 = .ok (.iconst 0, 1) := by decide +kernel
theorem dX12_becomes_22 : decode cX12_becomes 22 = .ok (.istore_n 3, 1) := by decide +kernel
theorem dX12_becomes_23 : decode cX12_becomes 23 = .ok (.ldc2_w 241, 3) := by decide +kernel
theorem dX12_becomes_26 : decode cX12_becomes 26 = .ok (.lstore 4, 2) := by decide +kernel
theorem dX12_becomes_28 : decode cX12_becomes 28 = .ok (.iconst 0, 1) := by decide +kernel
theorem dX12_becomes_29 : decode cX12_becomes 29 = .ok (.istore 6, 2) := by decide +kernel
theorem dX12_becomes_31 : decode cX12_becomes 31 = .ok (.iload 6, 2) := by decide +kernel
theorem dX12_becomes_33 : decode cX12_becomes 33 = .ok (.bipush 25, 2) := by decide +kernel
theorem dX12_becomes_35 : decode cX12_becomes 35 = .ok (.if_icmp .ge 51, 3) := by decide +kernel
theorem dX12_becomes_38 : decode cX12_becomes 38 = .ok (.aload_n 0, 1) := by decide +kernel
theorem dX12_becomes_39 : decode cX12_becomes 39 = .ok (.iload_n 1, 1) := by decide +kernel
theorem dX12_becomes_40 : decode cX12_becomes 40 = .ok (.iload 6, 2) := by decide +kernel
theorem dX12_becomes_42 : decode cX12_becomes 42 = .ok (.iload_n 2, 1) := by decide +kernel
theorem dX12_becomes_43 : decode cX12_becomes 43 = .ok (.invokevirtual 281, 3) := by decide +kernel
theorem dX12_becomes_46 : decode cX12_becomes 46 = .ok (.lstore 7, 2) := by decide +kernel
theorem dX12_becomes_48 : decode cX12_becomes 48 = .ok (.lload 7, 2) := by decide +kernel
theorem dX12_becomes_50 : decode cX12_becomes 50 = .ok (.lload 4, 2) := by decide +kernel
theorem dX12_becomes_52 : decode cX12_becomes 52 = .ok (.lcmp, 1) := by decide +kernel
theorem dX12_becomes_53 : decode cX12_becomes 53 = .ok (.ifCond .le 8, 3) := by decide +kernel
theorem dX12_becomes_56 : decode cX12_becomes 56 = .ok (.iload 6, 2) := by decide +kernel
theorem dX12_becomes_58 : decode cX12_becomes 58 = .ok (.goto 4, 3) := by decide +kernel
theorem dX12_becomes_61 : decode cX12_becomes 61 = .ok (.iload_n 3, 1) := by decide +kernel
theorem dX12_becomes_62 : decode cX12_becomes 62 = .ok (.istore_n 3, 1) := by decide +kernel
theorem dX12_becomes_63 : decode cX12_becomes 63 = .ok (.lload 7, 2) := by decide +kernel
theorem dX12_becomes_65 : decode cX12_becomes 65 = .ok (.lload 4, 2) := by decide +kernel
theorem dX12_becomes_67 : decode cX12_becomes 67 = .ok (.lcmp, 1) := by decide +kernel
theorem dX12_becomes_68 : decode cX12_becomes 68 = .ok (.ifCond .le 8, 3) := by decide +kernel
theorem dX12_becomes_71 : decode cX12_becomes 71 = .ok (.lload 7, 2) := by decide +kernel
theorem dX12_becomes_73 : decode cX12_becomes 73 = .ok (.goto 5, 3) := by decide +kernel
theorem dX12_becomes_76 : decode cX12_becomes 76 = .ok (.lload 4, 2) := by decide +kernel
theorem dX12_becomes_78 : decode cX12_becomes 78 = .ok (.lstore 4, 2) := by decide +kernel
theorem dX12_becomes_80 : decode cX12_becomes 80 = .ok (.iinc 6 1, 3) := by decide +kernel
theorem dX12_becomes_83 : decode cX12_becomes 83 = .ok (.goto (-52), 3) := by decide +kernel
theorem dX12_becomes_86 : decode cX12_becomes 86 = .ok (.iload_n 3, 1) := by decide +kernel
theorem dX12_becomes_87 : decode cX12_becomes 87 = .ok (.ireturn, 1) := by decide +kernel
theorem dX12_through_0 : decode cX12_through 0 = .ok (.iload_n 0, 1) := by decide +kernel
theorem dX12_through_1 : decode cX12_through 1 = .ok (.i2l, 1) := by decide +kernel
theorem dX12_through_2 : decode cX12_through 2 = .ok (.iload_n 1, 1) := by decide +kernel
theorem dX12_through_3 : decode cX12_through 3 = .ok (.i2l, 1) := by decide +kernel
theorem dX12_through_4 : decode cX12_through 4 = .ok (.lmul, 1) := by decide +kernel
theorem dX12_through_5 : decode cX12_through 5 = .ok (.lstore_n 2, 1) := by decide +kernel
theorem dX12_through_6 : decode cX12_through 6 = .ok (.iconst 1, 1) := by decide +kernel
theorem dX12_through_7 : decode cX12_through 7 = .ok (.istore 4, 2) := by decide +kernel
theorem dX12_through_9 : decode cX12_through 9 = .ok (.iload 4, 2) := by decide +kernel
theorem dX12_through_11 : decode cX12_through 11 = .ok (.iload_n 0, 1) := by decide +kernel
theorem dX12_through_12 : decode cX12_through 12 = .ok (.if_icmp .ge 17, 3) := by decide +kernel
theorem dX12_through_15 : decode cX12_through 15 = .ok (.lload_n 2, 1) := by decide +kernel
theorem dX12_through_16 : decode cX12_through 16 = .ok (.bipush 20, 2) := by decide +kernel
theorem dX12_through_18 : decode cX12_through 18 = .ok (.iload_n 1, 1) := by decide +kernel
theorem dX12_through_19 : decode cX12_through 19 = .ok (.isub, 1) := by decide +kernel
theorem dX12_through_20 : decode cX12_through 20 = .ok (.i2l, 1) := by decide +kernel
theorem dX12_through_21 : decode cX12_through 21 = .ok (.lmul, 1) := by decide +kernel
theorem dX12_through_22 : decode cX12_through 22 = .ok (.lstore_n 2, 1) := by decide +kernel
theorem dX12_through_23 : decode cX12_through 23 = .ok (.iinc 4 1, 3) := by decide +kernel
theorem dX12_through_26 : decode cX12_through 26 = .ok (.goto (-17), 3) := by decide +kernel
theorem dX12_through_29 : decode cX12_through 29 = .ok (.lload_n 2, 1) := by decide +kernel
theorem dX12_through_30 : decode cX12_through 30 = .ok (.lreturn, 1) := by decide +kernel
theorem dX12_pipe_0 : decode cX12_pipe 0 = .ok (.iload_n 1, 1) := by decide +kernel
theorem dX12_pipe_1 : decode cX12_pipe 1 = .ok (.i2l, 1) := by decide +kernel
theorem dX12_pipe_2 : decode cX12_pipe 2 = .ok (.lconst 1, 1) := by decide +kernel
theorem dX12_pipe_3 : decode cX12_pipe 3 = .ok (.ldc2_w 206, 3) := by decide +kernel
theorem dX12_pipe_6 : decode cX12_pipe 6 = .ok (.invokestatic 88, 3) := by decide +kernel
theorem dX12_pipe_9 : decode cX12_pipe 9 = .ok (.ifCond .eq 41, 3) := by decide +kernel
theorem dX12_pipe_12 : decode cX12_pipe 12 = .ok (.iload_n 2, 1) := by decide +kernel
theorem dX12_pipe_13 : decode cX12_pipe 13 = .ok (.i2l, 1) := by decide +kernel
theorem dX12_pipe_14 : decode cX12_pipe 14 = .ok (.lconst 0, 1) := by decide +kernel
theorem dX12_pipe_15 : decode cX12_pipe 15 = .ok (.ldc2_w 267, 3) := by decide +kernel
theorem dX12_pipe_18 : decode cX12_pipe 18 = .ok (.invokestatic 88, 3) := by decide +kernel
theorem dX12_pipe_21 : decode cX12_pipe 21 = .ok (.ifCond .eq 29, 3) := by decide +kernel
theorem dX12_pipe_24 : decode cX12_pipe 24 = .ok (.iload_n 3, 1) := by decide +kernel
theorem dX12_pipe_25 : decode cX12_pipe 25 = .ok (.i2l, 1) := by decide +kernel
theorem dX12_pipe_26 : decode cX12_pipe 26 = .ok (.lconst 0, 1) := by decide +kernel
theorem dX12_pipe_27 : decode cX12_pipe 27 = .ok (.lconst 1, 1) := by decide +kernel
theorem dX12_pipe_28 : decode cX12_pipe 28 = .ok (.invokestatic 88, 3) := by decide +kernel
theorem dX12_pipe_31 : decode cX12_pipe 31 = .ok (.ifCond .eq 19, 3) := by decide +kernel
theorem dX12_pipe_34 : decode cX12_pipe 34 = .ok (.iload_n 1, 1) := by decide +kernel
theorem dX12_pipe_35 : decode cX12_pipe 35 = .ok (.iload_n 2, 1) := by decide +kernel
theorem dX12_pipe_36 : decode cX12_pipe 36 = .ok (.invokestatic 285, 3) := by decide +kernel
theorem dX12_pipe_39 : decode cX12_pipe 39 = .ok (.iload_n 1, 1) := by decide +kernel
theorem dX12_pipe_40 : decode cX12_pipe 40 = .ok (.invokestatic 278, 3) := by decide +kernel
theorem dX12_pipe_43 : decode cX12_pipe 43 = .ok (.iload_n 3, 1) := by decide +kernel
theorem dX12_pipe_44 : decode cX12_pipe 44 = .ok (.invokestatic 257, 3) := by decide +kernel
theorem dX12_pipe_47 : decode cX12_pipe 47 = .ok (.goto 6, 3) := by decide +kernel
theorem dX12_pipe_50 : decode cX12_pipe 50 = .ok (.ldc2_w 241, 3) := by decide +kernel
theorem dX12_pipe_53 : decode cX12_pipe 53 = .ok (.lreturn, 1) := by decide +kernel
theorem dX12_turns_0 : decode cX12_turns 0 = .ok (.iload_n 1, 1) := by decide +kernel
theorem dX12_turns_1 : decode cX12_turns 1 = .ok (.i2l, 1) := by decide +kernel
theorem dX12_turns_2 : decode cX12_turns 2 = .ok (.lconst 1, 1) := by decide +kernel
theorem dX12_turns_3 : decode cX12_turns 3 = .ok (.ldc2_w 206, 3) := by decide +kernel
theorem dX12_turns_6 : decode cX12_turns 6 = .ok (.invokestatic 88, 3) := by decide +kernel
theorem dX12_turns_9 : decode cX12_turns 9 = .ok (.ifCond .ne 5, 3) := by decide +kernel
theorem dX12_turns_12 : decode cX12_turns 12 = .ok (.iconst (-1), 1) := by decide +kernel
theorem dX12_turns_13 : decode cX12_turns 13 = .ok (.ireturn, 1) := by decide +kernel
theorem dX12_turns_14 : decode cX12_turns 14 = .ok (.iconst 0, 1) := by decide +kernel
theorem dX12_turns_15 : decode cX12_turns 15 = .ok (.istore_n 2, 1) := by decide +kernel
theorem dX12_turns_16 : decode cX12_turns 16 = .ok (.iconst 1, 1) := by decide +kernel
theorem dX12_turns_17 : decode cX12_turns 17 = .ok (.istore_n 3, 1) := by decide +kernel
theorem dX12_turns_18 : decode cX12_turns 18 = .ok (.iload_n 3, 1) := by decide +kernel
theorem dX12_turns_19 : decode cX12_turns 19 = .ok (.bipush 20, 2) := by decide +kernel
theorem dX12_turns_21 : decode cX12_turns 21 = .ok (.if_icmp .gt 29, 3) := by decide +kernel
theorem dX12_turns_24 : decode cX12_turns 24 = .ok (.iload_n 1, 1) := by decide +kernel
theorem dX12_turns_25 : decode cX12_turns 25 = .ok (.iload_n 3, 1) := by decide +kernel
theorem dX12_turns_26 : decode cX12_turns 26 = .ok (.invokestatic 285, 3) := by decide +kernel
theorem dX12_turns_29 : decode cX12_turns 29 = .ok (.iload_n 1, 1) := by decide +kernel
theorem dX12_turns_30 : decode cX12_turns 30 = .ok (.iload_n 2, 1) := by decide +kernel
theorem dX12_turns_31 : decode cX12_turns 31 = .ok (.invokestatic 285, 3) := by decide +kernel
theorem dX12_turns_34 : decode cX12_turns 34 = .ok (.lcmp, 1) := by decide +kernel
theorem dX12_turns_35 : decode cX12_turns 35 = .ok (.ifCond .le 7, 3) := by decide +kernel
theorem dX12_turns_38 : decode cX12_turns 38 = .ok (.iload_n 3, 1) := by decide +kernel
theorem dX12_turns_39 : decode cX12_turns 39 = .ok (.goto 4, 3) := by decide +kernel
theorem dX12_turns_42 : decode cX12_turns 42 = .ok (.iload_n 2, 1) := by decide +kernel
theorem dX12_turns_43 : decode cX12_turns 43 = .ok (.istore_n 2, 1) := by decide +kernel
theorem dX12_turns_44 : decode cX12_turns 44 = .ok (.iinc 3 1, 3) := by decide +kernel
theorem dX12_turns_47 : decode cX12_turns 47 = .ok (.goto (-29), 3) := by decide +kernel
theorem dX12_turns_50 : decode cX12_turns 50 = .ok (.iload_n 2, 1) := by decide +kernel
theorem dX12_turns_51 : decode cX12_turns 51 = .ok (.ireturn, 1) := by decide +kernel
theorem dX12_isStill_0 : decode cX12_isStill 0 = .ok (.iconst 0, 1) := by decide +kernel
theorem dX12_isStill_1 : decode cX12_isStill 1 = .ok (.istore_n 2, 1) := by decide +kernel
theorem dX12_isStill_2 : decode cX12_isStill 2 = .ok (.iconst 0, 1) := by decide +kernel
theorem dX12_isStill_3 : decode cX12_isStill 3 = .ok (.istore_n 3, 1) := by decide +kernel
theorem dX12_isStill_4 : decode cX12_isStill 4 = .ok (.iload_n 3, 1) := by decide +kernel
theorem dX12_isStill_5 : decode cX12_isStill 5 = .ok (.aload_n 0, 1) := by decide +kernel
theorem dX12_isStill_6 : decode cX12_isStill 6 = .ok (.getfield 22, 3) := by decide +kernel
theorem dX12_isStill_9 : decode cX12_isStill 9 = .ok (.bipush 7, 2) := by decide +kernel
theorem dX12_isStill_11 : decode cX12_isStill 11 = .ok (.iaload, 1) := by decide +kernel
theorem dX12_isStill_12 : decode cX12_isStill 12 = .ok (.if_icmp .ge 58, 3) := by decide +kernel
theorem dX12_isStill_15 : decode cX12_isStill 15 = .ok (.iload_n 2, 1) := by decide +kernel
theorem dX12_isStill_16 : decode cX12_isStill 16 = .ok (.ifCond .ne 42, 3) := by decide +kernel
theorem dX12_isStill_19 : decode cX12_isStill 19 = .ok (.iload_n 1, 1) := by decide +kernel
theorem dX12_isStill_20 : decode cX12_isStill 20 = .ok (.i2l, 1) := by decide +kernel
theorem dX12_isStill_21 : decode cX12_isStill 21 = .ok (.aload_n 0, 1) := by decide +kernel
theorem dX12_isStill_22 : decode cX12_isStill 22 = .ok (.getfield 31, 3) := by decide +kernel
theorem dX12_isStill_25 : decode cX12_isStill 25 = .ok (.iconst 2, 1) := by decide +kernel
theorem dX12_isStill_26 : decode cX12_isStill 26 = .ok (.iload_n 3, 1) := by decide +kernel
theorem dX12_isStill_27 : decode cX12_isStill 27 = .ok (.imul, 1) := by decide +kernel
theorem dX12_isStill_28 : decode cX12_isStill 28 = .ok (.iaload, 1) := by decide +kernel
theorem dX12_isStill_29 : decode cX12_isStill 29 = .ok (.i2l, 1) := by decide +kernel
theorem dX12_isStill_30 : decode cX12_isStill 30 = .ok (.aload_n 0, 1) := by decide +kernel
theorem dX12_isStill_31 : decode cX12_isStill 31 = .ok (.getfield 31, 3) := by decide +kernel
theorem dX12_isStill_34 : decode cX12_isStill 34 = .ok (.iconst 2, 1) := by decide +kernel
theorem dX12_isStill_35 : decode cX12_isStill 35 = .ok (.iload_n 3, 1) := by decide +kernel
theorem dX12_isStill_36 : decode cX12_isStill 36 = .ok (.imul, 1) := by decide +kernel
theorem dX12_isStill_37 : decode cX12_isStill 37 = .ok (.iaload, 1) := by decide +kernel
theorem dX12_isStill_38 : decode cX12_isStill 38 = .ok (.aload_n 0, 1) := by decide +kernel
theorem dX12_isStill_39 : decode cX12_isStill 39 = .ok (.getfield 31, 3) := by decide +kernel
theorem dX12_isStill_42 : decode cX12_isStill 42 = .ok (.iconst 2, 1) := by decide +kernel
theorem dX12_isStill_43 : decode cX12_isStill 43 = .ok (.iload_n 3, 1) := by decide +kernel
theorem dX12_isStill_44 : decode cX12_isStill 44 = .ok (.imul, 1) := by decide +kernel
theorem dX12_isStill_45 : decode cX12_isStill 45 = .ok (.iconst 1, 1) := by decide +kernel
theorem dX12_isStill_46 : decode cX12_isStill 46 = .ok (.iadd, 1) := by decide +kernel
theorem dX12_isStill_47 : decode cX12_isStill 47 = .ok (.iaload, 1) := by decide +kernel
theorem dX12_isStill_48 : decode cX12_isStill 48 = .ok (.iadd, 1) := by decide +kernel
theorem dX12_isStill_49 : decode cX12_isStill 49 = .ok (.iconst 1, 1) := by decide +kernel
theorem dX12_isStill_50 : decode cX12_isStill 50 = .ok (.isub, 1) := by decide +kernel
theorem dX12_isStill_51 : decode cX12_isStill 51 = .ok (.i2l, 1) := by decide +kernel
theorem dX12_isStill_52 : decode cX12_isStill 52 = .ok (.invokestatic 88, 3) := by decide +kernel
theorem dX12_isStill_55 : decode cX12_isStill 55 = .ok (.ifCond .eq 7, 3) := by decide +kernel
theorem dX12_isStill_58 : decode cX12_isStill 58 = .ok (.iconst 1, 1) := by decide +kernel
theorem dX12_isStill_59 : decode cX12_isStill 59 = .ok (.goto 4, 3) := by decide +kernel
theorem dX12_isStill_62 : decode cX12_isStill 62 = .ok (.iconst 0, 1) := by decide +kernel
theorem dX12_isStill_63 : decode cX12_isStill 63 = .ok (.istore_n 2, 1) := by decide +kernel
theorem dX12_isStill_64 : decode cX12_isStill 64 = .ok (.iinc 3 1, 3) := by decide +kernel
theorem dX12_isStill_67 : decode cX12_isStill 67 = .ok (.goto (-63), 3) := by decide +kernel
theorem dX12_isStill_70 : decode cX12_isStill 70 = .ok (.iload_n 2, 1) := by decide +kernel
theorem dX12_isStill_71 : decode cX12_isStill 71 = .ok (.ireturn, 1) := by decide +kernel
theorem dX12_still_0 : decode cX12_still 0 = .ok (.iload_n 1, 1) := by decide +kernel
theorem dX12_still_1 : decode cX12_still 1 = .ok (.i2l, 1) := by decide +kernel
theorem dX12_still_2 : decode cX12_still 2 = .ok (.lconst 0, 1) := by decide +kernel
theorem dX12_still_3 : decode cX12_still 3 = .ok (.ldc2_w 288, 3) := by decide +kernel
theorem dX12_still_6 : decode cX12_still 6 = .ok (.invokestatic 88, 3) := by decide +kernel
theorem dX12_still_9 : decode cX12_still 9 = .ok (.ifCond .eq 15, 3) := by decide +kernel
theorem dX12_still_12 : decode cX12_still 12 = .ok (.iload_n 2, 1) := by decide +kernel
theorem dX12_still_13 : decode cX12_still 13 = .ok (.i2l, 1) := by decide +kernel
theorem dX12_still_14 : decode cX12_still 14 = .ok (.lconst 0, 1) := by decide +kernel
theorem dX12_still_15 : decode cX12_still 15 = .ok (.ldc2_w 290, 3) := by decide +kernel
theorem dX12_still_18 : decode cX12_still 18 = .ok (.invokestatic 88, 3) := by decide +kernel
theorem dX12_still_21 : decode cX12_still 21 = .ok (.ifCond .ne 5, 3) := by decide +kernel
theorem dX12_still_24 : decode cX12_still 24 = .ok (.iconst (-1), 1) := by decide +kernel
theorem dX12_still_25 : decode cX12_still 25 = .ok (.ireturn, 1) := by decide +kernel
theorem dX12_still_26 : decode cX12_still 26 = .ok (.iload_n 2, 1) := by decide +kernel
theorem dX12_still_27 : decode cX12_still 27 = .ok (.ifCond .ne 17, 3) := by decide +kernel
theorem dX12_still_30 : decode cX12_still 30 = .ok (.aload_n 0, 1) := by decide +kernel
theorem dX12_still_31 : decode cX12_still 31 = .ok (.iload_n 1, 1) := by decide +kernel
theorem dX12_still_32 : decode cX12_still 32 = .ok (.invokevirtual 292, 3) := by decide +kernel
theorem dX12_still_35 : decode cX12_still 35 = .ok (.ifCond .eq 7, 3) := by decide +kernel
theorem dX12_still_38 : decode cX12_still 38 = .ok (.iconst 1, 1) := by decide +kernel
theorem dX12_still_39 : decode cX12_still 39 = .ok (.goto 4, 3) := by decide +kernel
theorem dX12_still_42 : decode cX12_still 42 = .ok (.iconst 0, 1) := by decide +kernel
theorem dX12_still_43 : decode cX12_still 43 = .ok (.ireturn, 1) := by decide +kernel
theorem dX12_still_44 : decode cX12_still 44 = .ok (.iload_n 1, 1) := by decide +kernel
theorem dX12_still_45 : decode cX12_still 45 = .ok (.istore_n 3, 1) := by decide +kernel
theorem dX12_still_46 : decode cX12_still 46 = .ok (.iload_n 3, 1) := by decide +kernel
theorem dX12_still_47 : decode cX12_still 47 = .ok (.sipush 600, 3) := by decide +kernel
theorem dX12_still_50 : decode cX12_still 50 = .ok (.if_icmp .ge 29, 3) := by decide +kernel
theorem dX12_still_53 : decode cX12_still 53 = .ok (.aload_n 0, 1) := by decide +kernel
theorem dX12_still_54 : decode cX12_still 54 = .ok (.iload_n 3, 1) := by decide +kernel
theorem dX12_still_55 : decode cX12_still 55 = .ok (.invokevirtual 292, 3) := by decide +kernel
theorem dX12_still_58 : decode cX12_still 58 = .ok (.iload_n 2, 1) := by decide +kernel
theorem dX12_still_59 : decode cX12_still 59 = .ok (.iconst 2, 1) := by decide +kernel
theorem dX12_still_60 : decode cX12_still 60 = .ok (.if_icmp .ne 7, 3) := by decide +kernel
theorem dX12_still_63 : decode cX12_still 63 = .ok (.iconst 1, 1) := by decide +kernel
theorem dX12_still_64 : decode cX12_still 64 = .ok (.goto 4, 3) := by decide +kernel
theorem dX12_still_67 : decode cX12_still 67 = .ok (.iconst 0, 1) := by decide +kernel
theorem dX12_still_68 : decode cX12_still 68 = .ok (.if_icmp .ne 5, 3) := by decide +kernel
theorem dX12_still_71 : decode cX12_still 71 = .ok (.iload_n 3, 1) := by decide +kernel
theorem dX12_still_72 : decode cX12_still 72 = .ok (.ireturn, 1) := by decide +kernel
theorem dX12_still_73 : decode cX12_still 73 = .ok (.iinc 3 1, 3) := by decide +kernel
theorem dX12_still_76 : decode cX12_still 76 = .ok (.goto (-30), 3) := by decide +kernel
theorem dX12_still_79 : decode cX12_still 79 = .ok (.bipush (-4), 2) := by decide +kernel
theorem dX12_still_81 : decode cX12_still 81 = .ok (.ireturn, 1) := by decide +kernel
theorem dX12_begin_0 : decode cX12_begin 0 = .ok (.iload_n 1, 1) := by decide +kernel
theorem dX12_begin_1 : decode cX12_begin 1 = .ok (.i2l, 1) := by decide +kernel
theorem dX12_begin_2 : decode cX12_begin 2 = .ok (.lconst 0, 1) := by decide +kernel
theorem dX12_begin_3 : decode cX12_begin 3 = .ok (.ldc2_w 288, 3) := by decide +kernel
theorem dX12_begin_6 : decode cX12_begin 6 = .ok (.invokestatic 88, 3) := by decide +kernel
theorem dX12_begin_9 : decode cX12_begin 9 = .ok (.ifCond .eq 15, 3) := by decide +kernel
theorem dX12_begin_12 : decode cX12_begin 12 = .ok (.iload_n 2, 1) := by decide +kernel
theorem dX12_begin_13 : decode cX12_begin 13 = .ok (.i2l, 1) := by decide +kernel
theorem dX12_begin_14 : decode cX12_begin 14 = .ok (.lconst 1, 1) := by decide +kernel
theorem dX12_begin_15 : decode cX12_begin 15 = .ok (.ldc2_w 295, 3) := by decide +kernel
theorem dX12_begin_18 : decode cX12_begin 18 = .ok (.invokestatic 88, 3) := by decide +kernel
theorem dX12_begin_21 : decode cX12_begin 21 = .ok (.ifCond .ne 5, 3) := by decide +kernel
theorem dX12_begin_24 : decode cX12_begin 24 = .ok (.iconst (-1), 1) := by decide +kernel
theorem dX12_begin_25 : decode cX12_begin 25 = .ok (.ireturn, 1) := by decide +kernel
theorem dX12_begin_26 : decode cX12_begin 26 = .ok (.iconst 0, 1) := by decide +kernel
theorem dX12_begin_27 : decode cX12_begin 27 = .ok (.istore_n 3, 1) := by decide +kernel
theorem dX12_begin_28 : decode cX12_begin 28 = .ok (.iload_n 1, 1) := by decide +kernel
theorem dX12_begin_29 : decode cX12_begin 29 = .ok (.istore 4, 2) := by decide +kernel
theorem dX12_begin_31 : decode cX12_begin 31 = .ok (.iload 4, 2) := by decide +kernel
theorem dX12_begin_33 : decode cX12_begin 33 = .ok (.sipush 600, 3) := by decide +kernel
theorem dX12_begin_36 : decode cX12_begin 36 = .ok (.if_icmp .ge 38, 3) := by decide +kernel
theorem dX12_begin_39 : decode cX12_begin 39 = .ok (.aload_n 0, 1) := by decide +kernel
theorem dX12_begin_40 : decode cX12_begin 40 = .ok (.iload 4, 2) := by decide +kernel
theorem dX12_begin_42 : decode cX12_begin 42 = .ok (.invokevirtual 292, 3) := by decide +kernel
theorem dX12_begin_45 : decode cX12_begin 45 = .ok (.ifCond .eq 7, 3) := by decide +kernel
theorem dX12_begin_48 : decode cX12_begin 48 = .ok (.iconst 0, 1) := by decide +kernel
theorem dX12_begin_49 : decode cX12_begin 49 = .ok (.goto 6, 3) := by decide +kernel
theorem dX12_begin_52 : decode cX12_begin 52 = .ok (.iload_n 3, 1) := by decide +kernel
theorem dX12_begin_53 : decode cX12_begin 53 = .ok (.iconst 1, 1) := by decide +kernel
theorem dX12_begin_54 : decode cX12_begin 54 = .ok (.iadd, 1) := by decide +kernel
theorem dX12_begin_55 : decode cX12_begin 55 = .ok (.istore_n 3, 1) := by decide +kernel
theorem dX12_begin_56 : decode cX12_begin 56 = .ok (.iload_n 3, 1) := by decide +kernel
theorem dX12_begin_57 : decode cX12_begin 57 = .ok (.iload_n 2, 1) := by decide +kernel
theorem dX12_begin_58 : decode cX12_begin 58 = .ok (.if_icmp .ne 10, 3) := by decide +kernel
theorem dX12_begin_61 : decode cX12_begin 61 = .ok (.iload 4, 2) := by decide +kernel
theorem dX12_begin_63 : decode cX12_begin 63 = .ok (.iload_n 2, 1) := by decide +kernel
theorem dX12_begin_64 : decode cX12_begin 64 = .ok (.isub, 1) := by decide +kernel
theorem dX12_begin_65 : decode cX12_begin 65 = .ok (.iconst 1, 1) := by decide +kernel
theorem dX12_begin_66 : decode cX12_begin 66 = .ok (.iadd, 1) := by decide +kernel
theorem dX12_begin_67 : decode cX12_begin 67 = .ok (.ireturn, 1) := by decide +kernel
theorem dX12_begin_68 : decode cX12_begin 68 = .ok (.iinc 4 1, 3) := by decide +kernel
theorem dX12_begin_71 : decode cX12_begin 71 = .ok (.goto (-40), 3) := by decide +kernel
theorem dX12_begin_74 : decode cX12_begin 74 = .ok (.bipush (-4), 2) := by decide +kernel
theorem dX12_begin_76 : decode cX12_begin 76 = .ok (.ireturn, 1) := by decide +kernel
theorem dX12_nights_0 : decode cX12_nights 0 = .ok (.iload_n 1, 1) := by decide +kernel
theorem dX12_nights_1 : decode cX12_nights 1 = .ok (.i2l, 1) := by decide +kernel
theorem dX12_nights_2 : decode cX12_nights 2 = .ok (.lconst 1, 1) := by decide +kernel
theorem dX12_nights_3 : decode cX12_nights 3 = .ok (.ldc2_w 295, 3) := by decide +kernel
theorem dX12_nights_6 : decode cX12_nights 6 = .ok (.invokestatic 88, 3) := by decide +kernel
theorem dX12_nights_9 : decode cX12_nights 9 = .ok (.ifCond .ne 5, 3) := by decide +kernel
theorem dX12_nights_12 : decode cX12_nights 12 = .ok (.iconst (-1), 1) := by decide +kernel
theorem dX12_nights_13 : decode cX12_nights 13 = .ok (.ireturn, 1) := by decide +kernel
theorem dX12_nights_14 : decode cX12_nights 14 = .ok (.iconst 0, 1) := by decide +kernel
theorem dX12_nights_15 : decode cX12_nights 15 = .ok (.istore_n 2, 1) := by decide +kernel
theorem dX12_nights_16 : decode cX12_nights 16 = .ok (.iconst 0, 1) := by decide +kernel
theorem dX12_nights_17 : decode cX12_nights 17 = .ok (.istore_n 3, 1) := by decide +kernel
theorem dX12_nights_18 : decode cX12_nights 18 = .ok (.iconst 0, 1) := by decide +kernel
theorem dX12_nights_19 : decode cX12_nights 19 = .ok (.istore 4, 2) := by decide +kernel
theorem dX12_nights_21 : decode cX12_nights 21 = .ok (.iload 4, 2) := by decide +kernel
theorem dX12_nights_23 : decode cX12_nights 23 = .ok (.sipush 600, 3) := by decide +kernel
theorem dX12_nights_26 : decode cX12_nights 26 = .ok (.if_icmp .ge 36, 3) := by decide +kernel
theorem dX12_nights_29 : decode cX12_nights 29 = .ok (.aload_n 0, 1) := by decide +kernel
theorem dX12_nights_30 : decode cX12_nights 30 = .ok (.iload 4, 2) := by decide +kernel
theorem dX12_nights_32 : decode cX12_nights 32 = .ok (.invokevirtual 292, 3) := by decide +kernel
theorem dX12_nights_35 : decode cX12_nights 35 = .ok (.ifCond .eq 7, 3) := by decide +kernel
theorem dX12_nights_38 : decode cX12_nights 38 = .ok (.iconst 0, 1) := by decide +kernel
theorem dX12_nights_39 : decode cX12_nights 39 = .ok (.goto 6, 3) := by decide +kernel
theorem dX12_nights_42 : decode cX12_nights 42 = .ok (.iload_n 2, 1) := by decide +kernel
theorem dX12_nights_43 : decode cX12_nights 43 = .ok (.iconst 1, 1) := by decide +kernel
theorem dX12_nights_44 : decode cX12_nights 44 = .ok (.iadd, 1) := by decide +kernel
theorem dX12_nights_45 : decode cX12_nights 45 = .ok (.istore_n 2, 1) := by decide +kernel
theorem dX12_nights_46 : decode cX12_nights 46 = .ok (.iload_n 2, 1) := by decide +kernel
theorem dX12_nights_47 : decode cX12_nights 47 = .ok (.iload_n 1, 1) := by decide +kernel
theorem dX12_nights_48 : decode cX12_nights 48 = .ok (.if_icmp .ne 8, 3) := by decide +kernel
theorem dX12_nights_51 : decode cX12_nights 51 = .ok (.iinc 3 1, 3) := by decide +kernel
theorem dX12_nights_54 : decode cX12_nights 54 = .ok (.iconst 0, 1) := by decide +kernel
theorem dX12_nights_55 : decode cX12_nights 55 = .ok (.istore_n 2, 1) := by decide +kernel
theorem dX12_nights_56 : decode cX12_nights 56 = .ok (.iinc 4 1, 3) := by decide +kernel
theorem dX12_nights_59 : decode cX12_nights 59 = .ok (.goto (-38), 3) := by decide +kernel
theorem dX12_nights_62 : decode cX12_nights 62 = .ok (.iload_n 3, 1) := by decide +kernel
theorem dX12_nights_63 : decode cX12_nights 63 = .ok (.ireturn, 1) := by decide +kernel
theorem dX12_longest_0 : decode cX12_longest 0 = .ok (.iload_n 1, 1) := by decide +kernel
theorem dX12_longest_1 : decode cX12_longest 1 = .ok (.i2l, 1) := by decide +kernel
theorem dX12_longest_2 : decode cX12_longest 2 = .ok (.lconst 0, 1) := by decide +kernel
theorem dX12_longest_3 : decode cX12_longest 3 = .ok (.lconst 1, 1) := by decide +kernel
theorem dX12_longest_4 : decode cX12_longest 4 = .ok (.invokestatic 88, 3) := by decide +kernel
theorem dX12_longest_7 : decode cX12_longest 7 = .ok (.ifCond .ne 5, 3) := by decide +kernel
theorem dX12_longest_10 : decode cX12_longest 10 = .ok (.iconst (-1), 1) := by decide +kernel
theorem dX12_longest_11 : decode cX12_longest 11 = .ok (.ireturn, 1) := by decide +kernel
theorem dX12_longest_12 : decode cX12_longest 12 = .ok (.iconst 0, 1) := by decide +kernel
theorem dX12_longest_13 : decode cX12_longest 13 = .ok (.istore_n 2, 1) := by decide +kernel
theorem dX12_longest_14 : decode cX12_longest 14 = .ok (.iconst 0, 1) := by decide +kernel
theorem dX12_longest_15 : decode cX12_longest 15 = .ok (.istore_n 3, 1) := by decide +kernel
theorem dX12_longest_16 : decode cX12_longest 16 = .ok (.bipush (-4), 2) := by decide +kernel
theorem dX12_longest_18 : decode cX12_longest 18 = .ok (.istore 4, 2) := by decide +kernel
theorem dX12_longest_20 : decode cX12_longest 20 = .ok (.iconst 0, 1) := by decide +kernel
theorem dX12_longest_21 : decode cX12_longest 21 = .ok (.istore 5, 2) := by decide +kernel
theorem dX12_longest_23 : decode cX12_longest 23 = .ok (.iload 5, 2) := by decide +kernel
theorem dX12_longest_25 : decode cX12_longest 25 = .ok (.sipush 600, 3) := by decide +kernel
theorem dX12_longest_28 : decode cX12_longest 28 = .ok (.if_icmp .ge 55, 3) := by decide +kernel
theorem dX12_longest_31 : decode cX12_longest 31 = .ok (.aload_n 0, 1) := by decide +kernel
theorem dX12_longest_32 : decode cX12_longest 32 = .ok (.iload 5, 2) := by decide +kernel
theorem dX12_longest_34 : decode cX12_longest 34 = .ok (.invokevirtual 292, 3) := by decide +kernel
theorem dX12_longest_37 : decode cX12_longest 37 = .ok (.ifCond .eq 7, 3) := by decide +kernel
theorem dX12_longest_40 : decode cX12_longest 40 = .ok (.iconst 0, 1) := by decide +kernel
theorem dX12_longest_41 : decode cX12_longest 41 = .ok (.goto 6, 3) := by decide +kernel
theorem dX12_longest_44 : decode cX12_longest 44 = .ok (.iload_n 2, 1) := by decide +kernel
theorem dX12_longest_45 : decode cX12_longest 45 = .ok (.iconst 1, 1) := by decide +kernel
theorem dX12_longest_46 : decode cX12_longest 46 = .ok (.iadd, 1) := by decide +kernel
theorem dX12_longest_47 : decode cX12_longest 47 = .ok (.istore_n 2, 1) := by decide +kernel
theorem dX12_longest_48 : decode cX12_longest 48 = .ok (.iload_n 2, 1) := by decide +kernel
theorem dX12_longest_49 : decode cX12_longest 49 = .ok (.iload_n 3, 1) := by decide +kernel
theorem dX12_longest_50 : decode cX12_longest 50 = .ok (.if_icmp .le 12, 3) := by decide +kernel
theorem dX12_longest_53 : decode cX12_longest 53 = .ok (.iload 5, 2) := by decide +kernel
theorem dX12_longest_55 : decode cX12_longest 55 = .ok (.iload_n 2, 1) := by decide +kernel
theorem dX12_longest_56 : decode cX12_longest 56 = .ok (.isub, 1) := by decide +kernel
theorem dX12_longest_57 : decode cX12_longest 57 = .ok (.iconst 1, 1) := by decide +kernel
theorem dX12_longest_58 : decode cX12_longest 58 = .ok (.iadd, 1) := by decide +kernel
theorem dX12_longest_59 : decode cX12_longest 59 = .ok (.goto 5, 3) := by decide +kernel
theorem dX12_longest_62 : decode cX12_longest 62 = .ok (.iload 4, 2) := by decide +kernel
theorem dX12_longest_64 : decode cX12_longest 64 = .ok (.istore 4, 2) := by decide +kernel
theorem dX12_longest_66 : decode cX12_longest 66 = .ok (.iload_n 2, 1) := by decide +kernel
theorem dX12_longest_67 : decode cX12_longest 67 = .ok (.iload_n 3, 1) := by decide +kernel
theorem dX12_longest_68 : decode cX12_longest 68 = .ok (.if_icmp .le 7, 3) := by decide +kernel
theorem dX12_longest_71 : decode cX12_longest 71 = .ok (.iload_n 2, 1) := by decide +kernel
theorem dX12_longest_72 : decode cX12_longest 72 = .ok (.goto 4, 3) := by decide +kernel
theorem dX12_longest_75 : decode cX12_longest 75 = .ok (.iload_n 3, 1) := by decide +kernel
theorem dX12_longest_76 : decode cX12_longest 76 = .ok (.istore_n 3, 1) := by decide +kernel
theorem dX12_longest_77 : decode cX12_longest 77 = .ok (.iinc 5 1, 3) := by decide +kernel
theorem dX12_longest_80 : decode cX12_longest 80 = .ok (.goto (-57), 3) := by decide +kernel
theorem dX12_longest_83 : decode cX12_longest 83 = .ok (.iload_n 1, 1) := by decide +kernel
theorem dX12_longest_84 : decode cX12_longest 84 = .ok (.ifCond .ne 7, 3) := by decide +kernel
theorem dX12_longest_87 : decode cX12_longest 87 = .ok (.iload_n 3, 1) := by decide +kernel
theorem dX12_longest_88 : decode cX12_longest 88 = .ok (.goto 5, 3) := by decide +kernel
theorem dX12_longest_91 : decode cX12_longest 91 = .ok (.iload 4, 2) := by decide +kernel
theorem dX12_longest_93 : decode cX12_longest 93 = .ok (.ireturn, 1) := by decide +kernel
theorem dX12_lettersOf_0 : decode cX12_lettersOf 0 = .ok (.iconst 0, 1) := by decide +kernel
theorem dX12_lettersOf_1 : decode cX12_lettersOf 1 = .ok (.istore_n 2, 1) := by decide +kernel
theorem dX12_lettersOf_2 : decode cX12_lettersOf 2 = .ok (.iconst 0, 1) := by decide +kernel
theorem dX12_lettersOf_3 : decode cX12_lettersOf 3 = .ok (.istore_n 3, 1) := by decide +kernel
theorem dX12_lettersOf_4 : decode cX12_lettersOf 4 = .ok (.iload_n 3, 1) := by decide +kernel
theorem dX12_lettersOf_5 : decode cX12_lettersOf 5 = .ok (.aload_n 0, 1) := by decide +kernel
theorem dX12_lettersOf_6 : decode cX12_lettersOf 6 = .ok (.iload_n 1, 1) := by decide +kernel
theorem dX12_lettersOf_7 : decode cX12_lettersOf 7 = .ok (.invokevirtual 194, 3) := by decide +kernel
theorem dX12_lettersOf_10 : decode cX12_lettersOf 10 = .ok (.if_icmp .ge 25, 3) := by decide +kernel
theorem dX12_lettersOf_13 : decode cX12_lettersOf 13 = .ok (.iload_n 2, 1) := by decide +kernel
theorem dX12_lettersOf_14 : decode cX12_lettersOf 14 = .ok (.iconst 1, 1) := by decide +kernel
theorem dX12_lettersOf_15 : decode cX12_lettersOf 15 = .ok (.aload_n 0, 1) := by decide +kernel
theorem dX12_lettersOf_16 : decode cX12_lettersOf 16 = .ok (.getfield 25, 3) := by decide +kernel
theorem dX12_lettersOf_19 : decode cX12_lettersOf 19 = .ok (.bipush 10, 2) := by decide +kernel
theorem dX12_lettersOf_21 : decode cX12_lettersOf 21 = .ok (.iload_n 1, 1) := by decide +kernel
theorem dX12_lettersOf_22 : decode cX12_lettersOf 22 = .ok (.imul, 1) := by decide +kernel
theorem dX12_lettersOf_23 : decode cX12_lettersOf 23 = .ok (.iload_n 3, 1) := by decide +kernel
theorem dX12_lettersOf_24 : decode cX12_lettersOf 24 = .ok (.iadd, 1) := by decide +kernel
theorem dX12_lettersOf_25 : decode cX12_lettersOf 25 = .ok (.iaload, 1) := by decide +kernel
theorem dX12_lettersOf_26 : decode cX12_lettersOf 26 = .ok (.ishl, 1) := by decide +kernel
theorem dX12_lettersOf_27 : decode cX12_lettersOf 27 = .ok (.ior, 1) := by decide +kernel
theorem dX12_lettersOf_28 : decode cX12_lettersOf 28 = .ok (.istore_n 2, 1) := by decide +kernel
theorem dX12_lettersOf_29 : decode cX12_lettersOf 29 = .ok (.iinc 3 1, 3) := by decide +kernel
theorem dX12_lettersOf_32 : decode cX12_lettersOf 32 = .ok (.goto (-28), 3) := by decide +kernel
theorem dX12_lettersOf_35 : decode cX12_lettersOf 35 = .ok (.iload_n 2, 1) := by decide +kernel
theorem dX12_lettersOf_36 : decode cX12_lettersOf 36 = .ok (.ireturn, 1) := by decide +kernel
theorem dX12_allLetters_0 : decode cX12_allLetters 0 = .ok (.iconst 0, 1) := by decide +kernel
theorem dX12_allLetters_1 : decode cX12_allLetters 1 = .ok (.istore_n 1, 1) := by decide +kernel
theorem dX12_allLetters_2 : decode cX12_allLetters 2 = .ok (.iconst 0, 1) := by decide +kernel
theorem dX12_allLetters_3 : decode cX12_allLetters 3 = .ok (.istore_n 2, 1) := by decide +kernel
theorem dX12_allLetters_4 : decode cX12_allLetters 4 = .ok (.iload_n 2, 1) := by decide +kernel
theorem dX12_allLetters_5 : decode cX12_allLetters 5 = .ok (.aload_n 0, 1) := by decide +kernel
theorem dX12_allLetters_6 : decode cX12_allLetters 6 = .ok (.getfield 22, 3) := by decide +kernel
theorem dX12_allLetters_9 : decode cX12_allLetters 9 = .ok (.iconst 5, 1) := by decide +kernel
theorem dX12_allLetters_10 : decode cX12_allLetters 10 = .ok (.iaload, 1) := by decide +kernel
theorem dX12_allLetters_11 : decode cX12_allLetters 11 = .ok (.if_icmp .ge 17, 3) := by decide +kernel
theorem dX12_allLetters_14 : decode cX12_allLetters 14 = .ok (.iload_n 1, 1) := by decide +kernel
theorem dX12_allLetters_15 : decode cX12_allLetters 15 = .ok (.aload_n 0, 1) := by decide +kernel
theorem dX12_allLetters_16 : decode cX12_allLetters 16 = .ok (.iload_n 2, 1) := by decide +kernel
theorem dX12_allLetters_17 : decode cX12_allLetters 17 = .ok (.invokevirtual 297, 3) := by decide +kernel
theorem dX12_allLetters_20 : decode cX12_allLetters 20 = .ok (.ior, 1) := by decide +kernel
theorem dX12_allLetters_21 : decode cX12_allLetters 21 = .ok (.istore_n 1, 1) := by decide +kernel
theorem dX12_allLetters_22 : decode cX12_allLetters 22 = .ok (.iinc 2 1, 3) := by decide +kernel
theorem dX12_allLetters_25 : decode cX12_allLetters 25 = .ok (.goto (-21), 3) := by decide +kernel
theorem dX12_allLetters_28 : decode cX12_allLetters 28 = .ok (.iload_n 1, 1) := by decide +kernel
theorem dX12_allLetters_29 : decode cX12_allLetters 29 = .ok (.ireturn, 1) := by decide +kernel
theorem dX12_bitsOf_0 : decode cX12_bitsOf 0 = .ok (.iconst 0, 1) := by decide +kernel
theorem dX12_bitsOf_1 : decode cX12_bitsOf 1 = .ok (.istore_n 1, 1) := by decide +kernel
theorem dX12_bitsOf_2 : decode cX12_bitsOf 2 = .ok (.iconst 0, 1) := by decide +kernel
theorem dX12_bitsOf_3 : decode cX12_bitsOf 3 = .ok (.istore_n 2, 1) := by decide +kernel
theorem dX12_bitsOf_4 : decode cX12_bitsOf 4 = .ok (.iload_n 2, 1) := by decide +kernel
theorem dX12_bitsOf_5 : decode cX12_bitsOf 5 = .ok (.bipush 26, 2) := by decide +kernel
theorem dX12_bitsOf_7 : decode cX12_bitsOf 7 = .ok (.if_icmp .ge 17, 3) := by decide +kernel
theorem dX12_bitsOf_10 : decode cX12_bitsOf 10 = .ok (.iload_n 1, 1) := by decide +kernel
theorem dX12_bitsOf_11 : decode cX12_bitsOf 11 = .ok (.iload_n 0, 1) := by decide +kernel
theorem dX12_bitsOf_12 : decode cX12_bitsOf 12 = .ok (.iload_n 2, 1) := by decide +kernel
theorem dX12_bitsOf_13 : decode cX12_bitsOf 13 = .ok (.ishr, 1) := by decide +kernel
theorem dX12_bitsOf_14 : decode cX12_bitsOf 14 = .ok (.iconst 1, 1) := by decide +kernel
theorem dX12_bitsOf_15 : decode cX12_bitsOf 15 = .ok (.iand, 1) := by decide +kernel
theorem dX12_bitsOf_16 : decode cX12_bitsOf 16 = .ok (.iadd, 1) := by decide +kernel
theorem dX12_bitsOf_17 : decode cX12_bitsOf 17 = .ok (.istore_n 1, 1) := by decide +kernel
theorem dX12_bitsOf_18 : decode cX12_bitsOf 18 = .ok (.iinc 2 1, 3) := by decide +kernel
theorem dX12_bitsOf_21 : decode cX12_bitsOf 21 = .ok (.goto (-17), 3) := by decide +kernel
theorem dX12_bitsOf_24 : decode cX12_bitsOf 24 = .ok (.iload_n 1, 1) := by decide +kernel
theorem dX12_bitsOf_25 : decode cX12_bitsOf 25 = .ok (.ireturn, 1) := by decide +kernel
theorem dX12_teach_0 : decode cX12_teach 0 = .ok (.aload_n 0, 1) := by decide +kernel
theorem dX12_teach_1 : decode cX12_teach 1 = .ok (.invokevirtual 182, 3) := by decide +kernel
theorem dX12_teach_4 : decode cX12_teach 4 = .ok (.iload_n 1, 1) := by decide +kernel
theorem dX12_teach_5 : decode cX12_teach 5 = .ok (.i2l, 1) := by decide +kernel
theorem dX12_teach_6 : decode cX12_teach 6 = .ok (.lconst 0, 1) := by decide +kernel
theorem dX12_teach_7 : decode cX12_teach 7 = .ok (.ldc2_w 290, 3) := by decide +kernel
theorem dX12_teach_10 : decode cX12_teach 10 = .ok (.invokestatic 88, 3) := by decide +kernel
theorem dX12_teach_13 : decode cX12_teach 13 = .ok (.ifCond .ne 5, 3) := by decide +kernel
theorem dX12_teach_16 : decode cX12_teach 16 = .ok (.iconst (-1), 1) := by decide +kernel
theorem dX12_teach_17 : decode cX12_teach 17 = .ok (.ireturn, 1) := by decide +kernel
theorem dX12_teach_18 : decode cX12_teach 18 = .ok (.aload_n 0, 1) := by decide +kernel
theorem dX12_teach_19 : decode cX12_teach 19 = .ok (.invokevirtual 300, 3) := by decide +kernel
theorem dX12_teach_22 : decode cX12_teach 22 = .ok (.istore_n 2, 1) := by decide +kernel
theorem dX12_teach_23 : decode cX12_teach 23 = .ok (.iconst 0, 1) := by decide +kernel
theorem dX12_teach_24 : decode cX12_teach 24 = .ok (.istore_n 3, 1) := by decide +kernel
theorem dX12_teach_25 : decode cX12_teach 25 = .ok (.bipush (-4), 2) := by decide +kernel
theorem dX12_teach_27 : decode cX12_teach 27 = .ok (.istore 4, 2) := by decide +kernel
theorem dX12_teach_29 : decode cX12_teach 29 = .ok (.iconst 0, 1) := by decide +kernel
theorem dX12_teach_30 : decode cX12_teach 30 = .ok (.istore 5, 2) := by decide +kernel
theorem dX12_teach_32 : decode cX12_teach 32 = .ok (.iload 5, 2) := by decide +kernel
theorem dX12_teach_34 : decode cX12_teach 34 = .ok (.iconst 1, 1) := by decide +kernel
theorem dX12_teach_35 : decode cX12_teach 35 = .ok (.aload_n 0, 1) := by decide +kernel
theorem dX12_teach_36 : decode cX12_teach 36 = .ok (.getfield 22, 3) := by decide +kernel
theorem dX12_teach_39 : decode cX12_teach 39 = .ok (.iconst 5, 1) := by decide +kernel
theorem dX12_teach_40 : decode cX12_teach 40 = .ok (.iaload, 1) := by decide +kernel
theorem dX12_teach_41 : decode cX12_teach 41 = .ok (.ishl, 1) := by decide +kernel
theorem dX12_teach_42 : decode cX12_teach 42 = .ok (.if_icmp .ge 126, 3) := by decide +kernel
theorem dX12_teach_45 : decode cX12_teach 45 = .ok (.iconst 0, 1) := by decide +kernel
theorem dX12_teach_46 : decode cX12_teach 46 = .ok (.istore 6, 2) := by decide +kernel
theorem dX12_teach_48 : decode cX12_teach 48 = .ok (.iconst 0, 1) := by decide +kernel
theorem dX12_teach_49 : decode cX12_teach 49 = .ok (.istore 7, 2) := by decide +kernel
theorem dX12_teach_51 : decode cX12_teach 51 = .ok (.iconst 0, 1) := by decide +kernel
theorem dX12_teach_52 : decode cX12_teach 52 = .ok (.istore 8, 2) := by decide +kernel
theorem dX12_teach_54 : decode cX12_teach 54 = .ok (.iload 8, 2) := by decide +kernel
theorem dX12_teach_56 : decode cX12_teach 56 = .ok (.aload_n 0, 1) := by decide +kernel
theorem dX12_teach_57 : decode cX12_teach 57 = .ok (.getfield 22, 3) := by decide +kernel
theorem dX12_teach_60 : decode cX12_teach 60 = .ok (.iconst 5, 1) := by decide +kernel
theorem dX12_teach_61 : decode cX12_teach 61 = .ok (.iaload, 1) := by decide +kernel
theorem dX12_teach_62 : decode cX12_teach 62 = .ok (.if_icmp .ge 42, 3) := by decide +kernel
theorem dX12_teach_65 : decode cX12_teach 65 = .ok (.iload 5, 2) := by decide +kernel
theorem dX12_teach_67 : decode cX12_teach 67 = .ok (.iload 8, 2) := by decide +kernel
theorem dX12_teach_69 : decode cX12_teach 69 = .ok (.ishr, 1) := by decide +kernel
theorem dX12_teach_70 : decode cX12_teach 70 = .ok (.iconst 1, 1) := by decide +kernel
theorem dX12_teach_71 : decode cX12_teach 71 = .ok (.iand, 1) := by decide +kernel
theorem dX12_teach_72 : decode cX12_teach 72 = .ok (.iconst 1, 1) := by decide +kernel
theorem dX12_teach_73 : decode cX12_teach 73 = .ok (.if_icmp .ne 25, 3) := by decide +kernel
theorem dX12_teach_76 : decode cX12_teach 76 = .ok (.iload 6, 2) := by decide +kernel
theorem dX12_teach_78 : decode cX12_teach 78 = .ok (.aload_n 0, 1) := by decide +kernel
theorem dX12_teach_79 : decode cX12_teach 79 = .ok (.iload 8, 2) := by decide +kernel
theorem dX12_teach_81 : decode cX12_teach 81 = .ok (.invokevirtual 297, 3) := by decide +kernel
theorem dX12_teach_84 : decode cX12_teach 84 = .ok (.ior, 1) := by decide +kernel
theorem dX12_teach_85 : decode cX12_teach 85 = .ok (.istore 6, 2) := by decide +kernel
theorem dX12_teach_87 : decode cX12_teach 87 = .ok (.iload 7, 2) := by decide +kernel
theorem dX12_teach_89 : decode cX12_teach 89 = .ok (.aload_n 0, 1) := by decide +kernel
theorem dX12_teach_90 : decode cX12_teach 90 = .ok (.iload 8, 2) := by decide +kernel
theorem dX12_teach_92 : decode cX12_teach 92 = .ok (.invokevirtual 203, 3) := by decide +kernel
theorem dX12_teach_95 : decode cX12_teach 95 = .ok (.iadd, 1) := by decide +kernel
theorem dX12_teach_96 : decode cX12_teach 96 = .ok (.istore 7, 2) := by decide +kernel
theorem dX12_teach_98 : decode cX12_teach 98 = .ok (.iinc 8 1, 3) := by decide +kernel
theorem dX12_teach_101 : decode cX12_teach 101 = .ok (.goto (-47), 3) := by decide +kernel
theorem dX12_teach_104 : decode cX12_teach 104 = .ok (.iload 4, 2) := by decide +kernel
theorem dX12_teach_106 : decode cX12_teach 106 = .ok (.bipush (-4), 2) := by decide +kernel
theorem dX12_teach_108 : decode cX12_teach 108 = .ok (.if_icmp .eq 29, 3) := by decide +kernel
theorem dX12_teach_111 : decode cX12_teach 111 = .ok (.iload 7, 2) := by decide +kernel
theorem dX12_teach_113 : decode cX12_teach 113 = .ok (.iload 4, 2) := by decide +kernel
theorem dX12_teach_115 : decode cX12_teach 115 = .ok (.if_icmp .lt 22, 3) := by decide +kernel
theorem dX12_teach_118 : decode cX12_teach 118 = .ok (.iload 7, 2) := by decide +kernel
theorem dX12_teach_120 : decode cX12_teach 120 = .ok (.iload 4, 2) := by decide +kernel
theorem dX12_teach_122 : decode cX12_teach 122 = .ok (.if_icmp .ne 19, 3) := by decide +kernel
theorem dX12_teach_125 : decode cX12_teach 125 = .ok (.iload 5, 2) := by decide +kernel
theorem dX12_teach_127 : decode cX12_teach 127 = .ok (.invokestatic 303, 3) := by decide +kernel
theorem dX12_teach_130 : decode cX12_teach 130 = .ok (.iload_n 3, 1) := by decide +kernel
theorem dX12_teach_131 : decode cX12_teach 131 = .ok (.invokestatic 303, 3) := by decide +kernel
theorem dX12_teach_134 : decode cX12_teach 134 = .ok (.if_icmp .ge 7, 3) := by decide +kernel
theorem dX12_teach_137 : decode cX12_teach 137 = .ok (.iconst 1, 1) := by decide +kernel
theorem dX12_teach_138 : decode cX12_teach 138 = .ok (.goto 4, 3) := by decide +kernel
theorem dX12_teach_141 : decode cX12_teach 141 = .ok (.iconst 0, 1) := by decide +kernel
theorem dX12_teach_142 : decode cX12_teach 142 = .ok (.istore 8, 2) := by decide +kernel
theorem dX12_teach_144 : decode cX12_teach 144 = .ok (.iload 6, 2) := by decide +kernel
theorem dX12_teach_146 : decode cX12_teach 146 = .ok (.iload_n 2, 1) := by decide +kernel
theorem dX12_teach_147 : decode cX12_teach 147 = .ok (.if_icmp .ne 15, 3) := by decide +kernel
theorem dX12_teach_150 : decode cX12_teach 150 = .ok (.iload 8, 2) := by decide +kernel
theorem dX12_teach_152 : decode cX12_teach 152 = .ok (.ifCond .eq 10, 3) := by decide +kernel
theorem dX12_teach_155 : decode cX12_teach 155 = .ok (.iload 5, 2) := by decide +kernel
theorem dX12_teach_157 : decode cX12_teach 157 = .ok (.istore_n 3, 1) := by decide +kernel
theorem dX12_teach_158 : decode cX12_teach 158 = .ok (.iload 7, 2) := by decide +kernel
theorem dX12_teach_160 : decode cX12_teach 160 = .ok (.istore 4, 2) := by decide +kernel
theorem dX12_teach_162 : decode cX12_teach 162 = .ok (.iinc 5 1, 3) := by decide +kernel
theorem dX12_teach_165 : decode cX12_teach 165 = .ok (.goto (-133), 3) := by decide +kernel
theorem dX12_teach_168 : decode cX12_teach 168 = .ok (.iload_n 1, 1) := by decide +kernel
theorem dX12_teach_169 : decode cX12_teach 169 = .ok (.ifCond .ne 8, 3) := by decide +kernel
theorem dX12_teach_172 : decode cX12_teach 172 = .ok (.iload 4, 2) := by decide +kernel
theorem dX12_teach_174 : decode cX12_teach 174 = .ok (.goto 16, 3) := by decide +kernel
theorem dX12_teach_177 : decode cX12_teach 177 = .ok (.iload_n 1, 1) := by decide +kernel
theorem dX12_teach_178 : decode cX12_teach 178 = .ok (.iconst 1, 1) := by decide +kernel
theorem dX12_teach_179 : decode cX12_teach 179 = .ok (.if_icmp .ne 10, 3) := by decide +kernel
theorem dX12_teach_182 : decode cX12_teach 182 = .ok (.iload_n 3, 1) := by decide +kernel
theorem dX12_teach_183 : decode cX12_teach 183 = .ok (.invokestatic 303, 3) := by decide +kernel
theorem dX12_teach_186 : decode cX12_teach 186 = .ok (.goto 4, 3) := by decide +kernel
theorem dX12_teach_189 : decode cX12_teach 189 = .ok (.iload_n 3, 1) := by decide +kernel
theorem dX12_teach_190 : decode cX12_teach 190 = .ok (.ireturn, 1) := by decide +kernel
theorem dX12_isCell_0 : decode cX12_isCell 0 = .ok (.iload_n 0, 1) := by decide +kernel
theorem dX12_isCell_1 : decode cX12_isCell 1 = .ok (.i2l, 1) := by decide +kernel
theorem dX12_isCell_2 : decode cX12_isCell 2 = .ok (.lconst 0, 1) := by decide +kernel
theorem dX12_isCell_3 : decode cX12_isCell 3 = .ok (.ldc2_w 206, 3) := by decide +kernel
theorem dX12_isCell_6 : decode cX12_isCell 6 = .ok (.invokestatic 88, 3) := by decide +kernel
theorem dX12_isCell_9 : decode cX12_isCell 9 = .ok (.ireturn, 1) := by decide +kernel
theorem dX12_said_0 : decode cX12_said 0 = .ok (.aload_n 0, 1) := by decide +kernel
theorem dX12_said_1 : decode cX12_said 1 = .ok (.iload_n 1, 1) := by decide +kernel
theorem dX12_said_2 : decode cX12_said 2 = .ok (.invokevirtual 200, 3) := by decide +kernel
theorem dX12_said_5 : decode cX12_said 5 = .ok (.ifCond .eq 17, 3) := by decide +kernel
theorem dX12_said_8 : decode cX12_said 8 = .ok (.iload_n 2, 1) := by decide +kernel
theorem dX12_said_9 : decode cX12_said 9 = .ok (.invokestatic 306, 3) := by decide +kernel
theorem dX12_said_12 : decode cX12_said 12 = .ok (.ifCond .eq 10, 3) := by decide +kernel
theorem dX12_said_15 : decode cX12_said 15 = .ok (.iload_n 3, 1) := by decide +kernel
theorem dX12_said_16 : decode cX12_said 16 = .ok (.invokestatic 306, 3) := by decide +kernel
theorem dX12_said_19 : decode cX12_said 19 = .ok (.ifCond .ne 5, 3) := by decide +kernel
theorem dX12_said_22 : decode cX12_said 22 = .ok (.iconst (-1), 1) := by decide +kernel
theorem dX12_said_23 : decode cX12_said 23 = .ok (.ireturn, 1) := by decide +kernel
theorem dX12_said_24 : decode cX12_said 24 = .ok (.iconst 0, 1) := by decide +kernel
theorem dX12_said_25 : decode cX12_said 25 = .ok (.istore 4, 2) := by decide +kernel
theorem dX12_said_27 : decode cX12_said 27 = .ok (.iload 4, 2) := by decide +kernel
theorem dX12_said_29 : decode cX12_said 29 = .ok (.bipush 11, 2) := by decide +kernel
theorem dX12_said_31 : decode cX12_said 31 = .ok (.if_icmp .ge 53, 3) := by decide +kernel
theorem dX12_said_34 : decode cX12_said 34 = .ok (.aload_n 0, 1) := by decide +kernel
theorem dX12_said_35 : decode cX12_said 35 = .ok (.getfield 49, 3) := by decide +kernel
theorem dX12_said_38 : decode cX12_said 38 = .ok (.bipush 50, 2) := by decide +kernel
theorem dX12_said_40 : decode cX12_said 40 = .ok (.iload_n 1, 1) := by decide +kernel
theorem dX12_said_41 : decode cX12_said 41 = .ok (.iadd, 1) := by decide +kernel
theorem dX12_said_42 : decode cX12_said 42 = .ok (.dup2, 1) := by decide +kernel
theorem dX12_said_43 : decode cX12_said 43 = .ok (.iaload, 1) := by decide +kernel
theorem dX12_said_44 : decode cX12_said 44 = .ok (.iload 4, 2) := by decide +kernel
theorem dX12_said_46 : decode cX12_said 46 = .ok (.iload_n 2, 1) := by decide +kernel
theorem dX12_said_47 : decode cX12_said 47 = .ok (.if_icmp .lt 9, 3) := by decide +kernel
theorem dX12_said_50 : decode cX12_said 50 = .ok (.iload 4, 2) := by decide +kernel
theorem dX12_said_52 : decode cX12_said 52 = .ok (.iload_n 3, 1) := by decide +kernel
theorem dX12_said_53 : decode cX12_said 53 = .ok (.if_icmp .le 15, 3) := by decide +kernel
theorem dX12_said_56 : decode cX12_said 56 = .ok (.iload 4, 2) := by decide +kernel
theorem dX12_said_58 : decode cX12_said 58 = .ok (.iload_n 3, 1) := by decide +kernel
theorem dX12_said_59 : decode cX12_said 59 = .ok (.if_icmp .lt 16, 3) := by decide +kernel
theorem dX12_said_62 : decode cX12_said 62 = .ok (.iload 4, 2) := by decide +kernel
theorem dX12_said_64 : decode cX12_said 64 = .ok (.iload_n 2, 1) := by decide +kernel
theorem dX12_said_65 : decode cX12_said 65 = .ok (.if_icmp .gt 10, 3) := by decide +kernel
theorem dX12_said_68 : decode cX12_said 68 = .ok (.iconst 1, 1) := by decide +kernel
theorem dX12_said_69 : decode cX12_said 69 = .ok (.iload 4, 2) := by decide +kernel
theorem dX12_said_71 : decode cX12_said 71 = .ok (.ishl, 1) := by decide +kernel
theorem dX12_said_72 : decode cX12_said 72 = .ok (.goto 4, 3) := by decide +kernel
theorem dX12_said_75 : decode cX12_said 75 = .ok (.iconst 0, 1) := by decide +kernel
theorem dX12_said_76 : decode cX12_said 76 = .ok (.ior, 1) := by decide +kernel
theorem dX12_said_77 : decode cX12_said 77 = .ok (.iastore, 1) := by decide +kernel
theorem dX12_said_78 : decode cX12_said 78 = .ok (.iinc 4 1, 3) := by decide +kernel
theorem dX12_said_81 : decode cX12_said 81 = .ok (.goto (-54), 3) := by decide +kernel
theorem dX12_said_84 : decode cX12_said 84 = .ok (.aload_n 0, 1) := by decide +kernel
theorem dX12_said_85 : decode cX12_said 85 = .ok (.getfield 49, 3) := by decide +kernel
theorem dX12_said_88 : decode cX12_said 88 = .ok (.bipush 50, 2) := by decide +kernel
theorem dX12_said_90 : decode cX12_said 90 = .ok (.iload_n 1, 1) := by decide +kernel
theorem dX12_said_91 : decode cX12_said 91 = .ok (.iadd, 1) := by decide +kernel
theorem dX12_said_92 : decode cX12_said 92 = .ok (.iaload, 1) := by decide +kernel
theorem dX12_said_93 : decode cX12_said 93 = .ok (.invokestatic 303, 3) := by decide +kernel
theorem dX12_said_96 : decode cX12_said 96 = .ok (.ireturn, 1) := by decide +kernel
theorem dX12_knows_0 : decode cX12_knows 0 = .ok (.aload_n 0, 1) := by decide +kernel
theorem dX12_knows_1 : decode cX12_knows 1 = .ok (.iload_n 1, 1) := by decide +kernel
theorem dX12_knows_2 : decode cX12_knows 2 = .ok (.invokevirtual 200, 3) := by decide +kernel
theorem dX12_knows_5 : decode cX12_knows 5 = .ok (.ifCond .eq 15, 3) := by decide +kernel
theorem dX12_knows_8 : decode cX12_knows 8 = .ok (.aload_n 0, 1) := by decide +kernel
theorem dX12_knows_9 : decode cX12_knows 9 = .ok (.getfield 49, 3) := by decide +kernel
theorem dX12_knows_12 : decode cX12_knows 12 = .ok (.bipush 50, 2) := by decide +kernel
theorem dX12_knows_14 : decode cX12_knows 14 = .ok (.iload_n 1, 1) := by decide +kernel
theorem dX12_knows_15 : decode cX12_knows 15 = .ok (.iadd, 1) := by decide +kernel
theorem dX12_knows_16 : decode cX12_knows 16 = .ok (.iaload, 1) := by decide +kernel
theorem dX12_knows_17 : decode cX12_knows 17 = .ok (.goto 4, 3) := by decide +kernel
theorem dX12_knows_20 : decode cX12_knows 20 = .ok (.iconst (-1), 1) := by decide +kernel
theorem dX12_knows_21 : decode cX12_knows 21 = .ok (.ireturn, 1) := by decide +kernel
theorem dX12_ask_0 : decode cX12_ask 0 = .ok (.aload_n 0, 1) := by decide +kernel
theorem dX12_ask_1 : decode cX12_ask 1 = .ok (.invokevirtual 182, 3) := by decide +kernel
theorem dX12_ask_4 : decode cX12_ask 4 = .ok (.iload_n 1, 1) := by decide +kernel
theorem dX12_ask_5 : decode cX12_ask 5 = .ok (.invokestatic 306, 3) := by decide +kernel
theorem dX12_ask_8 : decode cX12_ask 8 = .ok (.ifCond .eq 22, 3) := by decide +kernel
theorem dX12_ask_11 : decode cX12_ask 11 = .ok (.iload_n 2, 1) := by decide +kernel
theorem dX12_ask_12 : decode cX12_ask 12 = .ok (.invokestatic 306, 3) := by decide +kernel
theorem dX12_ask_15 : decode cX12_ask 15 = .ok (.ifCond .eq 15, 3) := by decide +kernel
theorem dX12_ask_18 : decode cX12_ask 18 = .ok (.iload_n 3, 1) := by decide +kernel
theorem dX12_ask_19 : decode cX12_ask 19 = .ok (.i2l, 1) := by decide +kernel
theorem dX12_ask_20 : decode cX12_ask 20 = .ok (.lconst 0, 1) := by decide +kernel
theorem dX12_ask_21 : decode cX12_ask 21 = .ok (.ldc2_w 309, 3) := by decide +kernel
theorem dX12_ask_24 : decode cX12_ask 24 = .ok (.invokestatic 88, 3) := by decide +kernel
theorem dX12_ask_27 : decode cX12_ask 27 = .ok (.ifCond .ne 5, 3) := by decide +kernel
theorem dX12_ask_30 : decode cX12_ask 30 = .ok (.iconst (-1), 1) := by decide +kernel
theorem dX12_ask_31 : decode cX12_ask 31 = .ok (.ireturn, 1) := by decide +kernel
theorem dX12_ask_32 : decode cX12_ask 32 = .ok (.bipush (-4), 2) := by decide +kernel
theorem dX12_ask_34 : decode cX12_ask 34 = .ok (.istore 4, 2) := by decide +kernel
theorem dX12_ask_36 : decode cX12_ask 36 = .ok (.iconst 1, 1) := by decide +kernel
theorem dX12_ask_37 : decode cX12_ask 37 = .ok (.iload_n 1, 1) := by decide +kernel
theorem dX12_ask_38 : decode cX12_ask 38 = .ok (.ishl, 1) := by decide +kernel
theorem dX12_ask_39 : decode cX12_ask 39 = .ok (.iconst 1, 1) := by decide +kernel
theorem dX12_ask_40 : decode cX12_ask 40 = .ok (.iload_n 2, 1) := by decide +kernel
theorem dX12_ask_41 : decode cX12_ask 41 = .ok (.ishl, 1) := by decide +kernel
theorem dX12_ask_42 : decode cX12_ask 42 = .ok (.ior, 1) := by decide +kernel
theorem dX12_ask_43 : decode cX12_ask 43 = .ok (.istore 5, 2) := by decide +kernel
theorem dX12_ask_45 : decode cX12_ask 45 = .ok (.iconst 0, 1) := by decide +kernel
theorem dX12_ask_46 : decode cX12_ask 46 = .ok (.istore 6, 2) := by decide +kernel
theorem dX12_ask_48 : decode cX12_ask 48 = .ok (.iload 6, 2) := by decide +kernel
theorem dX12_ask_50 : decode cX12_ask 50 = .ok (.aload_n 0, 1) := by decide +kernel
theorem dX12_ask_51 : decode cX12_ask 51 = .ok (.getfield 22, 3) := by decide +kernel
theorem dX12_ask_54 : decode cX12_ask 54 = .ok (.iconst 5, 1) := by decide +kernel
theorem dX12_ask_55 : decode cX12_ask 55 = .ok (.iaload, 1) := by decide +kernel
theorem dX12_ask_56 : decode cX12_ask 56 = .ok (.if_icmp .ge 85, 3) := by decide +kernel
theorem dX12_ask_59 : decode cX12_ask 59 = .ok (.aload_n 0, 1) := by decide +kernel
theorem dX12_ask_60 : decode cX12_ask 60 = .ok (.getfield 49, 3) := by decide +kernel
theorem dX12_ask_63 : decode cX12_ask 63 = .ok (.bipush 50, 2) := by decide +kernel
theorem dX12_ask_65 : decode cX12_ask 65 = .ok (.iload 6, 2) := by decide +kernel
theorem dX12_ask_67 : decode cX12_ask 67 = .ok (.iadd, 1) := by decide +kernel
theorem dX12_ask_68 : decode cX12_ask 68 = .ok (.iaload, 1) := by decide +kernel
theorem dX12_ask_69 : decode cX12_ask 69 = .ok (.iload 5, 2) := by decide +kernel
theorem dX12_ask_71 : decode cX12_ask 71 = .ok (.iand, 1) := by decide +kernel
theorem dX12_ask_72 : decode cX12_ask 72 = .ok (.iload 5, 2) := by decide +kernel
theorem dX12_ask_74 : decode cX12_ask 74 = .ok (.if_icmp .ne 22, 3) := by decide +kernel
theorem dX12_ask_77 : decode cX12_ask 77 = .ok (.aload_n 0, 1) := by decide +kernel
theorem dX12_ask_78 : decode cX12_ask 78 = .ok (.getfield 49, 3) := by decide +kernel
theorem dX12_ask_81 : decode cX12_ask 81 = .ok (.bipush 50, 2) := by decide +kernel
theorem dX12_ask_83 : decode cX12_ask 83 = .ok (.iload 6, 2) := by decide +kernel
theorem dX12_ask_85 : decode cX12_ask 85 = .ok (.iadd, 1) := by decide +kernel
theorem dX12_ask_86 : decode cX12_ask 86 = .ok (.iaload, 1) := by decide +kernel
theorem dX12_ask_87 : decode cX12_ask 87 = .ok (.iload_n 3, 1) := by decide +kernel
theorem dX12_ask_88 : decode cX12_ask 88 = .ok (.iand, 1) := by decide +kernel
theorem dX12_ask_89 : decode cX12_ask 89 = .ok (.ifCond .ne 7, 3) := by decide +kernel
theorem dX12_ask_92 : decode cX12_ask 92 = .ok (.iconst 1, 1) := by decide +kernel
theorem dX12_ask_93 : decode cX12_ask 93 = .ok (.goto 4, 3) := by decide +kernel
theorem dX12_ask_96 : decode cX12_ask 96 = .ok (.iconst 0, 1) := by decide +kernel
theorem dX12_ask_97 : decode cX12_ask 97 = .ok (.istore 7, 2) := by decide +kernel
theorem dX12_ask_99 : decode cX12_ask 99 = .ok (.iload 7, 2) := by decide +kernel
theorem dX12_ask_101 : decode cX12_ask 101 = .ok (.ifCond .eq 30, 3) := by decide +kernel
theorem dX12_ask_104 : decode cX12_ask 104 = .ok (.iload 4, 2) := by decide +kernel
theorem dX12_ask_106 : decode cX12_ask 106 = .ok (.bipush (-4), 2) := by decide +kernel
theorem dX12_ask_108 : decode cX12_ask 108 = .ok (.if_icmp .eq 18, 3) := by decide +kernel
theorem dX12_ask_111 : decode cX12_ask 111 = .ok (.aload_n 0, 1) := by decide +kernel
theorem dX12_ask_112 : decode cX12_ask 112 = .ok (.iload 6, 2) := by decide +kernel
theorem dX12_ask_114 : decode cX12_ask 114 = .ok (.invokevirtual 203, 3) := by decide +kernel
theorem dX12_ask_117 : decode cX12_ask 117 = .ok (.aload_n 0, 1) := by decide +kernel
theorem dX12_ask_118 : decode cX12_ask 118 = .ok (.iload 4, 2) := by decide +kernel
theorem dX12_ask_120 : decode cX12_ask 120 = .ok (.invokevirtual 203, 3) := by decide +kernel
theorem dX12_ask_123 : decode cX12_ask 123 = .ok (.if_icmp .ge 8, 3) := by decide +kernel
theorem dX12_ask_126 : decode cX12_ask 126 = .ok (.iload 6, 2) := by decide +kernel
theorem dX12_ask_128 : decode cX12_ask 128 = .ok (.goto 5, 3) := by decide +kernel
theorem dX12_ask_131 : decode cX12_ask 131 = .ok (.iload 4, 2) := by decide +kernel
theorem dX12_ask_133 : decode cX12_ask 133 = .ok (.istore 4, 2) := by decide +kernel
theorem dX12_ask_135 : decode cX12_ask 135 = .ok (.iinc 6 1, 3) := by decide +kernel
theorem dX12_ask_138 : decode cX12_ask 138 = .ok (.goto (-90), 3) := by decide +kernel
theorem dX12_ask_141 : decode cX12_ask 141 = .ok (.iload 4, 2) := by decide +kernel
theorem dX12_ask_143 : decode cX12_ask 143 = .ok (.ireturn, 1) := by decide +kernel
theorem dX12_heardBy_0 : decode cX12_heardBy 0 = .ok (.iload_n 1, 1) := by decide +kernel
theorem dX12_heardBy_1 : decode cX12_heardBy 1 = .ok (.i2l, 1) := by decide +kernel
theorem dX12_heardBy_2 : decode cX12_heardBy 2 = .ok (.lconst 0, 1) := by decide +kernel
theorem dX12_heardBy_3 : decode cX12_heardBy 3 = .ok (.ldc2_w 290, 3) := by decide +kernel
theorem dX12_heardBy_6 : decode cX12_heardBy 6 = .ok (.invokestatic 88, 3) := by decide +kernel
theorem dX12_heardBy_9 : decode cX12_heardBy 9 = .ok (.ifCond .ne 5, 3) := by decide +kernel
theorem dX12_heardBy_12 : decode cX12_heardBy 12 = .ok (.iconst (-1), 1) := by decide +kernel
theorem dX12_heardBy_13 : decode cX12_heardBy 13 = .ok (.ireturn, 1) := by decide +kernel
theorem dX12_heardBy_14 : decode cX12_heardBy 14 = .ok (.iconst 0, 1) := by decide +kernel
theorem dX12_heardBy_15 : decode cX12_heardBy 15 = .ok (.istore_n 2, 1) := by decide +kernel
theorem dX12_heardBy_16 : decode cX12_heardBy 16 = .ok (.bipush (-4), 2) := by decide +kernel
theorem dX12_heardBy_18 : decode cX12_heardBy 18 = .ok (.istore_n 3, 1) := by decide +kernel
theorem dX12_heardBy_19 : decode cX12_heardBy 19 = .ok (.iconst 0, 1) := by decide +kernel
theorem dX12_heardBy_20 : decode cX12_heardBy 20 = .ok (.istore 4, 2) := by decide +kernel
theorem dX12_heardBy_22 : decode cX12_heardBy 22 = .ok (.iload 4, 2) := by decide +kernel
theorem dX12_heardBy_24 : decode cX12_heardBy 24 = .ok (.aload_n 0, 1) := by decide +kernel
theorem dX12_heardBy_25 : decode cX12_heardBy 25 = .ok (.getfield 22, 3) := by decide +kernel
theorem dX12_heardBy_28 : decode cX12_heardBy 28 = .ok (.iconst 5, 1) := by decide +kernel
theorem dX12_heardBy_29 : decode cX12_heardBy 29 = .ok (.iaload, 1) := by decide +kernel
theorem dX12_heardBy_30 : decode cX12_heardBy 30 = .ok (.if_icmp .ge 63, 3) := by decide +kernel
theorem dX12_heardBy_33 : decode cX12_heardBy 33 = .ok (.iload_n 2, 1) := by decide +kernel
theorem dX12_heardBy_34 : decode cX12_heardBy 34 = .ok (.aload_n 0, 1) := by decide +kernel
theorem dX12_heardBy_35 : decode cX12_heardBy 35 = .ok (.getfield 49, 3) := by decide +kernel
theorem dX12_heardBy_38 : decode cX12_heardBy 38 = .ok (.bipush 50, 2) := by decide +kernel
theorem dX12_heardBy_40 : decode cX12_heardBy 40 = .ok (.iload 4, 2) := by decide +kernel
theorem dX12_heardBy_42 : decode cX12_heardBy 42 = .ok (.iadd, 1) := by decide +kernel
theorem dX12_heardBy_43 : decode cX12_heardBy 43 = .ok (.iaload, 1) := by decide +kernel
theorem dX12_heardBy_44 : decode cX12_heardBy 44 = .ok (.ior, 1) := by decide +kernel
theorem dX12_heardBy_45 : decode cX12_heardBy 45 = .ok (.istore_n 2, 1) := by decide +kernel
theorem dX12_heardBy_46 : decode cX12_heardBy 46 = .ok (.iload_n 3, 1) := by decide +kernel
theorem dX12_heardBy_47 : decode cX12_heardBy 47 = .ok (.bipush (-4), 2) := by decide +kernel
theorem dX12_heardBy_49 : decode cX12_heardBy 49 = .ok (.if_icmp .eq 31, 3) := by decide +kernel
theorem dX12_heardBy_52 : decode cX12_heardBy 52 = .ok (.aload_n 0, 1) := by decide +kernel
theorem dX12_heardBy_53 : decode cX12_heardBy 53 = .ok (.getfield 49, 3) := by decide +kernel
theorem dX12_heardBy_56 : decode cX12_heardBy 56 = .ok (.bipush 50, 2) := by decide +kernel
theorem dX12_heardBy_58 : decode cX12_heardBy 58 = .ok (.iload 4, 2) := by decide +kernel
theorem dX12_heardBy_60 : decode cX12_heardBy 60 = .ok (.iadd, 1) := by decide +kernel
theorem dX12_heardBy_61 : decode cX12_heardBy 61 = .ok (.iaload, 1) := by decide +kernel
theorem dX12_heardBy_62 : decode cX12_heardBy 62 = .ok (.invokestatic 303, 3) := by decide +kernel
theorem dX12_heardBy_65 : decode cX12_heardBy 65 = .ok (.aload_n 0, 1) := by decide +kernel
theorem dX12_heardBy_66 : decode cX12_heardBy 66 = .ok (.getfield 49, 3) := by decide +kernel
theorem dX12_heardBy_69 : decode cX12_heardBy 69 = .ok (.bipush 50, 2) := by decide +kernel
theorem dX12_heardBy_71 : decode cX12_heardBy 71 = .ok (.iload_n 3, 1) := by decide +kernel
theorem dX12_heardBy_72 : decode cX12_heardBy 72 = .ok (.iadd, 1) := by decide +kernel
theorem dX12_heardBy_73 : decode cX12_heardBy 73 = .ok (.iaload, 1) := by decide +kernel
theorem dX12_heardBy_74 : decode cX12_heardBy 74 = .ok (.invokestatic 303, 3) := by decide +kernel
theorem dX12_heardBy_77 : decode cX12_heardBy 77 = .ok (.if_icmp .le 8, 3) := by decide +kernel
theorem dX12_heardBy_80 : decode cX12_heardBy 80 = .ok (.iload 4, 2) := by decide +kernel
theorem dX12_heardBy_82 : decode cX12_heardBy 82 = .ok (.goto 4, 3) := by decide +kernel
theorem dX12_heardBy_85 : decode cX12_heardBy 85 = .ok (.iload_n 3, 1) := by decide +kernel
theorem dX12_heardBy_86 : decode cX12_heardBy 86 = .ok (.istore_n 3, 1) := by decide +kernel
theorem dX12_heardBy_87 : decode cX12_heardBy 87 = .ok (.iinc 4 1, 3) := by decide +kernel
theorem dX12_heardBy_90 : decode cX12_heardBy 90 = .ok (.goto (-68), 3) := by decide +kernel
theorem dX12_heardBy_93 : decode cX12_heardBy 93 = .ok (.iload_n 1, 1) := by decide +kernel
theorem dX12_heardBy_94 : decode cX12_heardBy 94 = .ok (.ifCond .ne 13, 3) := by decide +kernel
theorem dX12_heardBy_97 : decode cX12_heardBy 97 = .ok (.bipush 11, 2) := by decide +kernel
theorem dX12_heardBy_99 : decode cX12_heardBy 99 = .ok (.iload_n 2, 1) := by decide +kernel
theorem dX12_heardBy_100 : decode cX12_heardBy 100 = .ok (.invokestatic 303, 3) := by decide +kernel
theorem dX12_heardBy_103 : decode cX12_heardBy 103 = .ok (.isub, 1) := by decide +kernel
theorem dX12_heardBy_104 : decode cX12_heardBy 104 = .ok (.goto 34, 3) := by decide +kernel
theorem dX12_heardBy_107 : decode cX12_heardBy 107 = .ok (.iload_n 1, 1) := by decide +kernel
