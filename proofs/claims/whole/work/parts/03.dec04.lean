theorem dX12_laterOf_63 : decode cX12_laterOf 63 = .ok (.iaload, 1) := by decide +kernel
theorem dX12_laterOf_64 : decode cX12_laterOf 64 = .ok (.ifCond .le 7, 3) := by decide +kernel
theorem dX12_laterOf_67 : decode cX12_laterOf 67 = .ok (.iconst 1, 1) := by decide +kernel
theorem dX12_laterOf_68 : decode cX12_laterOf 68 = .ok (.goto 4, 3) := by decide +kernel
theorem dX12_laterOf_71 : decode cX12_laterOf 71 = .ok (.iconst 0, 1) := by decide +kernel
theorem dX12_laterOf_72 : decode cX12_laterOf 72 = .ok (.iadd, 1) := by decide +kernel
theorem dX12_laterOf_73 : decode cX12_laterOf 73 = .ok (.istore 4, 2) := by decide +kernel
theorem dX12_laterOf_75 : decode cX12_laterOf 75 = .ok (.iinc 5 1, 3) := by decide +kernel
theorem dX12_laterOf_78 : decode cX12_laterOf 78 = .ok (.goto (-64), 3) := by decide +kernel
theorem dX12_laterOf_81 : decode cX12_laterOf 81 = .ok (.aload_n 0, 1) := by decide +kernel
theorem dX12_laterOf_82 : decode cX12_laterOf 82 = .ok (.iconst 0, 1) := by decide +kernel
theorem dX12_laterOf_83 : decode cX12_laterOf 83 = .ok (.putfield 235, 3) := by decide +kernel
theorem dX12_laterOf_86 : decode cX12_laterOf 86 = .ok (.iload 4, 2) := by decide +kernel
theorem dX12_laterOf_88 : decode cX12_laterOf 88 = .ok (.ifCond .ne 5, 3) := by decide +kernel
theorem dX12_laterOf_91 : decode cX12_laterOf 91 = .ok (.iconst 0, 1) := by decide +kernel
theorem dX12_laterOf_92 : decode cX12_laterOf 92 = .ok (.ireturn, 1) := by decide +kernel
theorem dX12_laterOf_93 : decode cX12_laterOf 93 = .ok (.aload_n 0, 1) := by decide +kernel
theorem dX12_laterOf_94 : decode cX12_laterOf 94 = .ok (.invokevirtual 241, 3) := by decide +kernel
theorem dX12_laterOf_97 : decode cX12_laterOf 97 = .ok (.iconst 0, 1) := by decide +kernel
theorem dX12_laterOf_98 : decode cX12_laterOf 98 = .ok (.istore 5, 2) := by decide +kernel
theorem dX12_laterOf_100 : decode cX12_laterOf 100 = .ok (.iload 5, 2) := by decide +kernel
theorem dX12_laterOf_102 : decode cX12_laterOf 102 = .ok (.iconst 4, 1) := by decide +kernel
theorem dX12_laterOf_103 : decode cX12_laterOf 103 = .ok (.if_icmp .ge 95, 3) := by decide +kernel
theorem dX12_laterOf_106 : decode cX12_laterOf 106 = .ok (.iload 4, 2) := by decide +kernel
theorem dX12_laterOf_108 : decode cX12_laterOf 108 = .ok (.iconst 1, 1) := by decide +kernel
theorem dX12_laterOf_109 : decode cX12_laterOf 109 = .ok (.if_icmp .ne 89, 3) := by decide +kernel
theorem dX12_laterOf_112 : decode cX12_laterOf 112 = .ok (.aload_n 0, 1) := by decide +kernel
theorem dX12_laterOf_113 : decode cX12_laterOf 113 = .ok (.getfield 56, 3) := by decide +kernel
theorem dX12_laterOf_116 : decode cX12_laterOf 116 = .ok (.iload 5, 2) := by decide +kernel
theorem dX12_laterOf_118 : decode cX12_laterOf 118 = .ok (.iaload, 1) := by decide +kernel
theorem dX12_laterOf_119 : decode cX12_laterOf 119 = .ok (.ifCond .ne 6, 3) := by decide +kernel
theorem dX12_laterOf_122 : decode cX12_laterOf 122 = .ok (.goto 70, 3) := by decide +kernel
theorem dX12_laterOf_125 : decode cX12_laterOf 125 = .ok (.aload_n 0, 1) := by decide +kernel
theorem dX12_laterOf_126 : decode cX12_laterOf 126 = .ok (.iload 5, 2) := by decide +kernel
theorem dX12_laterOf_128 : decode cX12_laterOf 128 = .ok (.aload_n 0, 1) := by decide +kernel
theorem dX12_laterOf_129 : decode cX12_laterOf 129 = .ok (.getfield 13, 3) := by decide +kernel
theorem dX12_laterOf_132 : decode cX12_laterOf 132 = .ok (.bipush 41, 2) := by decide +kernel
theorem dX12_laterOf_134 : decode cX12_laterOf 134 = .ok (.iaload, 1) := by decide +kernel
theorem dX12_laterOf_135 : decode cX12_laterOf 135 = .ok (.invokevirtual 254, 3) := by decide +kernel
theorem dX12_laterOf_138 : decode cX12_laterOf 138 = .ok (.aload_n 0, 1) := by decide +kernel
theorem dX12_laterOf_139 : decode cX12_laterOf 139 = .ok (.iload 5, 2) := by decide +kernel
theorem dX12_laterOf_141 : decode cX12_laterOf 141 = .ok (.aload_n 0, 1) := by decide +kernel
theorem dX12_laterOf_142 : decode cX12_laterOf 142 = .ok (.getfield 13, 3) := by decide +kernel
theorem dX12_laterOf_145 : decode cX12_laterOf 145 = .ok (.bipush 6, 2) := by decide +kernel
theorem dX12_laterOf_147 : decode cX12_laterOf 147 = .ok (.iload 5, 2) := by decide +kernel
theorem dX12_laterOf_149 : decode cX12_laterOf 149 = .ok (.imul, 1) := by decide +kernel
theorem dX12_laterOf_150 : decode cX12_laterOf 150 = .ok (.iconst 3, 1) := by decide +kernel
theorem dX12_laterOf_151 : decode cX12_laterOf 151 = .ok (.iadd, 1) := by decide +kernel
theorem dX12_laterOf_152 : decode cX12_laterOf 152 = .ok (.iaload, 1) := by decide +kernel
theorem dX12_laterOf_153 : decode cX12_laterOf 153 = .ok (.invokevirtual 254, 3) := by decide +kernel
theorem dX12_laterOf_156 : decode cX12_laterOf 156 = .ok (.iconst 0, 1) := by decide +kernel
theorem dX12_laterOf_157 : decode cX12_laterOf 157 = .ok (.istore 6, 2) := by decide +kernel
theorem dX12_laterOf_159 : decode cX12_laterOf 159 = .ok (.iload 6, 2) := by decide +kernel
theorem dX12_laterOf_161 : decode cX12_laterOf 161 = .ok (.iconst 4, 1) := by decide +kernel
theorem dX12_laterOf_162 : decode cX12_laterOf 162 = .ok (.if_icmp .ge 30, 3) := by decide +kernel
theorem dX12_laterOf_165 : decode cX12_laterOf 165 = .ok (.aload_n 0, 1) := by decide +kernel
theorem dX12_laterOf_166 : decode cX12_laterOf 166 = .ok (.iload 5, 2) := by decide +kernel
theorem dX12_laterOf_168 : decode cX12_laterOf 168 = .ok (.aload_n 0, 1) := by decide +kernel
theorem dX12_laterOf_169 : decode cX12_laterOf 169 = .ok (.getfield 13, 3) := by decide +kernel
theorem dX12_laterOf_172 : decode cX12_laterOf 172 = .ok (.bipush 24, 2) := by decide +kernel
theorem dX12_laterOf_174 : decode cX12_laterOf 174 = .ok (.iconst 4, 1) := by decide +kernel
theorem dX12_laterOf_175 : decode cX12_laterOf 175 = .ok (.iload 6, 2) := by decide +kernel
theorem dX12_laterOf_177 : decode cX12_laterOf 177 = .ok (.imul, 1) := by decide +kernel
theorem dX12_laterOf_178 : decode cX12_laterOf 178 = .ok (.iadd, 1) := by decide +kernel
theorem dX12_laterOf_179 : decode cX12_laterOf 179 = .ok (.iload 5, 2) := by decide +kernel
theorem dX12_laterOf_181 : decode cX12_laterOf 181 = .ok (.iadd, 1) := by decide +kernel
theorem dX12_laterOf_182 : decode cX12_laterOf 182 = .ok (.iaload, 1) := by decide +kernel
theorem dX12_laterOf_183 : decode cX12_laterOf 183 = .ok (.invokevirtual 254, 3) := by decide +kernel
theorem dX12_laterOf_186 : decode cX12_laterOf 186 = .ok (.iinc 6 1, 3) := by decide +kernel
theorem dX12_laterOf_189 : decode cX12_laterOf 189 = .ok (.goto (-30), 3) := by decide +kernel
theorem dX12_laterOf_192 : decode cX12_laterOf 192 = .ok (.iinc 5 1, 3) := by decide +kernel
theorem dX12_laterOf_195 : decode cX12_laterOf 195 = .ok (.goto (-95), 3) := by decide +kernel
theorem dX12_laterOf_198 : decode cX12_laterOf 198 = .ok (.iconst 0, 1) := by decide +kernel
theorem dX12_laterOf_199 : decode cX12_laterOf 199 = .ok (.istore 5, 2) := by decide +kernel
theorem dX12_laterOf_201 : decode cX12_laterOf 201 = .ok (.iload 5, 2) := by decide +kernel
theorem dX12_laterOf_203 : decode cX12_laterOf 203 = .ok (.bipush 8, 2) := by decide +kernel
theorem dX12_laterOf_205 : decode cX12_laterOf 205 = .ok (.if_icmp .ge 43, 3) := by decide +kernel
theorem dX12_laterOf_208 : decode cX12_laterOf 208 = .ok (.iload 4, 2) := by decide +kernel
theorem dX12_laterOf_210 : decode cX12_laterOf 210 = .ok (.iconst 1, 1) := by decide +kernel
theorem dX12_laterOf_211 : decode cX12_laterOf 211 = .ok (.if_icmp .le 37, 3) := by decide +kernel
theorem dX12_laterOf_214 : decode cX12_laterOf 214 = .ok (.iload_n 3, 1) := by decide +kernel
theorem dX12_laterOf_215 : decode cX12_laterOf 215 = .ok (.iconst 1, 1) := by decide +kernel
theorem dX12_laterOf_216 : decode cX12_laterOf 216 = .ok (.if_icmp .ne 32, 3) := by decide +kernel
theorem dX12_laterOf_219 : decode cX12_laterOf 219 = .ok (.aload_n 0, 1) := by decide +kernel
theorem dX12_laterOf_220 : decode cX12_laterOf 220 = .ok (.getfield 59, 3) := by decide +kernel
theorem dX12_laterOf_223 : decode cX12_laterOf 223 = .ok (.aload_n 0, 1) := by decide +kernel
theorem dX12_laterOf_224 : decode cX12_laterOf 224 = .ok (.getfield 248, 3) := by decide +kernel
theorem dX12_laterOf_227 : decode cX12_laterOf 227 = .ok (.aload_n 0, 1) := by decide +kernel
theorem dX12_laterOf_228 : decode cX12_laterOf 228 = .ok (.aload_n 0, 1) := by decide +kernel
theorem dX12_laterOf_229 : decode cX12_laterOf 229 = .ok (.getfield 248, 3) := by decide +kernel
theorem dX12_laterOf_232 : decode cX12_laterOf 232 = .ok (.iload 5, 2) := by decide +kernel
theorem dX12_laterOf_234 : decode cX12_laterOf 234 = .ok (.invokevirtual 238, 3) := by decide +kernel
theorem dX12_laterOf_237 : decode cX12_laterOf 237 = .ok (.iastore, 1) := by decide +kernel
theorem dX12_laterOf_238 : decode cX12_laterOf 238 = .ok (.aload_n 0, 1) := by decide +kernel
theorem dX12_laterOf_239 : decode cX12_laterOf 239 = .ok (.invokevirtual 241, 3) := by decide +kernel
theorem dX12_laterOf_242 : decode cX12_laterOf 242 = .ok (.iinc 5 1, 3) := by decide +kernel
theorem dX12_laterOf_245 : decode cX12_laterOf 245 = .ok (.goto (-44), 3) := by decide +kernel
theorem dX12_laterOf_248 : decode cX12_laterOf 248 = .ok (.iload 4, 2) := by decide +kernel
theorem dX12_laterOf_250 : decode cX12_laterOf 250 = .ok (.iconst 2, 1) := by decide +kernel
theorem dX12_laterOf_251 : decode cX12_laterOf 251 = .ok (.if_icmp .ne 32, 3) := by decide +kernel
theorem dX12_laterOf_254 : decode cX12_laterOf 254 = .ok (.iload_n 3, 1) := by decide +kernel
theorem dX12_laterOf_255 : decode cX12_laterOf 255 = .ok (.iconst 2, 1) := by decide +kernel
theorem dX12_laterOf_256 : decode cX12_laterOf 256 = .ok (.if_icmp .ne 27, 3) := by decide +kernel
theorem dX12_laterOf_259 : decode cX12_laterOf 259 = .ok (.aload_n 0, 1) := by decide +kernel
theorem dX12_laterOf_260 : decode cX12_laterOf 260 = .ok (.aload_n 0, 1) := by decide +kernel
theorem dX12_laterOf_261 : decode cX12_laterOf 261 = .ok (.getfield 248, 3) := by decide +kernel
theorem dX12_laterOf_264 : decode cX12_laterOf 264 = .ok (.aload_n 0, 1) := by decide +kernel
theorem dX12_laterOf_265 : decode cX12_laterOf 265 = .ok (.getfield 251, 3) := by decide +kernel
theorem dX12_laterOf_268 : decode cX12_laterOf 268 = .ok (.invokevirtual 257, 3) := by decide +kernel
theorem dX12_laterOf_271 : decode cX12_laterOf 271 = .ok (.aload_n 0, 1) := by decide +kernel
theorem dX12_laterOf_272 : decode cX12_laterOf 272 = .ok (.aload_n 0, 1) := by decide +kernel
theorem dX12_laterOf_273 : decode cX12_laterOf 273 = .ok (.getfield 251, 3) := by decide +kernel
theorem dX12_laterOf_276 : decode cX12_laterOf 276 = .ok (.aload_n 0, 1) := by decide +kernel
theorem dX12_laterOf_277 : decode cX12_laterOf 277 = .ok (.getfield 248, 3) := by decide +kernel
theorem dX12_laterOf_280 : decode cX12_laterOf 280 = .ok (.invokevirtual 257, 3) := by decide +kernel
theorem dX12_laterOf_283 : decode cX12_laterOf 283 = .ok (.aload_n 0, 1) := by decide +kernel
theorem dX12_laterOf_284 : decode cX12_laterOf 284 = .ok (.getfield 235, 3) := by decide +kernel
theorem dX12_laterOf_287 : decode cX12_laterOf 287 = .ok (.ireturn, 1) := by decide +kernel
theorem dX12_lets_0 : decode cX12_lets 0 = .ok (.iconst 0, 1) := by decide +kernel
theorem dX12_lets_1 : decode cX12_lets 1 = .ok (.istore_n 2, 1) := by decide +kernel
theorem dX12_lets_2 : decode cX12_lets 2 = .ok (.iload_n 2, 1) := by decide +kernel
theorem dX12_lets_3 : decode cX12_lets 3 = .ok (.aload_n 0, 1) := by decide +kernel
theorem dX12_lets_4 : decode cX12_lets 4 = .ok (.getfield 186, 3) := by decide +kernel
theorem dX12_lets_7 : decode cX12_lets 7 = .ok (.if_icmp .ge 29, 3) := by decide +kernel
theorem dX12_lets_10 : decode cX12_lets 10 = .ok (.aload_n 0, 1) := by decide +kernel
theorem dX12_lets_11 : decode cX12_lets 11 = .ok (.getfield 40, 3) := by decide +kernel
theorem dX12_lets_14 : decode cX12_lets 14 = .ok (.iload_n 2, 1) := by decide +kernel
theorem dX12_lets_15 : decode cX12_lets 15 = .ok (.baload, 1) := by decide +kernel
theorem dX12_lets_16 : decode cX12_lets 16 = .ok (.ifCond .ne 14, 3) := by decide +kernel
theorem dX12_lets_19 : decode cX12_lets 19 = .ok (.aload_n 0, 1) := by decide +kernel
theorem dX12_lets_20 : decode cX12_lets 20 = .ok (.iload_n 2, 1) := by decide +kernel
theorem dX12_lets_21 : decode cX12_lets 21 = .ok (.iload_n 1, 1) := by decide +kernel
theorem dX12_lets_22 : decode cX12_lets 22 = .ok (.invokevirtual 260, 3) := by decide +kernel
theorem dX12_lets_25 : decode cX12_lets 25 = .ok (.ifCond .ne 5, 3) := by decide +kernel
theorem dX12_lets_28 : decode cX12_lets 28 = .ok (.iconst 0, 1) := by decide +kernel
theorem dX12_lets_29 : decode cX12_lets 29 = .ok (.ireturn, 1) := by decide +kernel
theorem dX12_lets_30 : decode cX12_lets 30 = .ok (.iinc 2 1, 3) := by decide +kernel
theorem dX12_lets_33 : decode cX12_lets 33 = .ok (.goto (-31), 3) := by decide +kernel
theorem dX12_lets_36 : decode cX12_lets 36 = .ok (.aload_n 0, 1) := by decide +kernel
theorem dX12_lets_37 : decode cX12_lets 37 = .ok (.iload_n 1, 1) := by decide +kernel
theorem dX12_lets_38 : decode cX12_lets 38 = .ok (.invokevirtual 264, 3) := by decide +kernel
theorem dX12_lets_41 : decode cX12_lets 41 = .ok (.ireturn, 1) := by decide +kernel
theorem dX12_hired_0 : decode cX12_hired 0 = .ok (.iconst 0, 1) := by decide +kernel
theorem dX12_hired_1 : decode cX12_hired 1 = .ok (.istore_n 2, 1) := by decide +kernel
theorem dX12_hired_2 : decode cX12_hired 2 = .ok (.iconst 0, 1) := by decide +kernel
theorem dX12_hired_3 : decode cX12_hired 3 = .ok (.istore_n 3, 1) := by decide +kernel
theorem dX12_hired_4 : decode cX12_hired 4 = .ok (.iload_n 3, 1) := by decide +kernel
theorem dX12_hired_5 : decode cX12_hired 5 = .ok (.iconst 4, 1) := by decide +kernel
theorem dX12_hired_6 : decode cX12_hired 6 = .ok (.if_icmp .ge 29, 3) := by decide +kernel
theorem dX12_hired_9 : decode cX12_hired 9 = .ok (.iload_n 2, 1) := by decide +kernel
theorem dX12_hired_10 : decode cX12_hired 10 = .ok (.iload_n 1, 1) := by decide +kernel
theorem dX12_hired_11 : decode cX12_hired 11 = .ok (.iload_n 3, 1) := by decide +kernel
theorem dX12_hired_12 : decode cX12_hired 12 = .ok (.invokestatic 155, 3) := by decide +kernel
theorem dX12_hired_15 : decode cX12_hired 15 = .ok (.aload_n 0, 1) := by decide +kernel
theorem dX12_hired_16 : decode cX12_hired 16 = .ok (.getfield 13, 3) := by decide +kernel
theorem dX12_hired_19 : decode cX12_hired 19 = .ok (.bipush 6, 2) := by decide +kernel
theorem dX12_hired_21 : decode cX12_hired 21 = .ok (.iload_n 3, 1) := by decide +kernel
theorem dX12_hired_22 : decode cX12_hired 22 = .ok (.imul, 1) := by decide +kernel
theorem dX12_hired_23 : decode cX12_hired 23 = .ok (.iconst 2, 1) := by decide +kernel
theorem dX12_hired_24 : decode cX12_hired 24 = .ok (.iadd, 1) := by decide +kernel
theorem dX12_hired_25 : decode cX12_hired 25 = .ok (.iaload, 1) := by decide +kernel
theorem dX12_hired_26 : decode cX12_hired 26 = .ok (.imul, 1) := by decide +kernel
theorem dX12_hired_27 : decode cX12_hired 27 = .ok (.iadd, 1) := by decide +kernel
theorem dX12_hired_28 : decode cX12_hired 28 = .ok (.istore_n 2, 1) := by decide +kernel
theorem dX12_hired_29 : decode cX12_hired 29 = .ok (.iinc 3 1, 3) := by decide +kernel
theorem dX12_hired_32 : decode cX12_hired 32 = .ok (.goto (-28), 3) := by decide +kernel
theorem dX12_hired_35 : decode cX12_hired 35 = .ok (.iload_n 2, 1) := by decide +kernel
theorem dX12_hired_36 : decode cX12_hired 36 = .ok (.ireturn, 1) := by decide +kernel
theorem dX12_finds_0 : decode cX12_finds 0 = .ok (.aload_n 0, 1) := by decide +kernel
theorem dX12_finds_1 : decode cX12_finds 1 = .ok (.getfield 121, 3) := by decide +kernel
theorem dX12_finds_4 : decode cX12_finds 4 = .ok (.ifCond .eq 4, 3) := by decide +kernel
theorem dX12_finds_7 : decode cX12_finds 7 = .ok (.return_, 1) := by decide +kernel
theorem dX12_finds_8 : decode cX12_finds 8 = .ok (.aload_n 0, 1) := by decide +kernel
theorem dX12_finds_9 : decode cX12_finds 9 = .ok (.iconst 1, 1) := by decide +kernel
theorem dX12_finds_10 : decode cX12_finds 10 = .ok (.putfield 121, 3) := by decide +kernel
theorem dX12_finds_13 : decode cX12_finds 13 = .ok (.iconst 0, 1) := by decide +kernel
theorem dX12_finds_14 : decode cX12_finds 14 = .ok (.istore_n 1, 1) := by decide +kernel
theorem dX12_finds_15 : decode cX12_finds 15 = .ok (.iload_n 1, 1) := by decide +kernel
theorem dX12_finds_16 : decode cX12_finds 16 = .ok (.bipush 16, 2) := by decide +kernel
theorem dX12_finds_18 : decode cX12_finds 18 = .ok (.if_icmp .ge 20, 3) := by decide +kernel
theorem dX12_finds_21 : decode cX12_finds 21 = .ok (.aload_n 0, 1) := by decide +kernel
theorem dX12_finds_22 : decode cX12_finds 22 = .ok (.getfield 71, 3) := by decide +kernel
theorem dX12_finds_25 : decode cX12_finds 25 = .ok (.iload_n 1, 1) := by decide +kernel
theorem dX12_finds_26 : decode cX12_finds 26 = .ok (.aload_n 0, 1) := by decide +kernel
theorem dX12_finds_27 : decode cX12_finds 27 = .ok (.iload_n 1, 1) := by decide +kernel
theorem dX12_finds_28 : decode cX12_finds 28 = .ok (.invokevirtual 267, 3) := by decide +kernel
theorem dX12_finds_31 : decode cX12_finds 31 = .ok (.bastore, 1) := by decide +kernel
theorem dX12_finds_32 : decode cX12_finds 32 = .ok (.iinc 1 1, 3) := by decide +kernel
theorem dX12_finds_35 : decode cX12_finds 35 = .ok (.goto (-20), 3) := by decide +kernel
theorem dX12_finds_38 : decode cX12_finds 38 = .ok (.iconst 0, 1) := by decide +kernel
theorem dX12_finds_39 : decode cX12_finds 39 = .ok (.istore_n 1, 1) := by decide +kernel
theorem dX12_finds_40 : decode cX12_finds 40 = .ok (.iload_n 1, 1) := by decide +kernel
theorem dX12_finds_41 : decode cX12_finds 41 = .ok (.sipush 256, 3) := by decide +kernel
theorem dX12_finds_44 : decode cX12_finds 44 = .ok (.if_icmp .ge 78, 3) := by decide +kernel
theorem dX12_finds_47 : decode cX12_finds 47 = .ok (.aload_n 0, 1) := by decide +kernel
theorem dX12_finds_48 : decode cX12_finds 48 = .ok (.getfield 68, 3) := by decide +kernel
theorem dX12_finds_51 : decode cX12_finds 51 = .ok (.iload_n 1, 1) := by decide +kernel
theorem dX12_finds_52 : decode cX12_finds 52 = .ok (.aload_n 0, 1) := by decide +kernel
theorem dX12_finds_53 : decode cX12_finds 53 = .ok (.iload_n 1, 1) := by decide +kernel
theorem dX12_finds_54 : decode cX12_finds 54 = .ok (.invokevirtual 270, 3) := by decide +kernel
theorem dX12_finds_57 : decode cX12_finds 57 = .ok (.bastore, 1) := by decide +kernel
theorem dX12_finds_58 : decode cX12_finds 58 = .ok (.iconst 0, 1) := by decide +kernel
theorem dX12_finds_59 : decode cX12_finds 59 = .ok (.istore_n 2, 1) := by decide +kernel
theorem dX12_finds_60 : decode cX12_finds 60 = .ok (.iload_n 2, 1) := by decide +kernel
theorem dX12_finds_61 : decode cX12_finds 61 = .ok (.bipush 16, 2) := by decide +kernel
theorem dX12_finds_63 : decode cX12_finds 63 = .ok (.if_icmp .ge 53, 3) := by decide +kernel
theorem dX12_finds_66 : decode cX12_finds 66 = .ok (.aload_n 0, 1) := by decide +kernel
theorem dX12_finds_67 : decode cX12_finds 67 = .ok (.getfield 68, 3) := by decide +kernel
theorem dX12_finds_70 : decode cX12_finds 70 = .ok (.iload_n 1, 1) := by decide +kernel
theorem dX12_finds_71 : decode cX12_finds 71 = .ok (.baload, 1) := by decide +kernel
theorem dX12_finds_72 : decode cX12_finds 72 = .ok (.ifCond .eq 44, 3) := by decide +kernel
theorem dX12_finds_75 : decode cX12_finds 75 = .ok (.aload_n 0, 1) := by decide +kernel
theorem dX12_finds_76 : decode cX12_finds 76 = .ok (.getfield 62, 3) := by decide +kernel
theorem dX12_finds_79 : decode cX12_finds 79 = .ok (.bipush 16, 2) := by decide +kernel
theorem dX12_finds_81 : decode cX12_finds 81 = .ok (.iload_n 1, 1) := by decide +kernel
theorem dX12_finds_82 : decode cX12_finds 82 = .ok (.imul, 1) := by decide +kernel
theorem dX12_finds_83 : decode cX12_finds 83 = .ok (.iload_n 2, 1) := by decide +kernel
theorem dX12_finds_84 : decode cX12_finds 84 = .ok (.iadd, 1) := by decide +kernel
theorem dX12_finds_85 : decode cX12_finds 85 = .ok (.aload_n 0, 1) := by decide +kernel
theorem dX12_finds_86 : decode cX12_finds 86 = .ok (.iload_n 2, 1) := by decide +kernel
theorem dX12_finds_87 : decode cX12_finds 87 = .ok (.invokevirtual 264, 3) := by decide +kernel
theorem dX12_finds_90 : decode cX12_finds 90 = .ok (.ifCond .eq 18, 3) := by decide +kernel
theorem dX12_finds_93 : decode cX12_finds 93 = .ok (.aload_n 0, 1) := by decide +kernel
theorem dX12_finds_94 : decode cX12_finds 94 = .ok (.iload_n 1, 1) := by decide +kernel
theorem dX12_finds_95 : decode cX12_finds 95 = .ok (.invokevirtual 273, 3) := by decide +kernel
theorem dX12_finds_98 : decode cX12_finds 98 = .ok (.aload_n 0, 1) := by decide +kernel
theorem dX12_finds_99 : decode cX12_finds 99 = .ok (.iload_n 1, 1) := by decide +kernel
theorem dX12_finds_100 : decode cX12_finds 100 = .ok (.iload_n 2, 1) := by decide +kernel
theorem dX12_finds_101 : decode cX12_finds 101 = .ok (.invokevirtual 276, 3) := by decide +kernel
theorem dX12_finds_104 : decode cX12_finds 104 = .ok (.iadd, 1) := by decide +kernel
theorem dX12_finds_105 : decode cX12_finds 105 = .ok (.goto 4, 3) := by decide +kernel
theorem dX12_finds_108 : decode cX12_finds 108 = .ok (.iconst 0, 1) := by decide +kernel
theorem dX12_finds_109 : decode cX12_finds 109 = .ok (.iastore, 1) := by decide +kernel
theorem dX12_finds_110 : decode cX12_finds 110 = .ok (.iinc 2 1, 3) := by decide +kernel
theorem dX12_finds_113 : decode cX12_finds 113 = .ok (.goto (-53), 3) := by decide +kernel
theorem dX12_finds_116 : decode cX12_finds 116 = .ok (.iinc 1 1, 3) := by decide +kernel
theorem dX12_finds_119 : decode cX12_finds 119 = .ok (.goto (-79), 3) := by decide +kernel
theorem dX12_finds_122 : decode cX12_finds 122 = .ok (.aload_n 0, 1) := by decide +kernel
theorem dX12_finds_123 : decode cX12_finds 123 = .ok (.aload_n 0, 1) := by decide +kernel
theorem dX12_finds_124 : decode cX12_finds 124 = .ok (.getfield 13, 3) := by decide +kernel
theorem dX12_finds_127 : decode cX12_finds 127 = .ok (.bipush 42, 2) := by decide +kernel
theorem dX12_finds_129 : decode cX12_finds 129 = .ok (.iaload, 1) := by decide +kernel
theorem dX12_finds_130 : decode cX12_finds 130 = .ok (.invokevirtual 279, 3) := by decide +kernel
theorem dX12_finds_133 : decode cX12_finds 133 = .ok (.return_, 1) := by decide +kernel
theorem dX12_draws_0 : decode cX12_draws 0 = .ok (.iconst 0, 1) := by decide +kernel
theorem dX12_draws_1 : decode cX12_draws 1 = .ok (.istore_n 2, 1) := by decide +kernel
theorem dX12_draws_2 : decode cX12_draws 2 = .ok (.iload_n 2, 1) := by decide +kernel
theorem dX12_draws_3 : decode cX12_draws 3 = .ok (.bipush 16, 2) := by decide +kernel
theorem dX12_draws_5 : decode cX12_draws 5 = .ok (.if_icmp .ge 37, 3) := by decide +kernel
theorem dX12_draws_8 : decode cX12_draws 8 = .ok (.aload_n 0, 1) := by decide +kernel
theorem dX12_draws_9 : decode cX12_draws 9 = .ok (.getfield 65, 3) := by decide +kernel
theorem dX12_draws_12 : decode cX12_draws 12 = .ok (.iload_n 2, 1) := by decide +kernel
theorem dX12_draws_13 : decode cX12_draws 13 = .ok (.aload_n 0, 1) := by decide +kernel
theorem dX12_draws_14 : decode cX12_draws 14 = .ok (.getfield 71, 3) := by decide +kernel
theorem dX12_draws_17 : decode cX12_draws 17 = .ok (.iload_n 2, 1) := by decide +kernel
theorem dX12_draws_18 : decode cX12_draws 18 = .ok (.baload, 1) := by decide +kernel
theorem dX12_draws_19 : decode cX12_draws 19 = .ok (.ifCond .eq 15, 3) := by decide +kernel
theorem dX12_draws_22 : decode cX12_draws 22 = .ok (.iload_n 2, 1) := by decide +kernel
theorem dX12_draws_23 : decode cX12_draws 23 = .ok (.invokestatic 213, 3) := by decide +kernel
theorem dX12_draws_26 : decode cX12_draws 26 = .ok (.iload_n 1, 1) := by decide +kernel
theorem dX12_draws_27 : decode cX12_draws 27 = .ok (.if_icmp .gt 7, 3) := by decide +kernel
theorem dX12_draws_30 : decode cX12_draws 30 = .ok (.iconst 1, 1) := by decide +kernel
theorem dX12_draws_31 : decode cX12_draws 31 = .ok (.goto 4, 3) := by decide +kernel
theorem dX12_draws_34 : decode cX12_draws 34 = .ok (.iconst 0, 1) := by decide +kernel
theorem dX12_draws_35 : decode cX12_draws 35 = .ok (.bastore, 1) := by decide +kernel
theorem dX12_draws_36 : decode cX12_draws 36 = .ok (.iinc 2 1, 3) := by decide +kernel
theorem dX12_draws_39 : decode cX12_draws 39 = .ok (.goto (-37), 3) := by decide +kernel
theorem dX12_draws_42 : decode cX12_draws 42 = .ok (.return_, 1) := by decide +kernel
theorem dX12_inSet_0 : decode cX12_inSet 0 = .ok (.iload_n 1, 1) := by decide +kernel
theorem dX12_inSet_1 : decode cX12_inSet 1 = .ok (.ifCond .lt 9, 3) := by decide +kernel
theorem dX12_inSet_4 : decode cX12_inSet 4 = .ok (.iload_n 1, 1) := by decide +kernel
theorem dX12_inSet_5 : decode cX12_inSet 5 = .ok (.bipush 15, 2) := by decide +kernel
theorem dX12_inSet_7 : decode cX12_inSet 7 = .ok (.if_icmp .le 9, 3) := by decide +kernel
theorem dX12_inSet_10 : decode cX12_inSet 10 = .ok (.aload_n 0, 1) := by decide +kernel
theorem dX12_inSet_11 : decode cX12_inSet 11 = .ok (.iconst (-1), 1) := by decide +kernel
theorem dX12_inSet_12 : decode cX12_inSet 12 = .ok (.invokevirtual 113, 3) := by decide +kernel
theorem dX12_inSet_15 : decode cX12_inSet 15 = .ok (.ireturn, 1) := by decide +kernel
theorem dX12_inSet_16 : decode cX12_inSet 16 = .ok (.aload_n 0, 1) := by decide +kernel
theorem dX12_inSet_17 : decode cX12_inSet 17 = .ok (.invokevirtual 282, 3) := by decide +kernel
theorem dX12_inSet_20 : decode cX12_inSet 20 = .ok (.aload_n 0, 1) := by decide +kernel
theorem dX12_inSet_21 : decode cX12_inSet 21 = .ok (.iload_n 1, 1) := by decide +kernel
theorem dX12_inSet_22 : decode cX12_inSet 22 = .ok (.invokevirtual 264, 3) := by decide +kernel
theorem dX12_inSet_25 : decode cX12_inSet 25 = .ok (.ifCond .eq 16, 3) := by decide +kernel
theorem dX12_inSet_28 : decode cX12_inSet 28 = .ok (.aload_n 0, 1) := by decide +kernel
theorem dX12_inSet_29 : decode cX12_inSet 29 = .ok (.getfield 65, 3) := by decide +kernel
theorem dX12_inSet_32 : decode cX12_inSet 32 = .ok (.iload_n 1, 1) := by decide +kernel
theorem dX12_inSet_33 : decode cX12_inSet 33 = .ok (.baload, 1) := by decide +kernel
theorem dX12_inSet_34 : decode cX12_inSet 34 = .ok (.ifCond .eq 7, 3) := by decide +kernel
theorem dX12_inSet_37 : decode cX12_inSet 37 = .ok (.iconst 1, 1) := by decide +kernel
theorem dX12_inSet_38 : decode cX12_inSet 38 = .ok (.goto 4, 3) := by decide +kernel
theorem dX12_inSet_41 : decode cX12_inSet 41 = .ok (.iconst 0, 1) := by decide +kernel
theorem dX12_inSet_42 : decode cX12_inSet 42 = .ok (.ireturn, 1) := by decide +kernel
theorem dX12_later_0 : decode cX12_later 0 = .ok (.aload_n 0, 1) := by decide +kernel
theorem dX12_later_1 : decode cX12_later 1 = .ok (.iload_n 1, 1) := by decide +kernel
theorem dX12_later_2 : decode cX12_later 2 = .ok (.invokevirtual 270, 3) := by decide +kernel
theorem dX12_later_5 : decode cX12_later 5 = .ok (.ifCond .eq 20, 3) := by decide +kernel
theorem dX12_later_8 : decode cX12_later 8 = .ok (.aload_n 0, 1) := by decide +kernel
theorem dX12_later_9 : decode cX12_later 9 = .ok (.iload_n 2, 1) := by decide +kernel
theorem dX12_later_10 : decode cX12_later 10 = .ok (.invokevirtual 264, 3) := by decide +kernel
theorem dX12_later_13 : decode cX12_later 13 = .ok (.ifCond .eq 12, 3) := by decide +kernel
theorem dX12_later_16 : decode cX12_later 16 = .ok (.aload_n 0, 1) := by decide +kernel
theorem dX12_later_17 : decode cX12_later 17 = .ok (.iload_n 1, 1) := by decide +kernel
theorem dX12_later_18 : decode cX12_later 18 = .ok (.iload_n 2, 1) := by decide +kernel
theorem dX12_later_19 : decode cX12_later 19 = .ok (.invokevirtual 276, 3) := by decide +kernel
theorem dX12_later_22 : decode cX12_later 22 = .ok (.goto 8, 3) := by decide +kernel
theorem dX12_later_25 : decode cX12_later 25 = .ok (.aload_n 0, 1) := by decide +kernel
theorem dX12_later_26 : decode cX12_later 26 = .ok (.iconst (-1), 1) := by decide +kernel
theorem dX12_later_27 : decode cX12_later 27 = .ok (.invokevirtual 113, 3) := by decide +kernel
theorem dX12_later_30 : decode cX12_later 30 = .ok (.ireturn, 1) := by decide +kernel
theorem dX12_cost_0 : decode cX12_cost 0 = .ok (.aload_n 0, 1) := by decide +kernel
theorem dX12_cost_1 : decode cX12_cost 1 = .ok (.iload_n 1, 1) := by decide +kernel
theorem dX12_cost_2 : decode cX12_cost 2 = .ok (.invokevirtual 270, 3) := by decide +kernel
theorem dX12_cost_5 : decode cX12_cost 5 = .ok (.ifCond .eq 11, 3) := by decide +kernel
theorem dX12_cost_8 : decode cX12_cost 8 = .ok (.aload_n 0, 1) := by decide +kernel
theorem dX12_cost_9 : decode cX12_cost 9 = .ok (.iload_n 2, 1) := by decide +kernel
theorem dX12_cost_10 : decode cX12_cost 10 = .ok (.invokevirtual 264, 3) := by decide +kernel
theorem dX12_cost_13 : decode cX12_cost 13 = .ok (.ifCond .ne 9, 3) := by decide +kernel
theorem dX12_cost_16 : decode cX12_cost 16 = .ok (.aload_n 0, 1) := by decide +kernel
theorem dX12_cost_17 : decode cX12_cost 17 = .ok (.iconst (-1), 1) := by decide +kernel
theorem dX12_cost_18 : decode cX12_cost 18 = .ok (.invokevirtual 113, 3) := by decide +kernel
theorem dX12_cost_21 : decode cX12_cost 21 = .ok (.ireturn, 1) := by decide +kernel
theorem dX12_cost_22 : decode cX12_cost 22 = .ok (.aload_n 0, 1) := by decide +kernel
theorem dX12_cost_23 : decode cX12_cost 23 = .ok (.invokevirtual 282, 3) := by decide +kernel
theorem dX12_cost_26 : decode cX12_cost 26 = .ok (.aload_n 0, 1) := by decide +kernel
theorem dX12_cost_27 : decode cX12_cost 27 = .ok (.getfield 62, 3) := by decide +kernel
theorem dX12_cost_30 : decode cX12_cost 30 = .ok (.bipush 16, 2) := by decide +kernel
theorem dX12_cost_32 : decode cX12_cost 32 = .ok (.iload_n 1, 1) := by decide +kernel
theorem dX12_cost_33 : decode cX12_cost 33 = .ok (.imul, 1) := by decide +kernel
theorem dX12_cost_34 : decode cX12_cost 34 = .ok (.iload_n 2, 1) := by decide +kernel
theorem dX12_cost_35 : decode cX12_cost 35 = .ok (.iadd, 1) := by decide +kernel
theorem dX12_cost_36 : decode cX12_cost 36 = .ok (.iaload, 1) := by decide +kernel
theorem dX12_cost_37 : decode cX12_cost 37 = .ok (.ireturn, 1) := by decide +kernel
theorem dX12_worstOf_0 : decode cX12_worstOf 0 = .ok (.aload_n 0, 1) := by decide +kernel
theorem dX12_worstOf_1 : decode cX12_worstOf 1 = .ok (.bipush (-9), 2) := by decide +kernel
theorem dX12_worstOf_3 : decode cX12_worstOf 3 = .ok (.putfield 285, 3) := by decide +kernel
theorem dX12_worstOf_6 : decode cX12_worstOf 6 = .ok (.iconst 0, 1) := by decide +kernel
theorem dX12_worstOf_7 : decode cX12_worstOf 7 = .ok (.istore 4, 2) := by decide +kernel
theorem dX12_worstOf_9 : decode cX12_worstOf 9 = .ok (.iload 4, 2) := by decide +kernel
theorem dX12_worstOf_11 : decode cX12_worstOf 11 = .ok (.bipush 16, 2) := by decide +kernel
theorem dX12_worstOf_13 : decode cX12_worstOf 13 = .ok (.if_icmp .ge 70, 3) := by decide +kernel
theorem dX12_worstOf_16 : decode cX12_worstOf 16 = .ok (.aload_n 0, 1) := by decide +kernel
theorem dX12_worstOf_17 : decode cX12_worstOf 17 = .ok (.getfield 65, 3) := by decide +kernel
theorem dX12_worstOf_20 : decode cX12_worstOf 20 = .ok (.iload 4, 2) := by decide +kernel
theorem dX12_worstOf_22 : decode cX12_worstOf 22 = .ok (.baload, 1) := by decide +kernel
theorem dX12_worstOf_23 : decode cX12_worstOf 23 = .ok (.ifCond .eq 54, 3) := by decide +kernel
theorem dX12_worstOf_26 : decode cX12_worstOf 26 = .ok (.iload 4, 2) := by decide +kernel
theorem dX12_worstOf_28 : decode cX12_worstOf 28 = .ok (.iload_n 3, 1) := by decide +kernel
theorem dX12_worstOf_29 : decode cX12_worstOf 29 = .ok (.ixor, 1) := by decide +kernel
theorem dX12_worstOf_30 : decode cX12_worstOf 30 = .ok (.iload_n 2, 1) := by decide +kernel
theorem dX12_worstOf_31 : decode cX12_worstOf 31 = .ok (.iand, 1) := by decide +kernel
theorem dX12_worstOf_32 : decode cX12_worstOf 32 = .ok (.ifCond .ne 45, 3) := by decide +kernel
theorem dX12_worstOf_35 : decode cX12_worstOf 35 = .ok (.aload_n 0, 1) := by decide +kernel
theorem dX12_worstOf_36 : decode cX12_worstOf 36 = .ok (.getfield 285, 3) := by decide +kernel
theorem dX12_worstOf_39 : decode cX12_worstOf 39 = .ok (.ifCond .lt 32, 3) := by decide +kernel
theorem dX12_worstOf_42 : decode cX12_worstOf 42 = .ok (.aload_n 0, 1) := by decide +kernel
theorem dX12_worstOf_43 : decode cX12_worstOf 43 = .ok (.getfield 62, 3) := by decide +kernel
theorem dX12_worstOf_46 : decode cX12_worstOf 46 = .ok (.bipush 16, 2) := by decide +kernel
theorem dX12_worstOf_48 : decode cX12_worstOf 48 = .ok (.iload_n 1, 1) := by decide +kernel
theorem dX12_worstOf_49 : decode cX12_worstOf 49 = .ok (.imul, 1) := by decide +kernel
theorem dX12_worstOf_50 : decode cX12_worstOf 50 = .ok (.iload 4, 2) := by decide +kernel
theorem dX12_worstOf_52 : decode cX12_worstOf 52 = .ok (.iadd, 1) := by decide +kernel
theorem dX12_worstOf_53 : decode cX12_worstOf 53 = .ok (.iaload, 1) := by decide +kernel
theorem dX12_worstOf_54 : decode cX12_worstOf 54 = .ok (.aload_n 0, 1) := by decide +kernel
theorem dX12_worstOf_55 : decode cX12_worstOf 55 = .ok (.getfield 62, 3) := by decide +kernel
theorem dX12_worstOf_58 : decode cX12_worstOf 58 = .ok (.bipush 16, 2) := by decide +kernel
theorem dX12_worstOf_60 : decode cX12_worstOf 60 = .ok (.iload_n 1, 1) := by decide +kernel
theorem dX12_worstOf_61 : decode cX12_worstOf 61 = .ok (.imul, 1) := by decide +kernel
theorem dX12_worstOf_62 : decode cX12_worstOf 62 = .ok (.aload_n 0, 1) := by decide +kernel
theorem dX12_worstOf_63 : decode cX12_worstOf 63 = .ok (.getfield 285, 3) := by decide +kernel
theorem dX12_worstOf_66 : decode cX12_worstOf 66 = .ok (.iadd, 1) := by decide +kernel
theorem dX12_worstOf_67 : decode cX12_worstOf 67 = .ok (.iaload, 1) := by decide +kernel
theorem dX12_worstOf_68 : decode cX12_worstOf 68 = .ok (.if_icmp .le 9, 3) := by decide +kernel
theorem dX12_worstOf_71 : decode cX12_worstOf 71 = .ok (.aload_n 0, 1) := by decide +kernel
theorem dX12_worstOf_72 : decode cX12_worstOf 72 = .ok (.iload 4, 2) := by decide +kernel
theorem dX12_worstOf_74 : decode cX12_worstOf 74 = .ok (.putfield 285, 3) := by decide +kernel
theorem dX12_worstOf_77 : decode cX12_worstOf 77 = .ok (.iinc 4 1, 3) := by decide +kernel
theorem dX12_worstOf_80 : decode cX12_worstOf 80 = .ok (.goto (-71), 3) := by decide +kernel
theorem dX12_worstOf_83 : decode cX12_worstOf 83 = .ok (.aload_n 0, 1) := by decide +kernel
theorem dX12_worstOf_84 : decode cX12_worstOf 84 = .ok (.getfield 285, 3) := by decide +kernel
theorem dX12_worstOf_87 : decode cX12_worstOf 87 = .ok (.ifCond .ge 8, 3) := by decide +kernel
theorem dX12_worstOf_90 : decode cX12_worstOf 90 = .ok (.bipush (-9), 2) := by decide +kernel
theorem dX12_worstOf_92 : decode cX12_worstOf 92 = .ok (.goto 17, 3) := by decide +kernel
theorem dX12_worstOf_95 : decode cX12_worstOf 95 = .ok (.aload_n 0, 1) := by decide +kernel
theorem dX12_worstOf_96 : decode cX12_worstOf 96 = .ok (.getfield 62, 3) := by decide +kernel
theorem dX12_worstOf_99 : decode cX12_worstOf 99 = .ok (.bipush 16, 2) := by decide +kernel
theorem dX12_worstOf_101 : decode cX12_worstOf 101 = .ok (.iload_n 1, 1) := by decide +kernel
theorem dX12_worstOf_102 : decode cX12_worstOf 102 = .ok (.imul, 1) := by decide +kernel
theorem dX12_worstOf_103 : decode cX12_worstOf 103 = .ok (.aload_n 0, 1) := by decide +kernel
theorem dX12_worstOf_104 : decode cX12_worstOf 104 = .ok (.getfield 285, 3) := by decide +kernel
theorem dX12_worstOf_107 : decode cX12_worstOf 107 = .ok (.iadd, 1) := by decide +kernel
theorem dX12_worstOf_108 : decode cX12_worstOf 108 = .ok (.iaload, 1) := by decide +kernel
theorem dX12_worstOf_109 : decode cX12_worstOf 109 = .ok (.ireturn, 1) := by decide +kernel
theorem dX12_worst_0 : decode cX12_worst 0 = .ok (.aload_n 0, 1) := by decide +kernel
theorem dX12_worst_1 : decode cX12_worst 1 = .ok (.iload_n 1, 1) := by decide +kernel
theorem dX12_worst_2 : decode cX12_worst 2 = .ok (.invokevirtual 270, 3) := by decide +kernel
theorem dX12_worst_5 : decode cX12_worst 5 = .ok (.ifCond .ne 9, 3) := by decide +kernel
theorem dX12_worst_8 : decode cX12_worst 8 = .ok (.aload_n 0, 1) := by decide +kernel
theorem dX12_worst_9 : decode cX12_worst 9 = .ok (.iconst (-1), 1) := by decide +kernel
theorem dX12_worst_10 : decode cX12_worst 10 = .ok (.invokevirtual 113, 3) := by decide +kernel
theorem dX12_worst_13 : decode cX12_worst 13 = .ok (.ireturn, 1) := by decide +kernel
theorem dX12_worst_14 : decode cX12_worst 14 = .ok (.iload_n 2, 1) := by decide +kernel
theorem dX12_worst_15 : decode cX12_worst 15 = .ok (.i2l, 1) := by decide +kernel
theorem dX12_worst_16 : decode cX12_worst 16 = .ok (.lconst 0, 1) := by decide +kernel
theorem dX12_worst_17 : decode cX12_worst 17 = .ok (.lconst 1, 1) := by decide +kernel
theorem dX12_worst_18 : decode cX12_worst 18 = .ok (.invokestatic 109, 3) := by decide +kernel
theorem dX12_worst_21 : decode cX12_worst 21 = .ok (.ifCond .ne 10, 3) := by decide +kernel
theorem dX12_worst_24 : decode cX12_worst 24 = .ok (.aload_n 0, 1) := by decide +kernel
theorem dX12_worst_25 : decode cX12_worst 25 = .ok (.bipush (-2), 2) := by decide +kernel
theorem dX12_worst_27 : decode cX12_worst 27 = .ok (.invokevirtual 113, 3) := by decide +kernel
theorem dX12_worst_30 : decode cX12_worst 30 = .ok (.ireturn, 1) := by decide +kernel
theorem dX12_worst_31 : decode cX12_worst 31 = .ok (.aload_n 0, 1) := by decide +kernel
theorem dX12_worst_32 : decode cX12_worst 32 = .ok (.invokevirtual 282, 3) := by decide +kernel
theorem dX12_worst_35 : decode cX12_worst 35 = .ok (.aload_n 0, 1) := by decide +kernel
theorem dX12_worst_36 : decode cX12_worst 36 = .ok (.iload_n 1, 1) := by decide +kernel
theorem dX12_worst_37 : decode cX12_worst 37 = .ok (.iconst 0, 1) := by decide +kernel
theorem dX12_worst_38 : decode cX12_worst 38 = .ok (.iconst 0, 1) := by decide +kernel
theorem dX12_worst_39 : decode cX12_worst 39 = .ok (.invokevirtual 288, 3) := by decide +kernel
theorem dX12_worst_42 : decode cX12_worst 42 = .ok (.istore_n 3, 1) := by decide +kernel
theorem dX12_worst_43 : decode cX12_worst 43 = .ok (.iload_n 2, 1) := by decide +kernel
theorem dX12_worst_44 : decode cX12_worst 44 = .ok (.ifCond .ne 7, 3) := by decide +kernel
theorem dX12_worst_47 : decode cX12_worst 47 = .ok (.iload_n 3, 1) := by decide +kernel
theorem dX12_worst_48 : decode cX12_worst 48 = .ok (.goto 7, 3) := by decide +kernel
theorem dX12_worst_51 : decode cX12_worst 51 = .ok (.aload_n 0, 1) := by decide +kernel
theorem dX12_worst_52 : decode cX12_worst 52 = .ok (.getfield 285, 3) := by decide +kernel
theorem dX12_worst_55 : decode cX12_worst 55 = .ok (.ireturn, 1) := by decide +kernel
theorem dX12_bestOf_0 : decode cX12_bestOf 0 = .ok (.aload_n 0, 1) := by decide +kernel
theorem dX12_bestOf_1 : decode cX12_bestOf 1 = .ok (.bipush (-9), 2) := by decide +kernel
theorem dX12_bestOf_3 : decode cX12_bestOf 3 = .ok (.putfield 292, 3) := by decide +kernel
theorem dX12_bestOf_6 : decode cX12_bestOf 6 = .ok (.bipush (-9), 2) := by decide +kernel
theorem dX12_bestOf_8 : decode cX12_bestOf 8 = .ok (.istore_n 3, 1) := by decide +kernel
theorem dX12_bestOf_9 : decode cX12_bestOf 9 = .ok (.iconst 0, 1) := by decide +kernel
theorem dX12_bestOf_10 : decode cX12_bestOf 10 = .ok (.istore 4, 2) := by decide +kernel
theorem dX12_bestOf_12 : decode cX12_bestOf 12 = .ok (.iload 4, 2) := by decide +kernel
theorem dX12_bestOf_14 : decode cX12_bestOf 14 = .ok (.sipush 256, 3) := by decide +kernel
theorem dX12_bestOf_17 : decode cX12_bestOf 17 = .ok (.if_icmp .ge 64, 3) := by decide +kernel
theorem dX12_bestOf_20 : decode cX12_bestOf 20 = .ok (.aload_n 0, 1) := by decide +kernel
theorem dX12_bestOf_21 : decode cX12_bestOf 21 = .ok (.getfield 68, 3) := by decide +kernel
theorem dX12_bestOf_24 : decode cX12_bestOf 24 = .ok (.iload 4, 2) := by decide +kernel
theorem dX12_bestOf_26 : decode cX12_bestOf 26 = .ok (.baload, 1) := by decide +kernel
theorem dX12_bestOf_27 : decode cX12_bestOf 27 = .ok (.ifCond .ne 6, 3) := by decide +kernel
theorem dX12_bestOf_30 : decode cX12_bestOf 30 = .ok (.goto 45, 3) := by decide +kernel
theorem dX12_bestOf_33 : decode cX12_bestOf 33 = .ok (.aload_n 0, 1) := by decide +kernel
theorem dX12_bestOf_34 : decode cX12_bestOf 34 = .ok (.iload 4, 2) := by decide +kernel
theorem dX12_bestOf_36 : decode cX12_bestOf 36 = .ok (.iload_n 1, 1) := by decide +kernel
theorem dX12_bestOf_37 : decode cX12_bestOf 37 = .ok (.iload_n 2, 1) := by decide +kernel
theorem dX12_bestOf_38 : decode cX12_bestOf 38 = .ok (.invokevirtual 288, 3) := by decide +kernel
theorem dX12_bestOf_41 : decode cX12_bestOf 41 = .ok (.istore 5, 2) := by decide +kernel
theorem dX12_bestOf_43 : decode cX12_bestOf 43 = .ok (.iload 5, 2) := by decide +kernel
theorem dX12_bestOf_45 : decode cX12_bestOf 45 = .ok (.bipush (-9), 2) := by decide +kernel
theorem dX12_bestOf_47 : decode cX12_bestOf 47 = .ok (.if_icmp .eq 28, 3) := by decide +kernel
theorem dX12_bestOf_50 : decode cX12_bestOf 50 = .ok (.aload_n 0, 1) := by decide +kernel
theorem dX12_bestOf_51 : decode cX12_bestOf 51 = .ok (.getfield 292, 3) := by decide +kernel
theorem dX12_bestOf_54 : decode cX12_bestOf 54 = .ok (.ifCond .lt 12, 3) := by decide +kernel
theorem dX12_bestOf_57 : decode cX12_bestOf 57 = .ok (.iload 5, 2) := by decide +kernel
theorem dX12_bestOf_59 : decode cX12_bestOf 59 = .ok (.iload_n 3, 1) := by decide +kernel
theorem dX12_bestOf_60 : decode cX12_bestOf 60 = .ok (.if_icmp .lt 6, 3) := by decide +kernel
theorem dX12_bestOf_63 : decode cX12_bestOf 63 = .ok (.goto 12, 3) := by decide +kernel
theorem dX12_bestOf_66 : decode cX12_bestOf 66 = .ok (.aload_n 0, 1) := by decide +kernel
theorem dX12_bestOf_67 : decode cX12_bestOf 67 = .ok (.iload 4, 2) := by decide +kernel
theorem dX12_bestOf_69 : decode cX12_bestOf 69 = .ok (.putfield 292, 3) := by decide +kernel
theorem dX12_bestOf_72 : decode cX12_bestOf 72 = .ok (.iload 5, 2) := by decide +kernel
theorem dX12_bestOf_74 : decode cX12_bestOf 74 = .ok (.istore_n 3, 1) := by decide +kernel
theorem dX12_bestOf_75 : decode cX12_bestOf 75 = .ok (.iinc 4 1, 3) := by decide +kernel
theorem dX12_bestOf_78 : decode cX12_bestOf 78 = .ok (.goto (-66), 3) := by decide +kernel
theorem dX12_bestOf_81 : decode cX12_bestOf 81 = .ok (.iload_n 3, 1) := by decide +kernel
theorem dX12_bestOf_82 : decode cX12_bestOf 82 = .ok (.ireturn, 1) := by decide +kernel
theorem dX12_best_0 : decode cX12_best 0 = .ok (.iload_n 1, 1) := by decide +kernel
theorem dX12_best_1 : decode cX12_best 1 = .ok (.i2l, 1) := by decide +kernel
theorem dX12_best_2 : decode cX12_best 2 = .ok (.lconst 0, 1) := by decide +kernel
theorem dX12_best_3 : decode cX12_best 3 = .ok (.lconst 1, 1) := by decide +kernel
theorem dX12_best_4 : decode cX12_best 4 = .ok (.invokestatic 109, 3) := by decide +kernel
theorem dX12_best_7 : decode cX12_best 7 = .ok (.ifCond .ne 10, 3) := by decide +kernel
theorem dX12_best_10 : decode cX12_best 10 = .ok (.aload_n 0, 1) := by decide +kernel
theorem dX12_best_11 : decode cX12_best 11 = .ok (.bipush (-2), 2) := by decide +kernel
theorem dX12_best_13 : decode cX12_best 13 = .ok (.invokevirtual 113, 3) := by decide +kernel
theorem dX12_best_16 : decode cX12_best 16 = .ok (.ireturn, 1) := by decide +kernel
theorem dX12_best_17 : decode cX12_best 17 = .ok (.aload_n 0, 1) := by decide +kernel
theorem dX12_best_18 : decode cX12_best 18 = .ok (.invokevirtual 282, 3) := by decide +kernel
theorem dX12_best_21 : decode cX12_best 21 = .ok (.aload_n 0, 1) := by decide +kernel
theorem dX12_best_22 : decode cX12_best 22 = .ok (.iconst 0, 1) := by decide +kernel
theorem dX12_best_23 : decode cX12_best 23 = .ok (.iconst 0, 1) := by decide +kernel
theorem dX12_best_24 : decode cX12_best 24 = .ok (.invokevirtual 295, 3) := by decide +kernel
theorem dX12_best_27 : decode cX12_best 27 = .ok (.istore_n 2, 1) := by decide +kernel
theorem dX12_best_28 : decode cX12_best 28 = .ok (.iload_n 1, 1) := by decide +kernel
theorem dX12_best_29 : decode cX12_best 29 = .ok (.ifCond .ne 10, 3) := by decide +kernel
theorem dX12_best_32 : decode cX12_best 32 = .ok (.aload_n 0, 1) := by decide +kernel
theorem dX12_best_33 : decode cX12_best 33 = .ok (.getfield 292, 3) := by decide +kernel
theorem dX12_best_36 : decode cX12_best 36 = .ok (.goto 4, 3) := by decide +kernel
theorem dX12_best_39 : decode cX12_best 39 = .ok (.iload_n 2, 1) := by decide +kernel
theorem dX12_best_40 : decode cX12_best 40 = .ok (.ireturn, 1) := by decide +kernel
theorem dX12_leftOf_0 : decode cX12_leftOf 0 = .ok (.aload_n 0, 1) := by decide +kernel
theorem dX12_leftOf_1 : decode cX12_leftOf 1 = .ok (.getfield 56, 3) := by decide +kernel
theorem dX12_leftOf_4 : decode cX12_leftOf 4 = .ok (.iload_n 3, 1) := by decide +kernel
theorem dX12_leftOf_5 : decode cX12_leftOf 5 = .ok (.iaload, 1) := by decide +kernel
theorem dX12_leftOf_6 : decode cX12_leftOf 6 = .ok (.aload_n 0, 1) := by decide +kernel
theorem dX12_leftOf_7 : decode cX12_leftOf 7 = .ok (.iload_n 1, 1) := by decide +kernel
theorem dX12_leftOf_8 : decode cX12_leftOf 8 = .ok (.iload_n 2, 1) := by decide +kernel
theorem dX12_leftOf_9 : decode cX12_leftOf 9 = .ok (.iload_n 3, 1) := by decide +kernel
theorem dX12_leftOf_10 : decode cX12_leftOf 10 = .ok (.invokevirtual 298, 3) := by decide +kernel
theorem dX12_leftOf_13 : decode cX12_leftOf 13 = .ok (.isub, 1) := by decide +kernel
theorem dX12_leftOf_14 : decode cX12_leftOf 14 = .ok (.istore 4, 2) := by decide +kernel
theorem dX12_leftOf_16 : decode cX12_leftOf 16 = .ok (.iload 4, 2) := by decide +kernel
theorem dX12_leftOf_18 : decode cX12_leftOf 18 = .ok (.ifCond .le 8, 3) := by decide +kernel
theorem dX12_leftOf_21 : decode cX12_leftOf 21 = .ok (.iload 4, 2) := by decide +kernel
theorem dX12_leftOf_23 : decode cX12_leftOf 23 = .ok (.goto 4, 3) := by decide +kernel
theorem dX12_leftOf_26 : decode cX12_leftOf 26 = .ok (.iconst 0, 1) := by decide +kernel
theorem dX12_leftOf_27 : decode cX12_leftOf 27 = .ok (.ireturn, 1) := by decide +kernel
theorem dX12_hadOf_0 : decode cX12_hadOf 0 = .ok (.aload_n 0, 1) := by decide +kernel
theorem dX12_hadOf_1 : decode cX12_hadOf 1 = .ok (.iload_n 3, 1) := by decide +kernel
theorem dX12_hadOf_2 : decode cX12_hadOf 2 = .ok (.invokevirtual 117, 3) := by decide +kernel
theorem dX12_hadOf_5 : decode cX12_hadOf 5 = .ok (.ifCond .eq 12, 3) := by decide +kernel
theorem dX12_hadOf_8 : decode cX12_hadOf 8 = .ok (.aload_n 0, 1) := by decide +kernel
theorem dX12_hadOf_9 : decode cX12_hadOf 9 = .ok (.getfield 44, 3) := by decide +kernel
theorem dX12_hadOf_12 : decode cX12_hadOf 12 = .ok (.iload_n 3, 1) := by decide +kernel
theorem dX12_hadOf_13 : decode cX12_hadOf 13 = .ok (.baload, 1) := by decide +kernel
theorem dX12_hadOf_14 : decode cX12_hadOf 14 = .ok (.ifCond .ne 5, 3) := by decide +kernel
theorem dX12_hadOf_17 : decode cX12_hadOf 17 = .ok (.iconst 0, 1) := by decide +kernel
theorem dX12_hadOf_18 : decode cX12_hadOf 18 = .ok (.ireturn, 1) := by decide +kernel
theorem dX12_hadOf_19 : decode cX12_hadOf 19 = .ok (.aload_n 0, 1) := by decide +kernel
theorem dX12_hadOf_20 : decode cX12_hadOf 20 = .ok (.iload_n 3, 1) := by decide +kernel
theorem dX12_hadOf_21 : decode cX12_hadOf 21 = .ok (.iload_n 1, 1) := by decide +kernel
theorem dX12_hadOf_22 : decode cX12_hadOf 22 = .ok (.iload_n 2, 1) := by decide +kernel
theorem dX12_hadOf_23 : decode cX12_hadOf 23 = .ok (.invokevirtual 301, 3) := by decide +kernel
theorem dX12_hadOf_26 : decode cX12_hadOf 26 = .ok (.istore 4, 2) := by decide +kernel
theorem dX12_hadOf_28 : decode cX12_hadOf 28 = .ok (.iload 4, 2) := by decide +kernel
theorem dX12_hadOf_30 : decode cX12_hadOf 30 = .ok (.ifCond .ge 7, 3) := by decide +kernel
theorem dX12_hadOf_33 : decode cX12_hadOf 33 = .ok (.iconst 0, 1) := by decide +kernel
theorem dX12_hadOf_34 : decode cX12_hadOf 34 = .ok (.goto 35, 3) := by decide +kernel
theorem dX12_hadOf_37 : decode cX12_hadOf 37 = .ok (.iload 4, 2) := by decide +kernel
theorem dX12_hadOf_39 : decode cX12_hadOf 39 = .ok (.aload_n 0, 1) := by decide +kernel
theorem dX12_hadOf_40 : decode cX12_hadOf 40 = .ok (.getfield 13, 3) := by decide +kernel
theorem dX12_hadOf_43 : decode cX12_hadOf 43 = .ok (.bipush 6, 2) := by decide +kernel
theorem dX12_hadOf_45 : decode cX12_hadOf 45 = .ok (.iload_n 3, 1) := by decide +kernel
theorem dX12_hadOf_46 : decode cX12_hadOf 46 = .ok (.imul, 1) := by decide +kernel
theorem dX12_hadOf_47 : decode cX12_hadOf 47 = .ok (.iconst 4, 1) := by decide +kernel
theorem dX12_hadOf_48 : decode cX12_hadOf 48 = .ok (.iadd, 1) := by decide +kernel
theorem dX12_hadOf_49 : decode cX12_hadOf 49 = .ok (.iaload, 1) := by decide +kernel
theorem dX12_hadOf_50 : decode cX12_hadOf 50 = .ok (.if_icmp .le 17, 3) := by decide +kernel
theorem dX12_hadOf_53 : decode cX12_hadOf 53 = .ok (.aload_n 0, 1) := by decide +kernel
theorem dX12_hadOf_54 : decode cX12_hadOf 54 = .ok (.getfield 13, 3) := by decide +kernel
theorem dX12_hadOf_57 : decode cX12_hadOf 57 = .ok (.bipush 6, 2) := by decide +kernel
theorem dX12_hadOf_59 : decode cX12_hadOf 59 = .ok (.iload_n 3, 1) := by decide +kernel
theorem dX12_hadOf_60 : decode cX12_hadOf 60 = .ok (.imul, 1) := by decide +kernel
theorem dX12_hadOf_61 : decode cX12_hadOf 61 = .ok (.iconst 4, 1) := by decide +kernel
theorem dX12_hadOf_62 : decode cX12_hadOf 62 = .ok (.iadd, 1) := by decide +kernel
theorem dX12_hadOf_63 : decode cX12_hadOf 63 = .ok (.iaload, 1) := by decide +kernel
theorem dX12_hadOf_64 : decode cX12_hadOf 64 = .ok (.goto 5, 3) := by decide +kernel
theorem dX12_hadOf_67 : decode cX12_hadOf 67 = .ok (.iload 4, 2) := by decide +kernel
theorem dX12_hadOf_69 : decode cX12_hadOf 69 = .ok (.ireturn, 1) := by decide +kernel
theorem dX12_byRulesOf_0 : decode cX12_byRulesOf 0 = .ok (.aload_n 0, 1) := by decide +kernel
theorem dX12_byRulesOf_1 : decode cX12_byRulesOf 1 = .ok (.iload_n 1, 1) := by decide +kernel
theorem dX12_byRulesOf_2 : decode cX12_byRulesOf 2 = .ok (.invokevirtual 273, 3) := by decide +kernel
theorem dX12_byRulesOf_5 : decode cX12_byRulesOf 5 = .ok (.istore_n 3, 1) := by decide +kernel
theorem dX12_byRulesOf_6 : decode cX12_byRulesOf 6 = .ok (.aload_n 0, 1) := by decide +kernel
theorem dX12_byRulesOf_7 : decode cX12_byRulesOf 7 = .ok (.iload_n 1, 1) := by decide +kernel
theorem dX12_byRulesOf_8 : decode cX12_byRulesOf 8 = .ok (.iload_n 2, 1) := by decide +kernel
theorem dX12_byRulesOf_9 : decode cX12_byRulesOf 9 = .ok (.invokevirtual 244, 3) := by decide +kernel
theorem dX12_byRulesOf_12 : decode cX12_byRulesOf 12 = .ok (.iconst 0, 1) := by decide +kernel
theorem dX12_byRulesOf_13 : decode cX12_byRulesOf 13 = .ok (.istore 4, 2) := by decide +kernel
theorem dX12_byRulesOf_15 : decode cX12_byRulesOf 15 = .ok (.iload 4, 2) := by decide +kernel
theorem dX12_byRulesOf_17 : decode cX12_byRulesOf 17 = .ok (.iconst 4, 1) := by decide +kernel
theorem dX12_byRulesOf_18 : decode cX12_byRulesOf 18 = .ok (.if_icmp .ge 50, 3) := by decide +kernel
theorem dX12_byRulesOf_21 : decode cX12_byRulesOf 21 = .ok (.iload_n 3, 1) := by decide +kernel
theorem dX12_byRulesOf_22 : decode cX12_byRulesOf 22 = .ok (.aload_n 0, 1) := by decide +kernel
theorem dX12_byRulesOf_23 : decode cX12_byRulesOf 23 = .ok (.iload_n 1, 1) := by decide +kernel
theorem dX12_byRulesOf_24 : decode cX12_byRulesOf 24 = .ok (.iload_n 2, 1) := by decide +kernel
theorem dX12_byRulesOf_25 : decode cX12_byRulesOf 25 = .ok (.iload 4, 2) := by decide +kernel
theorem dX12_byRulesOf_27 : decode cX12_byRulesOf 27 = .ok (.invokevirtual 298, 3) := by decide +kernel
theorem dX12_byRulesOf_30 : decode cX12_byRulesOf 30 = .ok (.aload_n 0, 1) := by decide +kernel
theorem dX12_byRulesOf_31 : decode cX12_byRulesOf 31 = .ok (.getfield 13, 3) := by decide +kernel
theorem dX12_byRulesOf_34 : decode cX12_byRulesOf 34 = .ok (.bipush 6, 2) := by decide +kernel
theorem dX12_byRulesOf_36 : decode cX12_byRulesOf 36 = .ok (.iload 4, 2) := by decide +kernel
theorem dX12_byRulesOf_38 : decode cX12_byRulesOf 38 = .ok (.imul, 1) := by decide +kernel
theorem dX12_byRulesOf_39 : decode cX12_byRulesOf 39 = .ok (.iconst 3, 1) := by decide +kernel
theorem dX12_byRulesOf_40 : decode cX12_byRulesOf 40 = .ok (.iadd, 1) := by decide +kernel
theorem dX12_byRulesOf_41 : decode cX12_byRulesOf 41 = .ok (.iaload, 1) := by decide +kernel
theorem dX12_byRulesOf_42 : decode cX12_byRulesOf 42 = .ok (.imul, 1) := by decide +kernel
theorem dX12_byRulesOf_43 : decode cX12_byRulesOf 43 = .ok (.aload_n 0, 1) := by decide +kernel
theorem dX12_byRulesOf_44 : decode cX12_byRulesOf 44 = .ok (.iload_n 1, 1) := by decide +kernel
theorem dX12_byRulesOf_45 : decode cX12_byRulesOf 45 = .ok (.iload_n 2, 1) := by decide +kernel
theorem dX12_byRulesOf_46 : decode cX12_byRulesOf 46 = .ok (.iload 4, 2) := by decide +kernel
theorem dX12_byRulesOf_48 : decode cX12_byRulesOf 48 = .ok (.invokevirtual 304, 3) := by decide +kernel
theorem dX12_byRulesOf_51 : decode cX12_byRulesOf 51 = .ok (.aload_n 0, 1) := by decide +kernel
theorem dX12_byRulesOf_52 : decode cX12_byRulesOf 52 = .ok (.getfield 13, 3) := by decide +kernel
theorem dX12_byRulesOf_55 : decode cX12_byRulesOf 55 = .ok (.bipush 41, 2) := by decide +kernel
theorem dX12_byRulesOf_57 : decode cX12_byRulesOf 57 = .ok (.iaload, 1) := by decide +kernel
theorem dX12_byRulesOf_58 : decode cX12_byRulesOf 58 = .ok (.imul, 1) := by decide +kernel
theorem dX12_byRulesOf_59 : decode cX12_byRulesOf 59 = .ok (.iadd, 1) := by decide +kernel
theorem dX12_byRulesOf_60 : decode cX12_byRulesOf 60 = .ok (.iadd, 1) := by decide +kernel
theorem dX12_byRulesOf_61 : decode cX12_byRulesOf 61 = .ok (.istore_n 3, 1) := by decide +kernel
theorem dX12_byRulesOf_62 : decode cX12_byRulesOf 62 = .ok (.iinc 4 1, 3) := by decide +kernel
theorem dX12_byRulesOf_65 : decode cX12_byRulesOf 65 = .ok (.goto (-50), 3) := by decide +kernel
theorem dX12_byRulesOf_68 : decode cX12_byRulesOf 68 = .ok (.iload_n 3, 1) := by decide +kernel
theorem dX12_byRulesOf_69 : decode cX12_byRulesOf 69 = .ok (.ireturn, 1) := by decide +kernel
theorem dX12_byRules_0 : decode cX12_byRules 0 = .ok (.aload_n 0, 1) := by decide +kernel
theorem dX12_byRules_1 : decode cX12_byRules 1 = .ok (.iload_n 1, 1) := by decide +kernel
theorem dX12_byRules_2 : decode cX12_byRules 2 = .ok (.invokevirtual 270, 3) := by decide +kernel
theorem dX12_byRules_5 : decode cX12_byRules 5 = .ok (.ifCond .eq 20, 3) := by decide +kernel
theorem dX12_byRules_8 : decode cX12_byRules 8 = .ok (.aload_n 0, 1) := by decide +kernel
theorem dX12_byRules_9 : decode cX12_byRules 9 = .ok (.iload_n 2, 1) := by decide +kernel
theorem dX12_byRules_10 : decode cX12_byRules 10 = .ok (.invokevirtual 264, 3) := by decide +kernel
theorem dX12_byRules_13 : decode cX12_byRules 13 = .ok (.ifCond .eq 12, 3) := by decide +kernel
theorem dX12_byRules_16 : decode cX12_byRules 16 = .ok (.aload_n 0, 1) := by decide +kernel
theorem dX12_byRules_17 : decode cX12_byRules 17 = .ok (.iload_n 1, 1) := by decide +kernel
theorem dX12_byRules_18 : decode cX12_byRules 18 = .ok (.iload_n 2, 1) := by decide +kernel
theorem dX12_byRules_19 : decode cX12_byRules 19 = .ok (.invokevirtual 307, 3) := by decide +kernel
theorem dX12_byRules_22 : decode cX12_byRules 22 = .ok (.goto 8, 3) := by decide +kernel
theorem dX12_byRules_25 : decode cX12_byRules 25 = .ok (.aload_n 0, 1) := by decide +kernel
theorem dX12_byRules_26 : decode cX12_byRules 26 = .ok (.iconst (-1), 1) := by decide +kernel
theorem dX12_byRules_27 : decode cX12_byRules 27 = .ok (.invokevirtual 113, 3) := by decide +kernel
theorem dX12_byRules_30 : decode cX12_byRules 30 = .ok (.ireturn, 1) := by decide +kernel
theorem dX12_ruled_0 : decode cX12_ruled 0 = .ok (.aload_n 0, 1) := by decide +kernel
theorem dX12_ruled_1 : decode cX12_ruled 1 = .ok (.iload_n 1, 1) := by decide +kernel
theorem dX12_ruled_2 : decode cX12_ruled 2 = .ok (.invokevirtual 270, 3) := by decide +kernel
theorem dX12_ruled_5 : decode cX12_ruled 5 = .ok (.ifCond .ne 9, 3) := by decide +kernel
theorem dX12_ruled_8 : decode cX12_ruled 8 = .ok (.aload_n 0, 1) := by decide +kernel
theorem dX12_ruled_9 : decode cX12_ruled 9 = .ok (.iconst (-1), 1) := by decide +kernel
theorem dX12_ruled_10 : decode cX12_ruled 10 = .ok (.invokevirtual 113, 3) := by decide +kernel
theorem dX12_ruled_13 : decode cX12_ruled 13 = .ok (.ireturn, 1) := by decide +kernel
theorem dX12_ruled_14 : decode cX12_ruled 14 = .ok (.iload_n 2, 1) := by decide +kernel
theorem dX12_ruled_15 : decode cX12_ruled 15 = .ok (.i2l, 1) := by decide +kernel
theorem dX12_ruled_16 : decode cX12_ruled 16 = .ok (.lconst 0, 1) := by decide +kernel
theorem dX12_ruled_17 : decode cX12_ruled 17 = .ok (.lconst 1, 1) := by decide +kernel
theorem dX12_ruled_18 : decode cX12_ruled 18 = .ok (.invokestatic 109, 3) := by decide +kernel
theorem dX12_ruled_21 : decode cX12_ruled 21 = .ok (.ifCond .ne 10, 3) := by decide +kernel
theorem dX12_ruled_24 : decode cX12_ruled 24 = .ok (.aload_n 0, 1) := by decide +kernel
theorem dX12_ruled_25 : decode cX12_ruled 25 = .ok (.bipush (-2), 2) := by decide +kernel
theorem dX12_ruled_27 : decode cX12_ruled 27 = .ok (.invokevirtual 113, 3) := by decide +kernel
theorem dX12_ruled_30 : decode cX12_ruled 30 = .ok (.ireturn, 1) := by decide +kernel
theorem dX12_ruled_31 : decode cX12_ruled 31 = .ok (.aload_n 0, 1) := by decide +kernel
theorem dX12_ruled_32 : decode cX12_ruled 32 = .ok (.invokevirtual 282, 3) := by decide +kernel
theorem dX12_ruled_35 : decode cX12_ruled 35 = .ok (.bipush (-9), 2) := by decide +kernel
theorem dX12_ruled_37 : decode cX12_ruled 37 = .ok (.istore_n 3, 1) := by decide +kernel
theorem dX12_ruled_38 : decode cX12_ruled 38 = .ok (.iconst 0, 1) := by decide +kernel
theorem dX12_ruled_39 : decode cX12_ruled 39 = .ok (.istore 4, 2) := by decide +kernel
theorem dX12_ruled_41 : decode cX12_ruled 41 = .ok (.iload 4, 2) := by decide +kernel
theorem dX12_ruled_43 : decode cX12_ruled 43 = .ok (.bipush 16, 2) := by decide +kernel
theorem dX12_ruled_45 : decode cX12_ruled 45 = .ok (.if_icmp .ge 38, 3) := by decide +kernel
theorem dX12_ruled_48 : decode cX12_ruled 48 = .ok (.aload_n 0, 1) := by decide +kernel
theorem dX12_ruled_49 : decode cX12_ruled 49 = .ok (.getfield 65, 3) := by decide +kernel
theorem dX12_ruled_52 : decode cX12_ruled 52 = .ok (.iload 4, 2) := by decide +kernel
theorem dX12_ruled_54 : decode cX12_ruled 54 = .ok (.baload, 1) := by decide +kernel
theorem dX12_ruled_55 : decode cX12_ruled 55 = .ok (.ifCond .eq 22, 3) := by decide +kernel
theorem dX12_ruled_58 : decode cX12_ruled 58 = .ok (.aload_n 0, 1) := by decide +kernel
theorem dX12_ruled_59 : decode cX12_ruled 59 = .ok (.iload_n 1, 1) := by decide +kernel
theorem dX12_ruled_60 : decode cX12_ruled 60 = .ok (.iload 4, 2) := by decide +kernel
theorem dX12_ruled_62 : decode cX12_ruled 62 = .ok (.invokevirtual 307, 3) := by decide +kernel
theorem dX12_ruled_65 : decode cX12_ruled 65 = .ok (.iload_n 3, 1) := by decide +kernel
theorem dX12_ruled_66 : decode cX12_ruled 66 = .ok (.if_icmp .le 11, 3) := by decide +kernel
theorem dX12_ruled_69 : decode cX12_ruled 69 = .ok (.aload_n 0, 1) := by decide +kernel
theorem dX12_ruled_70 : decode cX12_ruled 70 = .ok (.iload_n 1, 1) := by decide +kernel
theorem dX12_ruled_71 : decode cX12_ruled 71 = .ok (.iload 4, 2) := by decide +kernel
theorem dX12_ruled_73 : decode cX12_ruled 73 = .ok (.invokevirtual 307, 3) := by decide +kernel
theorem dX12_ruled_76 : decode cX12_ruled 76 = .ok (.istore_n 3, 1) := by decide +kernel
theorem dX12_ruled_77 : decode cX12_ruled 77 = .ok (.iinc 4 1, 3) := by decide +kernel
theorem dX12_ruled_80 : decode cX12_ruled 80 = .ok (.goto (-39), 3) := by decide +kernel
theorem dX12_ruled_83 : decode cX12_ruled 83 = .ok (.iload_n 3, 1) := by decide +kernel
theorem dX12_ruled_84 : decode cX12_ruled 84 = .ok (.bipush (-9), 2) := by decide +kernel
theorem dX12_ruled_86 : decode cX12_ruled 86 = .ok (.if_icmp .eq 7, 3) := by decide +kernel
theorem dX12_ruled_89 : decode cX12_ruled 89 = .ok (.iload_n 2, 1) := by decide +kernel
theorem dX12_ruled_90 : decode cX12_ruled 90 = .ok (.ifCond .ne 7, 3) := by decide +kernel
theorem dX12_ruled_93 : decode cX12_ruled 93 = .ok (.iload_n 3, 1) := by decide +kernel
theorem dX12_ruled_94 : decode cX12_ruled 94 = .ok (.goto 12, 3) := by decide +kernel
theorem dX12_ruled_97 : decode cX12_ruled 97 = .ok (.iload_n 3, 1) := by decide +kernel
theorem dX12_ruled_98 : decode cX12_ruled 98 = .ok (.aload_n 0, 1) := by decide +kernel
theorem dX12_ruled_99 : decode cX12_ruled 99 = .ok (.iload_n 1, 1) := by decide +kernel
theorem dX12_ruled_100 : decode cX12_ruled 100 = .ok (.iconst 0, 1) := by decide +kernel
theorem dX12_ruled_101 : decode cX12_ruled 101 = .ok (.iconst 0, 1) := by decide +kernel
theorem dX12_ruled_102 : decode cX12_ruled 102 = .ok (.invokevirtual 288, 3) := by decide +kernel
theorem dX12_ruled_105 : decode cX12_ruled 105 = .ok (.isub, 1) := by decide +kernel
theorem dX12_ruled_106 : decode cX12_ruled 106 = .ok (.ireturn, 1) := by decide +kernel
theorem dX12_borneMost_0 : decode cX12_borneMost 0 = .ok (.iconst (-1), 1) := by decide +kernel
theorem dX12_borneMost_1 : decode cX12_borneMost 1 = .ok (.istore_n 2, 1) := by decide +kernel
theorem dX12_borneMost_2 : decode cX12_borneMost 2 = .ok (.iconst 0, 1) := by decide +kernel
theorem dX12_borneMost_3 : decode cX12_borneMost 3 = .ok (.istore_n 3, 1) := by decide +kernel
theorem dX12_borneMost_4 : decode cX12_borneMost 4 = .ok (.iload_n 3, 1) := by decide +kernel
theorem dX12_borneMost_5 : decode cX12_borneMost 5 = .ok (.bipush 16, 2) := by decide +kernel
theorem dX12_borneMost_7 : decode cX12_borneMost 7 = .ok (.if_icmp .ge 49, 3) := by decide +kernel
theorem dX12_borneMost_10 : decode cX12_borneMost 10 = .ok (.aload_n 0, 1) := by decide +kernel
theorem dX12_borneMost_11 : decode cX12_borneMost 11 = .ok (.getfield 74, 3) := by decide +kernel
theorem dX12_borneMost_14 : decode cX12_borneMost 14 = .ok (.iload_n 3, 1) := by decide +kernel
theorem dX12_borneMost_15 : decode cX12_borneMost 15 = .ok (.baload, 1) := by decide +kernel
theorem dX12_borneMost_16 : decode cX12_borneMost 16 = .ok (.ifCond .eq 32, 3) := by decide +kernel
theorem dX12_borneMost_19 : decode cX12_borneMost 19 = .ok (.aload_n 0, 1) := by decide +kernel
theorem dX12_borneMost_20 : decode cX12_borneMost 20 = .ok (.getfield 62, 3) := by decide +kernel
theorem dX12_borneMost_23 : decode cX12_borneMost 23 = .ok (.bipush 16, 2) := by decide +kernel
theorem dX12_borneMost_25 : decode cX12_borneMost 25 = .ok (.iload_n 1, 1) := by decide +kernel
theorem dX12_borneMost_26 : decode cX12_borneMost 26 = .ok (.imul, 1) := by decide +kernel
theorem dX12_borneMost_27 : decode cX12_borneMost 27 = .ok (.iload_n 3, 1) := by decide +kernel
theorem dX12_borneMost_28 : decode cX12_borneMost 28 = .ok (.iadd, 1) := by decide +kernel
theorem dX12_borneMost_29 : decode cX12_borneMost 29 = .ok (.iaload, 1) := by decide +kernel
theorem dX12_borneMost_30 : decode cX12_borneMost 30 = .ok (.iload_n 2, 1) := by decide +kernel
theorem dX12_borneMost_31 : decode cX12_borneMost 31 = .ok (.if_icmp .le 17, 3) := by decide +kernel
theorem dX12_borneMost_34 : decode cX12_borneMost 34 = .ok (.aload_n 0, 1) := by decide +kernel
theorem dX12_borneMost_35 : decode cX12_borneMost 35 = .ok (.getfield 62, 3) := by decide +kernel
theorem dX12_borneMost_38 : decode cX12_borneMost 38 = .ok (.bipush 16, 2) := by decide +kernel
theorem dX12_borneMost_40 : decode cX12_borneMost 40 = .ok (.iload_n 1, 1) := by decide +kernel
theorem dX12_borneMost_41 : decode cX12_borneMost 41 = .ok (.imul, 1) := by decide +kernel
theorem dX12_borneMost_42 : decode cX12_borneMost 42 = .ok (.iload_n 3, 1) := by decide +kernel
theorem dX12_borneMost_43 : decode cX12_borneMost 43 = .ok (.iadd, 1) := by decide +kernel
theorem dX12_borneMost_44 : decode cX12_borneMost 44 = .ok (.iaload, 1) := by decide +kernel
theorem dX12_borneMost_45 : decode cX12_borneMost 45 = .ok (.goto 4, 3) := by decide +kernel
theorem dX12_borneMost_48 : decode cX12_borneMost 48 = .ok (.iload_n 2, 1) := by decide +kernel
theorem dX12_borneMost_49 : decode cX12_borneMost 49 = .ok (.istore_n 2, 1) := by decide +kernel
theorem dX12_borneMost_50 : decode cX12_borneMost 50 = .ok (.iinc 3 1, 3) := by decide +kernel
theorem dX12_borneMost_53 : decode cX12_borneMost 53 = .ok (.goto (-49), 3) := by decide +kernel
theorem dX12_borneMost_56 : decode cX12_borneMost 56 = .ok (.iload_n 2, 1) := by decide +kernel
theorem dX12_borneMost_57 : decode cX12_borneMost 57 = .ok (.ireturn, 1) := by decide +kernel
theorem dX12_close_0 : decode cX12_close 0 = .ok (.iload_n 2, 1) := by decide +kernel
theorem dX12_close_1 : decode cX12_close 1 = .ok (.i2l, 1) := by decide +kernel
theorem dX12_close_2 : decode cX12_close 2 = .ok (.lconst 0, 1) := by decide +kernel
theorem dX12_close_3 : decode cX12_close 3 = .ok (.ldc2_w 129, 3) := by decide +kernel
theorem dX12_close_6 : decode cX12_close 6 = .ok (.invokestatic 109, 3) := by decide +kernel
theorem dX12_close_9 : decode cX12_close 9 = .ok (.ifCond .ne 10, 3) := by decide +kernel
theorem dX12_close_12 : decode cX12_close 12 = .ok (.aload_n 0, 1) := by decide +kernel
theorem dX12_close_13 : decode cX12_close 13 = .ok (.bipush (-2), 2) := by decide +kernel
theorem dX12_close_15 : decode cX12_close 15 = .ok (.invokevirtual 113, 3) := by decide +kernel
theorem dX12_close_18 : decode cX12_close 18 = .ok (.ireturn, 1) := by decide +kernel
theorem dX12_close_19 : decode cX12_close 19 = .ok (.iload_n 1, 1) := by decide +kernel
theorem dX12_close_20 : decode cX12_close 20 = .ok (.i2l, 1) := by decide +kernel
theorem dX12_close_21 : decode cX12_close 21 = .ok (.lconst 1, 1) := by decide +kernel
theorem dX12_close_22 : decode cX12_close 22 = .ok (.ldc2_w 135, 3) := by decide +kernel
theorem dX12_close_25 : decode cX12_close 25 = .ok (.invokestatic 137, 3) := by decide +kernel
theorem dX12_close_28 : decode cX12_close 28 = .ok (.istore_n 3, 1) := by decide +kernel
theorem dX12_close_29 : decode cX12_close 29 = .ok (.iload_n 3, 1) := by decide +kernel
theorem dX12_close_30 : decode cX12_close 30 = .ok (.ifCond .eq 9, 3) := by decide +kernel
theorem dX12_close_33 : decode cX12_close 33 = .ok (.aload_n 0, 1) := by decide +kernel
theorem dX12_close_34 : decode cX12_close 34 = .ok (.iload_n 3, 1) := by decide +kernel
theorem dX12_close_35 : decode cX12_close 35 = .ok (.invokevirtual 113, 3) := by decide +kernel
theorem dX12_close_38 : decode cX12_close 38 = .ok (.ireturn, 1) := by decide +kernel
theorem dX12_close_39 : decode cX12_close 39 = .ok (.aload_n 0, 1) := by decide +kernel
theorem dX12_close_40 : decode cX12_close 40 = .ok (.invokevirtual 282, 3) := by decide +kernel
theorem dX12_close_43 : decode cX12_close 43 = .ok (.iconst 0, 1) := by decide +kernel
theorem dX12_close_44 : decode cX12_close 44 = .ok (.istore 4, 2) := by decide +kernel
theorem dX12_close_46 : decode cX12_close 46 = .ok (.bipush 15, 2) := by decide +kernel
theorem dX12_close_48 : decode cX12_close 48 = .ok (.istore 5, 2) := by decide +kernel
theorem dX12_close_50 : decode cX12_close 50 = .ok (.iload 5, 2) := by decide +kernel
theorem dX12_close_52 : decode cX12_close 52 = .ok (.ifCond .lt 36, 3) := by decide +kernel
theorem dX12_close_55 : decode cX12_close 55 = .ok (.aload_n 0, 1) := by decide +kernel
theorem dX12_close_56 : decode cX12_close 56 = .ok (.getfield 74, 3) := by decide +kernel
theorem dX12_close_59 : decode cX12_close 59 = .ok (.iload 5, 2) := by decide +kernel
theorem dX12_close_61 : decode cX12_close 61 = .ok (.iconst 0, 1) := by decide +kernel
theorem dX12_close_62 : decode cX12_close 62 = .ok (.bastore, 1) := by decide +kernel
theorem dX12_close_63 : decode cX12_close 63 = .ok (.aload_n 0, 1) := by decide +kernel
theorem dX12_close_64 : decode cX12_close 64 = .ok (.getfield 65, 3) := by decide +kernel
theorem dX12_close_67 : decode cX12_close 67 = .ok (.iload 5, 2) := by decide +kernel
theorem dX12_close_69 : decode cX12_close 69 = .ok (.baload, 1) := by decide +kernel
theorem dX12_close_70 : decode cX12_close 70 = .ok (.ifCond .eq 8, 3) := by decide +kernel
theorem dX12_close_73 : decode cX12_close 73 = .ok (.iload 5, 2) := by decide +kernel
theorem dX12_close_75 : decode cX12_close 75 = .ok (.goto 5, 3) := by decide +kernel
theorem dX12_close_78 : decode cX12_close 78 = .ok (.iload 4, 2) := by decide +kernel
theorem dX12_close_80 : decode cX12_close 80 = .ok (.istore 4, 2) := by decide +kernel
theorem dX12_close_82 : decode cX12_close 82 = .ok (.iinc 5 (-1), 3) := by decide +kernel
theorem dX12_close_85 : decode cX12_close 85 = .ok (.goto (-35), 3) := by decide +kernel
theorem dX12_close_88 : decode cX12_close 88 = .ok (.aload_n 0, 1) := by decide +kernel
theorem dX12_close_89 : decode cX12_close 89 = .ok (.getfield 65, 3) := by decide +kernel
theorem dX12_close_92 : decode cX12_close 92 = .ok (.iload 4, 2) := by decide +kernel
theorem dX12_close_94 : decode cX12_close 94 = .ok (.baload, 1) := by decide +kernel
theorem dX12_close_95 : decode cX12_close 95 = .ok (.ifCond .ne 6, 3) := by decide +kernel
theorem dX12_close_98 : decode cX12_close 98 = .ok (.bipush (-9), 2) := by decide +kernel
theorem dX12_close_100 : decode cX12_close 100 = .ok (.ireturn, 1) := by decide +kernel
theorem dX12_close_101 : decode cX12_close 101 = .ok (.aload_n 0, 1) := by decide +kernel
theorem dX12_close_102 : decode cX12_close 102 = .ok (.getfield 74, 3) := by decide +kernel
theorem dX12_close_105 : decode cX12_close 105 = .ok (.iload 4, 2) := by decide +kernel
theorem dX12_close_107 : decode cX12_close 107 = .ok (.iconst 1, 1) := by decide +kernel
theorem dX12_close_108 : decode cX12_close 108 = .ok (.bastore, 1) := by decide +kernel
theorem dX12_close_109 : decode cX12_close 109 = .ok (.iconst 0, 1) := by decide +kernel
theorem dX12_close_110 : decode cX12_close 110 = .ok (.istore 5, 2) := by decide +kernel
theorem dX12_close_112 : decode cX12_close 112 = .ok (.iconst (-1), 1) := by decide +kernel
theorem dX12_close_113 : decode cX12_close 113 = .ok (.istore 6, 2) := by decide +kernel
theorem dX12_close_115 : decode cX12_close 115 = .ok (.iconst 0, 1) := by decide +kernel
theorem dX12_close_116 : decode cX12_close 116 = .ok (.istore 7, 2) := by decide +kernel
theorem dX12_close_118 : decode cX12_close 118 = .ok (.iconst 0, 1) := by decide +kernel
theorem dX12_close_119 : decode cX12_close 119 = .ok (.istore 8, 2) := by decide +kernel
theorem dX12_close_121 : decode cX12_close 121 = .ok (.iconst 0, 1) := by decide +kernel
theorem dX12_close_122 : decode cX12_close 122 = .ok (.istore 9, 2) := by decide +kernel
theorem dX12_close_124 : decode cX12_close 124 = .ok (.iload 8, 2) := by decide +kernel
theorem dX12_close_126 : decode cX12_close 126 = .ok (.iload_n 1, 1) := by decide +kernel
theorem dX12_close_127 : decode cX12_close 127 = .ok (.if_icmp .ge 135, 3) := by decide +kernel
theorem dX12_close_130 : decode cX12_close 130 = .ok (.iload 9, 2) := by decide +kernel
theorem dX12_close_132 : decode cX12_close 132 = .ok (.ifCond .ne 130, 3) := by decide +kernel
theorem dX12_close_135 : decode cX12_close 135 = .ok (.iinc 8 1, 3) := by decide +kernel
theorem dX12_close_138 : decode cX12_close 138 = .ok (.iconst (-1), 1) := by decide +kernel
theorem dX12_close_139 : decode cX12_close 139 = .ok (.istore 10, 2) := by decide +kernel
theorem dX12_close_141 : decode cX12_close 141 = .ok (.iconst 0, 1) := by decide +kernel
theorem dX12_close_142 : decode cX12_close 142 = .ok (.istore 11, 2) := by decide +kernel
theorem dX12_close_144 : decode cX12_close 144 = .ok (.iload 11, 2) := by decide +kernel
theorem dX12_close_146 : decode cX12_close 146 = .ok (.sipush 256, 3) := by decide +kernel
theorem dX12_close_149 : decode cX12_close 149 = .ok (.if_icmp .ge 43, 3) := by decide +kernel
theorem dX12_close_152 : decode cX12_close 152 = .ok (.aload_n 0, 1) := by decide +kernel
theorem dX12_close_153 : decode cX12_close 153 = .ok (.getfield 68, 3) := by decide +kernel
theorem dX12_close_156 : decode cX12_close 156 = .ok (.iload 11, 2) := by decide +kernel
theorem dX12_close_158 : decode cX12_close 158 = .ok (.baload, 1) := by decide +kernel
theorem dX12_close_159 : decode cX12_close 159 = .ok (.ifCond .eq 27, 3) := by decide +kernel
theorem dX12_close_162 : decode cX12_close 162 = .ok (.iload 10, 2) := by decide +kernel
theorem dX12_close_164 : decode cX12_close 164 = .ok (.ifCond .lt 18, 3) := by decide +kernel
theorem dX12_close_167 : decode cX12_close 167 = .ok (.aload_n 0, 1) := by decide +kernel
theorem dX12_close_168 : decode cX12_close 168 = .ok (.iload 11, 2) := by decide +kernel
theorem dX12_close_170 : decode cX12_close 170 = .ok (.invokevirtual 310, 3) := by decide +kernel
theorem dX12_close_173 : decode cX12_close 173 = .ok (.aload_n 0, 1) := by decide +kernel
theorem dX12_close_174 : decode cX12_close 174 = .ok (.iload 10, 2) := by decide +kernel
theorem dX12_close_176 : decode cX12_close 176 = .ok (.invokevirtual 310, 3) := by decide +kernel
theorem dX12_close_179 : decode cX12_close 179 = .ok (.if_icmp .ge 7, 3) := by decide +kernel
theorem dX12_close_182 : decode cX12_close 182 = .ok (.iload 11, 2) := by decide +kernel
theorem dX12_close_184 : decode cX12_close 184 = .ok (.istore 10, 2) := by decide +kernel
theorem dX12_close_186 : decode cX12_close 186 = .ok (.iinc 11 1, 3) := by decide +kernel
theorem dX12_close_189 : decode cX12_close 189 = .ok (.goto (-45), 3) := by decide +kernel
theorem dX12_close_192 : decode cX12_close 192 = .ok (.aload_n 0, 1) := by decide +kernel
theorem dX12_close_193 : decode cX12_close 193 = .ok (.iload 10, 2) := by decide +kernel
theorem dX12_close_195 : decode cX12_close 195 = .ok (.invokevirtual 310, 3) := by decide +kernel
theorem dX12_close_198 : decode cX12_close 198 = .ok (.istore 5, 2) := by decide +kernel
theorem dX12_close_200 : decode cX12_close 200 = .ok (.aload_n 0, 1) := by decide +kernel
theorem dX12_close_201 : decode cX12_close 201 = .ok (.iload 10, 2) := by decide +kernel
theorem dX12_close_203 : decode cX12_close 203 = .ok (.iconst 0, 1) := by decide +kernel
theorem dX12_close_204 : decode cX12_close 204 = .ok (.iconst 0, 1) := by decide +kernel
theorem dX12_close_205 : decode cX12_close 205 = .ok (.invokevirtual 288, 3) := by decide +kernel
theorem dX12_close_208 : decode cX12_close 208 = .ok (.istore 11, 2) := by decide +kernel
theorem dX12_close_210 : decode cX12_close 210 = .ok (.iload 6, 2) := by decide +kernel
theorem dX12_close_212 : decode cX12_close 212 = .ok (.ifCond .lt 10, 3) := by decide +kernel
theorem dX12_close_215 : decode cX12_close 215 = .ok (.iload 11, 2) := by decide +kernel
theorem dX12_close_217 : decode cX12_close 217 = .ok (.iload 6, 2) := by decide +kernel
theorem dX12_close_219 : decode cX12_close 219 = .ok (.if_icmp .ge 11, 3) := by decide +kernel
theorem dX12_close_222 : decode cX12_close 222 = .ok (.iload 11, 2) := by decide +kernel
theorem dX12_close_224 : decode cX12_close 224 = .ok (.istore 6, 2) := by decide +kernel
theorem dX12_close_226 : decode cX12_close 226 = .ok (.iload 10, 2) := by decide +kernel
theorem dX12_close_228 : decode cX12_close 228 = .ok (.istore 7, 2) := by decide +kernel
theorem dX12_close_230 : decode cX12_close 230 = .ok (.iload 6, 2) := by decide +kernel
theorem dX12_close_232 : decode cX12_close 232 = .ok (.iload 5, 2) := by decide +kernel
theorem dX12_close_234 : decode cX12_close 234 = .ok (.if_icmp .ne 7, 3) := by decide +kernel
theorem dX12_close_237 : decode cX12_close 237 = .ok (.iconst 1, 1) := by decide +kernel
theorem dX12_close_238 : decode cX12_close 238 = .ok (.goto 4, 3) := by decide +kernel
theorem dX12_close_241 : decode cX12_close 241 = .ok (.iconst 0, 1) := by decide +kernel
theorem dX12_close_242 : decode cX12_close 242 = .ok (.istore 9, 2) := by decide +kernel
theorem dX12_close_244 : decode cX12_close 244 = .ok (.iload 9, 2) := by decide +kernel
theorem dX12_close_246 : decode cX12_close 246 = .ok (.ifCond .ne 13, 3) := by decide +kernel
theorem dX12_close_249 : decode cX12_close 249 = .ok (.aload_n 0, 1) := by decide +kernel
theorem dX12_close_250 : decode cX12_close 250 = .ok (.getfield 74, 3) := by decide +kernel
theorem dX12_close_253 : decode cX12_close 253 = .ok (.aload_n 0, 1) := by decide +kernel
theorem dX12_close_254 : decode cX12_close 254 = .ok (.getfield 285, 3) := by decide +kernel
theorem dX12_close_257 : decode cX12_close 257 = .ok (.iconst 1, 1) := by decide +kernel
theorem dX12_close_258 : decode cX12_close 258 = .ok (.bastore, 1) := by decide +kernel
theorem dX12_close_259 : decode cX12_close 259 = .ok (.goto (-135), 3) := by decide +kernel
theorem dX12_close_262 : decode cX12_close 262 = .ok (.iconst 0, 1) := by decide +kernel
theorem dX12_close_263 : decode cX12_close 263 = .ok (.istore 10, 2) := by decide +kernel
theorem dX12_close_265 : decode cX12_close 265 = .ok (.iconst 0, 1) := by decide +kernel
theorem dX12_close_266 : decode cX12_close 266 = .ok (.istore 11, 2) := by decide +kernel
theorem dX12_close_268 : decode cX12_close 268 = .ok (.iload 11, 2) := by decide +kernel
theorem dX12_close_270 : decode cX12_close 270 = .ok (.bipush 16, 2) := by decide +kernel
theorem dX12_close_272 : decode cX12_close 272 = .ok (.if_icmp .ge 29, 3) := by decide +kernel
theorem dX12_close_275 : decode cX12_close 275 = .ok (.iload 10, 2) := by decide +kernel
theorem dX12_close_277 : decode cX12_close 277 = .ok (.aload_n 0, 1) := by decide +kernel
theorem dX12_close_278 : decode cX12_close 278 = .ok (.getfield 74, 3) := by decide +kernel
theorem dX12_close_281 : decode cX12_close 281 = .ok (.iload 11, 2) := by decide +kernel
theorem dX12_close_283 : decode cX12_close 283 = .ok (.baload, 1) := by decide +kernel
theorem dX12_close_284 : decode cX12_close 284 = .ok (.ifCond .eq 7, 3) := by decide +kernel
theorem dX12_close_287 : decode cX12_close 287 = .ok (.iconst 1, 1) := by decide +kernel
theorem dX12_close_288 : decode cX12_close 288 = .ok (.goto 4, 3) := by decide +kernel
theorem dX12_close_291 : decode cX12_close 291 = .ok (.iconst 0, 1) := by decide +kernel
theorem dX12_close_292 : decode cX12_close 292 = .ok (.iadd, 1) := by decide +kernel
theorem dX12_close_293 : decode cX12_close 293 = .ok (.istore 10, 2) := by decide +kernel
theorem dX12_close_295 : decode cX12_close 295 = .ok (.iinc 11 1, 3) := by decide +kernel
theorem dX12_close_298 : decode cX12_close 298 = .ok (.goto (-30), 3) := by decide +kernel
theorem dX12_close_301 : decode cX12_close 301 = .ok (.iload_n 2, 1) := by decide +kernel
theorem dX12_close_302 : decode cX12_close 302 = .ok (.ifCond .ne 8, 3) := by decide +kernel
theorem dX12_close_305 : decode cX12_close 305 = .ok (.iload 5, 2) := by decide +kernel
theorem dX12_close_307 : decode cX12_close 307 = .ok (.goto 53, 3) := by decide +kernel
theorem dX12_close_310 : decode cX12_close 310 = .ok (.iload_n 2, 1) := by decide +kernel
theorem dX12_close_311 : decode cX12_close 311 = .ok (.iconst 1, 1) := by decide +kernel
theorem dX12_close_312 : decode cX12_close 312 = .ok (.if_icmp .ne 8, 3) := by decide +kernel
theorem dX12_close_315 : decode cX12_close 315 = .ok (.iload 6, 2) := by decide +kernel
theorem dX12_close_317 : decode cX12_close 317 = .ok (.goto 43, 3) := by decide +kernel
theorem dX12_close_320 : decode cX12_close 320 = .ok (.iload_n 2, 1) := by decide +kernel
theorem dX12_close_321 : decode cX12_close 321 = .ok (.iconst 2, 1) := by decide +kernel
theorem dX12_close_322 : decode cX12_close 322 = .ok (.if_icmp .ne 8, 3) := by decide +kernel
theorem dX12_close_325 : decode cX12_close 325 = .ok (.iload 7, 2) := by decide +kernel
theorem dX12_close_327 : decode cX12_close 327 = .ok (.goto 33, 3) := by decide +kernel
theorem dX12_close_330 : decode cX12_close 330 = .ok (.iload_n 2, 1) := by decide +kernel
theorem dX12_close_331 : decode cX12_close 331 = .ok (.iconst 3, 1) := by decide +kernel
theorem dX12_close_332 : decode cX12_close 332 = .ok (.if_icmp .ne 8, 3) := by decide +kernel
theorem dX12_close_335 : decode cX12_close 335 = .ok (.iload 8, 2) := by decide +kernel
theorem dX12_close_337 : decode cX12_close 337 = .ok (.goto 23, 3) := by decide +kernel
theorem dX12_close_340 : decode cX12_close 340 = .ok (.iload_n 2, 1) := by decide +kernel
theorem dX12_close_341 : decode cX12_close 341 = .ok (.iconst 4, 1) := by decide +kernel
theorem dX12_close_342 : decode cX12_close 342 = .ok (.if_icmp .ne 8, 3) := by decide +kernel
theorem dX12_close_345 : decode cX12_close 345 = .ok (.iload 10, 2) := by decide +kernel
theorem dX12_close_347 : decode cX12_close 347 = .ok (.goto 13, 3) := by decide +kernel
theorem dX12_close_350 : decode cX12_close 350 = .ok (.iload 9, 2) := by decide +kernel
theorem dX12_close_352 : decode cX12_close 352 = .ok (.ifCond .eq 7, 3) := by decide +kernel
theorem dX12_close_355 : decode cX12_close 355 = .ok (.iconst 1, 1) := by decide +kernel
theorem dX12_close_356 : decode cX12_close 356 = .ok (.goto 4, 3) := by decide +kernel
theorem dX12_close_359 : decode cX12_close 359 = .ok (.iconst 0, 1) := by decide +kernel
theorem dX12_close_360 : decode cX12_close 360 = .ok (.ireturn, 1) := by decide +kernel
theorem dX12_put_0 : decode cX12_put 0 = .ok (.aload_n 0, 1) := by decide +kernel
theorem dX12_put_1 : decode cX12_put 1 = .ok (.getfield 313, 3) := by decide +kernel
theorem dX12_put_4 : decode cX12_put 4 = .ok (.bipush 12, 2) := by decide +kernel
theorem dX12_put_6 : decode cX12_put 6 = .ok (.if_icmp .ne 10, 3) := by decide +kernel
theorem dX12_put_9 : decode cX12_put 9 = .ok (.aload_n 0, 1) := by decide +kernel
theorem dX12_put_10 : decode cX12_put 10 = .ok (.bipush (-6), 2) := by decide +kernel
theorem dX12_put_12 : decode cX12_put 12 = .ok (.invokevirtual 113, 3) := by decide +kernel
theorem dX12_put_15 : decode cX12_put 15 = .ok (.ireturn, 1) := by decide +kernel
theorem dX12_put_16 : decode cX12_put 16 = .ok (.aload_n 0, 1) := by decide +kernel
theorem dX12_put_17 : decode cX12_put 17 = .ok (.getfield 77, 3) := by decide +kernel
theorem dX12_put_20 : decode cX12_put 20 = .ok (.aload_n 0, 1) := by decide +kernel
theorem dX12_put_21 : decode cX12_put 21 = .ok (.getfield 313, 3) := by decide +kernel
theorem dX12_put_24 : decode cX12_put 24 = .ok (.iload_n 1, 1) := by decide +kernel
theorem dX12_put_25 : decode cX12_put 25 = .ok (.iastore, 1) := by decide +kernel
theorem dX12_put_26 : decode cX12_put 26 = .ok (.aload_n 0, 1) := by decide +kernel
theorem dX12_put_27 : decode cX12_put 27 = .ok (.dup, 1) := by decide +kernel
theorem dX12_put_28 : decode cX12_put 28 = .ok (.getfield 313, 3) := by decide +kernel
theorem dX12_put_31 : decode cX12_put 31 = .ok (.iconst 1, 1) := by decide +kernel
theorem dX12_put_32 : decode cX12_put 32 = .ok (.iadd, 1) := by decide +kernel
theorem dX12_put_33 : decode cX12_put 33 = .ok (.putfield 313, 3) := by decide +kernel
theorem dX12_put_36 : decode cX12_put 36 = .ok (.aload_n 0, 1) := by decide +kernel
theorem dX12_put_37 : decode cX12_put 37 = .ok (.getfield 313, 3) := by decide +kernel
theorem dX12_put_40 : decode cX12_put 40 = .ok (.ireturn, 1) := by decide +kernel
theorem dX12_fails_0 : decode cX12_fails 0 = .ok (.iconst 0, 1) := by decide +kernel
theorem dX12_fails_1 : decode cX12_fails 1 = .ok (.istore_n 1, 1) := by decide +kernel
theorem dX12_fails_2 : decode cX12_fails 2 = .ok (.iload_n 1, 1) := by decide +kernel
theorem dX12_fails_3 : decode cX12_fails 3 = .ok (.bipush 12, 2) := by decide +kernel
theorem dX12_fails_5 : decode cX12_fails 5 = .ok (.if_icmp .ge 28, 3) := by decide +kernel
theorem dX12_fails_8 : decode cX12_fails 8 = .ok (.aload_n 0, 1) := by decide +kernel
theorem dX12_fails_9 : decode cX12_fails 9 = .ok (.getfield 77, 3) := by decide +kernel
theorem dX12_fails_12 : decode cX12_fails 12 = .ok (.iload_n 1, 1) := by decide +kernel
theorem dX12_fails_13 : decode cX12_fails 13 = .ok (.iaload, 1) := by decide +kernel
theorem dX12_fails_14 : decode cX12_fails 14 = .ok (.i2l, 1) := by decide +kernel
theorem dX12_fails_15 : decode cX12_fails 15 = .ok (.lconst 0, 1) := by decide +kernel
theorem dX12_fails_16 : decode cX12_fails 16 = .ok (.ldc2_w 316, 3) := by decide +kernel
theorem dX12_fails_19 : decode cX12_fails 19 = .ok (.invokestatic 109, 3) := by decide +kernel
theorem dX12_fails_22 : decode cX12_fails 22 = .ok (.ifCond .ne 5, 3) := by decide +kernel
theorem dX12_fails_25 : decode cX12_fails 25 = .ok (.iload_n 1, 1) := by decide +kernel
theorem dX12_fails_26 : decode cX12_fails 26 = .ok (.ireturn, 1) := by decide +kernel
theorem dX12_fails_27 : decode cX12_fails 27 = .ok (.iinc 1 1, 3) := by decide +kernel
theorem dX12_fails_30 : decode cX12_fails 30 = .ok (.goto (-28), 3) := by decide +kernel
theorem dX12_fails_33 : decode cX12_fails 33 = .ok (.iconst 0, 1) := by decide +kernel
theorem dX12_fails_34 : decode cX12_fails 34 = .ok (.istore_n 1, 1) := by decide +kernel
theorem dX12_fails_35 : decode cX12_fails 35 = .ok (.iload_n 1, 1) := by decide +kernel
theorem dX12_fails_36 : decode cX12_fails 36 = .ok (.iconst 4, 1) := by decide +kernel
theorem dX12_fails_37 : decode cX12_fails 37 = .ok (.if_icmp .ge 142, 3) := by decide +kernel
theorem dX12_fails_40 : decode cX12_fails 40 = .ok (.aload_n 0, 1) := by decide +kernel
theorem dX12_fails_41 : decode cX12_fails 41 = .ok (.getfield 56, 3) := by decide +kernel
theorem dX12_fails_44 : decode cX12_fails 44 = .ok (.iload_n 1, 1) := by decide +kernel
theorem dX12_fails_45 : decode cX12_fails 45 = .ok (.iaload, 1) := by decide +kernel
theorem dX12_fails_46 : decode cX12_fails 46 = .ok (.ifCond .ne 6, 3) := by decide +kernel
theorem dX12_fails_49 : decode cX12_fails 49 = .ok (.goto 124, 3) := by decide +kernel
theorem dX12_fails_52 : decode cX12_fails 52 = .ok (.iconst 0, 1) := by decide +kernel
theorem dX12_fails_53 : decode cX12_fails 53 = .ok (.istore_n 2, 1) := by decide +kernel
theorem dX12_fails_54 : decode cX12_fails 54 = .ok (.iload_n 2, 1) := by decide +kernel
theorem dX12_fails_55 : decode cX12_fails 55 = .ok (.iconst 4, 1) := by decide +kernel
theorem dX12_fails_56 : decode cX12_fails 56 = .ok (.if_icmp .ge 59, 3) := by decide +kernel
theorem dX12_fails_59 : decode cX12_fails 59 = .ok (.aload_n 0, 1) := by decide +kernel
theorem dX12_fails_60 : decode cX12_fails 60 = .ok (.getfield 53, 3) := by decide +kernel
theorem dX12_fails_63 : decode cX12_fails 63 = .ok (.iload_n 2, 1) := by decide +kernel
theorem dX12_fails_64 : decode cX12_fails 64 = .ok (.iaload, 1) := by decide +kernel
theorem dX12_fails_65 : decode cX12_fails 65 = .ok (.ifCond .le 44, 3) := by decide +kernel
theorem dX12_fails_68 : decode cX12_fails 68 = .ok (.aload_n 0, 1) := by decide +kernel
theorem dX12_fails_69 : decode cX12_fails 69 = .ok (.getfield 77, 3) := by decide +kernel
theorem dX12_fails_72 : decode cX12_fails 72 = .ok (.iload_n 1, 1) := by decide +kernel
theorem dX12_fails_73 : decode cX12_fails 73 = .ok (.iaload, 1) := by decide +kernel
theorem dX12_fails_74 : decode cX12_fails 74 = .ok (.aload_n 0, 1) := by decide +kernel
theorem dX12_fails_75 : decode cX12_fails 75 = .ok (.getfield 77, 3) := by decide +kernel
theorem dX12_fails_78 : decode cX12_fails 78 = .ok (.iconst 4, 1) := by decide +kernel
theorem dX12_fails_79 : decode cX12_fails 79 = .ok (.iload_n 2, 1) := by decide +kernel
theorem dX12_fails_80 : decode cX12_fails 80 = .ok (.iadd, 1) := by decide +kernel
theorem dX12_fails_81 : decode cX12_fails 81 = .ok (.iaload, 1) := by decide +kernel
theorem dX12_fails_82 : decode cX12_fails 82 = .ok (.aload_n 0, 1) := by decide +kernel
theorem dX12_fails_83 : decode cX12_fails 83 = .ok (.getfield 13, 3) := by decide +kernel
theorem dX12_fails_86 : decode cX12_fails 86 = .ok (.bipush 24, 2) := by decide +kernel
theorem dX12_fails_88 : decode cX12_fails 88 = .ok (.iconst 4, 1) := by decide +kernel
theorem dX12_fails_89 : decode cX12_fails 89 = .ok (.iload_n 2, 1) := by decide +kernel
theorem dX12_fails_90 : decode cX12_fails 90 = .ok (.imul, 1) := by decide +kernel
theorem dX12_fails_91 : decode cX12_fails 91 = .ok (.iadd, 1) := by decide +kernel
theorem dX12_fails_92 : decode cX12_fails 92 = .ok (.iload_n 1, 1) := by decide +kernel
theorem dX12_fails_93 : decode cX12_fails 93 = .ok (.iadd, 1) := by decide +kernel
theorem dX12_fails_94 : decode cX12_fails 94 = .ok (.iaload, 1) := by decide +kernel
theorem dX12_fails_95 : decode cX12_fails 95 = .ok (.iadd, 1) := by decide +kernel
theorem dX12_fails_96 : decode cX12_fails 96 = .ok (.if_icmp .le 13, 3) := by decide +kernel
theorem dX12_fails_99 : decode cX12_fails 99 = .ok (.bipush 100, 2) := by decide +kernel
theorem dX12_fails_101 : decode cX12_fails 101 = .ok (.bipush 10, 2) := by decide +kernel
theorem dX12_fails_103 : decode cX12_fails 103 = .ok (.iload_n 2, 1) := by decide +kernel
theorem dX12_fails_104 : decode cX12_fails 104 = .ok (.imul, 1) := by decide +kernel
theorem dX12_fails_105 : decode cX12_fails 105 = .ok (.iadd, 1) := by decide +kernel
theorem dX12_fails_106 : decode cX12_fails 106 = .ok (.iload_n 1, 1) := by decide +kernel
theorem dX12_fails_107 : decode cX12_fails 107 = .ok (.iadd, 1) := by decide +kernel
theorem dX12_fails_108 : decode cX12_fails 108 = .ok (.ireturn, 1) := by decide +kernel
theorem dX12_fails_109 : decode cX12_fails 109 = .ok (.iinc 2 1, 3) := by decide +kernel
theorem dX12_fails_112 : decode cX12_fails 112 = .ok (.goto (-58), 3) := by decide +kernel
theorem dX12_fails_115 : decode cX12_fails 115 = .ok (.aload_n 0, 1) := by decide +kernel
theorem dX12_fails_116 : decode cX12_fails 116 = .ok (.getfield 77, 3) := by decide +kernel
theorem dX12_fails_119 : decode cX12_fails 119 = .ok (.iload_n 1, 1) := by decide +kernel
theorem dX12_fails_120 : decode cX12_fails 120 = .ok (.iaload, 1) := by decide +kernel
theorem dX12_fails_121 : decode cX12_fails 121 = .ok (.aload_n 0, 1) := by decide +kernel
theorem dX12_fails_122 : decode cX12_fails 122 = .ok (.getfield 77, 3) := by decide +kernel
theorem dX12_fails_125 : decode cX12_fails 125 = .ok (.bipush 8, 2) := by decide +kernel
theorem dX12_fails_127 : decode cX12_fails 127 = .ok (.iload_n 1, 1) := by decide +kernel
theorem dX12_fails_128 : decode cX12_fails 128 = .ok (.iadd, 1) := by decide +kernel
theorem dX12_fails_129 : decode cX12_fails 129 = .ok (.iaload, 1) := by decide +kernel
theorem dX12_fails_130 : decode cX12_fails 130 = .ok (.aload_n 0, 1) := by decide +kernel
theorem dX12_fails_131 : decode cX12_fails 131 = .ok (.getfield 13, 3) := by decide +kernel
theorem dX12_fails_134 : decode cX12_fails 134 = .ok (.bipush 6, 2) := by decide +kernel
theorem dX12_fails_136 : decode cX12_fails 136 = .ok (.iload_n 1, 1) := by decide +kernel
theorem dX12_fails_137 : decode cX12_fails 137 = .ok (.imul, 1) := by decide +kernel
theorem dX12_fails_138 : decode cX12_fails 138 = .ok (.iconst 3, 1) := by decide +kernel
theorem dX12_fails_139 : decode cX12_fails 139 = .ok (.iadd, 1) := by decide +kernel
theorem dX12_fails_140 : decode cX12_fails 140 = .ok (.iaload, 1) := by decide +kernel
theorem dX12_fails_141 : decode cX12_fails 141 = .ok (.iadd, 1) := by decide +kernel
theorem dX12_fails_142 : decode cX12_fails 142 = .ok (.if_icmp .le 9, 3) := by decide +kernel
theorem dX12_fails_145 : decode cX12_fails 145 = .ok (.sipush 200, 3) := by decide +kernel
theorem dX12_fails_148 : decode cX12_fails 148 = .ok (.iload_n 1, 1) := by decide +kernel
theorem dX12_fails_149 : decode cX12_fails 149 = .ok (.iadd, 1) := by decide +kernel
theorem dX12_fails_150 : decode cX12_fails 150 = .ok (.ireturn, 1) := by decide +kernel
theorem dX12_fails_151 : decode cX12_fails 151 = .ok (.aload_n 0, 1) := by decide +kernel
theorem dX12_fails_152 : decode cX12_fails 152 = .ok (.getfield 77, 3) := by decide +kernel
theorem dX12_fails_155 : decode cX12_fails 155 = .ok (.iload_n 1, 1) := by decide +kernel
theorem dX12_fails_156 : decode cX12_fails 156 = .ok (.iaload, 1) := by decide +kernel
theorem dX12_fails_157 : decode cX12_fails 157 = .ok (.aload_n 0, 1) := by decide +kernel
theorem dX12_fails_158 : decode cX12_fails 158 = .ok (.getfield 13, 3) := by decide +kernel
theorem dX12_fails_161 : decode cX12_fails 161 = .ok (.bipush 41, 2) := by decide +kernel
theorem dX12_fails_163 : decode cX12_fails 163 = .ok (.iaload, 1) := by decide +kernel
theorem dX12_fails_164 : decode cX12_fails 164 = .ok (.if_icmp .le 9, 3) := by decide +kernel
theorem dX12_fails_167 : decode cX12_fails 167 = .ok (.sipush 300, 3) := by decide +kernel
theorem dX12_fails_170 : decode cX12_fails 170 = .ok (.iload_n 1, 1) := by decide +kernel
theorem dX12_fails_171 : decode cX12_fails 171 = .ok (.iadd, 1) := by decide +kernel
theorem dX12_fails_172 : decode cX12_fails 172 = .ok (.ireturn, 1) := by decide +kernel
theorem dX12_fails_173 : decode cX12_fails 173 = .ok (.iinc 1 1, 3) := by decide +kernel
theorem dX12_fails_176 : decode cX12_fails 176 = .ok (.goto (-141), 3) := by decide +kernel
theorem dX12_fails_179 : decode cX12_fails 179 = .ok (.iconst (-1), 1) := by decide +kernel
theorem dX12_fails_180 : decode cX12_fails 180 = .ok (.ireturn, 1) := by decide +kernel
theorem dX12_prove_0 : decode cX12_prove 0 = .ok (.aload_n 0, 1) := by decide +kernel
theorem dX12_prove_1 : decode cX12_prove 1 = .ok (.iload_n 1, 1) := by decide +kernel
theorem dX12_prove_2 : decode cX12_prove 2 = .ok (.invokevirtual 270, 3) := by decide +kernel
theorem dX12_prove_5 : decode cX12_prove 5 = .ok (.ifCond .eq 11, 3) := by decide +kernel
theorem dX12_prove_8 : decode cX12_prove 8 = .ok (.aload_n 0, 1) := by decide +kernel
theorem dX12_prove_9 : decode cX12_prove 9 = .ok (.iload_n 2, 1) := by decide +kernel
theorem dX12_prove_10 : decode cX12_prove 10 = .ok (.invokevirtual 264, 3) := by decide +kernel
theorem dX12_prove_13 : decode cX12_prove 13 = .ok (.ifCond .ne 9, 3) := by decide +kernel
theorem dX12_prove_16 : decode cX12_prove 16 = .ok (.aload_n 0, 1) := by decide +kernel
theorem dX12_prove_17 : decode cX12_prove 17 = .ok (.iconst (-1), 1) := by decide +kernel
theorem dX12_prove_18 : decode cX12_prove 18 = .ok (.invokevirtual 113, 3) := by decide +kernel
theorem dX12_prove_21 : decode cX12_prove 21 = .ok (.ireturn, 1) := by decide +kernel
theorem dX12_prove_22 : decode cX12_prove 22 = .ok (.aload_n 0, 1) := by decide +kernel
theorem dX12_prove_23 : decode cX12_prove 23 = .ok (.getfield 313, 3) := by decide +kernel
theorem dX12_prove_26 : decode cX12_prove 26 = .ok (.bipush 12, 2) := by decide +kernel
theorem dX12_prove_28 : decode cX12_prove 28 = .ok (.if_icmp .ge 10, 3) := by decide +kernel
theorem dX12_prove_31 : decode cX12_prove 31 = .ok (.aload_n 0, 1) := by decide +kernel
theorem dX12_prove_32 : decode cX12_prove 32 = .ok (.bipush (-3), 2) := by decide +kernel
theorem dX12_prove_34 : decode cX12_prove 34 = .ok (.invokevirtual 113, 3) := by decide +kernel
theorem dX12_prove_37 : decode cX12_prove 37 = .ok (.ireturn, 1) := by decide +kernel
theorem dX12_prove_38 : decode cX12_prove 38 = .ok (.aload_n 0, 1) := by decide +kernel
theorem dX12_prove_39 : decode cX12_prove 39 = .ok (.iconst 0, 1) := by decide +kernel
theorem dX12_prove_40 : decode cX12_prove 40 = .ok (.putfield 313, 3) := by decide +kernel
theorem dX12_prove_43 : decode cX12_prove 43 = .ok (.aload_n 0, 1) := by decide +kernel
theorem dX12_prove_44 : decode cX12_prove 44 = .ok (.iload_n 1, 1) := by decide +kernel
theorem dX12_prove_45 : decode cX12_prove 45 = .ok (.iload_n 2, 1) := by decide +kernel
theorem dX12_prove_46 : decode cX12_prove 46 = .ok (.invokevirtual 244, 3) := by decide +kernel
theorem dX12_prove_49 : decode cX12_prove 49 = .ok (.aload_n 0, 1) := by decide +kernel
theorem dX12_prove_50 : decode cX12_prove 50 = .ok (.invokevirtual 318, 3) := by decide +kernel
theorem dX12_prove_53 : decode cX12_prove 53 = .ok (.istore_n 3, 1) := by decide +kernel
theorem dX12_prove_54 : decode cX12_prove 54 = .ok (.iload_n 3, 1) := by decide +kernel
theorem dX12_prove_55 : decode cX12_prove 55 = .ok (.ifCond .lt 9, 3) := by decide +kernel
theorem dX12_prove_58 : decode cX12_prove 58 = .ok (.sipush (-1000), 3) := by decide +kernel
theorem dX12_prove_61 : decode cX12_prove 61 = .ok (.iload_n 3, 1) := by decide +kernel
theorem dX12_prove_62 : decode cX12_prove 62 = .ok (.isub, 1) := by decide +kernel
theorem dX12_prove_63 : decode cX12_prove 63 = .ok (.ireturn, 1) := by decide +kernel
theorem dX12_prove_64 : decode cX12_prove 64 = .ok (.iconst 0, 1) := by decide +kernel
theorem dX12_prove_65 : decode cX12_prove 65 = .ok (.istore 4, 2) := by decide +kernel
theorem dX12_prove_67 : decode cX12_prove 67 = .ok (.iconst 0, 1) := by decide +kernel
theorem dX12_prove_68 : decode cX12_prove 68 = .ok (.istore 5, 2) := by decide +kernel
theorem dX12_prove_70 : decode cX12_prove 70 = .ok (.iload 5, 2) := by decide +kernel
theorem dX12_prove_72 : decode cX12_prove 72 = .ok (.iconst 4, 1) := by decide +kernel
theorem dX12_prove_73 : decode cX12_prove 73 = .ok (.if_icmp .ge 85, 3) := by decide +kernel
theorem dX12_prove_76 : decode cX12_prove 76 = .ok (.iload 4, 2) := by decide +kernel
theorem dX12_prove_78 : decode cX12_prove 78 = .ok (.aload_n 0, 1) := by decide +kernel
theorem dX12_prove_79 : decode cX12_prove 79 = .ok (.getfield 77, 3) := by decide +kernel
theorem dX12_prove_82 : decode cX12_prove 82 = .ok (.iload 5, 2) := by decide +kernel
theorem dX12_prove_84 : decode cX12_prove 84 = .ok (.iaload, 1) := by decide +kernel
theorem dX12_prove_85 : decode cX12_prove 85 = .ok (.aload_n 0, 1) := by decide +kernel
theorem dX12_prove_86 : decode cX12_prove 86 = .ok (.getfield 56, 3) := by decide +kernel
theorem dX12_prove_89 : decode cX12_prove 89 = .ok (.iload 5, 2) := by decide +kernel
theorem dX12_prove_91 : decode cX12_prove 91 = .ok (.iaload, 1) := by decide +kernel
theorem dX12_prove_92 : decode cX12_prove 92 = .ok (.imul, 1) := by decide +kernel
theorem dX12_prove_93 : decode cX12_prove 93 = .ok (.aload_n 0, 1) := by decide +kernel
theorem dX12_prove_94 : decode cX12_prove 94 = .ok (.getfield 77, 3) := by decide +kernel
theorem dX12_prove_97 : decode cX12_prove 97 = .ok (.iconst 4, 1) := by decide +kernel
theorem dX12_prove_98 : decode cX12_prove 98 = .ok (.iload 5, 2) := by decide +kernel
theorem dX12_prove_100 : decode cX12_prove 100 = .ok (.iadd, 1) := by decide +kernel
theorem dX12_prove_101 : decode cX12_prove 101 = .ok (.iaload, 1) := by decide +kernel
theorem dX12_prove_102 : decode cX12_prove 102 = .ok (.aload_n 0, 1) := by decide +kernel
theorem dX12_prove_103 : decode cX12_prove 103 = .ok (.getfield 53, 3) := by decide +kernel
theorem dX12_prove_106 : decode cX12_prove 106 = .ok (.iload 5, 2) := by decide +kernel
theorem dX12_prove_108 : decode cX12_prove 108 = .ok (.iaload, 1) := by decide +kernel
theorem dX12_prove_109 : decode cX12_prove 109 = .ok (.imul, 1) := by decide +kernel
theorem dX12_prove_110 : decode cX12_prove 110 = .ok (.isub, 1) := by decide +kernel
theorem dX12_prove_111 : decode cX12_prove 111 = .ok (.aload_n 0, 1) := by decide +kernel
theorem dX12_prove_112 : decode cX12_prove 112 = .ok (.getfield 56, 3) := by decide +kernel
theorem dX12_prove_115 : decode cX12_prove 115 = .ok (.iload 5, 2) := by decide +kernel
theorem dX12_prove_117 : decode cX12_prove 117 = .ok (.iaload, 1) := by decide +kernel
theorem dX12_prove_118 : decode cX12_prove 118 = .ok (.ifCond .le 29, 3) := by decide +kernel
theorem dX12_prove_121 : decode cX12_prove 121 = .ok (.aload_n 0, 1) := by decide +kernel
theorem dX12_prove_122 : decode cX12_prove 122 = .ok (.getfield 77, 3) := by decide +kernel
theorem dX12_prove_125 : decode cX12_prove 125 = .ok (.bipush 8, 2) := by decide +kernel
theorem dX12_prove_127 : decode cX12_prove 127 = .ok (.iload 5, 2) := by decide +kernel
theorem dX12_prove_129 : decode cX12_prove 129 = .ok (.iadd, 1) := by decide +kernel
theorem dX12_prove_130 : decode cX12_prove 130 = .ok (.iaload, 1) := by decide +kernel
theorem dX12_prove_131 : decode cX12_prove 131 = .ok (.aload_n 0, 1) := by decide +kernel
theorem dX12_prove_132 : decode cX12_prove 132 = .ok (.getfield 13, 3) := by decide +kernel
theorem dX12_prove_135 : decode cX12_prove 135 = .ok (.bipush 6, 2) := by decide +kernel
theorem dX12_prove_137 : decode cX12_prove 137 = .ok (.iload 5, 2) := by decide +kernel
theorem dX12_prove_139 : decode cX12_prove 139 = .ok (.imul, 1) := by decide +kernel
theorem dX12_prove_140 : decode cX12_prove 140 = .ok (.iconst 4, 1) := by decide +kernel
theorem dX12_prove_141 : decode cX12_prove 141 = .ok (.iadd, 1) := by decide +kernel
theorem dX12_prove_142 : decode cX12_prove 142 = .ok (.iaload, 1) := by decide +kernel
theorem dX12_prove_143 : decode cX12_prove 143 = .ok (.imul, 1) := by decide +kernel
theorem dX12_prove_144 : decode cX12_prove 144 = .ok (.goto 4, 3) := by decide +kernel
theorem dX12_prove_147 : decode cX12_prove 147 = .ok (.iconst 0, 1) := by decide +kernel
theorem dX12_prove_148 : decode cX12_prove 148 = .ok (.isub, 1) := by decide +kernel
theorem dX12_prove_149 : decode cX12_prove 149 = .ok (.iadd, 1) := by decide +kernel
theorem dX12_prove_150 : decode cX12_prove 150 = .ok (.istore 4, 2) := by decide +kernel
theorem dX12_prove_152 : decode cX12_prove 152 = .ok (.iinc 5 1, 3) := by decide +kernel
theorem dX12_prove_155 : decode cX12_prove 155 = .ok (.goto (-85), 3) := by decide +kernel
theorem dX12_prove_158 : decode cX12_prove 158 = .ok (.iload 4, 2) := by decide +kernel
theorem dX12_prove_160 : decode cX12_prove 160 = .ok (.ifCond .ge 7, 3) := by decide +kernel
theorem dX12_prove_163 : decode cX12_prove 163 = .ok (.iconst 0, 1) := by decide +kernel
theorem dX12_prove_164 : decode cX12_prove 164 = .ok (.goto 5, 3) := by decide +kernel
theorem dX12_prove_167 : decode cX12_prove 167 = .ok (.iload 4, 2) := by decide +kernel
theorem dX12_prove_169 : decode cX12_prove 169 = .ok (.ireturn, 1) := by decide +kernel
theorem dX12_promise_0 : decode cX12_promise 0 = .ok (.aload_n 0, 1) := by decide +kernel
theorem dX12_promise_1 : decode cX12_promise 1 = .ok (.iload_n 1, 1) := by decide +kernel
theorem dX12_promise_2 : decode cX12_promise 2 = .ok (.invokevirtual 270, 3) := by decide +kernel
theorem dX12_promise_5 : decode cX12_promise 5 = .ok (.ifCond .eq 11, 3) := by decide +kernel
theorem dX12_promise_8 : decode cX12_promise 8 = .ok (.aload_n 0, 1) := by decide +kernel
theorem dX12_promise_9 : decode cX12_promise 9 = .ok (.iload_n 3, 1) := by decide +kernel
theorem dX12_promise_10 : decode cX12_promise 10 = .ok (.invokevirtual 264, 3) := by decide +kernel
theorem dX12_promise_13 : decode cX12_promise 13 = .ok (.ifCond .ne 9, 3) := by decide +kernel
theorem dX12_promise_16 : decode cX12_promise 16 = .ok (.aload_n 0, 1) := by decide +kernel
theorem dX12_promise_17 : decode cX12_promise 17 = .ok (.iconst (-1), 1) := by decide +kernel
theorem dX12_promise_18 : decode cX12_promise 18 = .ok (.invokevirtual 113, 3) := by decide +kernel
theorem dX12_promise_21 : decode cX12_promise 21 = .ok (.ireturn, 1) := by decide +kernel
theorem dX12_promise_22 : decode cX12_promise 22 = .ok (.iload_n 2, 1) := by decide +kernel
theorem dX12_promise_23 : decode cX12_promise 23 = .ok (.i2l, 1) := by decide +kernel
theorem dX12_promise_24 : decode cX12_promise 24 = .ok (.lconst 0, 1) := by decide +kernel
theorem dX12_promise_25 : decode cX12_promise 25 = .ok (.ldc2_w 133, 3) := by decide +kernel
theorem dX12_promise_28 : decode cX12_promise 28 = .ok (.invokestatic 137, 3) := by decide +kernel
theorem dX12_promise_31 : decode cX12_promise 31 = .ok (.istore 4, 2) := by decide +kernel
theorem dX12_promise_33 : decode cX12_promise 33 = .ok (.iload 4, 2) := by decide +kernel
theorem dX12_promise_35 : decode cX12_promise 35 = .ok (.ifCond .eq 10, 3) := by decide +kernel
theorem dX12_promise_38 : decode cX12_promise 38 = .ok (.aload_n 0, 1) := by decide +kernel
theorem dX12_promise_39 : decode cX12_promise 39 = .ok (.iload 4, 2) := by decide +kernel
theorem dX12_promise_41 : decode cX12_promise 41 = .ok (.invokevirtual 113, 3) := by decide +kernel
theorem dX12_promise_44 : decode cX12_promise 44 = .ok (.ireturn, 1) := by decide +kernel
theorem dX12_promise_45 : decode cX12_promise 45 = .ok (.aload_n 0, 1) := by decide +kernel
theorem dX12_promise_46 : decode cX12_promise 46 = .ok (.invokevirtual 282, 3) := by decide +kernel
theorem dX12_promise_49 : decode cX12_promise 49 = .ok (.iconst 0, 1) := by decide +kernel
theorem dX12_promise_50 : decode cX12_promise 50 = .ok (.istore 5, 2) := by decide +kernel
theorem dX12_promise_52 : decode cX12_promise 52 = .ok (.iconst 0, 1) := by decide +kernel
theorem dX12_promise_53 : decode cX12_promise 53 = .ok (.istore 6, 2) := by decide +kernel
theorem dX12_promise_55 : decode cX12_promise 55 = .ok (.iload 6, 2) := by decide +kernel
theorem dX12_promise_57 : decode cX12_promise 57 = .ok (.iconst 4, 1) := by decide +kernel
theorem dX12_promise_58 : decode cX12_promise 58 = .ok (.if_icmp .ge 47, 3) := by decide +kernel
theorem dX12_promise_61 : decode cX12_promise 61 = .ok (.iload 5, 2) := by decide +kernel
theorem dX12_promise_63 : decode cX12_promise 63 = .ok (.aload_n 0, 1) := by decide +kernel
theorem dX12_promise_64 : decode cX12_promise 64 = .ok (.iload 6, 2) := by decide +kernel
theorem dX12_promise_66 : decode cX12_promise 66 = .ok (.invokevirtual 117, 3) := by decide +kernel
theorem dX12_promise_69 : decode cX12_promise 69 = .ok (.ifCond .eq 26, 3) := by decide +kernel
theorem dX12_promise_72 : decode cX12_promise 72 = .ok (.aload_n 0, 1) := by decide +kernel
theorem dX12_promise_73 : decode cX12_promise 73 = .ok (.getfield 13, 3) := by decide +kernel
theorem dX12_promise_76 : decode cX12_promise 76 = .ok (.bipush 6, 2) := by decide +kernel
theorem dX12_promise_78 : decode cX12_promise 78 = .ok (.iload 6, 2) := by decide +kernel
theorem dX12_promise_80 : decode cX12_promise 80 = .ok (.imul, 1) := by decide +kernel
theorem dX12_promise_81 : decode cX12_promise 81 = .ok (.iconst 5, 1) := by decide +kernel
theorem dX12_promise_82 : decode cX12_promise 82 = .ok (.iadd, 1) := by decide +kernel
theorem dX12_promise_83 : decode cX12_promise 83 = .ok (.iaload, 1) := by decide +kernel
theorem dX12_promise_84 : decode cX12_promise 84 = .ok (.iload_n 2, 1) := by decide +kernel
theorem dX12_promise_85 : decode cX12_promise 85 = .ok (.if_icmp .gt 10, 3) := by decide +kernel
theorem dX12_promise_88 : decode cX12_promise 88 = .ok (.iconst 1, 1) := by decide +kernel
theorem dX12_promise_89 : decode cX12_promise 89 = .ok (.iload 6, 2) := by decide +kernel
theorem dX12_promise_91 : decode cX12_promise 91 = .ok (.ishl, 1) := by decide +kernel
theorem dX12_promise_92 : decode cX12_promise 92 = .ok (.goto 4, 3) := by decide +kernel
theorem dX12_promise_95 : decode cX12_promise 95 = .ok (.iconst 0, 1) := by decide +kernel
theorem dX12_promise_96 : decode cX12_promise 96 = .ok (.ior, 1) := by decide +kernel
theorem dX12_promise_97 : decode cX12_promise 97 = .ok (.istore 5, 2) := by decide +kernel
theorem dX12_promise_99 : decode cX12_promise 99 = .ok (.iinc 6 1, 3) := by decide +kernel
theorem dX12_promise_102 : decode cX12_promise 102 = .ok (.goto (-47), 3) := by decide +kernel
theorem dX12_promise_105 : decode cX12_promise 105 = .ok (.aload_n 0, 1) := by decide +kernel
theorem dX12_promise_106 : decode cX12_promise 106 = .ok (.iload_n 1, 1) := by decide +kernel
theorem dX12_promise_107 : decode cX12_promise 107 = .ok (.iload 5, 2) := by decide +kernel
theorem dX12_promise_109 : decode cX12_promise 109 = .ok (.iload_n 3, 1) := by decide +kernel
theorem dX12_promise_110 : decode cX12_promise 110 = .ok (.invokevirtual 288, 3) := by decide +kernel
theorem dX12_promise_113 : decode cX12_promise 113 = .ok (.ireturn, 1) := by decide +kernel
theorem dX12_corner_0 : decode cX12_corner 0 = .ok (.iload_n 1, 1) := by decide +kernel
theorem dX12_corner_1 : decode cX12_corner 1 = .ok (.i2l, 1) := by decide +kernel
theorem dX12_corner_2 : decode cX12_corner 2 = .ok (.lconst 0, 1) := by decide +kernel
theorem dX12_corner_3 : decode cX12_corner 3 = .ok (.ldc2_w 149, 3) := by decide +kernel
theorem dX12_corner_6 : decode cX12_corner 6 = .ok (.invokestatic 137, 3) := by decide +kernel
theorem dX12_corner_9 : decode cX12_corner 9 = .ok (.istore_n 2, 1) := by decide +kernel
theorem dX12_corner_10 : decode cX12_corner 10 = .ok (.iload_n 2, 1) := by decide +kernel
theorem dX12_corner_11 : decode cX12_corner 11 = .ok (.ifCond .eq 9, 3) := by decide +kernel
theorem dX12_corner_14 : decode cX12_corner 14 = .ok (.aload_n 0, 1) := by decide +kernel
theorem dX12_corner_15 : decode cX12_corner 15 = .ok (.iload_n 2, 1) := by decide +kernel
theorem dX12_corner_16 : decode cX12_corner 16 = .ok (.invokevirtual 113, 3) := by decide +kernel
theorem dX12_corner_19 : decode cX12_corner 19 = .ok (.ireturn, 1) := by decide +kernel
theorem dX12_corner_20 : decode cX12_corner 20 = .ok (.aload_n 0, 1) := by decide +kernel
theorem dX12_corner_21 : decode cX12_corner 21 = .ok (.invokevirtual 282, 3) := by decide +kernel
theorem dX12_corner_24 : decode cX12_corner 24 = .ok (.aload_n 0, 1) := by decide +kernel
theorem dX12_corner_25 : decode cX12_corner 25 = .ok (.iload_n 1, 1) := by decide +kernel
theorem dX12_corner_26 : decode cX12_corner 26 = .ok (.invokevirtual 279, 3) := by decide +kernel
theorem dX12_corner_29 : decode cX12_corner 29 = .ok (.aload_n 0, 1) := by decide +kernel
theorem dX12_corner_30 : decode cX12_corner 30 = .ok (.iconst 0, 1) := by decide +kernel
theorem dX12_corner_31 : decode cX12_corner 31 = .ok (.iconst 0, 1) := by decide +kernel
theorem dX12_corner_32 : decode cX12_corner 32 = .ok (.invokevirtual 295, 3) := by decide +kernel
theorem dX12_corner_35 : decode cX12_corner 35 = .ok (.istore_n 3, 1) := by decide +kernel
theorem dX12_corner_36 : decode cX12_corner 36 = .ok (.aload_n 0, 1) := by decide +kernel
theorem dX12_corner_37 : decode cX12_corner 37 = .ok (.aload_n 0, 1) := by decide +kernel
theorem dX12_corner_38 : decode cX12_corner 38 = .ok (.getfield 13, 3) := by decide +kernel
theorem dX12_corner_41 : decode cX12_corner 41 = .ok (.bipush 42, 2) := by decide +kernel
theorem dX12_corner_43 : decode cX12_corner 43 = .ok (.iaload, 1) := by decide +kernel
theorem dX12_corner_44 : decode cX12_corner 44 = .ok (.invokevirtual 279, 3) := by decide +kernel
theorem dX12_corner_47 : decode cX12_corner 47 = .ok (.iload_n 3, 1) := by decide +kernel
theorem dX12_corner_48 : decode cX12_corner 48 = .ok (.ireturn, 1) := by decide +kernel
theorem dX12_flat_0 : decode cX12_flat 0 = .ok (.aload_n 0, 1) := by decide +kernel
theorem dX12_flat_1 : decode cX12_flat 1 = .ok (.invokevirtual 282, 3) := by decide +kernel
theorem dX12_flat_4 : decode cX12_flat 4 = .ok (.aload_n 0, 1) := by decide +kernel
theorem dX12_flat_5 : decode cX12_flat 5 = .ok (.iconst 0, 1) := by decide +kernel
theorem dX12_flat_6 : decode cX12_flat 6 = .ok (.iconst 0, 1) := by decide +kernel
theorem dX12_flat_7 : decode cX12_flat 7 = .ok (.invokevirtual 295, 3) := by decide +kernel
theorem dX12_flat_10 : decode cX12_flat 10 = .ok (.bipush (-9), 2) := by decide +kernel
theorem dX12_flat_12 : decode cX12_flat 12 = .ok (.if_icmp .ne 6, 3) := by decide +kernel
theorem dX12_flat_15 : decode cX12_flat 15 = .ok (.bipush (-9), 2) := by decide +kernel
theorem dX12_flat_17 : decode cX12_flat 17 = .ok (.ireturn, 1) := by decide +kernel
theorem dX12_flat_18 : decode cX12_flat 18 = .ok (.aload_n 0, 1) := by decide +kernel
theorem dX12_flat_19 : decode cX12_flat 19 = .ok (.getfield 292, 3) := by decide +kernel
theorem dX12_flat_22 : decode cX12_flat 22 = .ok (.istore_n 1, 1) := by decide +kernel
theorem dX12_flat_23 : decode cX12_flat 23 = .ok (.aload_n 0, 1) := by decide +kernel
theorem dX12_flat_24 : decode cX12_flat 24 = .ok (.iconst 0, 1) := by decide +kernel
theorem dX12_flat_25 : decode cX12_flat 25 = .ok (.invokevirtual 279, 3) := by decide +kernel
theorem dX12_flat_28 : decode cX12_flat 28 = .ok (.aload_n 0, 1) := by decide +kernel
theorem dX12_flat_29 : decode cX12_flat 29 = .ok (.iload_n 1, 1) := by decide +kernel
theorem dX12_flat_30 : decode cX12_flat 30 = .ok (.iconst 0, 1) := by decide +kernel
theorem dX12_flat_31 : decode cX12_flat 31 = .ok (.iconst 0, 1) := by decide +kernel
theorem dX12_flat_32 : decode cX12_flat 32 = .ok (.invokevirtual 288, 3) := by decide +kernel
theorem dX12_flat_35 : decode cX12_flat 35 = .ok (.istore_n 2, 1) := by decide +kernel
theorem dX12_flat_36 : decode cX12_flat 36 = .ok (.bipush (-9), 2) := by decide +kernel
theorem dX12_flat_38 : decode cX12_flat 38 = .ok (.istore_n 3, 1) := by decide +kernel
theorem dX12_flat_39 : decode cX12_flat 39 = .ok (.iconst 0, 1) := by decide +kernel
theorem dX12_flat_40 : decode cX12_flat 40 = .ok (.istore 4, 2) := by decide +kernel
theorem dX12_flat_42 : decode cX12_flat 42 = .ok (.iload 4, 2) := by decide +kernel
theorem dX12_flat_44 : decode cX12_flat 44 = .ok (.iconst 5, 1) := by decide +kernel
theorem dX12_flat_45 : decode cX12_flat 45 = .ok (.if_icmp .ge 35, 3) := by decide +kernel
theorem dX12_flat_48 : decode cX12_flat 48 = .ok (.iload_n 2, 1) := by decide +kernel
theorem dX12_flat_49 : decode cX12_flat 49 = .ok (.bipush (-9), 2) := by decide +kernel
theorem dX12_flat_51 : decode cX12_flat 51 = .ok (.if_icmp .eq 29, 3) := by decide +kernel
theorem dX12_flat_54 : decode cX12_flat 54 = .ok (.aload_n 0, 1) := by decide +kernel
theorem dX12_flat_55 : decode cX12_flat 55 = .ok (.iload 4, 2) := by decide +kernel
theorem dX12_flat_57 : decode cX12_flat 57 = .ok (.invokevirtual 279, 3) := by decide +kernel
theorem dX12_flat_60 : decode cX12_flat 60 = .ok (.aload_n 0, 1) := by decide +kernel
theorem dX12_flat_61 : decode cX12_flat 61 = .ok (.iload_n 1, 1) := by decide +kernel
theorem dX12_flat_62 : decode cX12_flat 62 = .ok (.iconst 0, 1) := by decide +kernel
theorem dX12_flat_63 : decode cX12_flat 63 = .ok (.iconst 0, 1) := by decide +kernel
theorem dX12_flat_64 : decode cX12_flat 64 = .ok (.invokevirtual 288, 3) := by decide +kernel
theorem dX12_flat_67 : decode cX12_flat 67 = .ok (.iload_n 2, 1) := by decide +kernel
theorem dX12_flat_68 : decode cX12_flat 68 = .ok (.if_icmp .ne 6, 3) := by decide +kernel
theorem dX12_flat_71 : decode cX12_flat 71 = .ok (.iload 4, 2) := by decide +kernel
theorem dX12_flat_73 : decode cX12_flat 73 = .ok (.istore_n 3, 1) := by decide +kernel
theorem dX12_flat_74 : decode cX12_flat 74 = .ok (.iinc 4 1, 3) := by decide +kernel
theorem dX12_flat_77 : decode cX12_flat 77 = .ok (.goto (-35), 3) := by decide +kernel
theorem dX12_flat_80 : decode cX12_flat 80 = .ok (.aload_n 0, 1) := by decide +kernel
theorem dX12_flat_81 : decode cX12_flat 81 = .ok (.aload_n 0, 1) := by decide +kernel
theorem dX12_flat_82 : decode cX12_flat 82 = .ok (.getfield 13, 3) := by decide +kernel
theorem dX12_flat_85 : decode cX12_flat 85 = .ok (.bipush 42, 2) := by decide +kernel
theorem dX12_flat_87 : decode cX12_flat 87 = .ok (.iaload, 1) := by decide +kernel
theorem dX12_flat_88 : decode cX12_flat 88 = .ok (.invokevirtual 279, 3) := by decide +kernel
theorem dX12_flat_91 : decode cX12_flat 91 = .ok (.iload_n 3, 1) := by decide +kernel
theorem dX12_flat_92 : decode cX12_flat 92 = .ok (.ireturn, 1) := by decide +kernel
theorem dX12_known_0 : decode cX12_known 0 = .ok (.aload_n 0, 1) := by decide +kernel
theorem dX12_known_1 : decode cX12_known 1 = .ok (.iconst 1, 1) := by decide +kernel
theorem dX12_known_2 : decode cX12_known 2 = .ok (.iload_n 1, 1) := by decide +kernel
theorem dX12_known_3 : decode cX12_known 3 = .ok (.ishl, 1) := by decide +kernel
theorem dX12_known_4 : decode cX12_known 4 = .ok (.iconst 1, 1) := by decide +kernel
theorem dX12_known_5 : decode cX12_known 5 = .ok (.iload_n 1, 1) := by decide +kernel
theorem dX12_known_6 : decode cX12_known 6 = .ok (.ishl, 1) := by decide +kernel
theorem dX12_known_7 : decode cX12_known 7 = .ok (.invokevirtual 295, 3) := by decide +kernel
theorem dX12_known_10 : decode cX12_known 10 = .ok (.istore_n 2, 1) := by decide +kernel
theorem dX12_known_11 : decode cX12_known 11 = .ok (.aload_n 0, 1) := by decide +kernel
theorem dX12_known_12 : decode cX12_known 12 = .ok (.iconst 1, 1) := by decide +kernel
theorem dX12_known_13 : decode cX12_known 13 = .ok (.iload_n 1, 1) := by decide +kernel
theorem dX12_known_14 : decode cX12_known 14 = .ok (.ishl, 1) := by decide +kernel
theorem dX12_known_15 : decode cX12_known 15 = .ok (.iconst 0, 1) := by decide +kernel
theorem dX12_known_16 : decode cX12_known 16 = .ok (.invokevirtual 295, 3) := by decide +kernel
theorem dX12_known_19 : decode cX12_known 19 = .ok (.istore_n 3, 1) := by decide +kernel
theorem dX12_known_20 : decode cX12_known 20 = .ok (.iload_n 2, 1) := by decide +kernel
theorem dX12_known_21 : decode cX12_known 21 = .ok (.iload_n 3, 1) := by decide +kernel
theorem dX12_known_22 : decode cX12_known 22 = .ok (.if_icmp .le 7, 3) := by decide +kernel
theorem dX12_known_25 : decode cX12_known 25 = .ok (.iload_n 2, 1) := by decide +kernel
theorem dX12_known_26 : decode cX12_known 26 = .ok (.goto 4, 3) := by decide +kernel
theorem dX12_known_29 : decode cX12_known 29 = .ok (.iload_n 3, 1) := by decide +kernel
theorem dX12_known_30 : decode cX12_known 30 = .ok (.ireturn, 1) := by decide +kernel
theorem dX12_foreknown_0 : decode cX12_foreknown 0 = .ok (.aload_n 0, 1) := by decide +kernel
theorem dX12_foreknown_1 : decode cX12_foreknown 1 = .ok (.iload_n 1, 1) := by decide +kernel
theorem dX12_foreknown_2 : decode cX12_foreknown 2 = .ok (.invokevirtual 117, 3) := by decide +kernel
theorem dX12_foreknown_5 : decode cX12_foreknown 5 = .ok (.ifCond .ne 9, 3) := by decide +kernel
theorem dX12_foreknown_8 : decode cX12_foreknown 8 = .ok (.aload_n 0, 1) := by decide +kernel
theorem dX12_foreknown_9 : decode cX12_foreknown 9 = .ok (.iconst (-1), 1) := by decide +kernel
theorem dX12_foreknown_10 : decode cX12_foreknown 10 = .ok (.invokevirtual 113, 3) := by decide +kernel
theorem dX12_foreknown_13 : decode cX12_foreknown 13 = .ok (.ireturn, 1) := by decide +kernel
theorem dX12_foreknown_14 : decode cX12_foreknown 14 = .ok (.iload_n 2, 1) := by decide +kernel
theorem dX12_foreknown_15 : decode cX12_foreknown 15 = .ok (.i2l, 1) := by decide +kernel
theorem dX12_foreknown_16 : decode cX12_foreknown 16 = .ok (.lconst 0, 1) := by decide +kernel
theorem dX12_foreknown_17 : decode cX12_foreknown 17 = .ok (.lconst 1, 1) := by decide +kernel
theorem dX12_foreknown_18 : decode cX12_foreknown 18 = .ok (.invokestatic 109, 3) := by decide +kernel
theorem dX12_foreknown_21 : decode cX12_foreknown 21 = .ok (.ifCond .ne 10, 3) := by decide +kernel
theorem dX12_foreknown_24 : decode cX12_foreknown 24 = .ok (.aload_n 0, 1) := by decide +kernel
theorem dX12_foreknown_25 : decode cX12_foreknown 25 = .ok (.bipush (-2), 2) := by decide +kernel
theorem dX12_foreknown_27 : decode cX12_foreknown 27 = .ok (.invokevirtual 113, 3) := by decide +kernel
theorem dX12_foreknown_30 : decode cX12_foreknown 30 = .ok (.ireturn, 1) := by decide +kernel
theorem dX12_foreknown_31 : decode cX12_foreknown 31 = .ok (.aload_n 0, 1) := by decide +kernel
theorem dX12_foreknown_32 : decode cX12_foreknown 32 = .ok (.invokevirtual 282, 3) := by decide +kernel
theorem dX12_foreknown_35 : decode cX12_foreknown 35 = .ok (.aload_n 0, 1) := by decide +kernel
theorem dX12_foreknown_36 : decode cX12_foreknown 36 = .ok (.iconst 0, 1) := by decide +kernel
theorem dX12_foreknown_37 : decode cX12_foreknown 37 = .ok (.iconst 0, 1) := by decide +kernel
theorem dX12_foreknown_38 : decode cX12_foreknown 38 = .ok (.invokevirtual 295, 3) := by decide +kernel
theorem dX12_foreknown_41 : decode cX12_foreknown 41 = .ok (.istore_n 3, 1) := by decide +kernel
theorem dX12_foreknown_42 : decode cX12_foreknown 42 = .ok (.iload_n 3, 1) := by decide +kernel
theorem dX12_foreknown_43 : decode cX12_foreknown 43 = .ok (.bipush (-9), 2) := by decide +kernel
theorem dX12_foreknown_45 : decode cX12_foreknown 45 = .ok (.if_icmp .ne 8, 3) := by decide +kernel
theorem dX12_foreknown_48 : decode cX12_foreknown 48 = .ok (.bipush (-9), 2) := by decide +kernel
theorem dX12_foreknown_50 : decode cX12_foreknown 50 = .ok (.goto 22, 3) := by decide +kernel
theorem dX12_foreknown_53 : decode cX12_foreknown 53 = .ok (.iload_n 2, 1) := by decide +kernel
theorem dX12_foreknown_54 : decode cX12_foreknown 54 = .ok (.ifCond .ne 11, 3) := by decide +kernel
theorem dX12_foreknown_57 : decode cX12_foreknown 57 = .ok (.aload_n 0, 1) := by decide +kernel
theorem dX12_foreknown_58 : decode cX12_foreknown 58 = .ok (.iload_n 1, 1) := by decide +kernel
theorem dX12_foreknown_59 : decode cX12_foreknown 59 = .ok (.invokevirtual 321, 3) := by decide +kernel
theorem dX12_foreknown_62 : decode cX12_foreknown 62 = .ok (.goto 10, 3) := by decide +kernel
theorem dX12_foreknown_65 : decode cX12_foreknown 65 = .ok (.iload_n 3, 1) := by decide +kernel
theorem dX12_foreknown_66 : decode cX12_foreknown 66 = .ok (.aload_n 0, 1) := by decide +kernel
theorem dX12_foreknown_67 : decode cX12_foreknown 67 = .ok (.iload_n 1, 1) := by decide +kernel
theorem dX12_foreknown_68 : decode cX12_foreknown 68 = .ok (.invokevirtual 321, 3) := by decide +kernel
theorem dX12_foreknown_71 : decode cX12_foreknown 71 = .ok (.isub, 1) := by decide +kernel
theorem dX12_foreknown_72 : decode cX12_foreknown 72 = .ok (.ireturn, 1) := by decide +kernel
theorem dX12_dearest_0 : decode cX12_dearest 0 = .ok (.aload_n 0, 1) := by decide +kernel
theorem dX12_dearest_1 : decode cX12_dearest 1 = .ok (.invokevirtual 282, 3) := by decide +kernel
theorem dX12_dearest_4 : decode cX12_dearest 4 = .ok (.aload_n 0, 1) := by decide +kernel
theorem dX12_dearest_5 : decode cX12_dearest 5 = .ok (.iconst 0, 1) := by decide +kernel
theorem dX12_dearest_6 : decode cX12_dearest 6 = .ok (.iconst 0, 1) := by decide +kernel
theorem dX12_dearest_7 : decode cX12_dearest 7 = .ok (.invokevirtual 295, 3) := by decide +kernel
theorem dX12_dearest_10 : decode cX12_dearest 10 = .ok (.istore_n 1, 1) := by decide +kernel
theorem dX12_dearest_11 : decode cX12_dearest 11 = .ok (.bipush (-9), 2) := by decide +kernel
theorem dX12_dearest_13 : decode cX12_dearest 13 = .ok (.istore_n 2, 1) := by decide +kernel
theorem dX12_dearest_14 : decode cX12_dearest 14 = .ok (.iconst 0, 1) := by decide +kernel
theorem dX12_dearest_15 : decode cX12_dearest 15 = .ok (.istore_n 3, 1) := by decide +kernel
theorem dX12_dearest_16 : decode cX12_dearest 16 = .ok (.iload_n 3, 1) := by decide +kernel
theorem dX12_dearest_17 : decode cX12_dearest 17 = .ok (.iconst 4, 1) := by decide +kernel
theorem dX12_dearest_18 : decode cX12_dearest 18 = .ok (.if_icmp .ge 42, 3) := by decide +kernel
theorem dX12_dearest_21 : decode cX12_dearest 21 = .ok (.iload_n 1, 1) := by decide +kernel
theorem dX12_dearest_22 : decode cX12_dearest 22 = .ok (.bipush (-9), 2) := by decide +kernel
theorem dX12_dearest_24 : decode cX12_dearest 24 = .ok (.if_icmp .eq 36, 3) := by decide +kernel
theorem dX12_dearest_27 : decode cX12_dearest 27 = .ok (.aload_n 0, 1) := by decide +kernel
theorem dX12_dearest_28 : decode cX12_dearest 28 = .ok (.iload_n 3, 1) := by decide +kernel
theorem dX12_dearest_29 : decode cX12_dearest 29 = .ok (.invokevirtual 117, 3) := by decide +kernel
theorem dX12_dearest_32 : decode cX12_dearest 32 = .ok (.ifCond .eq 22, 3) := by decide +kernel
theorem dX12_dearest_35 : decode cX12_dearest 35 = .ok (.iload_n 2, 1) := by decide +kernel
theorem dX12_dearest_36 : decode cX12_dearest 36 = .ok (.ifCond .lt 16, 3) := by decide +kernel
theorem dX12_dearest_39 : decode cX12_dearest 39 = .ok (.aload_n 0, 1) := by decide +kernel
theorem dX12_dearest_40 : decode cX12_dearest 40 = .ok (.iload_n 3, 1) := by decide +kernel
theorem dX12_dearest_41 : decode cX12_dearest 41 = .ok (.invokevirtual 321, 3) := by decide +kernel
theorem dX12_dearest_44 : decode cX12_dearest 44 = .ok (.aload_n 0, 1) := by decide +kernel
theorem dX12_dearest_45 : decode cX12_dearest 45 = .ok (.iload_n 2, 1) := by decide +kernel
theorem dX12_dearest_46 : decode cX12_dearest 46 = .ok (.invokevirtual 321, 3) := by decide +kernel
theorem dX12_dearest_49 : decode cX12_dearest 49 = .ok (.if_icmp .ge 5, 3) := by decide +kernel
theorem dX12_dearest_52 : decode cX12_dearest 52 = .ok (.iload_n 3, 1) := by decide +kernel
theorem dX12_dearest_53 : decode cX12_dearest 53 = .ok (.istore_n 2, 1) := by decide +kernel
theorem dX12_dearest_54 : decode cX12_dearest 54 = .ok (.iinc 3 1, 3) := by decide +kernel
theorem dX12_dearest_57 : decode cX12_dearest 57 = .ok (.goto (-41), 3) := by decide +kernel
theorem dX12_dearest_60 : decode cX12_dearest 60 = .ok (.iload_n 2, 1) := by decide +kernel
theorem dX12_dearest_61 : decode cX12_dearest 61 = .ok (.ireturn, 1) := by decide +kernel
theorem dX12_who_0 : decode cX12_who 0 = .ok (.aload_n 0, 1) := by decide +kernel
theorem dX12_who_1 : decode cX12_who 1 = .ok (.iload_n 1, 1) := by decide +kernel
theorem dX12_who_2 : decode cX12_who 2 = .ok (.invokevirtual 270, 3) := by decide +kernel
theorem dX12_who_5 : decode cX12_who 5 = .ok (.ifCond .ne 9, 3) := by decide +kernel
theorem dX12_who_8 : decode cX12_who 8 = .ok (.aload_n 0, 1) := by decide +kernel
theorem dX12_who_9 : decode cX12_who 9 = .ok (.iconst (-1), 1) := by decide +kernel
theorem dX12_who_10 : decode cX12_who 10 = .ok (.invokevirtual 113, 3) := by decide +kernel
theorem dX12_who_13 : decode cX12_who 13 = .ok (.ireturn, 1) := by decide +kernel
theorem dX12_who_14 : decode cX12_who 14 = .ok (.iload_n 2, 1) := by decide +kernel
theorem dX12_who_15 : decode cX12_who 15 = .ok (.i2l, 1) := by decide +kernel
theorem dX12_who_16 : decode cX12_who 16 = .ok (.lconst 0, 1) := by decide +kernel
theorem dX12_who_17 : decode cX12_who 17 = .ok (.lconst 1, 1) := by decide +kernel
theorem dX12_who_18 : decode cX12_who 18 = .ok (.invokestatic 109, 3) := by decide +kernel
theorem dX12_who_21 : decode cX12_who 21 = .ok (.ifCond .ne 10, 3) := by decide +kernel
theorem dX12_who_24 : decode cX12_who 24 = .ok (.aload_n 0, 1) := by decide +kernel
theorem dX12_who_25 : decode cX12_who 25 = .ok (.bipush (-2), 2) := by decide +kernel
theorem dX12_who_27 : decode cX12_who 27 = .ok (.invokevirtual 113, 3) := by decide +kernel
theorem dX12_who_30 : decode cX12_who 30 = .ok (.ireturn, 1) := by decide +kernel
theorem dX12_who_31 : decode cX12_who 31 = .ok (.aload_n 0, 1) := by decide +kernel
theorem dX12_who_32 : decode cX12_who 32 = .ok (.invokevirtual 282, 3) := by decide +kernel
theorem dX12_who_35 : decode cX12_who 35 = .ok (.bipush (-9), 2) := by decide +kernel
theorem dX12_who_37 : decode cX12_who 37 = .ok (.istore_n 3, 1) := by decide +kernel
theorem dX12_who_38 : decode cX12_who 38 = .ok (.bipush (-9), 2) := by decide +kernel
theorem dX12_who_40 : decode cX12_who 40 = .ok (.istore 4, 2) := by decide +kernel
theorem dX12_who_42 : decode cX12_who 42 = .ok (.iconst 0, 1) := by decide +kernel
theorem dX12_who_43 : decode cX12_who 43 = .ok (.istore 5, 2) := by decide +kernel
theorem dX12_who_45 : decode cX12_who 45 = .ok (.iload 5, 2) := by decide +kernel
theorem dX12_who_47 : decode cX12_who 47 = .ok (.iconst 4, 1) := by decide +kernel
theorem dX12_who_48 : decode cX12_who 48 = .ok (.if_icmp .ge 82, 3) := by decide +kernel
theorem dX12_who_51 : decode cX12_who 51 = .ok (.iconst 0, 1) := by decide +kernel
theorem dX12_who_52 : decode cX12_who 52 = .ok (.istore 6, 2) := by decide +kernel
theorem dX12_who_54 : decode cX12_who 54 = .ok (.iload 6, 2) := by decide +kernel
theorem dX12_who_56 : decode cX12_who 56 = .ok (.bipush 16, 2) := by decide +kernel
theorem dX12_who_58 : decode cX12_who 58 = .ok (.if_icmp .ge 66, 3) := by decide +kernel
theorem dX12_who_61 : decode cX12_who 61 = .ok (.aload_n 0, 1) := by decide +kernel
theorem dX12_who_62 : decode cX12_who 62 = .ok (.iload 5, 2) := by decide +kernel
theorem dX12_who_64 : decode cX12_who 64 = .ok (.invokevirtual 117, 3) := by decide +kernel
theorem dX12_who_67 : decode cX12_who 67 = .ok (.ifCond .eq 51, 3) := by decide +kernel
theorem dX12_who_70 : decode cX12_who 70 = .ok (.aload_n 0, 1) := by decide +kernel
theorem dX12_who_71 : decode cX12_who 71 = .ok (.getfield 65, 3) := by decide +kernel
theorem dX12_who_74 : decode cX12_who 74 = .ok (.iload 6, 2) := by decide +kernel
theorem dX12_who_76 : decode cX12_who 76 = .ok (.baload, 1) := by decide +kernel
theorem dX12_who_77 : decode cX12_who 77 = .ok (.ifCond .ne 6, 3) := by decide +kernel
theorem dX12_who_80 : decode cX12_who 80 = .ok (.goto 38, 3) := by decide +kernel
theorem dX12_who_83 : decode cX12_who 83 = .ok (.aload_n 0, 1) := by decide +kernel
theorem dX12_who_84 : decode cX12_who 84 = .ok (.iload_n 1, 1) := by decide +kernel
theorem dX12_who_85 : decode cX12_who 85 = .ok (.iload 6, 2) := by decide +kernel
theorem dX12_who_87 : decode cX12_who 87 = .ok (.invokevirtual 244, 3) := by decide +kernel
theorem dX12_who_90 : decode cX12_who 90 = .ok (.aload_n 0, 1) := by decide +kernel
theorem dX12_who_91 : decode cX12_who 91 = .ok (.iload_n 1, 1) := by decide +kernel
theorem dX12_who_92 : decode cX12_who 92 = .ok (.iload 6, 2) := by decide +kernel
theorem dX12_who_94 : decode cX12_who 94 = .ok (.iload 5, 2) := by decide +kernel
theorem dX12_who_96 : decode cX12_who 96 = .ok (.invokevirtual 304, 3) := by decide +kernel
theorem dX12_who_99 : decode cX12_who 99 = .ok (.istore 7, 2) := by decide +kernel
theorem dX12_who_101 : decode cX12_who 101 = .ok (.iload 7, 2) := by decide +kernel
theorem dX12_who_103 : decode cX12_who 103 = .ok (.iload 4, 2) := by decide +kernel
theorem dX12_who_105 : decode cX12_who 105 = .ok (.if_icmp .gt 6, 3) := by decide +kernel
theorem dX12_who_108 : decode cX12_who 108 = .ok (.goto 10, 3) := by decide +kernel
theorem dX12_who_111 : decode cX12_who 111 = .ok (.iload 5, 2) := by decide +kernel
theorem dX12_who_113 : decode cX12_who 113 = .ok (.istore_n 3, 1) := by decide +kernel
theorem dX12_who_114 : decode cX12_who 114 = .ok (.iload 7, 2) := by decide +kernel
theorem dX12_who_116 : decode cX12_who 116 = .ok (.istore 4, 2) := by decide +kernel
theorem dX12_who_118 : decode cX12_who 118 = .ok (.iinc 6 1, 3) := by decide +kernel
theorem dX12_who_121 : decode cX12_who 121 = .ok (.goto (-67), 3) := by decide +kernel
theorem dX12_who_124 : decode cX12_who 124 = .ok (.iinc 5 1, 3) := by decide +kernel
theorem dX12_who_127 : decode cX12_who 127 = .ok (.goto (-82), 3) := by decide +kernel
theorem dX12_who_130 : decode cX12_who 130 = .ok (.iload_n 2, 1) := by decide +kernel
theorem dX12_who_131 : decode cX12_who 131 = .ok (.ifCond .ne 7, 3) := by decide +kernel
theorem dX12_who_134 : decode cX12_who 134 = .ok (.iload_n 3, 1) := by decide +kernel
theorem dX12_who_135 : decode cX12_who 135 = .ok (.goto 5, 3) := by decide +kernel
theorem dX12_who_138 : decode cX12_who 138 = .ok (.iload 4, 2) := by decide +kernel
theorem dX12_who_140 : decode cX12_who 140 = .ok (.ireturn, 1) := by decide +kernel
theorem dX12_isNoneFor_0 : decode cX12_isNoneFor 0 = .ok (.iconst 0, 1) := by decide +kernel
theorem dX12_isNoneFor_1 : decode cX12_isNoneFor 1 = .ok (.istore_n 3, 1) := by decide +kernel
theorem dX12_isNoneFor_2 : decode cX12_isNoneFor 2 = .ok (.iload_n 3, 1) := by decide +kernel
theorem dX12_isNoneFor_3 : decode cX12_isNoneFor 3 = .ok (.sipush 256, 3) := by decide +kernel
theorem dX12_isNoneFor_6 : decode cX12_isNoneFor 6 = .ok (.if_icmp .ge 77, 3) := by decide +kernel
theorem dX12_isNoneFor_9 : decode cX12_isNoneFor 9 = .ok (.aload_n 0, 1) := by decide +kernel
theorem dX12_isNoneFor_10 : decode cX12_isNoneFor 10 = .ok (.getfield 68, 3) := by decide +kernel
theorem dX12_isNoneFor_13 : decode cX12_isNoneFor 13 = .ok (.iload_n 3, 1) := by decide +kernel
theorem dX12_isNoneFor_14 : decode cX12_isNoneFor 14 = .ok (.baload, 1) := by decide +kernel
theorem dX12_isNoneFor_15 : decode cX12_isNoneFor 15 = .ok (.istore 4, 2) := by decide +kernel
theorem dX12_isNoneFor_17 : decode cX12_isNoneFor 17 = .ok (.iconst 0, 1) := by decide +kernel
theorem dX12_isNoneFor_18 : decode cX12_isNoneFor 18 = .ok (.istore 5, 2) := by decide +kernel
theorem dX12_isNoneFor_20 : decode cX12_isNoneFor 20 = .ok (.iload 5, 2) := by decide +kernel
theorem dX12_isNoneFor_22 : decode cX12_isNoneFor 22 = .ok (.bipush 16, 2) := by decide +kernel
theorem dX12_isNoneFor_24 : decode cX12_isNoneFor 24 = .ok (.if_icmp .ge 46, 3) := by decide +kernel
theorem dX12_isNoneFor_27 : decode cX12_isNoneFor 27 = .ok (.iload 4, 2) := by decide +kernel
theorem dX12_isNoneFor_29 : decode cX12_isNoneFor 29 = .ok (.ifCond .eq 41, 3) := by decide +kernel
theorem dX12_isNoneFor_32 : decode cX12_isNoneFor 32 = .ok (.iload_n 1, 1) := by decide +kernel
theorem dX12_isNoneFor_33 : decode cX12_isNoneFor 33 = .ok (.iload 5, 2) := by decide +kernel
theorem dX12_isNoneFor_35 : decode cX12_isNoneFor 35 = .ok (.ishr, 1) := by decide +kernel
theorem dX12_isNoneFor_36 : decode cX12_isNoneFor 36 = .ok (.iconst 1, 1) := by decide +kernel
theorem dX12_isNoneFor_37 : decode cX12_isNoneFor 37 = .ok (.iand, 1) := by decide +kernel
theorem dX12_isNoneFor_38 : decode cX12_isNoneFor 38 = .ok (.ifCond .eq 19, 3) := by decide +kernel
theorem dX12_isNoneFor_41 : decode cX12_isNoneFor 41 = .ok (.aload_n 0, 1) := by decide +kernel
theorem dX12_isNoneFor_42 : decode cX12_isNoneFor 42 = .ok (.getfield 62, 3) := by decide +kernel
theorem dX12_isNoneFor_45 : decode cX12_isNoneFor 45 = .ok (.bipush 16, 2) := by decide +kernel
theorem dX12_isNoneFor_47 : decode cX12_isNoneFor 47 = .ok (.iload_n 3, 1) := by decide +kernel
theorem dX12_isNoneFor_48 : decode cX12_isNoneFor 48 = .ok (.imul, 1) := by decide +kernel
theorem dX12_isNoneFor_49 : decode cX12_isNoneFor 49 = .ok (.iload 5, 2) := by decide +kernel
theorem dX12_isNoneFor_51 : decode cX12_isNoneFor 51 = .ok (.iadd, 1) := by decide +kernel
theorem dX12_isNoneFor_52 : decode cX12_isNoneFor 52 = .ok (.iaload, 1) := by decide +kernel
theorem dX12_isNoneFor_53 : decode cX12_isNoneFor 53 = .ok (.iload_n 2, 1) := by decide +kernel
theorem dX12_isNoneFor_54 : decode cX12_isNoneFor 54 = .ok (.if_icmp .gt 7, 3) := by decide +kernel
theorem dX12_isNoneFor_57 : decode cX12_isNoneFor 57 = .ok (.iconst 1, 1) := by decide +kernel
theorem dX12_isNoneFor_58 : decode cX12_isNoneFor 58 = .ok (.goto 4, 3) := by decide +kernel
theorem dX12_isNoneFor_61 : decode cX12_isNoneFor 61 = .ok (.iconst 0, 1) := by decide +kernel
theorem dX12_isNoneFor_62 : decode cX12_isNoneFor 62 = .ok (.istore 4, 2) := by decide +kernel
theorem dX12_isNoneFor_64 : decode cX12_isNoneFor 64 = .ok (.iinc 5 1, 3) := by decide +kernel
theorem dX12_isNoneFor_67 : decode cX12_isNoneFor 67 = .ok (.goto (-47), 3) := by decide +kernel
theorem dX12_isNoneFor_70 : decode cX12_isNoneFor 70 = .ok (.iload 4, 2) := by decide +kernel
theorem dX12_isNoneFor_72 : decode cX12_isNoneFor 72 = .ok (.ifCond .eq 5, 3) := by decide +kernel
theorem dX12_isNoneFor_75 : decode cX12_isNoneFor 75 = .ok (.iconst 0, 1) := by decide +kernel
theorem dX12_isNoneFor_76 : decode cX12_isNoneFor 76 = .ok (.ireturn, 1) := by decide +kernel
theorem dX12_isNoneFor_77 : decode cX12_isNoneFor 77 = .ok (.iinc 3 1, 3) := by decide +kernel
theorem dX12_isNoneFor_80 : decode cX12_isNoneFor 80 = .ok (.goto (-78), 3) := by decide +kernel
theorem dX12_isNoneFor_83 : decode cX12_isNoneFor 83 = .ok (.iconst 1, 1) := by decide +kernel
theorem dX12_isNoneFor_84 : decode cX12_isNoneFor 84 = .ok (.ireturn, 1) := by decide +kernel
theorem dX12_none_0 : decode cX12_none 0 = .ok (.iload_n 2, 1) := by decide +kernel
theorem dX12_none_1 : decode cX12_none 1 = .ok (.i2l, 1) := by decide +kernel
theorem dX12_none_2 : decode cX12_none 2 = .ok (.lconst 0, 1) := by decide +kernel
theorem dX12_none_3 : decode cX12_none 3 = .ok (.lconst 1, 1) := by decide +kernel
theorem dX12_none_4 : decode cX12_none 4 = .ok (.invokestatic 109, 3) := by decide +kernel
theorem dX12_none_7 : decode cX12_none 7 = .ok (.ifCond .ne 10, 3) := by decide +kernel
theorem dX12_none_10 : decode cX12_none 10 = .ok (.aload_n 0, 1) := by decide +kernel
theorem dX12_none_11 : decode cX12_none 11 = .ok (.bipush (-2), 2) := by decide +kernel
