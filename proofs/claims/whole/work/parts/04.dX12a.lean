theorem dX12_init_0 : decode cX12_init 0 = .ok (.aload_n 0, 1) := by decide +kernel
theorem dX12_init_1 : decode cX12_init 1 = .ok (.invokespecial 1, 3) := by decide +kernel
theorem dX12_init_4 : decode cX12_init 4 = .ok (.aload_n 0, 1) := by decide +kernel
theorem dX12_init_5 : decode cX12_init 5 = .ok (.sipush 2224, 3) := by decide +kernel
theorem dX12_init_8 : decode cX12_init 8 = .ok (.newarray .int, 2) := by decide +kernel
theorem dX12_init_10 : decode cX12_init 10 = .ok (.putfield 7, 3) := by decide +kernel
theorem dX12_init_13 : decode cX12_init 13 = .ok (.aload_n 0, 1) := by decide +kernel
theorem dX12_init_14 : decode cX12_init 14 = .ok (.sipush 2224, 3) := by decide +kernel
theorem dX12_init_17 : decode cX12_init 17 = .ok (.newarray .int, 2) := by decide +kernel
theorem dX12_init_19 : decode cX12_init 19 = .ok (.putfield 13, 3) := by decide +kernel
theorem dX12_init_22 : decode cX12_init 22 = .ok (.aload_n 0, 1) := by decide +kernel
theorem dX12_init_23 : decode cX12_init 23 = .ok (.sipush 300, 3) := by decide +kernel
theorem dX12_init_26 : decode cX12_init 26 = .ok (.newarray .int, 2) := by decide +kernel
theorem dX12_init_28 : decode cX12_init 28 = .ok (.putfield 16, 3) := by decide +kernel
theorem dX12_init_31 : decode cX12_init 31 = .ok (.aload_n 0, 1) := by decide +kernel
theorem dX12_init_32 : decode cX12_init 32 = .ok (.bipush 6, 2) := by decide +kernel
theorem dX12_init_34 : decode cX12_init 34 = .ok (.newarray .int, 2) := by decide +kernel
theorem dX12_init_36 : decode cX12_init 36 = .ok (.putfield 19, 3) := by decide +kernel
theorem dX12_init_39 : decode cX12_init 39 = .ok (.aload_n 0, 1) := by decide +kernel
theorem dX12_init_40 : decode cX12_init 40 = .ok (.bipush 6, 2) := by decide +kernel
theorem dX12_init_42 : decode cX12_init 42 = .ok (.newarray .int, 2) := by decide +kernel
theorem dX12_init_44 : decode cX12_init 44 = .ok (.putfield 22, 3) := by decide +kernel
theorem dX12_init_47 : decode cX12_init 47 = .ok (.aload_n 0, 1) := by decide +kernel
theorem dX12_init_48 : decode cX12_init 48 = .ok (.bipush 49, 2) := by decide +kernel
theorem dX12_init_50 : decode cX12_init 50 = .ok (.newarray .int, 2) := by decide +kernel
theorem dX12_init_52 : decode cX12_init 52 = .ok (.putfield 25, 3) := by decide +kernel
theorem dX12_init_55 : decode cX12_init 55 = .ok (.aload_n 0, 1) := by decide +kernel
theorem dX12_init_56 : decode cX12_init 56 = .ok (.bipush 7, 2) := by decide +kernel
theorem dX12_init_58 : decode cX12_init 58 = .ok (.newarray .int, 2) := by decide +kernel
theorem dX12_init_60 : decode cX12_init 60 = .ok (.putfield 28, 3) := by decide +kernel
theorem dX12_init_63 : decode cX12_init 63 = .ok (.aload_n 0, 1) := by decide +kernel
theorem dX12_init_64 : decode cX12_init 64 = .ok (.iconst 5, 1) := by decide +kernel
theorem dX12_init_65 : decode cX12_init 65 = .ok (.newarray .boolean, 2) := by decide +kernel
theorem dX12_init_67 : decode cX12_init 67 = .ok (.putfield 31, 3) := by decide +kernel
theorem dX12_init_70 : decode cX12_init 70 = .ok (.aload_n 0, 1) := by decide +kernel
theorem dX12_init_71 : decode cX12_init 71 = .ok (.iconst 5, 1) := by decide +kernel
theorem dX12_init_72 : decode cX12_init 72 = .ok (.newarray .int, 2) := by decide +kernel
theorem dX12_init_74 : decode cX12_init 74 = .ok (.putfield 35, 3) := by decide +kernel
theorem dX12_init_77 : decode cX12_init 77 = .ok (.aload_n 0, 1) := by decide +kernel
theorem dX12_init_78 : decode cX12_init 78 = .ok (.bipush 16, 2) := by decide +kernel
theorem dX12_init_80 : decode cX12_init 80 = .ok (.newarray .int, 2) := by decide +kernel
theorem dX12_init_82 : decode cX12_init 82 = .ok (.putfield 38, 3) := by decide +kernel
theorem dX12_init_85 : decode cX12_init 85 = .ok (.aload_n 0, 1) := by decide +kernel
theorem dX12_init_86 : decode cX12_init 86 = .ok (.bipush 16, 2) := by decide +kernel
theorem dX12_init_88 : decode cX12_init 88 = .ok (.newarray .int, 2) := by decide +kernel
theorem dX12_init_90 : decode cX12_init 90 = .ok (.putfield 41, 3) := by decide +kernel
theorem dX12_init_93 : decode cX12_init 93 = .ok (.aload_n 0, 1) := by decide +kernel
theorem dX12_init_94 : decode cX12_init 94 = .ok (.bipush 40, 2) := by decide +kernel
theorem dX12_init_96 : decode cX12_init 96 = .ok (.newarray .boolean, 2) := by decide +kernel
theorem dX12_init_98 : decode cX12_init 98 = .ok (.putfield 44, 3) := by decide +kernel
theorem dX12_init_101 : decode cX12_init 101 = .ok (.aload_n 0, 1) := by decide +kernel
theorem dX12_init_102 : decode cX12_init 102 = .ok (.bipush 16, 2) := by decide +kernel
theorem dX12_init_104 : decode cX12_init 104 = .ok (.newarray .int, 2) := by decide +kernel
theorem dX12_init_106 : decode cX12_init 106 = .ok (.putfield 47, 3) := by decide +kernel
theorem dX12_init_109 : decode cX12_init 109 = .ok (.aload_n 0, 1) := by decide +kernel
theorem dX12_init_110 : decode cX12_init 110 = .ok (.bipush 32, 2) := by decide +kernel
theorem dX12_init_112 : decode cX12_init 112 = .ok (.newarray .int, 2) := by decide +kernel
theorem dX12_init_114 : decode cX12_init 114 = .ok (.putfield 50, 3) := by decide +kernel
theorem dX12_init_117 : decode cX12_init 117 = .ok (.aload_n 0, 1) := by decide +kernel
theorem dX12_init_118 : decode cX12_init 118 = .ok (.bipush 9, 2) := by decide +kernel
theorem dX12_init_120 : decode cX12_init 120 = .ok (.newarray .int, 2) := by decide +kernel
theorem dX12_init_122 : decode cX12_init 122 = .ok (.putfield 53, 3) := by decide +kernel
theorem dX12_init_125 : decode cX12_init 125 = .ok (.aload_n 0, 1) := by decide +kernel
theorem dX12_init_126 : decode cX12_init 126 = .ok (.iconst 4, 1) := by decide +kernel
theorem dX12_init_127 : decode cX12_init 127 = .ok (.newarray .int, 2) := by decide +kernel
theorem dX12_init_129 : decode cX12_init 129 = .ok (.dup, 1) := by decide +kernel
theorem dX12_init_130 : decode cX12_init 130 = .ok (.iconst 0, 1) := by decide +kernel
theorem dX12_init_131 : decode cX12_init 131 = .ok (.iconst (-1), 1) := by decide +kernel
theorem dX12_init_132 : decode cX12_init 132 = .ok (.iastore, 1) := by decide +kernel
theorem dX12_init_133 : decode cX12_init 133 = .ok (.dup, 1) := by decide +kernel
theorem dX12_init_134 : decode cX12_init 134 = .ok (.iconst 1, 1) := by decide +kernel
theorem dX12_init_135 : decode cX12_init 135 = .ok (.iconst (-1), 1) := by decide +kernel
theorem dX12_init_136 : decode cX12_init 136 = .ok (.iastore, 1) := by decide +kernel
theorem dX12_init_137 : decode cX12_init 137 = .ok (.dup, 1) := by decide +kernel
theorem dX12_init_138 : decode cX12_init 138 = .ok (.iconst 2, 1) := by decide +kernel
theorem dX12_init_139 : decode cX12_init 139 = .ok (.iconst (-1), 1) := by decide +kernel
theorem dX12_init_140 : decode cX12_init 140 = .ok (.iastore, 1) := by decide +kernel
theorem dX12_init_141 : decode cX12_init 141 = .ok (.dup, 1) := by decide +kernel
theorem dX12_init_142 : decode cX12_init 142 = .ok (.iconst 3, 1) := by decide +kernel
theorem dX12_init_143 : decode cX12_init 143 = .ok (.iconst (-1), 1) := by decide +kernel
theorem dX12_init_144 : decode cX12_init 144 = .ok (.iastore, 1) := by decide +kernel
theorem dX12_init_145 : decode cX12_init 145 = .ok (.putfield 56, 3) := by decide +kernel
theorem dX12_init_148 : decode cX12_init 148 = .ok (.aload_n 0, 1) := by decide +kernel
theorem dX12_init_149 : decode cX12_init 149 = .ok (.bipush 8, 2) := by decide +kernel
theorem dX12_init_151 : decode cX12_init 151 = .ok (.newarray .int, 2) := by decide +kernel
theorem dX12_init_153 : decode cX12_init 153 = .ok (.putfield 59, 3) := by decide +kernel
theorem dX12_init_156 : decode cX12_init 156 = .ok (.aload_n 0, 1) := by decide +kernel
theorem dX12_init_157 : decode cX12_init 157 = .ok (.bipush 8, 2) := by decide +kernel
theorem dX12_init_159 : decode cX12_init 159 = .ok (.newarray .int, 2) := by decide +kernel
theorem dX12_init_161 : decode cX12_init 161 = .ok (.putfield 62, 3) := by decide +kernel
theorem dX12_init_164 : decode cX12_init 164 = .ok (.aload_n 0, 1) := by decide +kernel
theorem dX12_init_165 : decode cX12_init 165 = .ok (.sipush 320, 3) := by decide +kernel
theorem dX12_init_168 : decode cX12_init 168 = .ok (.newarray .int, 2) := by decide +kernel
theorem dX12_init_170 : decode cX12_init 170 = .ok (.putfield 65, 3) := by decide +kernel
theorem dX12_init_173 : decode cX12_init 173 = .ok (.aload_n 0, 1) := by decide +kernel
theorem dX12_init_174 : decode cX12_init 174 = .ok (.iconst 4, 1) := by decide +kernel
theorem dX12_init_175 : decode cX12_init 175 = .ok (.newarray .int, 2) := by decide +kernel
theorem dX12_init_177 : decode cX12_init 177 = .ok (.putfield 68, 3) := by decide +kernel
theorem dX12_init_180 : decode cX12_init 180 = .ok (.aload_n 0, 1) := by decide +kernel
theorem dX12_init_181 : decode cX12_init 181 = .ok (.iconst 4, 1) := by decide +kernel
theorem dX12_init_182 : decode cX12_init 182 = .ok (.newarray .int, 2) := by decide +kernel
theorem dX12_init_184 : decode cX12_init 184 = .ok (.putfield 71, 3) := by decide +kernel
theorem dX12_init_187 : decode cX12_init 187 = .ok (.aload_n 0, 1) := by decide +kernel
theorem dX12_init_188 : decode cX12_init 188 = .ok (.bipush 30, 2) := by decide +kernel
theorem dX12_init_190 : decode cX12_init 190 = .ok (.newarray .int, 2) := by decide +kernel
theorem dX12_init_192 : decode cX12_init 192 = .ok (.putfield 74, 3) := by decide +kernel
theorem dX12_init_195 : decode cX12_init 195 = .ok (.aload_n 0, 1) := by decide +kernel
theorem dX12_init_196 : decode cX12_init 196 = .ok (.getfield 7, 3) := by decide +kernel
theorem dX12_init_199 : decode cX12_init 199 = .ok (.bipush 7, 2) := by decide +kernel
theorem dX12_init_201 : decode cX12_init 201 = .ok (.iconst (-1), 1) := by decide +kernel
theorem dX12_init_202 : decode cX12_init 202 = .ok (.iastore, 1) := by decide +kernel
theorem dX12_init_203 : decode cX12_init 203 = .ok (.aload_n 0, 1) := by decide +kernel
theorem dX12_init_204 : decode cX12_init 204 = .ok (.getfield 7, 3) := by decide +kernel
theorem dX12_init_207 : decode cX12_init 207 = .ok (.bipush 9, 2) := by decide +kernel
theorem dX12_init_209 : decode cX12_init 209 = .ok (.sipush 300, 3) := by decide +kernel
theorem dX12_init_212 : decode cX12_init 212 = .ok (.iastore, 1) := by decide +kernel
theorem dX12_init_213 : decode cX12_init 213 = .ok (.aload_n 0, 1) := by decide +kernel
theorem dX12_init_214 : decode cX12_init 214 = .ok (.getfield 7, 3) := by decide +kernel
theorem dX12_init_217 : decode cX12_init 217 = .ok (.bipush 10, 2) := by decide +kernel
theorem dX12_init_219 : decode cX12_init 219 = .ok (.iconst 3, 1) := by decide +kernel
theorem dX12_init_220 : decode cX12_init 220 = .ok (.iastore, 1) := by decide +kernel
theorem dX12_init_221 : decode cX12_init 221 = .ok (.aload_n 0, 1) := by decide +kernel
theorem dX12_init_222 : decode cX12_init 222 = .ok (.getfield 7, 3) := by decide +kernel
theorem dX12_init_225 : decode cX12_init 225 = .ok (.bipush 11, 2) := by decide +kernel
theorem dX12_init_227 : decode cX12_init 227 = .ok (.iconst 1, 1) := by decide +kernel
theorem dX12_init_228 : decode cX12_init 228 = .ok (.iastore, 1) := by decide +kernel
theorem dX12_init_229 : decode cX12_init 229 = .ok (.aload_n 0, 1) := by decide +kernel
theorem dX12_init_230 : decode cX12_init 230 = .ok (.getfield 7, 3) := by decide +kernel
theorem dX12_init_233 : decode cX12_init 233 = .ok (.bipush 12, 2) := by decide +kernel
theorem dX12_init_235 : decode cX12_init 235 = .ok (.iconst 4, 1) := by decide +kernel
theorem dX12_init_236 : decode cX12_init 236 = .ok (.iastore, 1) := by decide +kernel
theorem dX12_init_237 : decode cX12_init 237 = .ok (.iconst 0, 1) := by decide +kernel
theorem dX12_init_238 : decode cX12_init 238 = .ok (.istore_n 1, 1) := by decide +kernel
theorem dX12_init_239 : decode cX12_init 239 = .ok (.iload_n 1, 1) := by decide +kernel
theorem dX12_init_240 : decode cX12_init 240 = .ok (.iconst 4, 1) := by decide +kernel
theorem dX12_init_241 : decode cX12_init 241 = .ok (.if_icmp .ge 20, 3) := by decide +kernel
theorem dX12_init_244 : decode cX12_init 244 = .ok (.aload_n 0, 1) := by decide +kernel
theorem dX12_init_245 : decode cX12_init 245 = .ok (.getfield 7, 3) := by decide +kernel
theorem dX12_init_248 : decode cX12_init 248 = .ok (.sipush 1020, 3) := by decide +kernel
theorem dX12_init_251 : decode cX12_init 251 = .ok (.iload_n 1, 1) := by decide +kernel
theorem dX12_init_252 : decode cX12_init 252 = .ok (.iadd, 1) := by decide +kernel
theorem dX12_init_253 : decode cX12_init 253 = .ok (.iconst (-1), 1) := by decide +kernel
theorem dX12_init_254 : decode cX12_init 254 = .ok (.iastore, 1) := by decide +kernel
theorem dX12_init_255 : decode cX12_init 255 = .ok (.iinc 1 1, 3) := by decide +kernel
theorem dX12_init_258 : decode cX12_init 258 = .ok (.goto (-19), 3) := by decide +kernel
theorem dX12_init_261 : decode cX12_init 261 = .ok (.return_, 1) := by decide +kernel
theorem dX12_in_0 : decode cX12_in 0 = .ok (.iload_n 0, 1) := by decide +kernel
theorem dX12_in_1 : decode cX12_in 1 = .ok (.iload_n 1, 1) := by decide +kernel
theorem dX12_in_2 : decode cX12_in 2 = .ok (.if_icmp .lt 12, 3) := by decide +kernel
theorem dX12_in_5 : decode cX12_in 5 = .ok (.iload_n 0, 1) := by decide +kernel
theorem dX12_in_6 : decode cX12_in 6 = .ok (.iload_n 2, 1) := by decide +kernel
theorem dX12_in_7 : decode cX12_in 7 = .ok (.if_icmp .gt 7, 3) := by decide +kernel
theorem dX12_in_10 : decode cX12_in 10 = .ok (.iconst 1, 1) := by decide +kernel
theorem dX12_in_11 : decode cX12_in 11 = .ok (.goto 4, 3) := by decide +kernel
theorem dX12_in_14 : decode cX12_in 14 = .ok (.iconst 0, 1) := by decide +kernel
theorem dX12_in_15 : decode cX12_in 15 = .ok (.ireturn, 1) := by decide +kernel
theorem dX12_isDay_0 : decode cX12_isDay 0 = .ok (.iload_n 0, 1) := by decide +kernel
theorem dX12_isDay_1 : decode cX12_isDay 1 = .ok (.iconst 0, 1) := by decide +kernel
theorem dX12_isDay_2 : decode cX12_isDay 2 = .ok (.sipush 9999, 3) := by decide +kernel
theorem dX12_isDay_5 : decode cX12_isDay 5 = .ok (.invokestatic 77, 3) := by decide +kernel
theorem dX12_isDay_8 : decode cX12_isDay 8 = .ok (.ireturn, 1) := by decide +kernel
theorem dX12_isWard_0 : decode cX12_isWard 0 = .ok (.iload_n 1, 1) := by decide +kernel
theorem dX12_isWard_1 : decode cX12_isWard 1 = .ok (.iconst 0, 1) := by decide +kernel
theorem dX12_isWard_2 : decode cX12_isWard 2 = .ok (.aload_n 0, 1) := by decide +kernel
theorem dX12_isWard_3 : decode cX12_isWard 3 = .ok (.getfield 7, 3) := by decide +kernel
theorem dX12_isWard_6 : decode cX12_isWard 6 = .ok (.iconst 1, 1) := by decide +kernel
theorem dX12_isWard_7 : decode cX12_isWard 7 = .ok (.iaload, 1) := by decide +kernel
theorem dX12_isWard_8 : decode cX12_isWard 8 = .ok (.iconst 1, 1) := by decide +kernel
theorem dX12_isWard_9 : decode cX12_isWard 9 = .ok (.isub, 1) := by decide +kernel
theorem dX12_isWard_10 : decode cX12_isWard 10 = .ok (.invokestatic 77, 3) := by decide +kernel
theorem dX12_isWard_13 : decode cX12_isWard 13 = .ok (.ireturn, 1) := by decide +kernel
theorem dX12_isMan_0 : decode cX12_isMan 0 = .ok (.iload_n 1, 1) := by decide +kernel
theorem dX12_isMan_1 : decode cX12_isMan 1 = .ok (.iconst 0, 1) := by decide +kernel
theorem dX12_isMan_2 : decode cX12_isMan 2 = .ok (.aload_n 0, 1) := by decide +kernel
theorem dX12_isMan_3 : decode cX12_isMan 3 = .ok (.getfield 7, 3) := by decide +kernel
theorem dX12_isMan_6 : decode cX12_isMan 6 = .ok (.iconst 2, 1) := by decide +kernel
theorem dX12_isMan_7 : decode cX12_isMan 7 = .ok (.iaload, 1) := by decide +kernel
theorem dX12_isMan_8 : decode cX12_isMan 8 = .ok (.iconst 1, 1) := by decide +kernel
theorem dX12_isMan_9 : decode cX12_isMan 9 = .ok (.isub, 1) := by decide +kernel
theorem dX12_isMan_10 : decode cX12_isMan 10 = .ok (.invokestatic 77, 3) := by decide +kernel
theorem dX12_isMan_13 : decode cX12_isMan 13 = .ok (.ireturn, 1) := by decide +kernel
theorem dX12_isSherd_0 : decode cX12_isSherd 0 = .ok (.iload_n 1, 1) := by decide +kernel
theorem dX12_isSherd_1 : decode cX12_isSherd 1 = .ok (.iconst 0, 1) := by decide +kernel
theorem dX12_isSherd_2 : decode cX12_isSherd 2 = .ok (.aload_n 0, 1) := by decide +kernel
theorem dX12_isSherd_3 : decode cX12_isSherd 3 = .ok (.getfield 7, 3) := by decide +kernel
theorem dX12_isSherd_6 : decode cX12_isSherd 6 = .ok (.iconst 5, 1) := by decide +kernel
theorem dX12_isSherd_7 : decode cX12_isSherd 7 = .ok (.iaload, 1) := by decide +kernel
theorem dX12_isSherd_8 : decode cX12_isSherd 8 = .ok (.iconst 1, 1) := by decide +kernel
theorem dX12_isSherd_9 : decode cX12_isSherd 9 = .ok (.isub, 1) := by decide +kernel
theorem dX12_isSherd_10 : decode cX12_isSherd 10 = .ok (.invokestatic 77, 3) := by decide +kernel
theorem dX12_isSherd_13 : decode cX12_isSherd 13 = .ok (.ireturn, 1) := by decide +kernel
theorem dX12_isClub_0 : decode cX12_isClub 0 = .ok (.iload_n 0, 1) := by decide +kernel
theorem dX12_isClub_1 : decode cX12_isClub 1 = .ok (.iconst 0, 1) := by decide +kernel
theorem dX12_isClub_2 : decode cX12_isClub 2 = .ok (.iconst 5, 1) := by decide +kernel
theorem dX12_isClub_3 : decode cX12_isClub 3 = .ok (.invokestatic 77, 3) := by decide +kernel
theorem dX12_isClub_6 : decode cX12_isClub 6 = .ok (.ireturn, 1) := by decide +kernel
theorem dX12_isName_0 : decode cX12_isName 0 = .ok (.iload_n 0, 1) := by decide +kernel
theorem dX12_isName_1 : decode cX12_isName 1 = .ok (.istore_n 1, 1) := by decide +kernel
theorem dX12_isName_2 : decode cX12_isName 2 = .ok (.iconst 0, 1) := by decide +kernel
theorem dX12_isName_3 : decode cX12_isName 3 = .ok (.istore_n 2, 1) := by decide +kernel
theorem dX12_isName_4 : decode cX12_isName 4 = .ok (.iload_n 1, 1) := by decide +kernel
theorem dX12_isName_5 : decode cX12_isName 5 = .ok (.ifCond .le 23, 3) := by decide +kernel
theorem dX12_isName_8 : decode cX12_isName 8 = .ok (.iload_n 1, 1) := by decide +kernel
theorem dX12_isName_9 : decode cX12_isName 9 = .ok (.bipush 27, 2) := by decide +kernel
theorem dX12_isName_11 : decode cX12_isName 11 = .ok (.irem, 1) := by decide +kernel
theorem dX12_isName_12 : decode cX12_isName 12 = .ok (.ifCond .ne 5, 3) := by decide +kernel
theorem dX12_isName_15 : decode cX12_isName 15 = .ok (.iconst 0, 1) := by decide +kernel
theorem dX12_isName_16 : decode cX12_isName 16 = .ok (.ireturn, 1) := by decide +kernel
theorem dX12_isName_17 : decode cX12_isName 17 = .ok (.iload_n 1, 1) := by decide +kernel
theorem dX12_isName_18 : decode cX12_isName 18 = .ok (.bipush 27, 2) := by decide +kernel
theorem dX12_isName_20 : decode cX12_isName 20 = .ok (.idiv, 1) := by decide +kernel
theorem dX12_isName_21 : decode cX12_isName 21 = .ok (.istore_n 1, 1) := by decide +kernel
theorem dX12_isName_22 : decode cX12_isName 22 = .ok (.iinc 2 1, 3) := by decide +kernel
theorem dX12_isName_25 : decode cX12_isName 25 = .ok (.goto (-21), 3) := by decide +kernel
theorem dX12_isName_28 : decode cX12_isName 28 = .ok (.iload_n 0, 1) := by decide +kernel
theorem dX12_isName_29 : decode cX12_isName 29 = .ok (.ifCond .le 13, 3) := by decide +kernel
theorem dX12_isName_32 : decode cX12_isName 32 = .ok (.iload_n 2, 1) := by decide +kernel
theorem dX12_isName_33 : decode cX12_isName 33 = .ok (.bipush 6, 2) := by decide +kernel
theorem dX12_isName_35 : decode cX12_isName 35 = .ok (.if_icmp .gt 7, 3) := by decide +kernel
theorem dX12_isName_38 : decode cX12_isName 38 = .ok (.iconst 1, 1) := by decide +kernel
theorem dX12_isName_39 : decode cX12_isName 39 = .ok (.goto 4, 3) := by decide +kernel
theorem dX12_isName_42 : decode cX12_isName 42 = .ok (.iconst 0, 1) := by decide +kernel
theorem dX12_isName_43 : decode cX12_isName 43 = .ok (.ireturn, 1) := by decide +kernel
theorem dX12_days_0 : decode cX12_days 0 = .ok (.iload_n 1, 1) := by decide +kernel
theorem dX12_days_1 : decode cX12_days 1 = .ok (.iconst 1, 1) := by decide +kernel
theorem dX12_days_2 : decode cX12_days 2 = .ok (.sipush 400, 3) := by decide +kernel
theorem dX12_days_5 : decode cX12_days 5 = .ok (.invokestatic 77, 3) := by decide +kernel
theorem dX12_days_8 : decode cX12_days 8 = .ok (.ifCond .ne 5, 3) := by decide +kernel
theorem dX12_days_11 : decode cX12_days 11 = .ok (.iconst (-1), 1) := by decide +kernel
theorem dX12_days_12 : decode cX12_days 12 = .ok (.ireturn, 1) := by decide +kernel
theorem dX12_days_13 : decode cX12_days 13 = .ok (.aload_n 0, 1) := by decide +kernel
theorem dX12_days_14 : decode cX12_days 14 = .ok (.getfield 7, 3) := by decide +kernel
theorem dX12_days_17 : decode cX12_days 17 = .ok (.iconst 0, 1) := by decide +kernel
theorem dX12_days_18 : decode cX12_days 18 = .ok (.iaload, 1) := by decide +kernel
theorem dX12_days_19 : decode cX12_days 19 = .ok (.iload_n 1, 1) := by decide +kernel
theorem dX12_days_20 : decode cX12_days 20 = .ok (.iadd, 1) := by decide +kernel
theorem dX12_days_21 : decode cX12_days 21 = .ok (.sipush 9999, 3) := by decide +kernel
theorem dX12_days_24 : decode cX12_days 24 = .ok (.if_icmp .le 6, 3) := by decide +kernel
theorem dX12_days_27 : decode cX12_days 27 = .ok (.bipush (-4), 2) := by decide +kernel
theorem dX12_days_29 : decode cX12_days 29 = .ok (.ireturn, 1) := by decide +kernel
theorem dX12_days_30 : decode cX12_days 30 = .ok (.iconst 0, 1) := by decide +kernel
theorem dX12_days_31 : decode cX12_days 31 = .ok (.istore_n 2, 1) := by decide +kernel
theorem dX12_days_32 : decode cX12_days 32 = .ok (.iload_n 2, 1) := by decide +kernel
theorem dX12_days_33 : decode cX12_days 33 = .ok (.iload_n 1, 1) := by decide +kernel
theorem dX12_days_34 : decode cX12_days 34 = .ok (.if_icmp .ge 13, 3) := by decide +kernel
theorem dX12_days_37 : decode cX12_days 37 = .ok (.aload_n 0, 1) := by decide +kernel
theorem dX12_days_38 : decode cX12_days 38 = .ok (.invokevirtual 81, 3) := by decide +kernel
theorem dX12_days_41 : decode cX12_days 41 = .ok (.iinc 2 1, 3) := by decide +kernel
theorem dX12_days_44 : decode cX12_days 44 = .ok (.goto (-12), 3) := by decide +kernel
theorem dX12_days_47 : decode cX12_days 47 = .ok (.aload_n 0, 1) := by decide +kernel
theorem dX12_days_48 : decode cX12_days 48 = .ok (.getfield 7, 3) := by decide +kernel
theorem dX12_days_51 : decode cX12_days 51 = .ok (.iconst 0, 1) := by decide +kernel
theorem dX12_days_52 : decode cX12_days 52 = .ok (.iaload, 1) := by decide +kernel
theorem dX12_days_53 : decode cX12_days 53 = .ok (.ireturn, 1) := by decide +kernel
theorem dX12_had_0 : decode cX12_had 0 = .ok (.aload_n 0, 1) := by decide +kernel
theorem dX12_had_1 : decode cX12_had 1 = .ok (.getfield 7, 3) := by decide +kernel
theorem dX12_had_4 : decode cX12_had 4 = .ok (.sipush 491, 3) := by decide +kernel
theorem dX12_had_7 : decode cX12_had 7 = .ok (.bipush 8, 2) := by decide +kernel
theorem dX12_had_9 : decode cX12_had 9 = .ok (.iload_n 1, 1) := by decide +kernel
theorem dX12_had_10 : decode cX12_had 10 = .ok (.imul, 1) := by decide +kernel
theorem dX12_had_11 : decode cX12_had 11 = .ok (.iadd, 1) := by decide +kernel
theorem dX12_had_12 : decode cX12_had 12 = .ok (.iload_n 2, 1) := by decide +kernel
theorem dX12_had_13 : decode cX12_had 13 = .ok (.iadd, 1) := by decide +kernel
theorem dX12_had_14 : decode cX12_had 14 = .ok (.iaload, 1) := by decide +kernel
theorem dX12_had_15 : decode cX12_had 15 = .ok (.istore 4, 2) := by decide +kernel
theorem dX12_had_17 : decode cX12_had 17 = .ok (.iload 4, 2) := by decide +kernel
theorem dX12_had_19 : decode cX12_had 19 = .ok (.ifCond .lt 13, 3) := by decide +kernel
theorem dX12_had_22 : decode cX12_had 22 = .ok (.iload 4, 2) := by decide +kernel
theorem dX12_had_24 : decode cX12_had 24 = .ok (.iload_n 3, 1) := by decide +kernel
theorem dX12_had_25 : decode cX12_had 25 = .ok (.if_icmp .gt 7, 3) := by decide +kernel
theorem dX12_had_28 : decode cX12_had 28 = .ok (.iconst 1, 1) := by decide +kernel
theorem dX12_had_29 : decode cX12_had 29 = .ok (.goto 4, 3) := by decide +kernel
theorem dX12_had_32 : decode cX12_had 32 = .ok (.iconst 0, 1) := by decide +kernel
theorem dX12_had_33 : decode cX12_had 33 = .ok (.ireturn, 1) := by decide +kernel
theorem dX12_passes_0 : decode cX12_passes 0 = .ok (.aload_n 0, 1) := by decide +kernel
theorem dX12_passes_1 : decode cX12_passes 1 = .ok (.getfield 7, 3) := by decide +kernel
theorem dX12_passes_4 : decode cX12_passes 4 = .ok (.iconst 0, 1) := by decide +kernel
theorem dX12_passes_5 : decode cX12_passes 5 = .ok (.iaload, 1) := by decide +kernel
theorem dX12_passes_6 : decode cX12_passes 6 = .ok (.istore_n 1, 1) := by decide +kernel
theorem dX12_passes_7 : decode cX12_passes 7 = .ok (.iconst 0, 1) := by decide +kernel
theorem dX12_passes_8 : decode cX12_passes 8 = .ok (.istore_n 2, 1) := by decide +kernel
theorem dX12_passes_9 : decode cX12_passes 9 = .ok (.iload_n 2, 1) := by decide +kernel
theorem dX12_passes_10 : decode cX12_passes 10 = .ok (.aload_n 0, 1) := by decide +kernel
theorem dX12_passes_11 : decode cX12_passes 11 = .ok (.getfield 7, 3) := by decide +kernel
theorem dX12_passes_14 : decode cX12_passes 14 = .ok (.iconst 3, 1) := by decide +kernel
theorem dX12_passes_15 : decode cX12_passes 15 = .ok (.iaload, 1) := by decide +kernel
theorem dX12_passes_16 : decode cX12_passes 16 = .ok (.if_icmp .ge 192, 3) := by decide +kernel
theorem dX12_passes_19 : decode cX12_passes 19 = .ok (.iconst 0, 1) := by decide +kernel
theorem dX12_passes_20 : decode cX12_passes 20 = .ok (.istore_n 3, 1) := by decide +kernel
theorem dX12_passes_21 : decode cX12_passes 21 = .ok (.iload_n 3, 1) := by decide +kernel
theorem dX12_passes_22 : decode cX12_passes 22 = .ok (.aload_n 0, 1) := by decide +kernel
theorem dX12_passes_23 : decode cX12_passes 23 = .ok (.getfield 7, 3) := by decide +kernel
theorem dX12_passes_26 : decode cX12_passes 26 = .ok (.iconst 2, 1) := by decide +kernel
theorem dX12_passes_27 : decode cX12_passes 27 = .ok (.iaload, 1) := by decide +kernel
theorem dX12_passes_28 : decode cX12_passes 28 = .ok (.if_icmp .ge 174, 3) := by decide +kernel
theorem dX12_passes_31 : decode cX12_passes 31 = .ok (.iconst 0, 1) := by decide +kernel
theorem dX12_passes_32 : decode cX12_passes 32 = .ok (.istore 4, 2) := by decide +kernel
theorem dX12_passes_34 : decode cX12_passes 34 = .ok (.iconst 0, 1) := by decide +kernel
theorem dX12_passes_35 : decode cX12_passes 35 = .ok (.istore 5, 2) := by decide +kernel
theorem dX12_passes_37 : decode cX12_passes 37 = .ok (.iload 5, 2) := by decide +kernel
theorem dX12_passes_39 : decode cX12_passes 39 = .ok (.aload_n 0, 1) := by decide +kernel
theorem dX12_passes_40 : decode cX12_passes 40 = .ok (.getfield 7, 3) := by decide +kernel
theorem dX12_passes_43 : decode cX12_passes 43 = .ok (.iconst 2, 1) := by decide +kernel
theorem dX12_passes_44 : decode cX12_passes 44 = .ok (.iaload, 1) := by decide +kernel
theorem dX12_passes_45 : decode cX12_passes 45 = .ok (.if_icmp .ge 104, 3) := by decide +kernel
theorem dX12_passes_48 : decode cX12_passes 48 = .ok (.aload_n 0, 1) := by decide +kernel
theorem dX12_passes_49 : decode cX12_passes 49 = .ok (.getfield 7, 3) := by decide +kernel
theorem dX12_passes_52 : decode cX12_passes 52 = .ok (.bipush 75, 2) := by decide +kernel
theorem dX12_passes_54 : decode cX12_passes 54 = .ok (.iload 5, 2) := by decide +kernel
theorem dX12_passes_56 : decode cX12_passes 56 = .ok (.iadd, 1) := by decide +kernel
theorem dX12_passes_57 : decode cX12_passes 57 = .ok (.iaload, 1) := by decide +kernel
theorem dX12_passes_58 : decode cX12_passes 58 = .ok (.aload_n 0, 1) := by decide +kernel
theorem dX12_passes_59 : decode cX12_passes 59 = .ok (.getfield 7, 3) := by decide +kernel
theorem dX12_passes_62 : decode cX12_passes 62 = .ok (.bipush 75, 2) := by decide +kernel
theorem dX12_passes_64 : decode cX12_passes 64 = .ok (.iload_n 3, 1) := by decide +kernel
theorem dX12_passes_65 : decode cX12_passes 65 = .ok (.iadd, 1) := by decide +kernel
theorem dX12_passes_66 : decode cX12_passes 66 = .ok (.iaload, 1) := by decide +kernel
theorem dX12_passes_67 : decode cX12_passes 67 = .ok (.if_icmp .eq 43, 3) := by decide +kernel
theorem dX12_passes_70 : decode cX12_passes 70 = .ok (.iload_n 1, 1) := by decide +kernel
theorem dX12_passes_71 : decode cX12_passes 71 = .ok (.iconst 3, 1) := by decide +kernel
theorem dX12_passes_72 : decode cX12_passes 72 = .ok (.irem, 1) := by decide +kernel
theorem dX12_passes_73 : decode cX12_passes 73 = .ok (.ifCond .ne 41, 3) := by decide +kernel
theorem dX12_passes_76 : decode cX12_passes 76 = .ok (.aload_n 0, 1) := by decide +kernel
theorem dX12_passes_77 : decode cX12_passes 77 = .ok (.getfield 7, 3) := by decide +kernel
theorem dX12_passes_80 : decode cX12_passes 80 = .ok (.bipush 91, 2) := by decide +kernel
theorem dX12_passes_82 : decode cX12_passes 82 = .ok (.iload_n 3, 1) := by decide +kernel
theorem dX12_passes_83 : decode cX12_passes 83 = .ok (.iadd, 1) := by decide +kernel
theorem dX12_passes_84 : decode cX12_passes 84 = .ok (.iaload, 1) := by decide +kernel
theorem dX12_passes_85 : decode cX12_passes 85 = .ok (.ifCond .lt 29, 3) := by decide +kernel
theorem dX12_passes_88 : decode cX12_passes 88 = .ok (.aload_n 0, 1) := by decide +kernel
theorem dX12_passes_89 : decode cX12_passes 89 = .ok (.getfield 7, 3) := by decide +kernel
theorem dX12_passes_92 : decode cX12_passes 92 = .ok (.bipush 91, 2) := by decide +kernel
theorem dX12_passes_94 : decode cX12_passes 94 = .ok (.iload 5, 2) := by decide +kernel
theorem dX12_passes_96 : decode cX12_passes 96 = .ok (.iadd, 1) := by decide +kernel
theorem dX12_passes_97 : decode cX12_passes 97 = .ok (.iaload, 1) := by decide +kernel
theorem dX12_passes_98 : decode cX12_passes 98 = .ok (.aload_n 0, 1) := by decide +kernel
theorem dX12_passes_99 : decode cX12_passes 99 = .ok (.getfield 7, 3) := by decide +kernel
theorem dX12_passes_102 : decode cX12_passes 102 = .ok (.bipush 91, 2) := by decide +kernel
theorem dX12_passes_104 : decode cX12_passes 104 = .ok (.iload_n 3, 1) := by decide +kernel
theorem dX12_passes_105 : decode cX12_passes 105 = .ok (.iadd, 1) := by decide +kernel
theorem dX12_passes_106 : decode cX12_passes 106 = .ok (.iaload, 1) := by decide +kernel
theorem dX12_passes_107 : decode cX12_passes 107 = .ok (.if_icmp .ne 7, 3) := by decide +kernel
theorem dX12_passes_110 : decode cX12_passes 110 = .ok (.iconst 1, 1) := by decide +kernel
theorem dX12_passes_111 : decode cX12_passes 111 = .ok (.goto 4, 3) := by decide +kernel
theorem dX12_passes_114 : decode cX12_passes 114 = .ok (.iconst 0, 1) := by decide +kernel
theorem dX12_passes_115 : decode cX12_passes 115 = .ok (.istore 6, 2) := by decide +kernel
theorem dX12_passes_117 : decode cX12_passes 117 = .ok (.iload 4, 2) := by decide +kernel
theorem dX12_passes_119 : decode cX12_passes 119 = .ok (.iload 6, 2) := by decide +kernel
theorem dX12_passes_121 : decode cX12_passes 121 = .ok (.ifCond .eq 18, 3) := by decide +kernel
theorem dX12_passes_124 : decode cX12_passes 124 = .ok (.aload_n 0, 1) := by decide +kernel
theorem dX12_passes_125 : decode cX12_passes 125 = .ok (.iload 5, 2) := by decide +kernel
theorem dX12_passes_127 : decode cX12_passes 127 = .ok (.iload_n 2, 1) := by decide +kernel
theorem dX12_passes_128 : decode cX12_passes 128 = .ok (.iload_n 1, 1) := by decide +kernel
theorem dX12_passes_129 : decode cX12_passes 129 = .ok (.invokevirtual 84, 3) := by decide +kernel
theorem dX12_passes_132 : decode cX12_passes 132 = .ok (.ifCond .eq 7, 3) := by decide +kernel
theorem dX12_passes_135 : decode cX12_passes 135 = .ok (.iconst 1, 1) := by decide +kernel
theorem dX12_passes_136 : decode cX12_passes 136 = .ok (.goto 4, 3) := by decide +kernel
theorem dX12_passes_139 : decode cX12_passes 139 = .ok (.iconst 0, 1) := by decide +kernel
theorem dX12_passes_140 : decode cX12_passes 140 = .ok (.ior, 1) := by decide +kernel
theorem dX12_passes_141 : decode cX12_passes 141 = .ok (.istore 4, 2) := by decide +kernel
theorem dX12_passes_143 : decode cX12_passes 143 = .ok (.iinc 5 1, 3) := by decide +kernel
theorem dX12_passes_146 : decode cX12_passes 146 = .ok (.goto (-109), 3) := by decide +kernel
theorem dX12_passes_149 : decode cX12_passes 149 = .ok (.sipush 491, 3) := by decide +kernel
theorem dX12_passes_152 : decode cX12_passes 152 = .ok (.bipush 8, 2) := by decide +kernel
theorem dX12_passes_154 : decode cX12_passes 154 = .ok (.iload_n 3, 1) := by decide +kernel
theorem dX12_passes_155 : decode cX12_passes 155 = .ok (.imul, 1) := by decide +kernel
theorem dX12_passes_156 : decode cX12_passes 156 = .ok (.iadd, 1) := by decide +kernel
theorem dX12_passes_157 : decode cX12_passes 157 = .ok (.iload_n 2, 1) := by decide +kernel
theorem dX12_passes_158 : decode cX12_passes 158 = .ok (.iadd, 1) := by decide +kernel
theorem dX12_passes_159 : decode cX12_passes 159 = .ok (.istore 5, 2) := by decide +kernel
theorem dX12_passes_161 : decode cX12_passes 161 = .ok (.aload_n 0, 1) := by decide +kernel
theorem dX12_passes_162 : decode cX12_passes 162 = .ok (.getfield 7, 3) := by decide +kernel
theorem dX12_passes_165 : decode cX12_passes 165 = .ok (.iload 5, 2) := by decide +kernel
theorem dX12_passes_167 : decode cX12_passes 167 = .ok (.iload 4, 2) := by decide +kernel
theorem dX12_passes_169 : decode cX12_passes 169 = .ok (.ifCond .eq 19, 3) := by decide +kernel
theorem dX12_passes_172 : decode cX12_passes 172 = .ok (.aload_n 0, 1) := by decide +kernel
theorem dX12_passes_173 : decode cX12_passes 173 = .ok (.getfield 7, 3) := by decide +kernel
theorem dX12_passes_176 : decode cX12_passes 176 = .ok (.iload 5, 2) := by decide +kernel
theorem dX12_passes_178 : decode cX12_passes 178 = .ok (.iaload, 1) := by decide +kernel
theorem dX12_passes_179 : decode cX12_passes 179 = .ok (.ifCond .ge 9, 3) := by decide +kernel
theorem dX12_passes_182 : decode cX12_passes 182 = .ok (.iload_n 1, 1) := by decide +kernel
theorem dX12_passes_183 : decode cX12_passes 183 = .ok (.iconst 1, 1) := by decide +kernel
theorem dX12_passes_184 : decode cX12_passes 184 = .ok (.iadd, 1) := by decide +kernel
theorem dX12_passes_185 : decode cX12_passes 185 = .ok (.goto 10, 3) := by decide +kernel
theorem dX12_passes_188 : decode cX12_passes 188 = .ok (.aload_n 0, 1) := by decide +kernel
theorem dX12_passes_189 : decode cX12_passes 189 = .ok (.getfield 7, 3) := by decide +kernel
theorem dX12_passes_192 : decode cX12_passes 192 = .ok (.iload 5, 2) := by decide +kernel
theorem dX12_passes_194 : decode cX12_passes 194 = .ok (.iaload, 1) := by decide +kernel
theorem dX12_passes_195 : decode cX12_passes 195 = .ok (.iastore, 1) := by decide +kernel
theorem dX12_passes_196 : decode cX12_passes 196 = .ok (.iinc 3 1, 3) := by decide +kernel
theorem dX12_passes_199 : decode cX12_passes 199 = .ok (.goto (-178), 3) := by decide +kernel
theorem dX12_passes_202 : decode cX12_passes 202 = .ok (.iinc 2 1, 3) := by decide +kernel
theorem dX12_passes_205 : decode cX12_passes 205 = .ok (.goto (-196), 3) := by decide +kernel
theorem dX12_passes_208 : decode cX12_passes 208 = .ok (.aload_n 0, 1) := by decide +kernel
theorem dX12_passes_209 : decode cX12_passes 209 = .ok (.getfield 7, 3) := by decide +kernel
theorem dX12_passes_212 : decode cX12_passes 212 = .ok (.iconst 0, 1) := by decide +kernel
theorem dX12_passes_213 : decode cX12_passes 213 = .ok (.dup2, 1) := by decide +kernel
theorem dX12_passes_214 : decode cX12_passes 214 = .ok (.iaload, 1) := by decide +kernel
theorem dX12_passes_215 : decode cX12_passes 215 = .ok (.iconst 1, 1) := by decide +kernel
theorem dX12_passes_216 : decode cX12_passes 216 = .ok (.iadd, 1) := by decide +kernel
theorem dX12_passes_217 : decode cX12_passes 217 = .ok (.iastore, 1) := by decide +kernel
theorem dX12_passes_218 : decode cX12_passes 218 = .ok (.return_, 1) := by decide +kernel
theorem dX12_isWet_0 : decode cX12_isWet 0 = .ok (.iconst 0, 1) := by decide +kernel
theorem dX12_isWet_1 : decode cX12_isWet 1 = .ok (.istore_n 2, 1) := by decide +kernel
theorem dX12_isWet_2 : decode cX12_isWet 2 = .ok (.iload_n 2, 1) := by decide +kernel
theorem dX12_isWet_3 : decode cX12_isWet 3 = .ok (.aload_n 0, 1) := by decide +kernel
theorem dX12_isWet_4 : decode cX12_isWet 4 = .ok (.getfield 7, 3) := by decide +kernel
theorem dX12_isWet_7 : decode cX12_isWet 7 = .ok (.bipush 6, 2) := by decide +kernel
theorem dX12_isWet_9 : decode cX12_isWet 9 = .ok (.iaload, 1) := by decide +kernel
theorem dX12_isWet_10 : decode cX12_isWet 10 = .ok (.if_icmp .ge 24, 3) := by decide +kernel
theorem dX12_isWet_13 : decode cX12_isWet 13 = .ok (.aload_n 0, 1) := by decide +kernel
theorem dX12_isWet_14 : decode cX12_isWet 14 = .ok (.getfield 7, 3) := by decide +kernel
theorem dX12_isWet_17 : decode cX12_isWet 17 = .ok (.bipush 55, 2) := by decide +kernel
theorem dX12_isWet_19 : decode cX12_isWet 19 = .ok (.iload_n 2, 1) := by decide +kernel
theorem dX12_isWet_20 : decode cX12_isWet 20 = .ok (.iadd, 1) := by decide +kernel
theorem dX12_isWet_21 : decode cX12_isWet 21 = .ok (.iaload, 1) := by decide +kernel
theorem dX12_isWet_22 : decode cX12_isWet 22 = .ok (.iload_n 1, 1) := by decide +kernel
theorem dX12_isWet_23 : decode cX12_isWet 23 = .ok (.if_icmp .ne 5, 3) := by decide +kernel
theorem dX12_isWet_26 : decode cX12_isWet 26 = .ok (.iconst 1, 1) := by decide +kernel
theorem dX12_isWet_27 : decode cX12_isWet 27 = .ok (.ireturn, 1) := by decide +kernel
theorem dX12_isWet_28 : decode cX12_isWet 28 = .ok (.iinc 2 1, 3) := by decide +kernel
theorem dX12_isWet_31 : decode cX12_isWet 31 = .ok (.goto (-29), 3) := by decide +kernel
theorem dX12_isWet_34 : decode cX12_isWet 34 = .ok (.iconst 0, 1) := by decide +kernel
theorem dX12_isWet_35 : decode cX12_isWet 35 = .ok (.ireturn, 1) := by decide +kernel
theorem dX12_wet_0 : decode cX12_wet 0 = .ok (.iload_n 1, 1) := by decide +kernel
theorem dX12_wet_1 : decode cX12_wet 1 = .ok (.invokestatic 87, 3) := by decide +kernel
theorem dX12_wet_4 : decode cX12_wet 4 = .ok (.ifCond .ne 5, 3) := by decide +kernel
theorem dX12_wet_7 : decode cX12_wet 7 = .ok (.iconst (-1), 1) := by decide +kernel
theorem dX12_wet_8 : decode cX12_wet 8 = .ok (.ireturn, 1) := by decide +kernel
theorem dX12_wet_9 : decode cX12_wet 9 = .ok (.aload_n 0, 1) := by decide +kernel
theorem dX12_wet_10 : decode cX12_wet 10 = .ok (.iload_n 1, 1) := by decide +kernel
theorem dX12_wet_11 : decode cX12_wet 11 = .ok (.invokevirtual 91, 3) := by decide +kernel
theorem dX12_wet_14 : decode cX12_wet 14 = .ok (.ifCond .eq 6, 3) := by decide +kernel
theorem dX12_wet_17 : decode cX12_wet 17 = .ok (.bipush (-4), 2) := by decide +kernel
theorem dX12_wet_19 : decode cX12_wet 19 = .ok (.ireturn, 1) := by decide +kernel
theorem dX12_wet_20 : decode cX12_wet 20 = .ok (.aload_n 0, 1) := by decide +kernel
theorem dX12_wet_21 : decode cX12_wet 21 = .ok (.getfield 7, 3) := by decide +kernel
theorem dX12_wet_24 : decode cX12_wet 24 = .ok (.bipush 6, 2) := by decide +kernel
theorem dX12_wet_26 : decode cX12_wet 26 = .ok (.iaload, 1) := by decide +kernel
theorem dX12_wet_27 : decode cX12_wet 27 = .ok (.bipush 20, 2) := by decide +kernel
theorem dX12_wet_29 : decode cX12_wet 29 = .ok (.if_icmp .ne 6, 3) := by decide +kernel
theorem dX12_wet_32 : decode cX12_wet 32 = .ok (.bipush (-2), 2) := by decide +kernel
theorem dX12_wet_34 : decode cX12_wet 34 = .ok (.ireturn, 1) := by decide +kernel
theorem dX12_wet_35 : decode cX12_wet 35 = .ok (.aload_n 0, 1) := by decide +kernel
theorem dX12_wet_36 : decode cX12_wet 36 = .ok (.getfield 7, 3) := by decide +kernel
theorem dX12_wet_39 : decode cX12_wet 39 = .ok (.bipush 55, 2) := by decide +kernel
theorem dX12_wet_41 : decode cX12_wet 41 = .ok (.aload_n 0, 1) := by decide +kernel
theorem dX12_wet_42 : decode cX12_wet 42 = .ok (.getfield 7, 3) := by decide +kernel
theorem dX12_wet_45 : decode cX12_wet 45 = .ok (.bipush 6, 2) := by decide +kernel
theorem dX12_wet_47 : decode cX12_wet 47 = .ok (.iaload, 1) := by decide +kernel
theorem dX12_wet_48 : decode cX12_wet 48 = .ok (.iadd, 1) := by decide +kernel
theorem dX12_wet_49 : decode cX12_wet 49 = .ok (.iload_n 1, 1) := by decide +kernel
theorem dX12_wet_50 : decode cX12_wet 50 = .ok (.iastore, 1) := by decide +kernel
theorem dX12_wet_51 : decode cX12_wet 51 = .ok (.aload_n 0, 1) := by decide +kernel
theorem dX12_wet_52 : decode cX12_wet 52 = .ok (.getfield 7, 3) := by decide +kernel
theorem dX12_wet_55 : decode cX12_wet 55 = .ok (.bipush 6, 2) := by decide +kernel
theorem dX12_wet_57 : decode cX12_wet 57 = .ok (.dup2, 1) := by decide +kernel
theorem dX12_wet_58 : decode cX12_wet 58 = .ok (.iaload, 1) := by decide +kernel
theorem dX12_wet_59 : decode cX12_wet 59 = .ok (.iconst 1, 1) := by decide +kernel
theorem dX12_wet_60 : decode cX12_wet 60 = .ok (.iadd, 1) := by decide +kernel
theorem dX12_wet_61 : decode cX12_wet 61 = .ok (.iastore, 1) := by decide +kernel
theorem dX12_wet_62 : decode cX12_wet 62 = .ok (.aload_n 0, 1) := by decide +kernel
theorem dX12_wet_63 : decode cX12_wet 63 = .ok (.getfield 7, 3) := by decide +kernel
theorem dX12_wet_66 : decode cX12_wet 66 = .ok (.bipush 6, 2) := by decide +kernel
theorem dX12_wet_68 : decode cX12_wet 68 = .ok (.iaload, 1) := by decide +kernel
theorem dX12_wet_69 : decode cX12_wet 69 = .ok (.ireturn, 1) := by decide +kernel
theorem dX12_ward_0 : decode cX12_ward 0 = .ok (.iload_n 1, 1) := by decide +kernel
theorem dX12_ward_1 : decode cX12_ward 1 = .ok (.iconst 0, 1) := by decide +kernel
theorem dX12_ward_2 : decode cX12_ward 2 = .ok (.iconst 4, 1) := by decide +kernel
theorem dX12_ward_3 : decode cX12_ward 3 = .ok (.invokestatic 77, 3) := by decide +kernel
theorem dX12_ward_6 : decode cX12_ward 6 = .ok (.ifCond .eq 14, 3) := by decide +kernel
theorem dX12_ward_9 : decode cX12_ward 9 = .ok (.iload_n 2, 1) := by decide +kernel
theorem dX12_ward_10 : decode cX12_ward 10 = .ok (.iconst 0, 1) := by decide +kernel
theorem dX12_ward_11 : decode cX12_ward 11 = .ok (.sipush 600, 3) := by decide +kernel
theorem dX12_ward_14 : decode cX12_ward 14 = .ok (.invokestatic 77, 3) := by decide +kernel
theorem dX12_ward_17 : decode cX12_ward 17 = .ok (.ifCond .ne 5, 3) := by decide +kernel
theorem dX12_ward_20 : decode cX12_ward 20 = .ok (.iconst (-1), 1) := by decide +kernel
theorem dX12_ward_21 : decode cX12_ward 21 = .ok (.ireturn, 1) := by decide +kernel
theorem dX12_ward_22 : decode cX12_ward 22 = .ok (.aload_n 0, 1) := by decide +kernel
theorem dX12_ward_23 : decode cX12_ward 23 = .ok (.getfield 7, 3) := by decide +kernel
theorem dX12_ward_26 : decode cX12_ward 26 = .ok (.iconst 1, 1) := by decide +kernel
theorem dX12_ward_27 : decode cX12_ward 27 = .ok (.iaload, 1) := by decide +kernel
theorem dX12_ward_28 : decode cX12_ward 28 = .ok (.bipush 8, 2) := by decide +kernel
theorem dX12_ward_30 : decode cX12_ward 30 = .ok (.if_icmp .ne 6, 3) := by decide +kernel
theorem dX12_ward_33 : decode cX12_ward 33 = .ok (.bipush (-2), 2) := by decide +kernel
theorem dX12_ward_35 : decode cX12_ward 35 = .ok (.ireturn, 1) := by decide +kernel
theorem dX12_ward_36 : decode cX12_ward 36 = .ok (.aload_n 0, 1) := by decide +kernel
theorem dX12_ward_37 : decode cX12_ward 37 = .ok (.getfield 7, 3) := by decide +kernel
theorem dX12_ward_40 : decode cX12_ward 40 = .ok (.iconst 1, 1) := by decide +kernel
theorem dX12_ward_41 : decode cX12_ward 41 = .ok (.iaload, 1) := by decide +kernel
theorem dX12_ward_42 : decode cX12_ward 42 = .ok (.istore_n 3, 1) := by decide +kernel
theorem dX12_ward_43 : decode cX12_ward 43 = .ok (.aload_n 0, 1) := by decide +kernel
theorem dX12_ward_44 : decode cX12_ward 44 = .ok (.getfield 7, 3) := by decide +kernel
theorem dX12_ward_47 : decode cX12_ward 47 = .ok (.bipush 23, 2) := by decide +kernel
theorem dX12_ward_49 : decode cX12_ward 49 = .ok (.iload_n 3, 1) := by decide +kernel
theorem dX12_ward_50 : decode cX12_ward 50 = .ok (.iadd, 1) := by decide +kernel
theorem dX12_ward_51 : decode cX12_ward 51 = .ok (.iload_n 1, 1) := by decide +kernel
theorem dX12_ward_52 : decode cX12_ward 52 = .ok (.iastore, 1) := by decide +kernel
theorem dX12_ward_53 : decode cX12_ward 53 = .ok (.aload_n 0, 1) := by decide +kernel
theorem dX12_ward_54 : decode cX12_ward 54 = .ok (.getfield 7, 3) := by decide +kernel
theorem dX12_ward_57 : decode cX12_ward 57 = .ok (.bipush 31, 2) := by decide +kernel
theorem dX12_ward_59 : decode cX12_ward 59 = .ok (.iload_n 3, 1) := by decide +kernel
theorem dX12_ward_60 : decode cX12_ward 60 = .ok (.iadd, 1) := by decide +kernel
theorem dX12_ward_61 : decode cX12_ward 61 = .ok (.iload_n 2, 1) := by decide +kernel
theorem dX12_ward_62 : decode cX12_ward 62 = .ok (.iastore, 1) := by decide +kernel
theorem dX12_ward_63 : decode cX12_ward 63 = .ok (.aload_n 0, 1) := by decide +kernel
theorem dX12_ward_64 : decode cX12_ward 64 = .ok (.getfield 7, 3) := by decide +kernel
theorem dX12_ward_67 : decode cX12_ward 67 = .ok (.bipush 39, 2) := by decide +kernel
theorem dX12_ward_69 : decode cX12_ward 69 = .ok (.iload_n 3, 1) := by decide +kernel
theorem dX12_ward_70 : decode cX12_ward 70 = .ok (.iadd, 1) := by decide +kernel
theorem dX12_ward_71 : decode cX12_ward 71 = .ok (.iconst (-1), 1) := by decide +kernel
theorem dX12_ward_72 : decode cX12_ward 72 = .ok (.iastore, 1) := by decide +kernel
theorem dX12_ward_73 : decode cX12_ward 73 = .ok (.aload_n 0, 1) := by decide +kernel
theorem dX12_ward_74 : decode cX12_ward 74 = .ok (.getfield 7, 3) := by decide +kernel
theorem dX12_ward_77 : decode cX12_ward 77 = .ok (.bipush 47, 2) := by decide +kernel
theorem dX12_ward_79 : decode cX12_ward 79 = .ok (.iload_n 3, 1) := by decide +kernel
theorem dX12_ward_80 : decode cX12_ward 80 = .ok (.iadd, 1) := by decide +kernel
theorem dX12_ward_81 : decode cX12_ward 81 = .ok (.iconst (-1), 1) := by decide +kernel
theorem dX12_ward_82 : decode cX12_ward 82 = .ok (.iastore, 1) := by decide +kernel
theorem dX12_ward_83 : decode cX12_ward 83 = .ok (.aload_n 0, 1) := by decide +kernel
theorem dX12_ward_84 : decode cX12_ward 84 = .ok (.getfield 7, 3) := by decide +kernel
theorem dX12_ward_87 : decode cX12_ward 87 = .ok (.iconst 1, 1) := by decide +kernel
theorem dX12_ward_88 : decode cX12_ward 88 = .ok (.dup2, 1) := by decide +kernel
theorem dX12_ward_89 : decode cX12_ward 89 = .ok (.iaload, 1) := by decide +kernel
theorem dX12_ward_90 : decode cX12_ward 90 = .ok (.iconst 1, 1) := by decide +kernel
theorem dX12_ward_91 : decode cX12_ward 91 = .ok (.iadd, 1) := by decide +kernel
theorem dX12_ward_92 : decode cX12_ward 92 = .ok (.iastore, 1) := by decide +kernel
theorem dX12_ward_93 : decode cX12_ward 93 = .ok (.iload_n 3, 1) := by decide +kernel
theorem dX12_ward_94 : decode cX12_ward 94 = .ok (.ireturn, 1) := by decide +kernel
theorem dX12_harvest_0 : decode cX12_harvest 0 = .ok (.aload_n 0, 1) := by decide +kernel
theorem dX12_harvest_1 : decode cX12_harvest 1 = .ok (.iload_n 1, 1) := by decide +kernel
theorem dX12_harvest_2 : decode cX12_harvest 2 = .ok (.invokevirtual 94, 3) := by decide +kernel
theorem dX12_harvest_5 : decode cX12_harvest 5 = .ok (.ifCond .eq 21, 3) := by decide +kernel
theorem dX12_harvest_8 : decode cX12_harvest 8 = .ok (.iload_n 2, 1) := by decide +kernel
theorem dX12_harvest_9 : decode cX12_harvest 9 = .ok (.invokestatic 87, 3) := by decide +kernel
theorem dX12_harvest_12 : decode cX12_harvest 12 = .ok (.ifCond .eq 14, 3) := by decide +kernel
theorem dX12_harvest_15 : decode cX12_harvest 15 = .ok (.iload_n 3, 1) := by decide +kernel
theorem dX12_harvest_16 : decode cX12_harvest 16 = .ok (.iload_n 2, 1) := by decide +kernel
theorem dX12_harvest_17 : decode cX12_harvest 17 = .ok (.sipush 9999, 3) := by decide +kernel
theorem dX12_harvest_20 : decode cX12_harvest 20 = .ok (.invokestatic 77, 3) := by decide +kernel
theorem dX12_harvest_23 : decode cX12_harvest 23 = .ok (.ifCond .ne 5, 3) := by decide +kernel
theorem dX12_harvest_26 : decode cX12_harvest 26 = .ok (.iconst (-1), 1) := by decide +kernel
theorem dX12_harvest_27 : decode cX12_harvest 27 = .ok (.ireturn, 1) := by decide +kernel
theorem dX12_harvest_28 : decode cX12_harvest 28 = .ok (.aload_n 0, 1) := by decide +kernel
theorem dX12_harvest_29 : decode cX12_harvest 29 = .ok (.getfield 7, 3) := by decide +kernel
theorem dX12_harvest_32 : decode cX12_harvest 32 = .ok (.bipush 39, 2) := by decide +kernel
theorem dX12_harvest_34 : decode cX12_harvest 34 = .ok (.iload_n 1, 1) := by decide +kernel
theorem dX12_harvest_35 : decode cX12_harvest 35 = .ok (.iadd, 1) := by decide +kernel
theorem dX12_harvest_36 : decode cX12_harvest 36 = .ok (.iload_n 2, 1) := by decide +kernel
theorem dX12_harvest_37 : decode cX12_harvest 37 = .ok (.iastore, 1) := by decide +kernel
theorem dX12_harvest_38 : decode cX12_harvest 38 = .ok (.aload_n 0, 1) := by decide +kernel
theorem dX12_harvest_39 : decode cX12_harvest 39 = .ok (.getfield 7, 3) := by decide +kernel
theorem dX12_harvest_42 : decode cX12_harvest 42 = .ok (.bipush 47, 2) := by decide +kernel
theorem dX12_harvest_44 : decode cX12_harvest 44 = .ok (.iload_n 1, 1) := by decide +kernel
theorem dX12_harvest_45 : decode cX12_harvest 45 = .ok (.iadd, 1) := by decide +kernel
theorem dX12_harvest_46 : decode cX12_harvest 46 = .ok (.iload_n 3, 1) := by decide +kernel
theorem dX12_harvest_47 : decode cX12_harvest 47 = .ok (.iastore, 1) := by decide +kernel
theorem dX12_harvest_48 : decode cX12_harvest 48 = .ok (.iconst 1, 1) := by decide +kernel
theorem dX12_harvest_49 : decode cX12_harvest 49 = .ok (.ireturn, 1) := by decide +kernel
theorem dX12_man_0 : decode cX12_man 0 = .ok (.aload_n 0, 1) := by decide +kernel
theorem dX12_man_1 : decode cX12_man 1 = .ok (.iload_n 1, 1) := by decide +kernel
theorem dX12_man_2 : decode cX12_man 2 = .ok (.invokevirtual 94, 3) := by decide +kernel
theorem dX12_man_5 : decode cX12_man 5 = .ok (.ifCond .eq 27, 3) := by decide +kernel
theorem dX12_man_8 : decode cX12_man 8 = .ok (.iload_n 2, 1) := by decide +kernel
theorem dX12_man_9 : decode cX12_man 9 = .ok (.iconst (-1), 1) := by decide +kernel
theorem dX12_man_10 : decode cX12_man 10 = .ok (.iconst 5, 1) := by decide +kernel
theorem dX12_man_11 : decode cX12_man 11 = .ok (.invokestatic 77, 3) := by decide +kernel
theorem dX12_man_14 : decode cX12_man 14 = .ok (.ifCond .eq 18, 3) := by decide +kernel
theorem dX12_man_17 : decode cX12_man 17 = .ok (.iload_n 3, 1) := by decide +kernel
theorem dX12_man_18 : decode cX12_man 18 = .ok (.invokestatic 97, 3) := by decide +kernel
theorem dX12_man_21 : decode cX12_man 21 = .ok (.ifCond .eq 11, 3) := by decide +kernel
theorem dX12_man_24 : decode cX12_man 24 = .ok (.iload 4, 2) := by decide +kernel
theorem dX12_man_26 : decode cX12_man 26 = .ok (.invokestatic 97, 3) := by decide +kernel
theorem dX12_man_29 : decode cX12_man 29 = .ok (.ifCond .ne 5, 3) := by decide +kernel
theorem dX12_man_32 : decode cX12_man 32 = .ok (.iconst (-1), 1) := by decide +kernel
theorem dX12_man_33 : decode cX12_man 33 = .ok (.ireturn, 1) := by decide +kernel
theorem dX12_man_34 : decode cX12_man 34 = .ok (.aload_n 0, 1) := by decide +kernel
theorem dX12_man_35 : decode cX12_man 35 = .ok (.getfield 7, 3) := by decide +kernel
theorem dX12_man_38 : decode cX12_man 38 = .ok (.iconst 2, 1) := by decide +kernel
theorem dX12_man_39 : decode cX12_man 39 = .ok (.iaload, 1) := by decide +kernel
theorem dX12_man_40 : decode cX12_man 40 = .ok (.bipush 16, 2) := by decide +kernel
theorem dX12_man_42 : decode cX12_man 42 = .ok (.if_icmp .ne 6, 3) := by decide +kernel
theorem dX12_man_45 : decode cX12_man 45 = .ok (.bipush (-2), 2) := by decide +kernel
theorem dX12_man_47 : decode cX12_man 47 = .ok (.ireturn, 1) := by decide +kernel
theorem dX12_man_48 : decode cX12_man 48 = .ok (.aload_n 0, 1) := by decide +kernel
theorem dX12_man_49 : decode cX12_man 49 = .ok (.getfield 7, 3) := by decide +kernel
theorem dX12_man_52 : decode cX12_man 52 = .ok (.iconst 2, 1) := by decide +kernel
theorem dX12_man_53 : decode cX12_man 53 = .ok (.iaload, 1) := by decide +kernel
theorem dX12_man_54 : decode cX12_man 54 = .ok (.istore 5, 2) := by decide +kernel
theorem dX12_man_56 : decode cX12_man 56 = .ok (.aload_n 0, 1) := by decide +kernel
theorem dX12_man_57 : decode cX12_man 57 = .ok (.getfield 7, 3) := by decide +kernel
theorem dX12_man_60 : decode cX12_man 60 = .ok (.bipush 75, 2) := by decide +kernel
theorem dX12_man_62 : decode cX12_man 62 = .ok (.iload 5, 2) := by decide +kernel
theorem dX12_man_64 : decode cX12_man 64 = .ok (.iadd, 1) := by decide +kernel
theorem dX12_man_65 : decode cX12_man 65 = .ok (.iload_n 1, 1) := by decide +kernel
theorem dX12_man_66 : decode cX12_man 66 = .ok (.iastore, 1) := by decide +kernel
theorem dX12_man_67 : decode cX12_man 67 = .ok (.aload_n 0, 1) := by decide +kernel
theorem dX12_man_68 : decode cX12_man 68 = .ok (.getfield 7, 3) := by decide +kernel
theorem dX12_man_71 : decode cX12_man 71 = .ok (.bipush 91, 2) := by decide +kernel
theorem dX12_man_73 : decode cX12_man 73 = .ok (.iload 5, 2) := by decide +kernel
theorem dX12_man_75 : decode cX12_man 75 = .ok (.iadd, 1) := by decide +kernel
theorem dX12_man_76 : decode cX12_man 76 = .ok (.iload_n 2, 1) := by decide +kernel
theorem dX12_man_77 : decode cX12_man 77 = .ok (.iastore, 1) := by decide +kernel
theorem dX12_man_78 : decode cX12_man 78 = .ok (.aload_n 0, 1) := by decide +kernel
theorem dX12_man_79 : decode cX12_man 79 = .ok (.getfield 7, 3) := by decide +kernel
theorem dX12_man_82 : decode cX12_man 82 = .ok (.bipush 107, 2) := by decide +kernel
theorem dX12_man_84 : decode cX12_man 84 = .ok (.iload 5, 2) := by decide +kernel
theorem dX12_man_86 : decode cX12_man 86 = .ok (.iadd, 1) := by decide +kernel
theorem dX12_man_87 : decode cX12_man 87 = .ok (.iload_n 3, 1) := by decide +kernel
theorem dX12_man_88 : decode cX12_man 88 = .ok (.iastore, 1) := by decide +kernel
theorem dX12_man_89 : decode cX12_man 89 = .ok (.aload_n 0, 1) := by decide +kernel
theorem dX12_man_90 : decode cX12_man 90 = .ok (.getfield 7, 3) := by decide +kernel
theorem dX12_man_93 : decode cX12_man 93 = .ok (.bipush 123, 2) := by decide +kernel
theorem dX12_man_95 : decode cX12_man 95 = .ok (.iload 5, 2) := by decide +kernel
theorem dX12_man_97 : decode cX12_man 97 = .ok (.iadd, 1) := by decide +kernel
theorem dX12_man_98 : decode cX12_man 98 = .ok (.iload 4, 2) := by decide +kernel
theorem dX12_man_100 : decode cX12_man 100 = .ok (.iastore, 1) := by decide +kernel
theorem dX12_man_101 : decode cX12_man 101 = .ok (.aload_n 0, 1) := by decide +kernel
theorem dX12_man_102 : decode cX12_man 102 = .ok (.getfield 7, 3) := by decide +kernel
theorem dX12_man_105 : decode cX12_man 105 = .ok (.sipush 139, 3) := by decide +kernel
theorem dX12_man_108 : decode cX12_man 108 = .ok (.iload 5, 2) := by decide +kernel
theorem dX12_man_110 : decode cX12_man 110 = .ok (.iadd, 1) := by decide +kernel
theorem dX12_man_111 : decode cX12_man 111 = .ok (.iconst 0, 1) := by decide +kernel
theorem dX12_man_112 : decode cX12_man 112 = .ok (.iastore, 1) := by decide +kernel
theorem dX12_man_113 : decode cX12_man 113 = .ok (.aload_n 0, 1) := by decide +kernel
theorem dX12_man_114 : decode cX12_man 114 = .ok (.getfield 7, 3) := by decide +kernel
theorem dX12_man_117 : decode cX12_man 117 = .ok (.sipush 155, 3) := by decide +kernel
theorem dX12_man_120 : decode cX12_man 120 = .ok (.iload 5, 2) := by decide +kernel
theorem dX12_man_122 : decode cX12_man 122 = .ok (.iadd, 1) := by decide +kernel
theorem dX12_man_123 : decode cX12_man 123 = .ok (.iconst 0, 1) := by decide +kernel
theorem dX12_man_124 : decode cX12_man 124 = .ok (.iastore, 1) := by decide +kernel
theorem dX12_man_125 : decode cX12_man 125 = .ok (.aload_n 0, 1) := by decide +kernel
theorem dX12_man_126 : decode cX12_man 126 = .ok (.getfield 7, 3) := by decide +kernel
theorem dX12_man_129 : decode cX12_man 129 = .ok (.sipush 171, 3) := by decide +kernel
theorem dX12_man_132 : decode cX12_man 132 = .ok (.iload 5, 2) := by decide +kernel
theorem dX12_man_134 : decode cX12_man 134 = .ok (.iadd, 1) := by decide +kernel
theorem dX12_man_135 : decode cX12_man 135 = .ok (.iconst (-1), 1) := by decide +kernel
theorem dX12_man_136 : decode cX12_man 136 = .ok (.iastore, 1) := by decide +kernel
theorem dX12_man_137 : decode cX12_man 137 = .ok (.aload_n 0, 1) := by decide +kernel
theorem dX12_man_138 : decode cX12_man 138 = .ok (.getfield 7, 3) := by decide +kernel
theorem dX12_man_141 : decode cX12_man 141 = .ok (.sipush 187, 3) := by decide +kernel
theorem dX12_man_144 : decode cX12_man 144 = .ok (.iload 5, 2) := by decide +kernel
theorem dX12_man_146 : decode cX12_man 146 = .ok (.iadd, 1) := by decide +kernel
theorem dX12_man_147 : decode cX12_man 147 = .ok (.iconst (-1), 1) := by decide +kernel
theorem dX12_man_148 : decode cX12_man 148 = .ok (.iastore, 1) := by decide +kernel
theorem dX12_man_149 : decode cX12_man 149 = .ok (.aload_n 0, 1) := by decide +kernel
theorem dX12_man_150 : decode cX12_man 150 = .ok (.getfield 7, 3) := by decide +kernel
theorem dX12_man_153 : decode cX12_man 153 = .ok (.sipush 203, 3) := by decide +kernel
theorem dX12_man_156 : decode cX12_man 156 = .ok (.iload 5, 2) := by decide +kernel
theorem dX12_man_158 : decode cX12_man 158 = .ok (.iadd, 1) := by decide +kernel
theorem dX12_man_159 : decode cX12_man 159 = .ok (.iconst 0, 1) := by decide +kernel
theorem dX12_man_160 : decode cX12_man 160 = .ok (.iastore, 1) := by decide +kernel
theorem dX12_man_161 : decode cX12_man 161 = .ok (.iconst 0, 1) := by decide +kernel
theorem dX12_man_162 : decode cX12_man 162 = .ok (.istore 6, 2) := by decide +kernel
theorem dX12_man_164 : decode cX12_man 164 = .ok (.iload 6, 2) := by decide +kernel
theorem dX12_man_166 : decode cX12_man 166 = .ok (.bipush 16, 2) := by decide +kernel
theorem dX12_man_168 : decode cX12_man 168 = .ok (.if_icmp .ge 27, 3) := by decide +kernel
theorem dX12_man_171 : decode cX12_man 171 = .ok (.aload_n 0, 1) := by decide +kernel
theorem dX12_man_172 : decode cX12_man 172 = .ok (.getfield 7, 3) := by decide +kernel
theorem dX12_man_175 : decode cX12_man 175 = .ok (.sipush 219, 3) := by decide +kernel
theorem dX12_man_178 : decode cX12_man 178 = .ok (.bipush 16, 2) := by decide +kernel
theorem dX12_man_180 : decode cX12_man 180 = .ok (.iload 5, 2) := by decide +kernel
theorem dX12_man_182 : decode cX12_man 182 = .ok (.imul, 1) := by decide +kernel
theorem dX12_man_183 : decode cX12_man 183 = .ok (.iadd, 1) := by decide +kernel
theorem dX12_man_184 : decode cX12_man 184 = .ok (.iload 6, 2) := by decide +kernel
theorem dX12_man_186 : decode cX12_man 186 = .ok (.iadd, 1) := by decide +kernel
theorem dX12_man_187 : decode cX12_man 187 = .ok (.iconst 0, 1) := by decide +kernel
theorem dX12_man_188 : decode cX12_man 188 = .ok (.iastore, 1) := by decide +kernel
theorem dX12_man_189 : decode cX12_man 189 = .ok (.iinc 6 1, 3) := by decide +kernel
theorem dX12_man_192 : decode cX12_man 192 = .ok (.goto (-28), 3) := by decide +kernel
theorem dX12_man_195 : decode cX12_man 195 = .ok (.iconst 0, 1) := by decide +kernel
theorem dX12_man_196 : decode cX12_man 196 = .ok (.istore 6, 2) := by decide +kernel
theorem dX12_man_198 : decode cX12_man 198 = .ok (.iload 6, 2) := by decide +kernel
theorem dX12_man_200 : decode cX12_man 200 = .ok (.bipush 8, 2) := by decide +kernel
theorem dX12_man_202 : decode cX12_man 202 = .ok (.if_icmp .ge 27, 3) := by decide +kernel
theorem dX12_man_205 : decode cX12_man 205 = .ok (.aload_n 0, 1) := by decide +kernel
theorem dX12_man_206 : decode cX12_man 206 = .ok (.getfield 7, 3) := by decide +kernel
theorem dX12_man_209 : decode cX12_man 209 = .ok (.sipush 491, 3) := by decide +kernel
theorem dX12_man_212 : decode cX12_man 212 = .ok (.bipush 8, 2) := by decide +kernel
theorem dX12_man_214 : decode cX12_man 214 = .ok (.iload 5, 2) := by decide +kernel
theorem dX12_man_216 : decode cX12_man 216 = .ok (.imul, 1) := by decide +kernel
theorem dX12_man_217 : decode cX12_man 217 = .ok (.iadd, 1) := by decide +kernel
theorem dX12_man_218 : decode cX12_man 218 = .ok (.iload 6, 2) := by decide +kernel
theorem dX12_man_220 : decode cX12_man 220 = .ok (.iadd, 1) := by decide +kernel
theorem dX12_man_221 : decode cX12_man 221 = .ok (.iconst (-1), 1) := by decide +kernel
theorem dX12_man_222 : decode cX12_man 222 = .ok (.iastore, 1) := by decide +kernel
theorem dX12_man_223 : decode cX12_man 223 = .ok (.iinc 6 1, 3) := by decide +kernel
theorem dX12_man_226 : decode cX12_man 226 = .ok (.goto (-28), 3) := by decide +kernel
theorem dX12_man_229 : decode cX12_man 229 = .ok (.aload_n 0, 1) := by decide +kernel
theorem dX12_man_230 : decode cX12_man 230 = .ok (.getfield 7, 3) := by decide +kernel
theorem dX12_man_233 : decode cX12_man 233 = .ok (.iconst 2, 1) := by decide +kernel
theorem dX12_man_234 : decode cX12_man 234 = .ok (.dup2, 1) := by decide +kernel
theorem dX12_man_235 : decode cX12_man 235 = .ok (.iaload, 1) := by decide +kernel
theorem dX12_man_236 : decode cX12_man 236 = .ok (.iconst 1, 1) := by decide +kernel
theorem dX12_man_237 : decode cX12_man 237 = .ok (.iadd, 1) := by decide +kernel
theorem dX12_man_238 : decode cX12_man 238 = .ok (.iastore, 1) := by decide +kernel
theorem dX12_man_239 : decode cX12_man 239 = .ok (.iload 5, 2) := by decide +kernel
theorem dX12_man_241 : decode cX12_man 241 = .ok (.ireturn, 1) := by decide +kernel
theorem dX12_style_0 : decode cX12_style 0 = .ok (.aload_n 0, 1) := by decide +kernel
theorem dX12_style_1 : decode cX12_style 1 = .ok (.iload_n 1, 1) := by decide +kernel
theorem dX12_style_2 : decode cX12_style 2 = .ok (.invokevirtual 100, 3) := by decide +kernel
theorem dX12_style_5 : decode cX12_style 5 = .ok (.ifCond .eq 23, 3) := by decide +kernel
theorem dX12_style_8 : decode cX12_style 8 = .ok (.iload_n 2, 1) := by decide +kernel
theorem dX12_style_9 : decode cX12_style 9 = .ok (.iconst 0, 1) := by decide +kernel
theorem dX12_style_10 : decode cX12_style 10 = .ok (.sipush 9999, 3) := by decide +kernel
theorem dX12_style_13 : decode cX12_style 13 = .ok (.invokestatic 77, 3) := by decide +kernel
theorem dX12_style_16 : decode cX12_style 16 = .ok (.ifCond .eq 12, 3) := by decide +kernel
theorem dX12_style_19 : decode cX12_style 19 = .ok (.iload_n 3, 1) := by decide +kernel
theorem dX12_style_20 : decode cX12_style 20 = .ok (.iconst 0, 1) := by decide +kernel
theorem dX12_style_21 : decode cX12_style 21 = .ok (.iconst 3, 1) := by decide +kernel
theorem dX12_style_22 : decode cX12_style 22 = .ok (.invokestatic 77, 3) := by decide +kernel
theorem dX12_style_25 : decode cX12_style 25 = .ok (.ifCond .ne 5, 3) := by decide +kernel
theorem dX12_style_28 : decode cX12_style 28 = .ok (.iconst (-1), 1) := by decide +kernel
theorem dX12_style_29 : decode cX12_style 29 = .ok (.ireturn, 1) := by decide +kernel
theorem dX12_style_30 : decode cX12_style 30 = .ok (.aload_n 0, 1) := by decide +kernel
theorem dX12_style_31 : decode cX12_style 31 = .ok (.getfield 7, 3) := by decide +kernel
theorem dX12_style_34 : decode cX12_style 34 = .ok (.sipush 139, 3) := by decide +kernel
theorem dX12_style_37 : decode cX12_style 37 = .ok (.iload_n 1, 1) := by decide +kernel
theorem dX12_style_38 : decode cX12_style 38 = .ok (.iadd, 1) := by decide +kernel
theorem dX12_style_39 : decode cX12_style 39 = .ok (.iload_n 2, 1) := by decide +kernel
theorem dX12_style_40 : decode cX12_style 40 = .ok (.iastore, 1) := by decide +kernel
theorem dX12_style_41 : decode cX12_style 41 = .ok (.aload_n 0, 1) := by decide +kernel
theorem dX12_style_42 : decode cX12_style 42 = .ok (.getfield 7, 3) := by decide +kernel
theorem dX12_style_45 : decode cX12_style 45 = .ok (.sipush 155, 3) := by decide +kernel
theorem dX12_style_48 : decode cX12_style 48 = .ok (.iload_n 1, 1) := by decide +kernel
theorem dX12_style_49 : decode cX12_style 49 = .ok (.iadd, 1) := by decide +kernel
theorem dX12_style_50 : decode cX12_style 50 = .ok (.iload_n 3, 1) := by decide +kernel
theorem dX12_style_51 : decode cX12_style 51 = .ok (.iastore, 1) := by decide +kernel
theorem dX12_style_52 : decode cX12_style 52 = .ok (.iconst 1, 1) := by decide +kernel
theorem dX12_style_53 : decode cX12_style 53 = .ok (.ireturn, 1) := by decide +kernel
theorem dX12_fear_0 : decode cX12_fear 0 = .ok (.aload_n 0, 1) := by decide +kernel
theorem dX12_fear_1 : decode cX12_fear 1 = .ok (.iload_n 1, 1) := by decide +kernel
theorem dX12_fear_2 : decode cX12_fear 2 = .ok (.invokevirtual 100, 3) := by decide +kernel
theorem dX12_fear_5 : decode cX12_fear 5 = .ok (.ifCond .eq 26, 3) := by decide +kernel
theorem dX12_fear_8 : decode cX12_fear 8 = .ok (.aload_n 0, 1) := by decide +kernel
theorem dX12_fear_9 : decode cX12_fear 9 = .ok (.iload_n 2, 1) := by decide +kernel
theorem dX12_fear_10 : decode cX12_fear 10 = .ok (.invokevirtual 100, 3) := by decide +kernel
theorem dX12_fear_13 : decode cX12_fear 13 = .ok (.ifCond .eq 18, 3) := by decide +kernel
theorem dX12_fear_16 : decode cX12_fear 16 = .ok (.iload_n 1, 1) := by decide +kernel
theorem dX12_fear_17 : decode cX12_fear 17 = .ok (.iload_n 2, 1) := by decide +kernel
theorem dX12_fear_18 : decode cX12_fear 18 = .ok (.if_icmp .eq 13, 3) := by decide +kernel
theorem dX12_fear_21 : decode cX12_fear 21 = .ok (.iload_n 3, 1) := by decide +kernel
theorem dX12_fear_22 : decode cX12_fear 22 = .ok (.iconst 0, 1) := by decide +kernel
theorem dX12_fear_23 : decode cX12_fear 23 = .ok (.bipush 9, 2) := by decide +kernel
theorem dX12_fear_25 : decode cX12_fear 25 = .ok (.invokestatic 77, 3) := by decide +kernel
theorem dX12_fear_28 : decode cX12_fear 28 = .ok (.ifCond .ne 5, 3) := by decide +kernel
theorem dX12_fear_31 : decode cX12_fear 31 = .ok (.iconst (-1), 1) := by decide +kernel
theorem dX12_fear_32 : decode cX12_fear 32 = .ok (.ireturn, 1) := by decide +kernel
theorem dX12_fear_33 : decode cX12_fear 33 = .ok (.aload_n 0, 1) := by decide +kernel
theorem dX12_fear_34 : decode cX12_fear 34 = .ok (.getfield 7, 3) := by decide +kernel
theorem dX12_fear_37 : decode cX12_fear 37 = .ok (.sipush 219, 3) := by decide +kernel
theorem dX12_fear_40 : decode cX12_fear 40 = .ok (.bipush 16, 2) := by decide +kernel
theorem dX12_fear_42 : decode cX12_fear 42 = .ok (.iload_n 1, 1) := by decide +kernel
theorem dX12_fear_43 : decode cX12_fear 43 = .ok (.imul, 1) := by decide +kernel
theorem dX12_fear_44 : decode cX12_fear 44 = .ok (.iadd, 1) := by decide +kernel
theorem dX12_fear_45 : decode cX12_fear 45 = .ok (.iload_n 2, 1) := by decide +kernel
theorem dX12_fear_46 : decode cX12_fear 46 = .ok (.iadd, 1) := by decide +kernel
theorem dX12_fear_47 : decode cX12_fear 47 = .ok (.iaload, 1) := by decide +kernel
theorem dX12_fear_48 : decode cX12_fear 48 = .ok (.istore 4, 2) := by decide +kernel
theorem dX12_fear_50 : decode cX12_fear 50 = .ok (.aload_n 0, 1) := by decide +kernel
theorem dX12_fear_51 : decode cX12_fear 51 = .ok (.getfield 7, 3) := by decide +kernel
theorem dX12_fear_54 : decode cX12_fear 54 = .ok (.sipush 219, 3) := by decide +kernel
theorem dX12_fear_57 : decode cX12_fear 57 = .ok (.bipush 16, 2) := by decide +kernel
theorem dX12_fear_59 : decode cX12_fear 59 = .ok (.iload_n 1, 1) := by decide +kernel
theorem dX12_fear_60 : decode cX12_fear 60 = .ok (.imul, 1) := by decide +kernel
theorem dX12_fear_61 : decode cX12_fear 61 = .ok (.iadd, 1) := by decide +kernel
theorem dX12_fear_62 : decode cX12_fear 62 = .ok (.iload_n 2, 1) := by decide +kernel
theorem dX12_fear_63 : decode cX12_fear 63 = .ok (.iadd, 1) := by decide +kernel
theorem dX12_fear_64 : decode cX12_fear 64 = .ok (.iload_n 3, 1) := by decide +kernel
theorem dX12_fear_65 : decode cX12_fear 65 = .ok (.iastore, 1) := by decide +kernel
theorem dX12_fear_66 : decode cX12_fear 66 = .ok (.iload 4, 2) := by decide +kernel
theorem dX12_fear_68 : decode cX12_fear 68 = .ok (.ireturn, 1) := by decide +kernel
theorem dX12_word_0 : decode cX12_word 0 = .ok (.aload_n 0, 1) := by decide +kernel
theorem dX12_word_1 : decode cX12_word 1 = .ok (.iload_n 1, 1) := by decide +kernel
theorem dX12_word_2 : decode cX12_word 2 = .ok (.invokevirtual 100, 3) := by decide +kernel
theorem dX12_word_5 : decode cX12_word 5 = .ok (.ifCond .eq 21, 3) := by decide +kernel
theorem dX12_word_8 : decode cX12_word 8 = .ok (.iload_n 2, 1) := by decide +kernel
theorem dX12_word_9 : decode cX12_word 9 = .ok (.bipush (-5), 2) := by decide +kernel
theorem dX12_word_11 : decode cX12_word 11 = .ok (.iconst 5, 1) := by decide +kernel
theorem dX12_word_12 : decode cX12_word 12 = .ok (.invokestatic 77, 3) := by decide +kernel
theorem dX12_word_15 : decode cX12_word 15 = .ok (.ifCond .eq 11, 3) := by decide +kernel
theorem dX12_word_18 : decode cX12_word 18 = .ok (.aload_n 0, 1) := by decide +kernel
theorem dX12_word_19 : decode cX12_word 19 = .ok (.iload_n 3, 1) := by decide +kernel
theorem dX12_word_20 : decode cX12_word 20 = .ok (.invokevirtual 100, 3) := by decide +kernel
theorem dX12_word_23 : decode cX12_word 23 = .ok (.ifCond .ne 5, 3) := by decide +kernel
theorem dX12_word_26 : decode cX12_word 26 = .ok (.iconst (-1), 1) := by decide +kernel
theorem dX12_word_27 : decode cX12_word 27 = .ok (.ireturn, 1) := by decide +kernel
theorem dX12_word_28 : decode cX12_word 28 = .ok (.aload_n 0, 1) := by decide +kernel
theorem dX12_word_29 : decode cX12_word 29 = .ok (.getfield 7, 3) := by decide +kernel
theorem dX12_word_32 : decode cX12_word 32 = .ok (.iconst 3, 1) := by decide +kernel
theorem dX12_word_33 : decode cX12_word 33 = .ok (.iaload, 1) := by decide +kernel
theorem dX12_word_34 : decode cX12_word 34 = .ok (.bipush 8, 2) := by decide +kernel
theorem dX12_word_36 : decode cX12_word 36 = .ok (.if_icmp .ne 6, 3) := by decide +kernel
theorem dX12_word_39 : decode cX12_word 39 = .ok (.bipush (-2), 2) := by decide +kernel
theorem dX12_word_41 : decode cX12_word 41 = .ok (.ireturn, 1) := by decide +kernel
theorem dX12_word_42 : decode cX12_word 42 = .ok (.aload_n 0, 1) := by decide +kernel
theorem dX12_word_43 : decode cX12_word 43 = .ok (.getfield 7, 3) := by decide +kernel
theorem dX12_word_46 : decode cX12_word 46 = .ok (.iconst 3, 1) := by decide +kernel
theorem dX12_word_47 : decode cX12_word 47 = .ok (.iaload, 1) := by decide +kernel
theorem dX12_word_48 : decode cX12_word 48 = .ok (.istore 4, 2) := by decide +kernel
theorem dX12_word_50 : decode cX12_word 50 = .ok (.aload_n 0, 1) := by decide +kernel
theorem dX12_word_51 : decode cX12_word 51 = .ok (.getfield 7, 3) := by decide +kernel
theorem dX12_word_54 : decode cX12_word 54 = .ok (.sipush 475, 3) := by decide +kernel
theorem dX12_word_57 : decode cX12_word 57 = .ok (.iload 4, 2) := by decide +kernel
theorem dX12_word_59 : decode cX12_word 59 = .ok (.iadd, 1) := by decide +kernel
theorem dX12_word_60 : decode cX12_word 60 = .ok (.iload_n 1, 1) := by decide +kernel
theorem dX12_word_61 : decode cX12_word 61 = .ok (.iastore, 1) := by decide +kernel
theorem dX12_word_62 : decode cX12_word 62 = .ok (.aload_n 0, 1) := by decide +kernel
theorem dX12_word_63 : decode cX12_word 63 = .ok (.getfield 7, 3) := by decide +kernel
theorem dX12_word_66 : decode cX12_word 66 = .ok (.sipush 483, 3) := by decide +kernel
theorem dX12_word_69 : decode cX12_word 69 = .ok (.iload 4, 2) := by decide +kernel
theorem dX12_word_71 : decode cX12_word 71 = .ok (.iadd, 1) := by decide +kernel
theorem dX12_word_72 : decode cX12_word 72 = .ok (.iload_n 2, 1) := by decide +kernel
theorem dX12_word_73 : decode cX12_word 73 = .ok (.iastore, 1) := by decide +kernel
theorem dX12_word_74 : decode cX12_word 74 = .ok (.iconst 0, 1) := by decide +kernel
theorem dX12_word_75 : decode cX12_word 75 = .ok (.istore 5, 2) := by decide +kernel
theorem dX12_word_77 : decode cX12_word 77 = .ok (.iload 5, 2) := by decide +kernel
theorem dX12_word_79 : decode cX12_word 79 = .ok (.bipush 16, 2) := by decide +kernel
theorem dX12_word_81 : decode cX12_word 81 = .ok (.if_icmp .ge 42, 3) := by decide +kernel
theorem dX12_word_84 : decode cX12_word 84 = .ok (.aload_n 0, 1) := by decide +kernel
theorem dX12_word_85 : decode cX12_word 85 = .ok (.getfield 7, 3) := by decide +kernel
theorem dX12_word_88 : decode cX12_word 88 = .ok (.sipush 491, 3) := by decide +kernel
theorem dX12_word_91 : decode cX12_word 91 = .ok (.bipush 8, 2) := by decide +kernel
theorem dX12_word_93 : decode cX12_word 93 = .ok (.iload 5, 2) := by decide +kernel
theorem dX12_word_95 : decode cX12_word 95 = .ok (.imul, 1) := by decide +kernel
theorem dX12_word_96 : decode cX12_word 96 = .ok (.iadd, 1) := by decide +kernel
theorem dX12_word_97 : decode cX12_word 97 = .ok (.iload 4, 2) := by decide +kernel
theorem dX12_word_99 : decode cX12_word 99 = .ok (.iadd, 1) := by decide +kernel
theorem dX12_word_100 : decode cX12_word 100 = .ok (.iload 5, 2) := by decide +kernel
theorem dX12_word_102 : decode cX12_word 102 = .ok (.iload_n 3, 1) := by decide +kernel
theorem dX12_word_103 : decode cX12_word 103 = .ok (.if_icmp .ne 12, 3) := by decide +kernel
theorem dX12_word_106 : decode cX12_word 106 = .ok (.aload_n 0, 1) := by decide +kernel
theorem dX12_word_107 : decode cX12_word 107 = .ok (.getfield 7, 3) := by decide +kernel
theorem dX12_word_110 : decode cX12_word 110 = .ok (.iconst 0, 1) := by decide +kernel
theorem dX12_word_111 : decode cX12_word 111 = .ok (.iaload, 1) := by decide +kernel
theorem dX12_word_112 : decode cX12_word 112 = .ok (.goto 4, 3) := by decide +kernel
theorem dX12_word_115 : decode cX12_word 115 = .ok (.iconst (-1), 1) := by decide +kernel
theorem dX12_word_116 : decode cX12_word 116 = .ok (.iastore, 1) := by decide +kernel
theorem dX12_word_117 : decode cX12_word 117 = .ok (.iinc 5 1, 3) := by decide +kernel
theorem dX12_word_120 : decode cX12_word 120 = .ok (.goto (-43), 3) := by decide +kernel
theorem dX12_word_123 : decode cX12_word 123 = .ok (.aload_n 0, 1) := by decide +kernel
theorem dX12_word_124 : decode cX12_word 124 = .ok (.getfield 7, 3) := by decide +kernel
theorem dX12_word_127 : decode cX12_word 127 = .ok (.iconst 3, 1) := by decide +kernel
theorem dX12_word_128 : decode cX12_word 128 = .ok (.dup2, 1) := by decide +kernel
theorem dX12_word_129 : decode cX12_word 129 = .ok (.iaload, 1) := by decide +kernel
theorem dX12_word_130 : decode cX12_word 130 = .ok (.iconst 1, 1) := by decide +kernel
theorem dX12_word_131 : decode cX12_word 131 = .ok (.iadd, 1) := by decide +kernel
theorem dX12_word_132 : decode cX12_word 132 = .ok (.iastore, 1) := by decide +kernel
theorem dX12_word_133 : decode cX12_word 133 = .ok (.iload 4, 2) := by decide +kernel
theorem dX12_word_135 : decode cX12_word 135 = .ok (.ireturn, 1) := by decide +kernel
theorem dX12_heard_0 : decode cX12_heard 0 = .ok (.aload_n 0, 1) := by decide +kernel
theorem dX12_heard_1 : decode cX12_heard 1 = .ok (.iload_n 1, 1) := by decide +kernel
theorem dX12_heard_2 : decode cX12_heard 2 = .ok (.invokevirtual 100, 3) := by decide +kernel
theorem dX12_heard_5 : decode cX12_heard 5 = .ok (.ifCond .eq 19, 3) := by decide +kernel
theorem dX12_heard_8 : decode cX12_heard 8 = .ok (.iload_n 2, 1) := by decide +kernel
theorem dX12_heard_9 : decode cX12_heard 9 = .ok (.iconst 0, 1) := by decide +kernel
theorem dX12_heard_10 : decode cX12_heard 10 = .ok (.aload_n 0, 1) := by decide +kernel
theorem dX12_heard_11 : decode cX12_heard 11 = .ok (.getfield 7, 3) := by decide +kernel
theorem dX12_heard_14 : decode cX12_heard 14 = .ok (.iconst 3, 1) := by decide +kernel
theorem dX12_heard_15 : decode cX12_heard 15 = .ok (.iaload, 1) := by decide +kernel
theorem dX12_heard_16 : decode cX12_heard 16 = .ok (.iconst 1, 1) := by decide +kernel
theorem dX12_heard_17 : decode cX12_heard 17 = .ok (.isub, 1) := by decide +kernel
theorem dX12_heard_18 : decode cX12_heard 18 = .ok (.invokestatic 77, 3) := by decide +kernel
theorem dX12_heard_21 : decode cX12_heard 21 = .ok (.ifCond .ne 5, 3) := by decide +kernel
theorem dX12_heard_24 : decode cX12_heard 24 = .ok (.iconst (-1), 1) := by decide +kernel
theorem dX12_heard_25 : decode cX12_heard 25 = .ok (.ireturn, 1) := by decide +kernel
theorem dX12_heard_26 : decode cX12_heard 26 = .ok (.aload_n 0, 1) := by decide +kernel
theorem dX12_heard_27 : decode cX12_heard 27 = .ok (.getfield 7, 3) := by decide +kernel
theorem dX12_heard_30 : decode cX12_heard 30 = .ok (.sipush 491, 3) := by decide +kernel
theorem dX12_heard_33 : decode cX12_heard 33 = .ok (.bipush 8, 2) := by decide +kernel
theorem dX12_heard_35 : decode cX12_heard 35 = .ok (.iload_n 1, 1) := by decide +kernel
theorem dX12_heard_36 : decode cX12_heard 36 = .ok (.imul, 1) := by decide +kernel
theorem dX12_heard_37 : decode cX12_heard 37 = .ok (.iadd, 1) := by decide +kernel
theorem dX12_heard_38 : decode cX12_heard 38 = .ok (.iload_n 2, 1) := by decide +kernel
theorem dX12_heard_39 : decode cX12_heard 39 = .ok (.iadd, 1) := by decide +kernel
theorem dX12_heard_40 : decode cX12_heard 40 = .ok (.iaload, 1) := by decide +kernel
theorem dX12_heard_41 : decode cX12_heard 41 = .ok (.istore_n 3, 1) := by decide +kernel
theorem dX12_heard_42 : decode cX12_heard 42 = .ok (.iload_n 3, 1) := by decide +kernel
theorem dX12_heard_43 : decode cX12_heard 43 = .ok (.ifCond .ge 8, 3) := by decide +kernel
theorem dX12_heard_46 : decode cX12_heard 46 = .ok (.bipush (-3), 2) := by decide +kernel
theorem dX12_heard_48 : decode cX12_heard 48 = .ok (.goto 4, 3) := by decide +kernel
theorem dX12_heard_51 : decode cX12_heard 51 = .ok (.iload_n 3, 1) := by decide +kernel
theorem dX12_heard_52 : decode cX12_heard 52 = .ok (.ireturn, 1) := by decide +kernel
theorem dX12_dreadOf_0 : decode cX12_dreadOf 0 = .ok (.aload_n 0, 1) := by decide +kernel
theorem dX12_dreadOf_1 : decode cX12_dreadOf 1 = .ok (.getfield 7, 3) := by decide +kernel
theorem dX12_dreadOf_4 : decode cX12_dreadOf 4 = .ok (.sipush 219, 3) := by decide +kernel
theorem dX12_dreadOf_7 : decode cX12_dreadOf 7 = .ok (.bipush 16, 2) := by decide +kernel
theorem dX12_dreadOf_9 : decode cX12_dreadOf 9 = .ok (.iload_n 1, 1) := by decide +kernel
theorem dX12_dreadOf_10 : decode cX12_dreadOf 10 = .ok (.imul, 1) := by decide +kernel
theorem dX12_dreadOf_11 : decode cX12_dreadOf 11 = .ok (.iadd, 1) := by decide +kernel
theorem dX12_dreadOf_12 : decode cX12_dreadOf 12 = .ok (.iload_n 2, 1) := by decide +kernel
theorem dX12_dreadOf_13 : decode cX12_dreadOf 13 = .ok (.iadd, 1) := by decide +kernel
theorem dX12_dreadOf_14 : decode cX12_dreadOf 14 = .ok (.iaload, 1) := by decide +kernel
theorem dX12_dreadOf_15 : decode cX12_dreadOf 15 = .ok (.istore 4, 2) := by decide +kernel
theorem dX12_dreadOf_17 : decode cX12_dreadOf 17 = .ok (.iconst 0, 1) := by decide +kernel
theorem dX12_dreadOf_18 : decode cX12_dreadOf 18 = .ok (.istore 5, 2) := by decide +kernel
theorem dX12_dreadOf_20 : decode cX12_dreadOf 20 = .ok (.iload 5, 2) := by decide +kernel
theorem dX12_dreadOf_22 : decode cX12_dreadOf 22 = .ok (.aload_n 0, 1) := by decide +kernel
theorem dX12_dreadOf_23 : decode cX12_dreadOf 23 = .ok (.getfield 7, 3) := by decide +kernel
theorem dX12_dreadOf_26 : decode cX12_dreadOf 26 = .ok (.iconst 3, 1) := by decide +kernel
theorem dX12_dreadOf_27 : decode cX12_dreadOf 27 = .ok (.iaload, 1) := by decide +kernel
theorem dX12_dreadOf_28 : decode cX12_dreadOf 28 = .ok (.if_icmp .ge 55, 3) := by decide +kernel
theorem dX12_dreadOf_31 : decode cX12_dreadOf 31 = .ok (.iload 4, 2) := by decide +kernel
theorem dX12_dreadOf_33 : decode cX12_dreadOf 33 = .ok (.aload_n 0, 1) := by decide +kernel
theorem dX12_dreadOf_34 : decode cX12_dreadOf 34 = .ok (.getfield 7, 3) := by decide +kernel
theorem dX12_dreadOf_37 : decode cX12_dreadOf 37 = .ok (.sipush 475, 3) := by decide +kernel
theorem dX12_dreadOf_40 : decode cX12_dreadOf 40 = .ok (.iload 5, 2) := by decide +kernel
theorem dX12_dreadOf_42 : decode cX12_dreadOf 42 = .ok (.iadd, 1) := by decide +kernel
theorem dX12_dreadOf_43 : decode cX12_dreadOf 43 = .ok (.iaload, 1) := by decide +kernel
theorem dX12_dreadOf_44 : decode cX12_dreadOf 44 = .ok (.iload_n 2, 1) := by decide +kernel
theorem dX12_dreadOf_45 : decode cX12_dreadOf 45 = .ok (.if_icmp .ne 28, 3) := by decide +kernel
theorem dX12_dreadOf_48 : decode cX12_dreadOf 48 = .ok (.aload_n 0, 1) := by decide +kernel
theorem dX12_dreadOf_49 : decode cX12_dreadOf 49 = .ok (.iload_n 1, 1) := by decide +kernel
theorem dX12_dreadOf_50 : decode cX12_dreadOf 50 = .ok (.iload 5, 2) := by decide +kernel
theorem dX12_dreadOf_52 : decode cX12_dreadOf 52 = .ok (.iload_n 3, 1) := by decide +kernel
theorem dX12_dreadOf_53 : decode cX12_dreadOf 53 = .ok (.invokevirtual 84, 3) := by decide +kernel
theorem dX12_dreadOf_56 : decode cX12_dreadOf 56 = .ok (.ifCond .eq 17, 3) := by decide +kernel
theorem dX12_dreadOf_59 : decode cX12_dreadOf 59 = .ok (.aload_n 0, 1) := by decide +kernel
theorem dX12_dreadOf_60 : decode cX12_dreadOf 60 = .ok (.getfield 7, 3) := by decide +kernel
theorem dX12_dreadOf_63 : decode cX12_dreadOf 63 = .ok (.sipush 483, 3) := by decide +kernel
theorem dX12_dreadOf_66 : decode cX12_dreadOf 66 = .ok (.iload 5, 2) := by decide +kernel
theorem dX12_dreadOf_68 : decode cX12_dreadOf 68 = .ok (.iadd, 1) := by decide +kernel
theorem dX12_dreadOf_69 : decode cX12_dreadOf 69 = .ok (.iaload, 1) := by decide +kernel
theorem dX12_dreadOf_70 : decode cX12_dreadOf 70 = .ok (.goto 4, 3) := by decide +kernel
theorem dX12_dreadOf_73 : decode cX12_dreadOf 73 = .ok (.iconst 0, 1) := by decide +kernel
theorem dX12_dreadOf_74 : decode cX12_dreadOf 74 = .ok (.iadd, 1) := by decide +kernel
theorem dX12_dreadOf_75 : decode cX12_dreadOf 75 = .ok (.istore 4, 2) := by decide +kernel
theorem dX12_dreadOf_77 : decode cX12_dreadOf 77 = .ok (.iinc 5 1, 3) := by decide +kernel
theorem dX12_dreadOf_80 : decode cX12_dreadOf 80 = .ok (.goto (-60), 3) := by decide +kernel
theorem dX12_dreadOf_83 : decode cX12_dreadOf 83 = .ok (.iload 4, 2) := by decide +kernel
theorem dX12_dreadOf_85 : decode cX12_dreadOf 85 = .ok (.ifCond .ge 7, 3) := by decide +kernel
theorem dX12_dreadOf_88 : decode cX12_dreadOf 88 = .ok (.iconst 0, 1) := by decide +kernel
theorem dX12_dreadOf_89 : decode cX12_dreadOf 89 = .ok (.goto 17, 3) := by decide +kernel
theorem dX12_dreadOf_92 : decode cX12_dreadOf 92 = .ok (.iload 4, 2) := by decide +kernel
theorem dX12_dreadOf_94 : decode cX12_dreadOf 94 = .ok (.bipush 20, 2) := by decide +kernel
theorem dX12_dreadOf_96 : decode cX12_dreadOf 96 = .ok (.if_icmp .le 8, 3) := by decide +kernel
theorem dX12_dreadOf_99 : decode cX12_dreadOf 99 = .ok (.bipush 20, 2) := by decide +kernel
theorem dX12_dreadOf_101 : decode cX12_dreadOf 101 = .ok (.goto 5, 3) := by decide +kernel
theorem dX12_dreadOf_104 : decode cX12_dreadOf 104 = .ok (.iload 4, 2) := by decide +kernel
theorem dX12_dreadOf_106 : decode cX12_dreadOf 106 = .ok (.ireturn, 1) := by decide +kernel
theorem dX12_dread_0 : decode cX12_dread 0 = .ok (.aload_n 0, 1) := by decide +kernel
theorem dX12_dread_1 : decode cX12_dread 1 = .ok (.iload_n 1, 1) := by decide +kernel
theorem dX12_dread_2 : decode cX12_dread 2 = .ok (.invokevirtual 100, 3) := by decide +kernel
theorem dX12_dread_5 : decode cX12_dread 5 = .ok (.ifCond .eq 23, 3) := by decide +kernel
theorem dX12_dread_8 : decode cX12_dread 8 = .ok (.aload_n 0, 1) := by decide +kernel
theorem dX12_dread_9 : decode cX12_dread 9 = .ok (.iload_n 2, 1) := by decide +kernel
theorem dX12_dread_10 : decode cX12_dread 10 = .ok (.invokevirtual 100, 3) := by decide +kernel
theorem dX12_dread_13 : decode cX12_dread 13 = .ok (.ifCond .eq 15, 3) := by decide +kernel
theorem dX12_dread_16 : decode cX12_dread 16 = .ok (.iload_n 1, 1) := by decide +kernel
theorem dX12_dread_17 : decode cX12_dread 17 = .ok (.iload_n 2, 1) := by decide +kernel
theorem dX12_dread_18 : decode cX12_dread 18 = .ok (.if_icmp .eq 10, 3) := by decide +kernel
theorem dX12_dread_21 : decode cX12_dread 21 = .ok (.iload_n 3, 1) := by decide +kernel
theorem dX12_dread_22 : decode cX12_dread 22 = .ok (.invokestatic 87, 3) := by decide +kernel
theorem dX12_dread_25 : decode cX12_dread 25 = .ok (.ifCond .ne 5, 3) := by decide +kernel
theorem dX12_dread_28 : decode cX12_dread 28 = .ok (.iconst (-1), 1) := by decide +kernel
theorem dX12_dread_29 : decode cX12_dread 29 = .ok (.ireturn, 1) := by decide +kernel
theorem dX12_dread_30 : decode cX12_dread 30 = .ok (.aload_n 0, 1) := by decide +kernel
theorem dX12_dread_31 : decode cX12_dread 31 = .ok (.iload_n 1, 1) := by decide +kernel
theorem dX12_dread_32 : decode cX12_dread 32 = .ok (.iload_n 2, 1) := by decide +kernel
theorem dX12_dread_33 : decode cX12_dread 33 = .ok (.iload_n 3, 1) := by decide +kernel
theorem dX12_dread_34 : decode cX12_dread 34 = .ok (.invokevirtual 103, 3) := by decide +kernel
theorem dX12_dread_37 : decode cX12_dread 37 = .ok (.ireturn, 1) := by decide +kernel
theorem dX12_rule_0 : decode cX12_rule 0 = .ok (.iload_n 1, 1) := by decide +kernel
theorem dX12_rule_1 : decode cX12_rule 1 = .ok (.iconst 0, 1) := by decide +kernel
theorem dX12_rule_2 : decode cX12_rule 2 = .ok (.iconst 3, 1) := by decide +kernel
theorem dX12_rule_3 : decode cX12_rule 3 = .ok (.invokestatic 77, 3) := by decide +kernel
theorem dX12_rule_6 : decode cX12_rule 6 = .ok (.ifCond .eq 33, 3) := by decide +kernel
theorem dX12_rule_9 : decode cX12_rule 9 = .ok (.iload_n 2, 1) := by decide +kernel
theorem dX12_rule_10 : decode cX12_rule 10 = .ok (.iconst 0, 1) := by decide +kernel
theorem dX12_rule_11 : decode cX12_rule 11 = .ok (.iload_n 1, 1) := by decide +kernel
theorem dX12_rule_12 : decode cX12_rule 12 = .ok (.ifCond .ne 9, 3) := by decide +kernel
theorem dX12_rule_15 : decode cX12_rule 15 = .ok (.sipush 1200, 3) := by decide +kernel
theorem dX12_rule_18 : decode cX12_rule 18 = .ok (.goto 15, 3) := by decide +kernel
theorem dX12_rule_21 : decode cX12_rule 21 = .ok (.iload_n 1, 1) := by decide +kernel
theorem dX12_rule_22 : decode cX12_rule 22 = .ok (.iconst 3, 1) := by decide +kernel
theorem dX12_rule_23 : decode cX12_rule 23 = .ok (.if_icmp .ne 8, 3) := by decide +kernel
theorem dX12_rule_26 : decode cX12_rule 26 = .ok (.bipush 36, 2) := by decide +kernel
theorem dX12_rule_28 : decode cX12_rule 28 = .ok (.goto 5, 3) := by decide +kernel
theorem dX12_rule_31 : decode cX12_rule 31 = .ok (.bipush 20, 2) := by decide +kernel
theorem dX12_rule_33 : decode cX12_rule 33 = .ok (.invokestatic 77, 3) := by decide +kernel
theorem dX12_rule_36 : decode cX12_rule 36 = .ok (.ifCond .ne 5, 3) := by decide +kernel
theorem dX12_rule_39 : decode cX12_rule 39 = .ok (.iconst (-1), 1) := by decide +kernel
theorem dX12_rule_40 : decode cX12_rule 40 = .ok (.ireturn, 1) := by decide +kernel
theorem dX12_rule_41 : decode cX12_rule 41 = .ok (.aload_n 0, 1) := by decide +kernel
theorem dX12_rule_42 : decode cX12_rule 42 = .ok (.getfield 7, 3) := by decide +kernel
theorem dX12_rule_45 : decode cX12_rule 45 = .ok (.bipush 9, 2) := by decide +kernel
theorem dX12_rule_47 : decode cX12_rule 47 = .ok (.iload_n 1, 1) := by decide +kernel
theorem dX12_rule_48 : decode cX12_rule 48 = .ok (.iadd, 1) := by decide +kernel
theorem dX12_rule_49 : decode cX12_rule 49 = .ok (.iaload, 1) := by decide +kernel
theorem dX12_rule_50 : decode cX12_rule 50 = .ok (.istore_n 3, 1) := by decide +kernel
theorem dX12_rule_51 : decode cX12_rule 51 = .ok (.aload_n 0, 1) := by decide +kernel
theorem dX12_rule_52 : decode cX12_rule 52 = .ok (.getfield 7, 3) := by decide +kernel
theorem dX12_rule_55 : decode cX12_rule 55 = .ok (.bipush 9, 2) := by decide +kernel
theorem dX12_rule_57 : decode cX12_rule 57 = .ok (.iload_n 1, 1) := by decide +kernel
theorem dX12_rule_58 : decode cX12_rule 58 = .ok (.iadd, 1) := by decide +kernel
theorem dX12_rule_59 : decode cX12_rule 59 = .ok (.iload_n 2, 1) := by decide +kernel
theorem dX12_rule_60 : decode cX12_rule 60 = .ok (.iastore, 1) := by decide +kernel
theorem dX12_rule_61 : decode cX12_rule 61 = .ok (.iload_n 3, 1) := by decide +kernel
theorem dX12_rule_62 : decode cX12_rule 62 = .ok (.ireturn, 1) := by decide +kernel
theorem dX12_of_0 : decode cX12_of 0 = .ok (.aload_n 0, 1) := by decide +kernel
theorem dX12_of_1 : decode cX12_of 1 = .ok (.iload_n 1, 1) := by decide +kernel
theorem dX12_of_2 : decode cX12_of 2 = .ok (.invokevirtual 100, 3) := by decide +kernel
theorem dX12_of_5 : decode cX12_of 5 = .ok (.ifCond .eq 13, 3) := by decide +kernel
theorem dX12_of_8 : decode cX12_of 8 = .ok (.iload_n 2, 1) := by decide +kernel
theorem dX12_of_9 : decode cX12_of 9 = .ok (.iconst 0, 1) := by decide +kernel
theorem dX12_of_10 : decode cX12_of 10 = .ok (.bipush 7, 2) := by decide +kernel
theorem dX12_of_12 : decode cX12_of 12 = .ok (.invokestatic 77, 3) := by decide +kernel
theorem dX12_of_15 : decode cX12_of 15 = .ok (.ifCond .ne 5, 3) := by decide +kernel
theorem dX12_of_18 : decode cX12_of 18 = .ok (.iconst (-1), 1) := by decide +kernel
theorem dX12_of_19 : decode cX12_of 19 = .ok (.ireturn, 1) := by decide +kernel
theorem dX12_of_20 : decode cX12_of 20 = .ok (.iload_n 2, 1) := by decide +kernel
theorem dX12_of_21 : decode cX12_of 21 = .ok (.tableswitch 169 0 6 #[43, 53, 80, 90, 100, 111, 140], 43) := by decide +kernel
theorem dX12_of_64 : decode cX12_of 64 = .ok (.aload_n 0, 1) := by decide +kernel
theorem dX12_of_65 : decode cX12_of 65 = .ok (.getfield 7, 3) := by decide +kernel
theorem dX12_of_68 : decode cX12_of 68 = .ok (.bipush 75, 2) := by decide +kernel
theorem dX12_of_70 : decode cX12_of 70 = .ok (.iload_n 1, 1) := by decide +kernel
theorem dX12_of_71 : decode cX12_of 71 = .ok (.iadd, 1) := by decide +kernel
theorem dX12_of_72 : decode cX12_of 72 = .ok (.iaload, 1) := by decide +kernel
theorem dX12_of_73 : decode cX12_of 73 = .ok (.ireturn, 1) := by decide +kernel
theorem dX12_of_74 : decode cX12_of 74 = .ok (.aload_n 0, 1) := by decide +kernel
theorem dX12_of_75 : decode cX12_of 75 = .ok (.getfield 7, 3) := by decide +kernel
theorem dX12_of_78 : decode cX12_of 78 = .ok (.bipush 91, 2) := by decide +kernel
theorem dX12_of_80 : decode cX12_of 80 = .ok (.iload_n 1, 1) := by decide +kernel
theorem dX12_of_81 : decode cX12_of 81 = .ok (.iadd, 1) := by decide +kernel
theorem dX12_of_82 : decode cX12_of 82 = .ok (.iaload, 1) := by decide +kernel
theorem dX12_of_83 : decode cX12_of 83 = .ok (.ifCond .ge 8, 3) := by decide +kernel
theorem dX12_of_86 : decode cX12_of 86 = .ok (.bipush (-3), 2) := by decide +kernel
theorem dX12_of_88 : decode cX12_of 88 = .ok (.goto 12, 3) := by decide +kernel
theorem dX12_of_91 : decode cX12_of 91 = .ok (.aload_n 0, 1) := by decide +kernel
theorem dX12_of_92 : decode cX12_of 92 = .ok (.getfield 7, 3) := by decide +kernel
theorem dX12_of_95 : decode cX12_of 95 = .ok (.bipush 91, 2) := by decide +kernel
theorem dX12_of_97 : decode cX12_of 97 = .ok (.iload_n 1, 1) := by decide +kernel
theorem dX12_of_98 : decode cX12_of 98 = .ok (.iadd, 1) := by decide +kernel
theorem dX12_of_99 : decode cX12_of 99 = .ok (.iaload, 1) := by decide +kernel
theorem dX12_of_100 : decode cX12_of 100 = .ok (.ireturn, 1) := by decide +kernel
theorem dX12_of_101 : decode cX12_of 101 = .ok (.aload_n 0, 1) := by decide +kernel
theorem dX12_of_102 : decode cX12_of 102 = .ok (.getfield 7, 3) := by decide +kernel
theorem dX12_of_105 : decode cX12_of 105 = .ok (.bipush 107, 2) := by decide +kernel
theorem dX12_of_107 : decode cX12_of 107 = .ok (.iload_n 1, 1) := by decide +kernel
theorem dX12_of_108 : decode cX12_of 108 = .ok (.iadd, 1) := by decide +kernel
theorem dX12_of_109 : decode cX12_of 109 = .ok (.iaload, 1) := by decide +kernel
theorem dX12_of_110 : decode cX12_of 110 = .ok (.ireturn, 1) := by decide +kernel
theorem dX12_of_111 : decode cX12_of 111 = .ok (.aload_n 0, 1) := by decide +kernel
theorem dX12_of_112 : decode cX12_of 112 = .ok (.getfield 7, 3) := by decide +kernel
theorem dX12_of_115 : decode cX12_of 115 = .ok (.bipush 123, 2) := by decide +kernel
theorem dX12_of_117 : decode cX12_of 117 = .ok (.iload_n 1, 1) := by decide +kernel
theorem dX12_of_118 : decode cX12_of 118 = .ok (.iadd, 1) := by decide +kernel
theorem dX12_of_119 : decode cX12_of 119 = .ok (.iaload, 1) := by decide +kernel
theorem dX12_of_120 : decode cX12_of 120 = .ok (.ireturn, 1) := by decide +kernel
theorem dX12_of_121 : decode cX12_of 121 = .ok (.aload_n 0, 1) := by decide +kernel
theorem dX12_of_122 : decode cX12_of 122 = .ok (.getfield 7, 3) := by decide +kernel
theorem dX12_of_125 : decode cX12_of 125 = .ok (.sipush 139, 3) := by decide +kernel
theorem dX12_of_128 : decode cX12_of 128 = .ok (.iload_n 1, 1) := by decide +kernel
theorem dX12_of_129 : decode cX12_of 129 = .ok (.iadd, 1) := by decide +kernel
theorem dX12_of_130 : decode cX12_of 130 = .ok (.iaload, 1) := by decide +kernel
theorem dX12_of_131 : decode cX12_of 131 = .ok (.ireturn, 1) := by decide +kernel
theorem dX12_of_132 : decode cX12_of 132 = .ok (.aload_n 0, 1) := by decide +kernel
theorem dX12_of_133 : decode cX12_of 133 = .ok (.getfield 7, 3) := by decide +kernel
theorem dX12_of_136 : decode cX12_of 136 = .ok (.sipush 171, 3) := by decide +kernel
theorem dX12_of_139 : decode cX12_of 139 = .ok (.iload_n 1, 1) := by decide +kernel
theorem dX12_of_140 : decode cX12_of 140 = .ok (.iadd, 1) := by decide +kernel
theorem dX12_of_141 : decode cX12_of 141 = .ok (.iaload, 1) := by decide +kernel
theorem dX12_of_142 : decode cX12_of 142 = .ok (.ifCond .ge 8, 3) := by decide +kernel
theorem dX12_of_145 : decode cX12_of 145 = .ok (.bipush (-3), 2) := by decide +kernel
theorem dX12_of_147 : decode cX12_of 147 = .ok (.goto 13, 3) := by decide +kernel
theorem dX12_of_150 : decode cX12_of 150 = .ok (.aload_n 0, 1) := by decide +kernel
theorem dX12_of_151 : decode cX12_of 151 = .ok (.getfield 7, 3) := by decide +kernel
theorem dX12_of_154 : decode cX12_of 154 = .ok (.sipush 171, 3) := by decide +kernel
theorem dX12_of_157 : decode cX12_of 157 = .ok (.iload_n 1, 1) := by decide +kernel
theorem dX12_of_158 : decode cX12_of 158 = .ok (.iadd, 1) := by decide +kernel
theorem dX12_of_159 : decode cX12_of 159 = .ok (.iaload, 1) := by decide +kernel
theorem dX12_of_160 : decode cX12_of 160 = .ok (.ireturn, 1) := by decide +kernel
theorem dX12_of_161 : decode cX12_of 161 = .ok (.aload_n 0, 1) := by decide +kernel
theorem dX12_of_162 : decode cX12_of 162 = .ok (.getfield 7, 3) := by decide +kernel
theorem dX12_of_165 : decode cX12_of 165 = .ok (.sipush 171, 3) := by decide +kernel
theorem dX12_of_168 : decode cX12_of 168 = .ok (.iload_n 1, 1) := by decide +kernel
theorem dX12_of_169 : decode cX12_of 169 = .ok (.iadd, 1) := by decide +kernel
theorem dX12_of_170 : decode cX12_of 170 = .ok (.iaload, 1) := by decide +kernel
theorem dX12_of_171 : decode cX12_of 171 = .ok (.ifCond .ge 8, 3) := by decide +kernel
theorem dX12_of_174 : decode cX12_of 174 = .ok (.bipush (-3), 2) := by decide +kernel
theorem dX12_of_176 : decode cX12_of 176 = .ok (.goto 13, 3) := by decide +kernel
theorem dX12_of_179 : decode cX12_of 179 = .ok (.aload_n 0, 1) := by decide +kernel
theorem dX12_of_180 : decode cX12_of 180 = .ok (.getfield 7, 3) := by decide +kernel
theorem dX12_of_183 : decode cX12_of 183 = .ok (.sipush 187, 3) := by decide +kernel
theorem dX12_of_186 : decode cX12_of 186 = .ok (.iload_n 1, 1) := by decide +kernel
theorem dX12_of_187 : decode cX12_of 187 = .ok (.iadd, 1) := by decide +kernel
theorem dX12_of_188 : decode cX12_of 188 = .ok (.iaload, 1) := by decide +kernel
theorem dX12_of_189 : decode cX12_of 189 = .ok (.ireturn, 1) := by decide +kernel
theorem dX12_of_190 : decode cX12_of 190 = .ok (.aload_n 0, 1) := by decide +kernel
theorem dX12_of_191 : decode cX12_of 191 = .ok (.getfield 7, 3) := by decide +kernel
theorem dX12_of_194 : decode cX12_of 194 = .ok (.sipush 203, 3) := by decide +kernel
theorem dX12_of_197 : decode cX12_of 197 = .ok (.iload_n 1, 1) := by decide +kernel
theorem dX12_of_198 : decode cX12_of 198 = .ok (.iadd, 1) := by decide +kernel
theorem dX12_of_199 : decode cX12_of 199 = .ok (.iaload, 1) := by decide +kernel
theorem dX12_of_200 : decode cX12_of 200 = .ok (.ireturn, 1) := by decide +kernel
theorem dX12_bargain_0 : decode cX12_bargain 0 = .ok (.iload_n 1, 1) := by decide +kernel
theorem dX12_bargain_1 : decode cX12_bargain 1 = .ok (.invokestatic 107, 3) := by decide +kernel
theorem dX12_bargain_4 : decode cX12_bargain 4 = .ok (.ifCond .eq 30, 3) := by decide +kernel
theorem dX12_bargain_7 : decode cX12_bargain 7 = .ok (.aload_n 0, 1) := by decide +kernel
theorem dX12_bargain_8 : decode cX12_bargain 8 = .ok (.iload_n 2, 1) := by decide +kernel
theorem dX12_bargain_9 : decode cX12_bargain 9 = .ok (.invokevirtual 100, 3) := by decide +kernel
theorem dX12_bargain_12 : decode cX12_bargain 12 = .ok (.ifCond .eq 22, 3) := by decide +kernel
theorem dX12_bargain_15 : decode cX12_bargain 15 = .ok (.iload_n 3, 1) := by decide +kernel
theorem dX12_bargain_16 : decode cX12_bargain 16 = .ok (.invokestatic 87, 3) := by decide +kernel
theorem dX12_bargain_19 : decode cX12_bargain 19 = .ok (.ifCond .eq 15, 3) := by decide +kernel
theorem dX12_bargain_22 : decode cX12_bargain 22 = .ok (.iload 4, 2) := by decide +kernel
theorem dX12_bargain_24 : decode cX12_bargain 24 = .ok (.iload_n 3, 1) := by decide +kernel
theorem dX12_bargain_25 : decode cX12_bargain 25 = .ok (.sipush 9999, 3) := by decide +kernel
theorem dX12_bargain_28 : decode cX12_bargain 28 = .ok (.invokestatic 77, 3) := by decide +kernel
theorem dX12_bargain_31 : decode cX12_bargain 31 = .ok (.ifCond .ne 5, 3) := by decide +kernel
theorem dX12_bargain_34 : decode cX12_bargain 34 = .ok (.iconst (-1), 1) := by decide +kernel
theorem dX12_bargain_35 : decode cX12_bargain 35 = .ok (.ireturn, 1) := by decide +kernel
theorem dX12_bargain_36 : decode cX12_bargain 36 = .ok (.aload_n 0, 1) := by decide +kernel
theorem dX12_bargain_37 : decode cX12_bargain 37 = .ok (.getfield 7, 3) := by decide +kernel
theorem dX12_bargain_40 : decode cX12_bargain 40 = .ok (.iconst 4, 1) := by decide +kernel
theorem dX12_bargain_41 : decode cX12_bargain 41 = .ok (.iaload, 1) := by decide +kernel
theorem dX12_bargain_42 : decode cX12_bargain 42 = .ok (.bipush 8, 2) := by decide +kernel
theorem dX12_bargain_44 : decode cX12_bargain 44 = .ok (.if_icmp .ne 6, 3) := by decide +kernel
theorem dX12_bargain_47 : decode cX12_bargain 47 = .ok (.bipush (-2), 2) := by decide +kernel
theorem dX12_bargain_49 : decode cX12_bargain 49 = .ok (.ireturn, 1) := by decide +kernel
theorem dX12_bargain_50 : decode cX12_bargain 50 = .ok (.aload_n 0, 1) := by decide +kernel
theorem dX12_bargain_51 : decode cX12_bargain 51 = .ok (.getfield 7, 3) := by decide +kernel
theorem dX12_bargain_54 : decode cX12_bargain 54 = .ok (.iconst 4, 1) := by decide +kernel
theorem dX12_bargain_55 : decode cX12_bargain 55 = .ok (.iaload, 1) := by decide +kernel
theorem dX12_bargain_56 : decode cX12_bargain 56 = .ok (.istore 5, 2) := by decide +kernel
theorem dX12_bargain_58 : decode cX12_bargain 58 = .ok (.aload_n 0, 1) := by decide +kernel
theorem dX12_bargain_59 : decode cX12_bargain 59 = .ok (.getfield 7, 3) := by decide +kernel
theorem dX12_bargain_62 : decode cX12_bargain 62 = .ok (.sipush 619, 3) := by decide +kernel
theorem dX12_bargain_65 : decode cX12_bargain 65 = .ok (.iload 5, 2) := by decide +kernel
theorem dX12_bargain_67 : decode cX12_bargain 67 = .ok (.iadd, 1) := by decide +kernel
theorem dX12_bargain_68 : decode cX12_bargain 68 = .ok (.iload_n 1, 1) := by decide +kernel
theorem dX12_bargain_69 : decode cX12_bargain 69 = .ok (.iastore, 1) := by decide +kernel
theorem dX12_bargain_70 : decode cX12_bargain 70 = .ok (.aload_n 0, 1) := by decide +kernel
theorem dX12_bargain_71 : decode cX12_bargain 71 = .ok (.getfield 7, 3) := by decide +kernel
theorem dX12_bargain_74 : decode cX12_bargain 74 = .ok (.sipush 627, 3) := by decide +kernel
theorem dX12_bargain_77 : decode cX12_bargain 77 = .ok (.iload 5, 2) := by decide +kernel
theorem dX12_bargain_79 : decode cX12_bargain 79 = .ok (.iadd, 1) := by decide +kernel
theorem dX12_bargain_80 : decode cX12_bargain 80 = .ok (.iload_n 2, 1) := by decide +kernel
theorem dX12_bargain_81 : decode cX12_bargain 81 = .ok (.iastore, 1) := by decide +kernel
theorem dX12_bargain_82 : decode cX12_bargain 82 = .ok (.aload_n 0, 1) := by decide +kernel
theorem dX12_bargain_83 : decode cX12_bargain 83 = .ok (.getfield 7, 3) := by decide +kernel
theorem dX12_bargain_86 : decode cX12_bargain 86 = .ok (.sipush 635, 3) := by decide +kernel
theorem dX12_bargain_89 : decode cX12_bargain 89 = .ok (.iload 5, 2) := by decide +kernel
theorem dX12_bargain_91 : decode cX12_bargain 91 = .ok (.iadd, 1) := by decide +kernel
theorem dX12_bargain_92 : decode cX12_bargain 92 = .ok (.iload_n 3, 1) := by decide +kernel
theorem dX12_bargain_93 : decode cX12_bargain 93 = .ok (.iastore, 1) := by decide +kernel
theorem dX12_bargain_94 : decode cX12_bargain 94 = .ok (.aload_n 0, 1) := by decide +kernel
theorem dX12_bargain_95 : decode cX12_bargain 95 = .ok (.getfield 7, 3) := by decide +kernel
theorem dX12_bargain_98 : decode cX12_bargain 98 = .ok (.sipush 643, 3) := by decide +kernel
theorem dX12_bargain_101 : decode cX12_bargain 101 = .ok (.iload 5, 2) := by decide +kernel
theorem dX12_bargain_103 : decode cX12_bargain 103 = .ok (.iadd, 1) := by decide +kernel
theorem dX12_bargain_104 : decode cX12_bargain 104 = .ok (.iload 4, 2) := by decide +kernel
theorem dX12_bargain_106 : decode cX12_bargain 106 = .ok (.iastore, 1) := by decide +kernel
theorem dX12_bargain_107 : decode cX12_bargain 107 = .ok (.aload_n 0, 1) := by decide +kernel
theorem dX12_bargain_108 : decode cX12_bargain 108 = .ok (.getfield 7, 3) := by decide +kernel
theorem dX12_bargain_111 : decode cX12_bargain 111 = .ok (.iconst 4, 1) := by decide +kernel
theorem dX12_bargain_112 : decode cX12_bargain 112 = .ok (.dup2, 1) := by decide +kernel
theorem dX12_bargain_113 : decode cX12_bargain 113 = .ok (.iaload, 1) := by decide +kernel
theorem dX12_bargain_114 : decode cX12_bargain 114 = .ok (.iconst 1, 1) := by decide +kernel
theorem dX12_bargain_115 : decode cX12_bargain 115 = .ok (.iadd, 1) := by decide +kernel
theorem dX12_bargain_116 : decode cX12_bargain 116 = .ok (.iastore, 1) := by decide +kernel
theorem dX12_bargain_117 : decode cX12_bargain 117 = .ok (.iload 5, 2) := by decide +kernel
theorem dX12_bargain_119 : decode cX12_bargain 119 = .ok (.ireturn, 1) := by decide +kernel
theorem dX12_boundTo_0 : decode cX12_boundTo 0 = .ok (.iconst (-1), 1) := by decide +kernel
theorem dX12_boundTo_1 : decode cX12_boundTo 1 = .ok (.istore_n 3, 1) := by decide +kernel
theorem dX12_boundTo_2 : decode cX12_boundTo 2 = .ok (.iconst 0, 1) := by decide +kernel
theorem dX12_boundTo_3 : decode cX12_boundTo 3 = .ok (.istore 4, 2) := by decide +kernel
theorem dX12_boundTo_5 : decode cX12_boundTo 5 = .ok (.iload 4, 2) := by decide +kernel
theorem dX12_boundTo_7 : decode cX12_boundTo 7 = .ok (.aload_n 0, 1) := by decide +kernel
theorem dX12_boundTo_8 : decode cX12_boundTo 8 = .ok (.getfield 7, 3) := by decide +kernel
theorem dX12_boundTo_11 : decode cX12_boundTo 11 = .ok (.iconst 4, 1) := by decide +kernel
theorem dX12_boundTo_12 : decode cX12_boundTo 12 = .ok (.iaload, 1) := by decide +kernel
theorem dX12_boundTo_13 : decode cX12_boundTo 13 = .ok (.if_icmp .ge 69, 3) := by decide +kernel
theorem dX12_boundTo_16 : decode cX12_boundTo 16 = .ok (.aload_n 0, 1) := by decide +kernel
theorem dX12_boundTo_17 : decode cX12_boundTo 17 = .ok (.getfield 7, 3) := by decide +kernel
theorem dX12_boundTo_20 : decode cX12_boundTo 20 = .ok (.sipush 619, 3) := by decide +kernel
theorem dX12_boundTo_23 : decode cX12_boundTo 23 = .ok (.iload 4, 2) := by decide +kernel
theorem dX12_boundTo_25 : decode cX12_boundTo 25 = .ok (.iadd, 1) := by decide +kernel
theorem dX12_boundTo_26 : decode cX12_boundTo 26 = .ok (.iaload, 1) := by decide +kernel
theorem dX12_boundTo_27 : decode cX12_boundTo 27 = .ok (.iload_n 1, 1) := by decide +kernel
theorem dX12_boundTo_28 : decode cX12_boundTo 28 = .ok (.if_icmp .ne 46, 3) := by decide +kernel
theorem dX12_boundTo_31 : decode cX12_boundTo 31 = .ok (.iload_n 2, 1) := by decide +kernel
theorem dX12_boundTo_32 : decode cX12_boundTo 32 = .ok (.aload_n 0, 1) := by decide +kernel
theorem dX12_boundTo_33 : decode cX12_boundTo 33 = .ok (.getfield 7, 3) := by decide +kernel
theorem dX12_boundTo_36 : decode cX12_boundTo 36 = .ok (.sipush 635, 3) := by decide +kernel
theorem dX12_boundTo_39 : decode cX12_boundTo 39 = .ok (.iload 4, 2) := by decide +kernel
theorem dX12_boundTo_41 : decode cX12_boundTo 41 = .ok (.iadd, 1) := by decide +kernel
theorem dX12_boundTo_42 : decode cX12_boundTo 42 = .ok (.iaload, 1) := by decide +kernel
theorem dX12_boundTo_43 : decode cX12_boundTo 43 = .ok (.aload_n 0, 1) := by decide +kernel
theorem dX12_boundTo_44 : decode cX12_boundTo 44 = .ok (.getfield 7, 3) := by decide +kernel
theorem dX12_boundTo_47 : decode cX12_boundTo 47 = .ok (.sipush 643, 3) := by decide +kernel
theorem dX12_boundTo_50 : decode cX12_boundTo 50 = .ok (.iload 4, 2) := by decide +kernel
theorem dX12_boundTo_52 : decode cX12_boundTo 52 = .ok (.iadd, 1) := by decide +kernel
theorem dX12_boundTo_53 : decode cX12_boundTo 53 = .ok (.iaload, 1) := by decide +kernel
theorem dX12_boundTo_54 : decode cX12_boundTo 54 = .ok (.invokestatic 77, 3) := by decide +kernel
theorem dX12_boundTo_57 : decode cX12_boundTo 57 = .ok (.ifCond .eq 17, 3) := by decide +kernel
theorem dX12_boundTo_60 : decode cX12_boundTo 60 = .ok (.aload_n 0, 1) := by decide +kernel
theorem dX12_boundTo_61 : decode cX12_boundTo 61 = .ok (.getfield 7, 3) := by decide +kernel
theorem dX12_boundTo_64 : decode cX12_boundTo 64 = .ok (.sipush 627, 3) := by decide +kernel
theorem dX12_boundTo_67 : decode cX12_boundTo 67 = .ok (.iload 4, 2) := by decide +kernel
theorem dX12_boundTo_69 : decode cX12_boundTo 69 = .ok (.iadd, 1) := by decide +kernel
theorem dX12_boundTo_70 : decode cX12_boundTo 70 = .ok (.iaload, 1) := by decide +kernel
theorem dX12_boundTo_71 : decode cX12_boundTo 71 = .ok (.goto 4, 3) := by decide +kernel
theorem dX12_boundTo_74 : decode cX12_boundTo 74 = .ok (.iload_n 3, 1) := by decide +kernel
theorem dX12_boundTo_75 : decode cX12_boundTo 75 = .ok (.istore_n 3, 1) := by decide +kernel
theorem dX12_boundTo_76 : decode cX12_boundTo 76 = .ok (.iinc 4 1, 3) := by decide +kernel
theorem dX12_boundTo_79 : decode cX12_boundTo 79 = .ok (.goto (-74), 3) := by decide +kernel
theorem dX12_boundTo_82 : decode cX12_boundTo 82 = .ok (.iload_n 3, 1) := by decide +kernel
theorem dX12_boundTo_83 : decode cX12_boundTo 83 = .ok (.ireturn, 1) := by decide +kernel
theorem dX12_bound_0 : decode cX12_bound 0 = .ok (.iload_n 1, 1) := by decide +kernel
theorem dX12_bound_1 : decode cX12_bound 1 = .ok (.invokestatic 107, 3) := by decide +kernel
theorem dX12_bound_4 : decode cX12_bound 4 = .ok (.ifCond .eq 10, 3) := by decide +kernel
theorem dX12_bound_7 : decode cX12_bound 7 = .ok (.iload_n 2, 1) := by decide +kernel
theorem dX12_bound_8 : decode cX12_bound 8 = .ok (.invokestatic 87, 3) := by decide +kernel
theorem dX12_bound_11 : decode cX12_bound 11 = .ok (.ifCond .ne 5, 3) := by decide +kernel
theorem dX12_bound_14 : decode cX12_bound 14 = .ok (.iconst (-1), 1) := by decide +kernel
theorem dX12_bound_15 : decode cX12_bound 15 = .ok (.ireturn, 1) := by decide +kernel
theorem dX12_bound_16 : decode cX12_bound 16 = .ok (.aload_n 0, 1) := by decide +kernel
theorem dX12_bound_17 : decode cX12_bound 17 = .ok (.iload_n 1, 1) := by decide +kernel
theorem dX12_bound_18 : decode cX12_bound 18 = .ok (.iload_n 2, 1) := by decide +kernel
theorem dX12_bound_19 : decode cX12_bound 19 = .ok (.invokevirtual 110, 3) := by decide +kernel
theorem dX12_bound_22 : decode cX12_bound 22 = .ok (.istore_n 3, 1) := by decide +kernel
theorem dX12_bound_23 : decode cX12_bound 23 = .ok (.iload_n 3, 1) := by decide +kernel
theorem dX12_bound_24 : decode cX12_bound 24 = .ok (.ifCond .ge 8, 3) := by decide +kernel
theorem dX12_bound_27 : decode cX12_bound 27 = .ok (.bipush (-3), 2) := by decide +kernel
theorem dX12_bound_29 : decode cX12_bound 29 = .ok (.goto 4, 3) := by decide +kernel
theorem dX12_bound_32 : decode cX12_bound 32 = .ok (.iload_n 3, 1) := by decide +kernel
theorem dX12_bound_33 : decode cX12_bound 33 = .ok (.ireturn, 1) := by decide +kernel
theorem dX12_isSent_0 : decode cX12_isSent 0 = .ok (.aload_n 0, 1) := by decide +kernel
theorem dX12_isSent_1 : decode cX12_isSent 1 = .ok (.getfield 7, 3) := by decide +kernel
theorem dX12_isSent_4 : decode cX12_isSent 4 = .ok (.sipush 171, 3) := by decide +kernel
theorem dX12_isSent_7 : decode cX12_isSent 7 = .ok (.iload_n 1, 1) := by decide +kernel
theorem dX12_isSent_8 : decode cX12_isSent 8 = .ok (.iadd, 1) := by decide +kernel
theorem dX12_isSent_9 : decode cX12_isSent 9 = .ok (.iaload, 1) := by decide +kernel
theorem dX12_isSent_10 : decode cX12_isSent 10 = .ok (.ifCond .lt 34, 3) := by decide +kernel
theorem dX12_isSent_13 : decode cX12_isSent 13 = .ok (.iload_n 2, 1) := by decide +kernel
theorem dX12_isSent_14 : decode cX12_isSent 14 = .ok (.aload_n 0, 1) := by decide +kernel
theorem dX12_isSent_15 : decode cX12_isSent 15 = .ok (.getfield 7, 3) := by decide +kernel
theorem dX12_isSent_18 : decode cX12_isSent 18 = .ok (.sipush 171, 3) := by decide +kernel
theorem dX12_isSent_21 : decode cX12_isSent 21 = .ok (.iload_n 1, 1) := by decide +kernel
theorem dX12_isSent_22 : decode cX12_isSent 22 = .ok (.iadd, 1) := by decide +kernel
theorem dX12_isSent_23 : decode cX12_isSent 23 = .ok (.iaload, 1) := by decide +kernel
theorem dX12_isSent_24 : decode cX12_isSent 24 = .ok (.aload_n 0, 1) := by decide +kernel
theorem dX12_isSent_25 : decode cX12_isSent 25 = .ok (.getfield 7, 3) := by decide +kernel
theorem dX12_isSent_28 : decode cX12_isSent 28 = .ok (.sipush 187, 3) := by decide +kernel
theorem dX12_isSent_31 : decode cX12_isSent 31 = .ok (.iload_n 1, 1) := by decide +kernel
theorem dX12_isSent_32 : decode cX12_isSent 32 = .ok (.iadd, 1) := by decide +kernel
theorem dX12_isSent_33 : decode cX12_isSent 33 = .ok (.iaload, 1) := by decide +kernel
theorem dX12_isSent_34 : decode cX12_isSent 34 = .ok (.invokestatic 77, 3) := by decide +kernel
theorem dX12_isSent_37 : decode cX12_isSent 37 = .ok (.ifCond .eq 7, 3) := by decide +kernel
theorem dX12_isSent_40 : decode cX12_isSent 40 = .ok (.iconst 1, 1) := by decide +kernel
theorem dX12_isSent_41 : decode cX12_isSent 41 = .ok (.goto 4, 3) := by decide +kernel
theorem dX12_isSent_44 : decode cX12_isSent 44 = .ok (.iconst 0, 1) := by decide +kernel
theorem dX12_isSent_45 : decode cX12_isSent 45 = .ok (.ireturn, 1) := by decide +kernel
theorem dX12_doesCome_0 : decode cX12_doesCome 0 = .ok (.aload_n 0, 1) := by decide +kernel
theorem dX12_doesCome_1 : decode cX12_doesCome 1 = .ok (.getfield 7, 3) := by decide +kernel
theorem dX12_doesCome_4 : decode cX12_doesCome 4 = .ok (.bipush 75, 2) := by decide +kernel
theorem dX12_doesCome_6 : decode cX12_doesCome 6 = .ok (.iload_n 1, 1) := by decide +kernel
theorem dX12_doesCome_7 : decode cX12_doesCome 7 = .ok (.iadd, 1) := by decide +kernel
theorem dX12_doesCome_8 : decode cX12_doesCome 8 = .ok (.iaload, 1) := by decide +kernel
theorem dX12_doesCome_9 : decode cX12_doesCome 9 = .ok (.istore_n 3, 1) := by decide +kernel
theorem dX12_doesCome_10 : decode cX12_doesCome 10 = .ok (.aload_n 0, 1) := by decide +kernel
theorem dX12_doesCome_11 : decode cX12_doesCome 11 = .ok (.getfield 7, 3) := by decide +kernel
theorem dX12_doesCome_14 : decode cX12_doesCome 14 = .ok (.bipush 39, 2) := by decide +kernel
theorem dX12_doesCome_16 : decode cX12_doesCome 16 = .ok (.iload_n 3, 1) := by decide +kernel
theorem dX12_doesCome_17 : decode cX12_doesCome 17 = .ok (.iadd, 1) := by decide +kernel
theorem dX12_doesCome_18 : decode cX12_doesCome 18 = .ok (.iaload, 1) := by decide +kernel
theorem dX12_doesCome_19 : decode cX12_doesCome 19 = .ok (.ifCond .lt 32, 3) := by decide +kernel
theorem dX12_doesCome_22 : decode cX12_doesCome 22 = .ok (.iload_n 2, 1) := by decide +kernel
theorem dX12_doesCome_23 : decode cX12_doesCome 23 = .ok (.aload_n 0, 1) := by decide +kernel
theorem dX12_doesCome_24 : decode cX12_doesCome 24 = .ok (.getfield 7, 3) := by decide +kernel
theorem dX12_doesCome_27 : decode cX12_doesCome 27 = .ok (.bipush 39, 2) := by decide +kernel
theorem dX12_doesCome_29 : decode cX12_doesCome 29 = .ok (.iload_n 3, 1) := by decide +kernel
theorem dX12_doesCome_30 : decode cX12_doesCome 30 = .ok (.iadd, 1) := by decide +kernel
theorem dX12_doesCome_31 : decode cX12_doesCome 31 = .ok (.iaload, 1) := by decide +kernel
theorem dX12_doesCome_32 : decode cX12_doesCome 32 = .ok (.aload_n 0, 1) := by decide +kernel
theorem dX12_doesCome_33 : decode cX12_doesCome 33 = .ok (.getfield 7, 3) := by decide +kernel
theorem dX12_doesCome_36 : decode cX12_doesCome 36 = .ok (.bipush 47, 2) := by decide +kernel
theorem dX12_doesCome_38 : decode cX12_doesCome 38 = .ok (.iload_n 3, 1) := by decide +kernel
theorem dX12_doesCome_39 : decode cX12_doesCome 39 = .ok (.iadd, 1) := by decide +kernel
theorem dX12_doesCome_40 : decode cX12_doesCome 40 = .ok (.iaload, 1) := by decide +kernel
theorem dX12_doesCome_41 : decode cX12_doesCome 41 = .ok (.invokestatic 77, 3) := by decide +kernel
theorem dX12_doesCome_44 : decode cX12_doesCome 44 = .ok (.ifCond .eq 7, 3) := by decide +kernel
theorem dX12_doesCome_47 : decode cX12_doesCome 47 = .ok (.iconst 1, 1) := by decide +kernel
theorem dX12_doesCome_48 : decode cX12_doesCome 48 = .ok (.goto 4, 3) := by decide +kernel
theorem dX12_doesCome_51 : decode cX12_doesCome 51 = .ok (.iconst 0, 1) := by decide +kernel
theorem dX12_doesCome_52 : decode cX12_doesCome 52 = .ok (.istore 4, 2) := by decide +kernel
theorem dX12_doesCome_54 : decode cX12_doesCome 54 = .ok (.aload_n 0, 1) := by decide +kernel
theorem dX12_doesCome_55 : decode cX12_doesCome 55 = .ok (.iload_n 1, 1) := by decide +kernel
theorem dX12_doesCome_56 : decode cX12_doesCome 56 = .ok (.iload_n 2, 1) := by decide +kernel
theorem dX12_doesCome_57 : decode cX12_doesCome 57 = .ok (.invokevirtual 114, 3) := by decide +kernel
theorem dX12_doesCome_60 : decode cX12_doesCome 60 = .ok (.ifCond .ne 45, 3) := by decide +kernel
theorem dX12_doesCome_63 : decode cX12_doesCome 63 = .ok (.iload 4, 2) := by decide +kernel
theorem dX12_doesCome_65 : decode cX12_doesCome 65 = .ok (.ifCond .ne 40, 3) := by decide +kernel
theorem dX12_doesCome_68 : decode cX12_doesCome 68 = .ok (.aload_n 0, 1) := by decide +kernel
theorem dX12_doesCome_69 : decode cX12_doesCome 69 = .ok (.getfield 7, 3) := by decide +kernel
theorem dX12_doesCome_72 : decode cX12_doesCome 72 = .ok (.bipush 31, 2) := by decide +kernel
theorem dX12_doesCome_74 : decode cX12_doesCome 74 = .ok (.iload_n 3, 1) := by decide +kernel
theorem dX12_doesCome_75 : decode cX12_doesCome 75 = .ok (.iadd, 1) := by decide +kernel
theorem dX12_doesCome_76 : decode cX12_doesCome 76 = .ok (.iaload, 1) := by decide +kernel
theorem dX12_doesCome_77 : decode cX12_doesCome 77 = .ok (.aload_n 0, 1) := by decide +kernel
theorem dX12_doesCome_78 : decode cX12_doesCome 78 = .ok (.iload_n 2, 1) := by decide +kernel
theorem dX12_doesCome_79 : decode cX12_doesCome 79 = .ok (.invokevirtual 91, 3) := by decide +kernel
theorem dX12_doesCome_82 : decode cX12_doesCome 82 = .ok (.ifCond .eq 7, 3) := by decide +kernel
theorem dX12_doesCome_85 : decode cX12_doesCome 85 = .ok (.iconst 2, 1) := by decide +kernel
theorem dX12_doesCome_86 : decode cX12_doesCome 86 = .ok (.goto 4, 3) := by decide +kernel
theorem dX12_doesCome_89 : decode cX12_doesCome 89 = .ok (.iconst 1, 1) := by decide +kernel
theorem dX12_doesCome_90 : decode cX12_doesCome 90 = .ok (.imul, 1) := by decide +kernel
theorem dX12_doesCome_91 : decode cX12_doesCome 91 = .ok (.aload_n 0, 1) := by decide +kernel
theorem dX12_doesCome_92 : decode cX12_doesCome 92 = .ok (.getfield 7, 3) := by decide +kernel
theorem dX12_doesCome_95 : decode cX12_doesCome 95 = .ok (.bipush 9, 2) := by decide +kernel
theorem dX12_doesCome_97 : decode cX12_doesCome 97 = .ok (.iaload, 1) := by decide +kernel
theorem dX12_doesCome_98 : decode cX12_doesCome 98 = .ok (.if_icmp .gt 7, 3) := by decide +kernel
theorem dX12_doesCome_101 : decode cX12_doesCome 101 = .ok (.iconst 1, 1) := by decide +kernel
theorem dX12_doesCome_102 : decode cX12_doesCome 102 = .ok (.goto 4, 3) := by decide +kernel
theorem dX12_doesCome_105 : decode cX12_doesCome 105 = .ok (.iconst 0, 1) := by decide +kernel
theorem dX12_doesCome_106 : decode cX12_doesCome 106 = .ok (.ireturn, 1) := by decide +kernel
theorem dX12_comes_0 : decode cX12_comes 0 = .ok (.aload_n 0, 1) := by decide +kernel
theorem dX12_comes_1 : decode cX12_comes 1 = .ok (.iload_n 1, 1) := by decide +kernel
theorem dX12_comes_2 : decode cX12_comes 2 = .ok (.invokevirtual 100, 3) := by decide +kernel
theorem dX12_comes_5 : decode cX12_comes 5 = .ok (.ifCond .eq 10, 3) := by decide +kernel
theorem dX12_comes_8 : decode cX12_comes 8 = .ok (.iload_n 2, 1) := by decide +kernel
theorem dX12_comes_9 : decode cX12_comes 9 = .ok (.invokestatic 87, 3) := by decide +kernel
theorem dX12_comes_12 : decode cX12_comes 12 = .ok (.ifCond .ne 5, 3) := by decide +kernel
theorem dX12_comes_15 : decode cX12_comes 15 = .ok (.iconst (-1), 1) := by decide +kernel
theorem dX12_comes_16 : decode cX12_comes 16 = .ok (.ireturn, 1) := by decide +kernel
theorem dX12_comes_17 : decode cX12_comes 17 = .ok (.aload_n 0, 1) := by decide +kernel
theorem dX12_comes_18 : decode cX12_comes 18 = .ok (.iload_n 1, 1) := by decide +kernel
theorem dX12_comes_19 : decode cX12_comes 19 = .ok (.iload_n 2, 1) := by decide +kernel
theorem dX12_comes_20 : decode cX12_comes 20 = .ok (.invokevirtual 118, 3) := by decide +kernel
theorem dX12_comes_23 : decode cX12_comes 23 = .ok (.ifCond .eq 7, 3) := by decide +kernel
theorem dX12_comes_26 : decode cX12_comes 26 = .ok (.iconst 1, 1) := by decide +kernel
theorem dX12_comes_27 : decode cX12_comes 27 = .ok (.goto 4, 3) := by decide +kernel
theorem dX12_comes_30 : decode cX12_comes 30 = .ok (.iconst 0, 1) := by decide +kernel
theorem dX12_comes_31 : decode cX12_comes 31 = .ok (.ireturn, 1) := by decide +kernel
theorem dX12_castOf_0 : decode cX12_castOf 0 = .ok (.aload_n 0, 1) := by decide +kernel
theorem dX12_castOf_1 : decode cX12_castOf 1 = .ok (.getfield 7, 3) := by decide +kernel
theorem dX12_castOf_4 : decode cX12_castOf 4 = .ok (.bipush 91, 2) := by decide +kernel
theorem dX12_castOf_6 : decode cX12_castOf 6 = .ok (.iload_n 1, 1) := by decide +kernel
theorem dX12_castOf_7 : decode cX12_castOf 7 = .ok (.iadd, 1) := by decide +kernel
theorem dX12_castOf_8 : decode cX12_castOf 8 = .ok (.iaload, 1) := by decide +kernel
theorem dX12_castOf_9 : decode cX12_castOf 9 = .ok (.ifCond .ge 7, 3) := by decide +kernel
theorem dX12_castOf_12 : decode cX12_castOf 12 = .ok (.iconst (-1), 1) := by decide +kernel
theorem dX12_castOf_13 : decode cX12_castOf 13 = .ok (.goto 17, 3) := by decide +kernel
theorem dX12_castOf_16 : decode cX12_castOf 16 = .ok (.aload_n 0, 1) := by decide +kernel
theorem dX12_castOf_17 : decode cX12_castOf 17 = .ok (.aload_n 0, 1) := by decide +kernel
theorem dX12_castOf_18 : decode cX12_castOf 18 = .ok (.getfield 7, 3) := by decide +kernel
theorem dX12_castOf_21 : decode cX12_castOf 21 = .ok (.bipush 91, 2) := by decide +kernel
theorem dX12_castOf_23 : decode cX12_castOf 23 = .ok (.iload_n 1, 1) := by decide +kernel
theorem dX12_castOf_24 : decode cX12_castOf 24 = .ok (.iadd, 1) := by decide +kernel
theorem dX12_castOf_25 : decode cX12_castOf 25 = .ok (.iaload, 1) := by decide +kernel
theorem dX12_castOf_26 : decode cX12_castOf 26 = .ok (.iload_n 2, 1) := by decide +kernel
theorem dX12_castOf_27 : decode cX12_castOf 27 = .ok (.invokevirtual 110, 3) := by decide +kernel
theorem dX12_castOf_30 : decode cX12_castOf 30 = .ok (.istore 4, 2) := by decide +kernel
theorem dX12_castOf_32 : decode cX12_castOf 32 = .ok (.iload 4, 2) := by decide +kernel
theorem dX12_castOf_34 : decode cX12_castOf 34 = .ok (.ifCond .lt 29, 3) := by decide +kernel
theorem dX12_castOf_37 : decode cX12_castOf 37 = .ok (.iload 4, 2) := by decide +kernel
theorem dX12_castOf_39 : decode cX12_castOf 39 = .ok (.iload_n 1, 1) := by decide +kernel
theorem dX12_castOf_40 : decode cX12_castOf 40 = .ok (.if_icmp .eq 23, 3) := by decide +kernel
theorem dX12_castOf_43 : decode cX12_castOf 43 = .ok (.iload 4, 2) := by decide +kernel
theorem dX12_castOf_45 : decode cX12_castOf 45 = .ok (.iload_n 3, 1) := by decide +kernel
theorem dX12_castOf_46 : decode cX12_castOf 46 = .ok (.if_icmp .eq 17, 3) := by decide +kernel
theorem dX12_castOf_49 : decode cX12_castOf 49 = .ok (.aload_n 0, 1) := by decide +kernel
theorem dX12_castOf_50 : decode cX12_castOf 50 = .ok (.iload 4, 2) := by decide +kernel
theorem dX12_castOf_52 : decode cX12_castOf 52 = .ok (.iload_n 2, 1) := by decide +kernel
theorem dX12_castOf_53 : decode cX12_castOf 53 = .ok (.invokevirtual 114, 3) := by decide +kernel
theorem dX12_castOf_56 : decode cX12_castOf 56 = .ok (.ifCond .ne 7, 3) := by decide +kernel
theorem dX12_castOf_59 : decode cX12_castOf 59 = .ok (.iconst 1, 1) := by decide +kernel
theorem dX12_castOf_60 : decode cX12_castOf 60 = .ok (.goto 4, 3) := by decide +kernel
theorem dX12_castOf_63 : decode cX12_castOf 63 = .ok (.iconst 0, 1) := by decide +kernel
theorem dX12_castOf_64 : decode cX12_castOf 64 = .ok (.istore 5, 2) := by decide +kernel
theorem dX12_castOf_66 : decode cX12_castOf 66 = .ok (.iconst (-1), 1) := by decide +kernel
theorem dX12_castOf_67 : decode cX12_castOf 67 = .ok (.istore 6, 2) := by decide +kernel
theorem dX12_castOf_69 : decode cX12_castOf 69 = .ok (.iconst (-1), 1) := by decide +kernel
theorem dX12_castOf_70 : decode cX12_castOf 70 = .ok (.istore 7, 2) := by decide +kernel
theorem dX12_castOf_72 : decode cX12_castOf 72 = .ok (.iconst 0, 1) := by decide +kernel
theorem dX12_castOf_73 : decode cX12_castOf 73 = .ok (.istore 8, 2) := by decide +kernel
theorem dX12_castOf_75 : decode cX12_castOf 75 = .ok (.iload 8, 2) := by decide +kernel
theorem dX12_castOf_77 : decode cX12_castOf 77 = .ok (.aload_n 0, 1) := by decide +kernel
theorem dX12_castOf_78 : decode cX12_castOf 78 = .ok (.getfield 7, 3) := by decide +kernel
theorem dX12_castOf_81 : decode cX12_castOf 81 = .ok (.iconst 2, 1) := by decide +kernel
theorem dX12_castOf_82 : decode cX12_castOf 82 = .ok (.iaload, 1) := by decide +kernel
theorem dX12_castOf_83 : decode cX12_castOf 83 = .ok (.if_icmp .ge 116, 3) := by decide +kernel
theorem dX12_castOf_86 : decode cX12_castOf 86 = .ok (.iload 8, 2) := by decide +kernel
theorem dX12_castOf_88 : decode cX12_castOf 88 = .ok (.iload_n 1, 1) := by decide +kernel
theorem dX12_castOf_89 : decode cX12_castOf 89 = .ok (.if_icmp .eq 104, 3) := by decide +kernel
theorem dX12_castOf_92 : decode cX12_castOf 92 = .ok (.iload 8, 2) := by decide +kernel
theorem dX12_castOf_94 : decode cX12_castOf 94 = .ok (.iload_n 3, 1) := by decide +kernel
theorem dX12_castOf_95 : decode cX12_castOf 95 = .ok (.if_icmp .eq 98, 3) := by decide +kernel
theorem dX12_castOf_98 : decode cX12_castOf 98 = .ok (.aload_n 0, 1) := by decide +kernel
theorem dX12_castOf_99 : decode cX12_castOf 99 = .ok (.iload 8, 2) := by decide +kernel
theorem dX12_castOf_101 : decode cX12_castOf 101 = .ok (.iload_n 2, 1) := by decide +kernel
theorem dX12_castOf_102 : decode cX12_castOf 102 = .ok (.invokevirtual 114, 3) := by decide +kernel
theorem dX12_castOf_105 : decode cX12_castOf 105 = .ok (.ifCond .ne 88, 3) := by decide +kernel
theorem dX12_castOf_108 : decode cX12_castOf 108 = .ok (.aload_n 0, 1) := by decide +kernel
theorem dX12_castOf_109 : decode cX12_castOf 109 = .ok (.iload_n 1, 1) := by decide +kernel
theorem dX12_castOf_110 : decode cX12_castOf 110 = .ok (.iload 8, 2) := by decide +kernel
theorem dX12_castOf_112 : decode cX12_castOf 112 = .ok (.iload_n 2, 1) := by decide +kernel
theorem dX12_castOf_113 : decode cX12_castOf 113 = .ok (.invokevirtual 103, 3) := by decide +kernel
theorem dX12_castOf_116 : decode cX12_castOf 116 = .ok (.istore 9, 2) := by decide +kernel
theorem dX12_castOf_118 : decode cX12_castOf 118 = .ok (.iload 5, 2) := by decide +kernel
theorem dX12_castOf_120 : decode cX12_castOf 120 = .ok (.iload 8, 2) := by decide +kernel
theorem dX12_castOf_122 : decode cX12_castOf 122 = .ok (.iload 4, 2) := by decide +kernel
theorem dX12_castOf_124 : decode cX12_castOf 124 = .ok (.if_icmp .eq 29, 3) := by decide +kernel
theorem dX12_castOf_127 : decode cX12_castOf 127 = .ok (.iload 4, 2) := by decide +kernel
theorem dX12_castOf_129 : decode cX12_castOf 129 = .ok (.ifCond .lt 24, 3) := by decide +kernel
theorem dX12_castOf_132 : decode cX12_castOf 132 = .ok (.iload 9, 2) := by decide +kernel
theorem dX12_castOf_134 : decode cX12_castOf 134 = .ok (.aload_n 0, 1) := by decide +kernel
theorem dX12_castOf_135 : decode cX12_castOf 135 = .ok (.iload_n 1, 1) := by decide +kernel
theorem dX12_castOf_136 : decode cX12_castOf 136 = .ok (.iload 4, 2) := by decide +kernel
theorem dX12_castOf_138 : decode cX12_castOf 138 = .ok (.iload_n 2, 1) := by decide +kernel
theorem dX12_castOf_139 : decode cX12_castOf 139 = .ok (.invokevirtual 103, 3) := by decide +kernel
theorem dX12_castOf_142 : decode cX12_castOf 142 = .ok (.aload_n 0, 1) := by decide +kernel
theorem dX12_castOf_143 : decode cX12_castOf 143 = .ok (.getfield 7, 3) := by decide +kernel
theorem dX12_castOf_146 : decode cX12_castOf 146 = .ok (.bipush 10, 2) := by decide +kernel
theorem dX12_castOf_148 : decode cX12_castOf 148 = .ok (.iaload, 1) := by decide +kernel
theorem dX12_castOf_149 : decode cX12_castOf 149 = .ok (.iadd, 1) := by decide +kernel
theorem dX12_castOf_150 : decode cX12_castOf 150 = .ok (.if_icmp .ge 7, 3) := by decide +kernel
theorem dX12_castOf_153 : decode cX12_castOf 153 = .ok (.iconst 1, 1) := by decide +kernel
theorem dX12_castOf_154 : decode cX12_castOf 154 = .ok (.goto 4, 3) := by decide +kernel
theorem dX12_castOf_157 : decode cX12_castOf 157 = .ok (.iconst 0, 1) := by decide +kernel
theorem dX12_castOf_158 : decode cX12_castOf 158 = .ok (.iand, 1) := by decide +kernel
theorem dX12_castOf_159 : decode cX12_castOf 159 = .ok (.istore 5, 2) := by decide +kernel
theorem dX12_castOf_161 : decode cX12_castOf 161 = .ok (.iload 9, 2) := by decide +kernel
theorem dX12_castOf_163 : decode cX12_castOf 163 = .ok (.iload 6, 2) := by decide +kernel
theorem dX12_castOf_165 : decode cX12_castOf 165 = .ok (.if_icmp .le 8, 3) := by decide +kernel
theorem dX12_castOf_168 : decode cX12_castOf 168 = .ok (.iload 8, 2) := by decide +kernel
theorem dX12_castOf_170 : decode cX12_castOf 170 = .ok (.goto 5, 3) := by decide +kernel
theorem dX12_castOf_173 : decode cX12_castOf 173 = .ok (.iload 7, 2) := by decide +kernel
theorem dX12_castOf_175 : decode cX12_castOf 175 = .ok (.istore 7, 2) := by decide +kernel
theorem dX12_castOf_177 : decode cX12_castOf 177 = .ok (.iload 9, 2) := by decide +kernel
theorem dX12_castOf_179 : decode cX12_castOf 179 = .ok (.iload 6, 2) := by decide +kernel
theorem dX12_castOf_181 : decode cX12_castOf 181 = .ok (.if_icmp .le 8, 3) := by decide +kernel
theorem dX12_castOf_184 : decode cX12_castOf 184 = .ok (.iload 9, 2) := by decide +kernel
theorem dX12_castOf_186 : decode cX12_castOf 186 = .ok (.goto 5, 3) := by decide +kernel
theorem dX12_castOf_189 : decode cX12_castOf 189 = .ok (.iload 6, 2) := by decide +kernel
theorem dX12_castOf_191 : decode cX12_castOf 191 = .ok (.istore 6, 2) := by decide +kernel
theorem dX12_castOf_193 : decode cX12_castOf 193 = .ok (.iinc 8 1, 3) := by decide +kernel
theorem dX12_castOf_196 : decode cX12_castOf 196 = .ok (.goto (-121), 3) := by decide +kernel
theorem dX12_castOf_199 : decode cX12_castOf 199 = .ok (.iload 5, 2) := by decide +kernel
theorem dX12_castOf_201 : decode cX12_castOf 201 = .ok (.ifCond .eq 8, 3) := by decide +kernel
theorem dX12_castOf_204 : decode cX12_castOf 204 = .ok (.iload 4, 2) := by decide +kernel
theorem dX12_castOf_206 : decode cX12_castOf 206 = .ok (.goto 21, 3) := by decide +kernel
theorem dX12_castOf_209 : decode cX12_castOf 209 = .ok (.iload 6, 2) := by decide +kernel
theorem dX12_castOf_211 : decode cX12_castOf 211 = .ok (.aload_n 0, 1) := by decide +kernel
theorem dX12_castOf_212 : decode cX12_castOf 212 = .ok (.getfield 7, 3) := by decide +kernel
theorem dX12_castOf_215 : decode cX12_castOf 215 = .ok (.bipush 11, 2) := by decide +kernel
theorem dX12_castOf_217 : decode cX12_castOf 217 = .ok (.iaload, 1) := by decide +kernel
theorem dX12_castOf_218 : decode cX12_castOf 218 = .ok (.if_icmp .lt 8, 3) := by decide +kernel
theorem dX12_castOf_221 : decode cX12_castOf 221 = .ok (.iload 7, 2) := by decide +kernel
theorem dX12_castOf_223 : decode cX12_castOf 223 = .ok (.goto 4, 3) := by decide +kernel
theorem dX12_castOf_226 : decode cX12_castOf 226 = .ok (.iconst (-1), 1) := by decide +kernel
theorem dX12_castOf_227 : decode cX12_castOf 227 = .ok (.ireturn, 1) := by decide +kernel
theorem dX12_cast_0 : decode cX12_cast 0 = .ok (.aload_n 0, 1) := by decide +kernel
theorem dX12_cast_1 : decode cX12_cast 1 = .ok (.iload_n 1, 1) := by decide +kernel
theorem dX12_cast_2 : decode cX12_cast 2 = .ok (.invokevirtual 100, 3) := by decide +kernel
theorem dX12_cast_5 : decode cX12_cast 5 = .ok (.ifCond .eq 10, 3) := by decide +kernel
theorem dX12_cast_8 : decode cX12_cast 8 = .ok (.iload_n 2, 1) := by decide +kernel
theorem dX12_cast_9 : decode cX12_cast 9 = .ok (.invokestatic 87, 3) := by decide +kernel
theorem dX12_cast_12 : decode cX12_cast 12 = .ok (.ifCond .ne 5, 3) := by decide +kernel
theorem dX12_cast_15 : decode cX12_cast 15 = .ok (.iconst (-1), 1) := by decide +kernel
theorem dX12_cast_16 : decode cX12_cast 16 = .ok (.ireturn, 1) := by decide +kernel
theorem dX12_cast_17 : decode cX12_cast 17 = .ok (.aload_n 0, 1) := by decide +kernel
theorem dX12_cast_18 : decode cX12_cast 18 = .ok (.iload_n 1, 1) := by decide +kernel
theorem dX12_cast_19 : decode cX12_cast 19 = .ok (.iload_n 2, 1) := by decide +kernel
theorem dX12_cast_20 : decode cX12_cast 20 = .ok (.invokevirtual 118, 3) := by decide +kernel
theorem dX12_cast_23 : decode cX12_cast 23 = .ok (.ifCond .ne 6, 3) := by decide +kernel
theorem dX12_cast_26 : decode cX12_cast 26 = .ok (.bipush (-4), 2) := by decide +kernel
theorem dX12_cast_28 : decode cX12_cast 28 = .ok (.ireturn, 1) := by decide +kernel
theorem dX12_cast_29 : decode cX12_cast 29 = .ok (.aload_n 0, 1) := by decide +kernel
theorem dX12_cast_30 : decode cX12_cast 30 = .ok (.iload_n 1, 1) := by decide +kernel
theorem dX12_cast_31 : decode cX12_cast 31 = .ok (.iload_n 2, 1) := by decide +kernel
theorem dX12_cast_32 : decode cX12_cast 32 = .ok (.iconst (-1), 1) := by decide +kernel
theorem dX12_cast_33 : decode cX12_cast 33 = .ok (.invokevirtual 121, 3) := by decide +kernel
theorem dX12_cast_36 : decode cX12_cast 36 = .ok (.istore_n 3, 1) := by decide +kernel
theorem dX12_cast_37 : decode cX12_cast 37 = .ok (.iload_n 3, 1) := by decide +kernel
theorem dX12_cast_38 : decode cX12_cast 38 = .ok (.ifCond .ge 8, 3) := by decide +kernel
theorem dX12_cast_41 : decode cX12_cast 41 = .ok (.bipush (-3), 2) := by decide +kernel
theorem dX12_cast_43 : decode cX12_cast 43 = .ok (.goto 4, 3) := by decide +kernel
theorem dX12_cast_46 : decode cX12_cast 46 = .ok (.iload_n 3, 1) := by decide +kernel
theorem dX12_cast_47 : decode cX12_cast 47 = .ok (.ireturn, 1) := by decide +kernel
theorem dX12_makes_0 : decode cX12_makes 0 = .ok (.aload_n 0, 1) := by decide +kernel
theorem dX12_makes_1 : decode cX12_makes 1 = .ok (.getfield 7, 3) := by decide +kernel
theorem dX12_makes_4 : decode cX12_makes 4 = .ok (.iconst 5, 1) := by decide +kernel
theorem dX12_makes_5 : decode cX12_makes 5 = .ok (.iaload, 1) := by decide +kernel
theorem dX12_makes_6 : decode cX12_makes 6 = .ok (.istore 7, 2) := by decide +kernel
theorem dX12_makes_8 : decode cX12_makes 8 = .ok (.aload_n 0, 1) := by decide +kernel
theorem dX12_makes_9 : decode cX12_makes 9 = .ok (.getfield 7, 3) := by decide +kernel
theorem dX12_makes_12 : decode cX12_makes 12 = .ok (.sipush 651, 3) := by decide +kernel
theorem dX12_makes_15 : decode cX12_makes 15 = .ok (.iload 7, 2) := by decide +kernel
theorem dX12_makes_17 : decode cX12_makes 17 = .ok (.iadd, 1) := by decide +kernel
theorem dX12_makes_18 : decode cX12_makes 18 = .ok (.iload_n 1, 1) := by decide +kernel
theorem dX12_makes_19 : decode cX12_makes 19 = .ok (.iastore, 1) := by decide +kernel
theorem dX12_makes_20 : decode cX12_makes 20 = .ok (.aload_n 0, 1) := by decide +kernel
theorem dX12_makes_21 : decode cX12_makes 21 = .ok (.getfield 7, 3) := by decide +kernel
theorem dX12_makes_24 : decode cX12_makes 24 = .ok (.sipush 691, 3) := by decide +kernel
theorem dX12_makes_27 : decode cX12_makes 27 = .ok (.iload 7, 2) := by decide +kernel
theorem dX12_makes_29 : decode cX12_makes 29 = .ok (.iadd, 1) := by decide +kernel
theorem dX12_makes_30 : decode cX12_makes 30 = .ok (.iload_n 2, 1) := by decide +kernel
theorem dX12_makes_31 : decode cX12_makes 31 = .ok (.iastore, 1) := by decide +kernel
theorem dX12_makes_32 : decode cX12_makes 32 = .ok (.aload_n 0, 1) := by decide +kernel
theorem dX12_makes_33 : decode cX12_makes 33 = .ok (.getfield 7, 3) := by decide +kernel
theorem dX12_makes_36 : decode cX12_makes 36 = .ok (.sipush 731, 3) := by decide +kernel
theorem dX12_makes_39 : decode cX12_makes 39 = .ok (.iload 7, 2) := by decide +kernel
theorem dX12_makes_41 : decode cX12_makes 41 = .ok (.iadd, 1) := by decide +kernel
theorem dX12_makes_42 : decode cX12_makes 42 = .ok (.iload_n 3, 1) := by decide +kernel
theorem dX12_makes_43 : decode cX12_makes 43 = .ok (.iastore, 1) := by decide +kernel
theorem dX12_makes_44 : decode cX12_makes 44 = .ok (.aload_n 0, 1) := by decide +kernel
theorem dX12_makes_45 : decode cX12_makes 45 = .ok (.getfield 7, 3) := by decide +kernel
theorem dX12_makes_48 : decode cX12_makes 48 = .ok (.sipush 771, 3) := by decide +kernel
theorem dX12_makes_51 : decode cX12_makes 51 = .ok (.iload 7, 2) := by decide +kernel
theorem dX12_makes_53 : decode cX12_makes 53 = .ok (.iadd, 1) := by decide +kernel
theorem dX12_makes_54 : decode cX12_makes 54 = .ok (.iload 4, 2) := by decide +kernel
theorem dX12_makes_56 : decode cX12_makes 56 = .ok (.iastore, 1) := by decide +kernel
theorem dX12_makes_57 : decode cX12_makes 57 = .ok (.aload_n 0, 1) := by decide +kernel
theorem dX12_makes_58 : decode cX12_makes 58 = .ok (.getfield 7, 3) := by decide +kernel
theorem dX12_makes_61 : decode cX12_makes 61 = .ok (.sipush 811, 3) := by decide +kernel
theorem dX12_makes_64 : decode cX12_makes 64 = .ok (.iload 7, 2) := by decide +kernel
theorem dX12_makes_66 : decode cX12_makes 66 = .ok (.iadd, 1) := by decide +kernel
theorem dX12_makes_67 : decode cX12_makes 67 = .ok (.iload 5, 2) := by decide +kernel
theorem dX12_makes_69 : decode cX12_makes 69 = .ok (.iastore, 1) := by decide +kernel
theorem dX12_makes_70 : decode cX12_makes 70 = .ok (.aload_n 0, 1) := by decide +kernel
theorem dX12_makes_71 : decode cX12_makes 71 = .ok (.getfield 7, 3) := by decide +kernel
theorem dX12_makes_74 : decode cX12_makes 74 = .ok (.sipush 851, 3) := by decide +kernel
theorem dX12_makes_77 : decode cX12_makes 77 = .ok (.iload 7, 2) := by decide +kernel
theorem dX12_makes_79 : decode cX12_makes 79 = .ok (.iadd, 1) := by decide +kernel
theorem dX12_makes_80 : decode cX12_makes 80 = .ok (.iload 6, 2) := by decide +kernel
theorem dX12_makes_82 : decode cX12_makes 82 = .ok (.sipush 10000, 3) := by decide +kernel
theorem dX12_makes_85 : decode cX12_makes 85 = .ok (.idiv, 1) := by decide +kernel
theorem dX12_makes_86 : decode cX12_makes 86 = .ok (.iastore, 1) := by decide +kernel
theorem dX12_makes_87 : decode cX12_makes 87 = .ok (.aload_n 0, 1) := by decide +kernel
theorem dX12_makes_88 : decode cX12_makes 88 = .ok (.getfield 7, 3) := by decide +kernel
theorem dX12_makes_91 : decode cX12_makes 91 = .ok (.sipush 891, 3) := by decide +kernel
theorem dX12_makes_94 : decode cX12_makes 94 = .ok (.iload 7, 2) := by decide +kernel
theorem dX12_makes_96 : decode cX12_makes 96 = .ok (.iadd, 1) := by decide +kernel
theorem dX12_makes_97 : decode cX12_makes 97 = .ok (.iload 6, 2) := by decide +kernel
theorem dX12_makes_99 : decode cX12_makes 99 = .ok (.sipush 10000, 3) := by decide +kernel
theorem dX12_makes_102 : decode cX12_makes 102 = .ok (.irem, 1) := by decide +kernel
theorem dX12_makes_103 : decode cX12_makes 103 = .ok (.iastore, 1) := by decide +kernel
theorem dX12_makes_104 : decode cX12_makes 104 = .ok (.aload_n 0, 1) := by decide +kernel
theorem dX12_makes_105 : decode cX12_makes 105 = .ok (.getfield 7, 3) := by decide +kernel
theorem dX12_makes_108 : decode cX12_makes 108 = .ok (.sipush 931, 3) := by decide +kernel
theorem dX12_makes_111 : decode cX12_makes 111 = .ok (.iload 7, 2) := by decide +kernel
theorem dX12_makes_113 : decode cX12_makes 113 = .ok (.iadd, 1) := by decide +kernel
theorem dX12_makes_114 : decode cX12_makes 114 = .ok (.aload_n 0, 1) := by decide +kernel
theorem dX12_makes_115 : decode cX12_makes 115 = .ok (.getfield 7, 3) := by decide +kernel
theorem dX12_makes_118 : decode cX12_makes 118 = .ok (.iconst 0, 1) := by decide +kernel
theorem dX12_makes_119 : decode cX12_makes 119 = .ok (.iaload, 1) := by decide +kernel
theorem dX12_makes_120 : decode cX12_makes 120 = .ok (.iastore, 1) := by decide +kernel
theorem dX12_makes_121 : decode cX12_makes 121 = .ok (.aload_n 0, 1) := by decide +kernel
theorem dX12_makes_122 : decode cX12_makes 122 = .ok (.getfield 7, 3) := by decide +kernel
theorem dX12_makes_125 : decode cX12_makes 125 = .ok (.sipush 971, 3) := by decide +kernel
theorem dX12_makes_128 : decode cX12_makes 128 = .ok (.iload 7, 2) := by decide +kernel
theorem dX12_makes_130 : decode cX12_makes 130 = .ok (.iadd, 1) := by decide +kernel
theorem dX12_makes_131 : decode cX12_makes 131 = .ok (.iconst (-1), 1) := by decide +kernel
theorem dX12_makes_132 : decode cX12_makes 132 = .ok (.iastore, 1) := by decide +kernel
theorem dX12_makes_133 : decode cX12_makes 133 = .ok (.aload_n 0, 1) := by decide +kernel
theorem dX12_makes_134 : decode cX12_makes 134 = .ok (.getfield 7, 3) := by decide +kernel
theorem dX12_makes_137 : decode cX12_makes 137 = .ok (.iconst 5, 1) := by decide +kernel
theorem dX12_makes_138 : decode cX12_makes 138 = .ok (.dup2, 1) := by decide +kernel
theorem dX12_makes_139 : decode cX12_makes 139 = .ok (.iaload, 1) := by decide +kernel
theorem dX12_makes_140 : decode cX12_makes 140 = .ok (.iconst 1, 1) := by decide +kernel
theorem dX12_makes_141 : decode cX12_makes 141 = .ok (.iadd, 1) := by decide +kernel
theorem dX12_makes_142 : decode cX12_makes 142 = .ok (.iastore, 1) := by decide +kernel
theorem dX12_makes_143 : decode cX12_makes 143 = .ok (.return_, 1) := by decide +kernel
theorem dX12_sherd_0 : decode cX12_sherd 0 = .ok (.iload_n 1, 1) := by decide +kernel
theorem dX12_sherd_1 : decode cX12_sherd 1 = .ok (.invokestatic 97, 3) := by decide +kernel
theorem dX12_sherd_4 : decode cX12_sherd 4 = .ok (.ifCond .eq 62, 3) := by decide +kernel
theorem dX12_sherd_7 : decode cX12_sherd 7 = .ok (.iload_n 2, 1) := by decide +kernel
theorem dX12_sherd_8 : decode cX12_sherd 8 = .ok (.ifCond .eq 10, 3) := by decide +kernel
theorem dX12_sherd_11 : decode cX12_sherd 11 = .ok (.iload_n 2, 1) := by decide +kernel
theorem dX12_sherd_12 : decode cX12_sherd 12 = .ok (.invokestatic 97, 3) := by decide +kernel
theorem dX12_sherd_15 : decode cX12_sherd 15 = .ok (.ifCond .eq 51, 3) := by decide +kernel
theorem dX12_sherd_18 : decode cX12_sherd 18 = .ok (.iload_n 3, 1) := by decide +kernel
theorem dX12_sherd_19 : decode cX12_sherd 19 = .ok (.iconst (-1), 1) := by decide +kernel
theorem dX12_sherd_20 : decode cX12_sherd 20 = .ok (.if_icmp .eq 11, 3) := by decide +kernel
theorem dX12_sherd_23 : decode cX12_sherd 23 = .ok (.aload_n 0, 1) := by decide +kernel
theorem dX12_sherd_24 : decode cX12_sherd 24 = .ok (.iload_n 3, 1) := by decide +kernel
theorem dX12_sherd_25 : decode cX12_sherd 25 = .ok (.invokevirtual 94, 3) := by decide +kernel
theorem dX12_sherd_28 : decode cX12_sherd 28 = .ok (.ifCond .eq 38, 3) := by decide +kernel
theorem dX12_sherd_31 : decode cX12_sherd 31 = .ok (.iload 4, 2) := by decide +kernel
theorem dX12_sherd_33 : decode cX12_sherd 33 = .ok (.iconst (-1), 1) := by decide +kernel
theorem dX12_sherd_34 : decode cX12_sherd 34 = .ok (.iconst 4, 1) := by decide +kernel
theorem dX12_sherd_35 : decode cX12_sherd 35 = .ok (.invokestatic 77, 3) := by decide +kernel
theorem dX12_sherd_38 : decode cX12_sherd 38 = .ok (.ifCond .eq 28, 3) := by decide +kernel
theorem dX12_sherd_41 : decode cX12_sherd 41 = .ok (.iload 5, 2) := by decide +kernel
theorem dX12_sherd_43 : decode cX12_sherd 43 = .ok (.ifCond .eq 11, 3) := by decide +kernel
theorem dX12_sherd_46 : decode cX12_sherd 46 = .ok (.iload 5, 2) := by decide +kernel
theorem dX12_sherd_48 : decode cX12_sherd 48 = .ok (.invokestatic 97, 3) := by decide +kernel
theorem dX12_sherd_51 : decode cX12_sherd 51 = .ok (.ifCond .eq 15, 3) := by decide +kernel
theorem dX12_sherd_54 : decode cX12_sherd 54 = .ok (.iload 6, 2) := by decide +kernel
theorem dX12_sherd_56 : decode cX12_sherd 56 = .ok (.iconst 0, 1) := by decide +kernel
theorem dX12_sherd_57 : decode cX12_sherd 57 = .ok (.sipush 19999, 3) := by decide +kernel
theorem dX12_sherd_60 : decode cX12_sherd 60 = .ok (.invokestatic 77, 3) := by decide +kernel
theorem dX12_sherd_63 : decode cX12_sherd 63 = .ok (.ifCond .ne 5, 3) := by decide +kernel
theorem dX12_sherd_66 : decode cX12_sherd 66 = .ok (.iconst (-1), 1) := by decide +kernel
theorem dX12_sherd_67 : decode cX12_sherd 67 = .ok (.ireturn, 1) := by decide +kernel
theorem dX12_sherd_68 : decode cX12_sherd 68 = .ok (.aload_n 0, 1) := by decide +kernel
theorem dX12_sherd_69 : decode cX12_sherd 69 = .ok (.getfield 7, 3) := by decide +kernel
theorem dX12_sherd_72 : decode cX12_sherd 72 = .ok (.iconst 5, 1) := by decide +kernel
theorem dX12_sherd_73 : decode cX12_sherd 73 = .ok (.iaload, 1) := by decide +kernel
theorem dX12_sherd_74 : decode cX12_sherd 74 = .ok (.bipush 40, 2) := by decide +kernel
theorem dX12_sherd_76 : decode cX12_sherd 76 = .ok (.if_icmp .ne 6, 3) := by decide +kernel
theorem dX12_sherd_79 : decode cX12_sherd 79 = .ok (.bipush (-2), 2) := by decide +kernel
theorem dX12_sherd_81 : decode cX12_sherd 81 = .ok (.ireturn, 1) := by decide +kernel
theorem dX12_sherd_82 : decode cX12_sherd 82 = .ok (.aload_n 0, 1) := by decide +kernel
theorem dX12_sherd_83 : decode cX12_sherd 83 = .ok (.iload_n 1, 1) := by decide +kernel
theorem dX12_sherd_84 : decode cX12_sherd 84 = .ok (.iload_n 2, 1) := by decide +kernel
theorem dX12_sherd_85 : decode cX12_sherd 85 = .ok (.iload_n 3, 1) := by decide +kernel
theorem dX12_sherd_86 : decode cX12_sherd 86 = .ok (.iload 4, 2) := by decide +kernel
theorem dX12_sherd_88 : decode cX12_sherd 88 = .ok (.iload 5, 2) := by decide +kernel
theorem dX12_sherd_90 : decode cX12_sherd 90 = .ok (.iload 6, 2) := by decide +kernel
theorem dX12_sherd_92 : decode cX12_sherd 92 = .ok (.invokevirtual 124, 3) := by decide +kernel
theorem dX12_sherd_95 : decode cX12_sherd 95 = .ok (.aload_n 0, 1) := by decide +kernel
theorem dX12_sherd_96 : decode cX12_sherd 96 = .ok (.getfield 7, 3) := by decide +kernel
theorem dX12_sherd_99 : decode cX12_sherd 99 = .ok (.iconst 5, 1) := by decide +kernel
theorem dX12_sherd_100 : decode cX12_sherd 100 = .ok (.iaload, 1) := by decide +kernel
theorem dX12_sherd_101 : decode cX12_sherd 101 = .ok (.iconst 1, 1) := by decide +kernel
theorem dX12_sherd_102 : decode cX12_sherd 102 = .ok (.isub, 1) := by decide +kernel
theorem dX12_sherd_103 : decode cX12_sherd 103 = .ok (.ireturn, 1) := by decide +kernel
theorem dX12_vote_0 : decode cX12_vote 0 = .ok (.iconst 0, 1) := by decide +kernel
theorem dX12_vote_1 : decode cX12_vote 1 = .ok (.istore_n 1, 1) := by decide +kernel
theorem dX12_vote_2 : decode cX12_vote 2 = .ok (.iconst 0, 1) := by decide +kernel
theorem dX12_vote_3 : decode cX12_vote 3 = .ok (.istore_n 2, 1) := by decide +kernel
theorem dX12_vote_4 : decode cX12_vote 4 = .ok (.iload_n 2, 1) := by decide +kernel
theorem dX12_vote_5 : decode cX12_vote 5 = .ok (.aload_n 0, 1) := by decide +kernel
theorem dX12_vote_6 : decode cX12_vote 6 = .ok (.getfield 7, 3) := by decide +kernel
theorem dX12_vote_9 : decode cX12_vote 9 = .ok (.iconst 2, 1) := by decide +kernel
theorem dX12_vote_10 : decode cX12_vote 10 = .ok (.iaload, 1) := by decide +kernel
theorem dX12_vote_11 : decode cX12_vote 11 = .ok (.if_icmp .ge 46, 3) := by decide +kernel
theorem dX12_vote_14 : decode cX12_vote 14 = .ok (.iload_n 1, 1) := by decide +kernel
theorem dX12_vote_15 : decode cX12_vote 15 = .ok (.aload_n 0, 1) := by decide +kernel
theorem dX12_vote_16 : decode cX12_vote 16 = .ok (.iload_n 2, 1) := by decide +kernel
theorem dX12_vote_17 : decode cX12_vote 17 = .ok (.aload_n 0, 1) := by decide +kernel
theorem dX12_vote_18 : decode cX12_vote 18 = .ok (.getfield 7, 3) := by decide +kernel
theorem dX12_vote_21 : decode cX12_vote 21 = .ok (.iconst 0, 1) := by decide +kernel
theorem dX12_vote_22 : decode cX12_vote 22 = .ok (.iaload, 1) := by decide +kernel
theorem dX12_vote_23 : decode cX12_vote 23 = .ok (.invokevirtual 118, 3) := by decide +kernel
theorem dX12_vote_26 : decode cX12_vote 26 = .ok (.ifCond .eq 22, 3) := by decide +kernel
theorem dX12_vote_29 : decode cX12_vote 29 = .ok (.aload_n 0, 1) := by decide +kernel
theorem dX12_vote_30 : decode cX12_vote 30 = .ok (.iload_n 2, 1) := by decide +kernel
theorem dX12_vote_31 : decode cX12_vote 31 = .ok (.aload_n 0, 1) := by decide +kernel
theorem dX12_vote_32 : decode cX12_vote 32 = .ok (.getfield 7, 3) := by decide +kernel
theorem dX12_vote_35 : decode cX12_vote 35 = .ok (.iconst 0, 1) := by decide +kernel
theorem dX12_vote_36 : decode cX12_vote 36 = .ok (.iaload, 1) := by decide +kernel
theorem dX12_vote_37 : decode cX12_vote 37 = .ok (.iconst (-1), 1) := by decide +kernel
theorem dX12_vote_38 : decode cX12_vote 38 = .ok (.invokevirtual 121, 3) := by decide +kernel
theorem dX12_vote_41 : decode cX12_vote 41 = .ok (.ifCond .lt 7, 3) := by decide +kernel
theorem dX12_vote_44 : decode cX12_vote 44 = .ok (.iconst 1, 1) := by decide +kernel
theorem dX12_vote_45 : decode cX12_vote 45 = .ok (.goto 4, 3) := by decide +kernel
theorem dX12_vote_48 : decode cX12_vote 48 = .ok (.iconst 0, 1) := by decide +kernel
theorem dX12_vote_49 : decode cX12_vote 49 = .ok (.iadd, 1) := by decide +kernel
theorem dX12_vote_50 : decode cX12_vote 50 = .ok (.istore_n 1, 1) := by decide +kernel
theorem dX12_vote_51 : decode cX12_vote 51 = .ok (.iinc 2 1, 3) := by decide +kernel
theorem dX12_vote_54 : decode cX12_vote 54 = .ok (.goto (-50), 3) := by decide +kernel
theorem dX12_vote_57 : decode cX12_vote 57 = .ok (.aload_n 0, 1) := by decide +kernel
theorem dX12_vote_58 : decode cX12_vote 58 = .ok (.getfield 7, 3) := by decide +kernel
theorem dX12_vote_61 : decode cX12_vote 61 = .ok (.iconst 5, 1) := by decide +kernel
theorem dX12_vote_62 : decode cX12_vote 62 = .ok (.iaload, 1) := by decide +kernel
theorem dX12_vote_63 : decode cX12_vote 63 = .ok (.iload_n 1, 1) := by decide +kernel
theorem dX12_vote_64 : decode cX12_vote 64 = .ok (.iadd, 1) := by decide +kernel
theorem dX12_vote_65 : decode cX12_vote 65 = .ok (.bipush 40, 2) := by decide +kernel
theorem dX12_vote_67 : decode cX12_vote 67 = .ok (.if_icmp .le 6, 3) := by decide +kernel
theorem dX12_vote_70 : decode cX12_vote 70 = .ok (.bipush (-2), 2) := by decide +kernel
theorem dX12_vote_72 : decode cX12_vote 72 = .ok (.ireturn, 1) := by decide +kernel
theorem dX12_vote_73 : decode cX12_vote 73 = .ok (.iconst 0, 1) := by decide +kernel
theorem dX12_vote_74 : decode cX12_vote 74 = .ok (.istore_n 2, 1) := by decide +kernel
theorem dX12_vote_75 : decode cX12_vote 75 = .ok (.iload_n 2, 1) := by decide +kernel
theorem dX12_vote_76 : decode cX12_vote 76 = .ok (.aload_n 0, 1) := by decide +kernel
theorem dX12_vote_77 : decode cX12_vote 77 = .ok (.getfield 7, 3) := by decide +kernel
theorem dX12_vote_80 : decode cX12_vote 80 = .ok (.iconst 2, 1) := by decide +kernel
theorem dX12_vote_81 : decode cX12_vote 81 = .ok (.iaload, 1) := by decide +kernel
theorem dX12_vote_82 : decode cX12_vote 82 = .ok (.if_icmp .ge 139, 3) := by decide +kernel
theorem dX12_vote_85 : decode cX12_vote 85 = .ok (.aload_n 0, 1) := by decide +kernel
theorem dX12_vote_86 : decode cX12_vote 86 = .ok (.iload_n 2, 1) := by decide +kernel
theorem dX12_vote_87 : decode cX12_vote 87 = .ok (.aload_n 0, 1) := by decide +kernel
theorem dX12_vote_88 : decode cX12_vote 88 = .ok (.getfield 7, 3) := by decide +kernel
theorem dX12_vote_91 : decode cX12_vote 91 = .ok (.iconst 0, 1) := by decide +kernel
theorem dX12_vote_92 : decode cX12_vote 92 = .ok (.iaload, 1) := by decide +kernel
theorem dX12_vote_93 : decode cX12_vote 93 = .ok (.invokevirtual 118, 3) := by decide +kernel
theorem dX12_vote_96 : decode cX12_vote 96 = .ok (.ifCond .eq 18, 3) := by decide +kernel
theorem dX12_vote_99 : decode cX12_vote 99 = .ok (.aload_n 0, 1) := by decide +kernel
theorem dX12_vote_100 : decode cX12_vote 100 = .ok (.iload_n 2, 1) := by decide +kernel
theorem dX12_vote_101 : decode cX12_vote 101 = .ok (.aload_n 0, 1) := by decide +kernel
theorem dX12_vote_102 : decode cX12_vote 102 = .ok (.getfield 7, 3) := by decide +kernel
theorem dX12_vote_105 : decode cX12_vote 105 = .ok (.iconst 0, 1) := by decide +kernel
theorem dX12_vote_106 : decode cX12_vote 106 = .ok (.iaload, 1) := by decide +kernel
theorem dX12_vote_107 : decode cX12_vote 107 = .ok (.iconst (-1), 1) := by decide +kernel
theorem dX12_vote_108 : decode cX12_vote 108 = .ok (.invokevirtual 121, 3) := by decide +kernel
theorem dX12_vote_111 : decode cX12_vote 111 = .ok (.goto 4, 3) := by decide +kernel
theorem dX12_vote_114 : decode cX12_vote 114 = .ok (.iconst (-1), 1) := by decide +kernel
theorem dX12_vote_115 : decode cX12_vote 115 = .ok (.istore_n 3, 1) := by decide +kernel
theorem dX12_vote_116 : decode cX12_vote 116 = .ok (.iload_n 3, 1) := by decide +kernel
theorem dX12_vote_117 : decode cX12_vote 117 = .ok (.ifCond .lt 98, 3) := by decide +kernel
theorem dX12_vote_120 : decode cX12_vote 120 = .ok (.aload_n 0, 1) := by decide +kernel
theorem dX12_vote_121 : decode cX12_vote 121 = .ok (.getfield 7, 3) := by decide +kernel
theorem dX12_vote_124 : decode cX12_vote 124 = .ok (.sipush 155, 3) := by decide +kernel
theorem dX12_vote_127 : decode cX12_vote 127 = .ok (.iload_n 2, 1) := by decide +kernel
theorem dX12_vote_128 : decode cX12_vote 128 = .ok (.iadd, 1) := by decide +kernel
theorem dX12_vote_129 : decode cX12_vote 129 = .ok (.iaload, 1) := by decide +kernel
theorem dX12_vote_130 : decode cX12_vote 130 = .ok (.istore 4, 2) := by decide +kernel
theorem dX12_vote_132 : decode cX12_vote 132 = .ok (.aload_n 0, 1) := by decide +kernel
theorem dX12_vote_133 : decode cX12_vote 133 = .ok (.aload_n 0, 1) := by decide +kernel
theorem dX12_vote_134 : decode cX12_vote 134 = .ok (.getfield 7, 3) := by decide +kernel
theorem dX12_vote_137 : decode cX12_vote 137 = .ok (.bipush 107, 2) := by decide +kernel
theorem dX12_vote_139 : decode cX12_vote 139 = .ok (.iload_n 3, 1) := by decide +kernel
theorem dX12_vote_140 : decode cX12_vote 140 = .ok (.iadd, 1) := by decide +kernel
theorem dX12_vote_141 : decode cX12_vote 141 = .ok (.iaload, 1) := by decide +kernel
theorem dX12_vote_142 : decode cX12_vote 142 = .ok (.iload 4, 2) := by decide +kernel
theorem dX12_vote_144 : decode cX12_vote 144 = .ok (.iconst 2, 1) := by decide +kernel
theorem dX12_vote_145 : decode cX12_vote 145 = .ok (.irem, 1) := by decide +kernel
theorem dX12_vote_146 : decode cX12_vote 146 = .ok (.iconst 1, 1) := by decide +kernel
theorem dX12_vote_147 : decode cX12_vote 147 = .ok (.if_icmp .ne 15, 3) := by decide +kernel
theorem dX12_vote_150 : decode cX12_vote 150 = .ok (.aload_n 0, 1) := by decide +kernel
theorem dX12_vote_151 : decode cX12_vote 151 = .ok (.getfield 7, 3) := by decide +kernel
theorem dX12_vote_154 : decode cX12_vote 154 = .ok (.bipush 123, 2) := by decide +kernel
theorem dX12_vote_156 : decode cX12_vote 156 = .ok (.iload_n 3, 1) := by decide +kernel
theorem dX12_vote_157 : decode cX12_vote 157 = .ok (.iadd, 1) := by decide +kernel
theorem dX12_vote_158 : decode cX12_vote 158 = .ok (.iaload, 1) := by decide +kernel
theorem dX12_vote_159 : decode cX12_vote 159 = .ok (.goto 4, 3) := by decide +kernel
theorem dX12_vote_162 : decode cX12_vote 162 = .ok (.iconst 0, 1) := by decide +kernel
theorem dX12_vote_163 : decode cX12_vote 163 = .ok (.iload 4, 2) := by decide +kernel
theorem dX12_vote_165 : decode cX12_vote 165 = .ok (.iconst 2, 1) := by decide +kernel
theorem dX12_vote_166 : decode cX12_vote 166 = .ok (.idiv, 1) := by decide +kernel
theorem dX12_vote_167 : decode cX12_vote 167 = .ok (.iconst 1, 1) := by decide +kernel
theorem dX12_vote_168 : decode cX12_vote 168 = .ok (.if_icmp .ne 15, 3) := by decide +kernel
theorem dX12_vote_171 : decode cX12_vote 171 = .ok (.aload_n 0, 1) := by decide +kernel
theorem dX12_vote_172 : decode cX12_vote 172 = .ok (.getfield 7, 3) := by decide +kernel
theorem dX12_vote_175 : decode cX12_vote 175 = .ok (.bipush 75, 2) := by decide +kernel
theorem dX12_vote_177 : decode cX12_vote 177 = .ok (.iload_n 3, 1) := by decide +kernel
theorem dX12_vote_178 : decode cX12_vote 178 = .ok (.iadd, 1) := by decide +kernel
theorem dX12_vote_179 : decode cX12_vote 179 = .ok (.iaload, 1) := by decide +kernel
theorem dX12_vote_180 : decode cX12_vote 180 = .ok (.goto 4, 3) := by decide +kernel
theorem dX12_vote_183 : decode cX12_vote 183 = .ok (.iconst (-1), 1) := by decide +kernel
theorem dX12_vote_184 : decode cX12_vote 184 = .ok (.aload_n 0, 1) := by decide +kernel
theorem dX12_vote_185 : decode cX12_vote 185 = .ok (.getfield 7, 3) := by decide +kernel
theorem dX12_vote_188 : decode cX12_vote 188 = .ok (.bipush 23, 2) := by decide +kernel
theorem dX12_vote_190 : decode cX12_vote 190 = .ok (.aload_n 0, 1) := by decide +kernel
theorem dX12_vote_191 : decode cX12_vote 191 = .ok (.getfield 7, 3) := by decide +kernel
theorem dX12_vote_194 : decode cX12_vote 194 = .ok (.bipush 75, 2) := by decide +kernel
theorem dX12_vote_196 : decode cX12_vote 196 = .ok (.iload_n 2, 1) := by decide +kernel
theorem dX12_vote_197 : decode cX12_vote 197 = .ok (.iadd, 1) := by decide +kernel
theorem dX12_vote_198 : decode cX12_vote 198 = .ok (.iaload, 1) := by decide +kernel
theorem dX12_vote_199 : decode cX12_vote 199 = .ok (.iadd, 1) := by decide +kernel
theorem dX12_vote_200 : decode cX12_vote 200 = .ok (.iaload, 1) := by decide +kernel
theorem dX12_vote_201 : decode cX12_vote 201 = .ok (.iconst 0, 1) := by decide +kernel
theorem dX12_vote_202 : decode cX12_vote 202 = .ok (.aload_n 0, 1) := by decide +kernel
theorem dX12_vote_203 : decode cX12_vote 203 = .ok (.getfield 7, 3) := by decide +kernel
theorem dX12_vote_206 : decode cX12_vote 206 = .ok (.sipush 139, 3) := by decide +kernel
theorem dX12_vote_209 : decode cX12_vote 209 = .ok (.iload_n 2, 1) := by decide +kernel
theorem dX12_vote_210 : decode cX12_vote 210 = .ok (.iadd, 1) := by decide +kernel
theorem dX12_vote_211 : decode cX12_vote 211 = .ok (.iaload, 1) := by decide +kernel
theorem dX12_vote_212 : decode cX12_vote 212 = .ok (.invokevirtual 124, 3) := by decide +kernel
theorem dX12_vote_215 : decode cX12_vote 215 = .ok (.iinc 2 1, 3) := by decide +kernel
theorem dX12_vote_218 : decode cX12_vote 218 = .ok (.goto (-143), 3) := by decide +kernel
theorem dX12_vote_221 : decode cX12_vote 221 = .ok (.iload_n 1, 1) := by decide +kernel
theorem dX12_vote_222 : decode cX12_vote 222 = .ok (.ireturn, 1) := by decide +kernel
theorem dX12_thrown_0 : decode cX12_thrown 0 = .ok (.aload_n 0, 1) := by decide +kernel
theorem dX12_thrown_1 : decode cX12_thrown 1 = .ok (.iload_n 1, 1) := by decide +kernel
theorem dX12_thrown_2 : decode cX12_thrown 2 = .ok (.invokevirtual 128, 3) := by decide +kernel
theorem dX12_thrown_5 : decode cX12_thrown 5 = .ok (.ifCond .ne 5, 3) := by decide +kernel
theorem dX12_thrown_8 : decode cX12_thrown 8 = .ok (.iconst (-1), 1) := by decide +kernel
theorem dX12_thrown_9 : decode cX12_thrown 9 = .ok (.ireturn, 1) := by decide +kernel
theorem dX12_thrown_10 : decode cX12_thrown 10 = .ok (.aload_n 0, 1) := by decide +kernel
theorem dX12_thrown_11 : decode cX12_thrown 11 = .ok (.getfield 7, 3) := by decide +kernel
theorem dX12_thrown_14 : decode cX12_thrown 14 = .ok (.sipush 971, 3) := by decide +kernel
theorem dX12_thrown_17 : decode cX12_thrown 17 = .ok (.iload_n 1, 1) := by decide +kernel
theorem dX12_thrown_18 : decode cX12_thrown 18 = .ok (.iadd, 1) := by decide +kernel
theorem dX12_thrown_19 : decode cX12_thrown 19 = .ok (.iaload, 1) := by decide +kernel
theorem dX12_thrown_20 : decode cX12_thrown 20 = .ok (.ifCond .lt 6, 3) := by decide +kernel
theorem dX12_thrown_23 : decode cX12_thrown 23 = .ok (.bipush (-4), 2) := by decide +kernel
theorem dX12_thrown_25 : decode cX12_thrown 25 = .ok (.ireturn, 1) := by decide +kernel
theorem dX12_thrown_26 : decode cX12_thrown 26 = .ok (.aload_n 0, 1) := by decide +kernel
theorem dX12_thrown_27 : decode cX12_thrown 27 = .ok (.getfield 7, 3) := by decide +kernel
theorem dX12_thrown_30 : decode cX12_thrown 30 = .ok (.sipush 971, 3) := by decide +kernel
theorem dX12_thrown_33 : decode cX12_thrown 33 = .ok (.iload_n 1, 1) := by decide +kernel
theorem dX12_thrown_34 : decode cX12_thrown 34 = .ok (.iadd, 1) := by decide +kernel
theorem dX12_thrown_35 : decode cX12_thrown 35 = .ok (.aload_n 0, 1) := by decide +kernel
theorem dX12_thrown_36 : decode cX12_thrown 36 = .ok (.getfield 7, 3) := by decide +kernel
theorem dX12_thrown_39 : decode cX12_thrown 39 = .ok (.iconst 0, 1) := by decide +kernel
theorem dX12_thrown_40 : decode cX12_thrown 40 = .ok (.iaload, 1) := by decide +kernel
theorem dX12_thrown_41 : decode cX12_thrown 41 = .ok (.iastore, 1) := by decide +kernel
theorem dX12_thrown_42 : decode cX12_thrown 42 = .ok (.iconst 1, 1) := by decide +kernel
theorem dX12_thrown_43 : decode cX12_thrown 43 = .ok (.ireturn, 1) := by decide +kernel
theorem dX12_letters_0 : decode cX12_letters 0 = .ok (.iconst 0, 1) := by decide +kernel
theorem dX12_letters_1 : decode cX12_letters 1 = .ok (.istore_n 2, 1) := by decide +kernel
theorem dX12_letters_2 : decode cX12_letters 2 = .ok (.iload_n 0, 1) := by decide +kernel
theorem dX12_letters_3 : decode cX12_letters 3 = .ok (.istore_n 3, 1) := by decide +kernel
theorem dX12_letters_4 : decode cX12_letters 4 = .ok (.iload_n 3, 1) := by decide +kernel
theorem dX12_letters_5 : decode cX12_letters 5 = .ok (.ifCond .le 21, 3) := by decide +kernel
theorem dX12_letters_8 : decode cX12_letters 8 = .ok (.aload_n 1, 1) := by decide +kernel
theorem dX12_letters_9 : decode cX12_letters 9 = .ok (.iload_n 2, 1) := by decide +kernel
theorem dX12_letters_10 : decode cX12_letters 10 = .ok (.iload_n 3, 1) := by decide +kernel
theorem dX12_letters_11 : decode cX12_letters 11 = .ok (.bipush 27, 2) := by decide +kernel
theorem dX12_letters_13 : decode cX12_letters 13 = .ok (.irem, 1) := by decide +kernel
theorem dX12_letters_14 : decode cX12_letters 14 = .ok (.iastore, 1) := by decide +kernel
theorem dX12_letters_15 : decode cX12_letters 15 = .ok (.iinc 2 1, 3) := by decide +kernel
theorem dX12_letters_18 : decode cX12_letters 18 = .ok (.iload_n 3, 1) := by decide +kernel
theorem dX12_letters_19 : decode cX12_letters 19 = .ok (.bipush 27, 2) := by decide +kernel
theorem dX12_letters_21 : decode cX12_letters 21 = .ok (.idiv, 1) := by decide +kernel
theorem dX12_letters_22 : decode cX12_letters 22 = .ok (.istore_n 3, 1) := by decide +kernel
theorem dX12_letters_23 : decode cX12_letters 23 = .ok (.goto (-19), 3) := by decide +kernel
theorem dX12_letters_26 : decode cX12_letters 26 = .ok (.iload_n 2, 1) := by decide +kernel
theorem dX12_letters_27 : decode cX12_letters 27 = .ok (.ireturn, 1) := by decide +kernel
theorem dX12_apartBy_0 : decode cX12_apartBy 0 = .ok (.iload_n 1, 1) := by decide +kernel
theorem dX12_apartBy_1 : decode cX12_apartBy 1 = .ok (.aload_n 0, 1) := by decide +kernel
theorem dX12_apartBy_2 : decode cX12_apartBy 2 = .ok (.getfield 19, 3) := by decide +kernel
theorem dX12_apartBy_5 : decode cX12_apartBy 5 = .ok (.invokestatic 131, 3) := by decide +kernel
theorem dX12_apartBy_8 : decode cX12_apartBy 8 = .ok (.istore_n 3, 1) := by decide +kernel
theorem dX12_apartBy_9 : decode cX12_apartBy 9 = .ok (.iload_n 2, 1) := by decide +kernel
theorem dX12_apartBy_10 : decode cX12_apartBy 10 = .ok (.aload_n 0, 1) := by decide +kernel
theorem dX12_apartBy_11 : decode cX12_apartBy 11 = .ok (.getfield 22, 3) := by decide +kernel
theorem dX12_apartBy_14 : decode cX12_apartBy 14 = .ok (.invokestatic 131, 3) := by decide +kernel
theorem dX12_apartBy_17 : decode cX12_apartBy 17 = .ok (.istore 4, 2) := by decide +kernel
theorem dX12_apartBy_19 : decode cX12_apartBy 19 = .ok (.iconst 0, 1) := by decide +kernel
theorem dX12_apartBy_20 : decode cX12_apartBy 20 = .ok (.istore 5, 2) := by decide +kernel
theorem dX12_apartBy_22 : decode cX12_apartBy 22 = .ok (.iload 5, 2) := by decide +kernel
theorem dX12_apartBy_24 : decode cX12_apartBy 24 = .ok (.iload_n 3, 1) := by decide +kernel
theorem dX12_apartBy_25 : decode cX12_apartBy 25 = .ok (.if_icmp .gt 208, 3) := by decide +kernel
theorem dX12_apartBy_28 : decode cX12_apartBy 28 = .ok (.iconst 0, 1) := by decide +kernel
theorem dX12_apartBy_29 : decode cX12_apartBy 29 = .ok (.istore 6, 2) := by decide +kernel
theorem dX12_apartBy_31 : decode cX12_apartBy 31 = .ok (.iload 6, 2) := by decide +kernel
theorem dX12_apartBy_33 : decode cX12_apartBy 33 = .ok (.iload 4, 2) := by decide +kernel
theorem dX12_apartBy_35 : decode cX12_apartBy 35 = .ok (.if_icmp .gt 192, 3) := by decide +kernel
theorem dX12_apartBy_38 : decode cX12_apartBy 38 = .ok (.iload 5, 2) := by decide +kernel
theorem dX12_apartBy_40 : decode cX12_apartBy 40 = .ok (.ifCond .ne 8, 3) := by decide +kernel
theorem dX12_apartBy_43 : decode cX12_apartBy 43 = .ok (.iload 6, 2) := by decide +kernel
theorem dX12_apartBy_45 : decode cX12_apartBy 45 = .ok (.goto 57, 3) := by decide +kernel
theorem dX12_apartBy_48 : decode cX12_apartBy 48 = .ok (.iload 6, 2) := by decide +kernel
theorem dX12_apartBy_50 : decode cX12_apartBy 50 = .ok (.ifCond .ne 8, 3) := by decide +kernel
theorem dX12_apartBy_53 : decode cX12_apartBy 53 = .ok (.iload 5, 2) := by decide +kernel
theorem dX12_apartBy_55 : decode cX12_apartBy 55 = .ok (.goto 47, 3) := by decide +kernel
theorem dX12_apartBy_58 : decode cX12_apartBy 58 = .ok (.aload_n 0, 1) := by decide +kernel
theorem dX12_apartBy_59 : decode cX12_apartBy 59 = .ok (.getfield 25, 3) := by decide +kernel
theorem dX12_apartBy_62 : decode cX12_apartBy 62 = .ok (.bipush 7, 2) := by decide +kernel
theorem dX12_apartBy_64 : decode cX12_apartBy 64 = .ok (.iload 5, 2) := by decide +kernel
theorem dX12_apartBy_66 : decode cX12_apartBy 66 = .ok (.iconst 1, 1) := by decide +kernel
theorem dX12_apartBy_67 : decode cX12_apartBy 67 = .ok (.isub, 1) := by decide +kernel
theorem dX12_apartBy_68 : decode cX12_apartBy 68 = .ok (.imul, 1) := by decide +kernel
theorem dX12_apartBy_69 : decode cX12_apartBy 69 = .ok (.iload 6, 2) := by decide +kernel
theorem dX12_apartBy_71 : decode cX12_apartBy 71 = .ok (.iadd, 1) := by decide +kernel
theorem dX12_apartBy_72 : decode cX12_apartBy 72 = .ok (.iconst 1, 1) := by decide +kernel
theorem dX12_apartBy_73 : decode cX12_apartBy 73 = .ok (.isub, 1) := by decide +kernel
theorem dX12_apartBy_74 : decode cX12_apartBy 74 = .ok (.iaload, 1) := by decide +kernel
theorem dX12_apartBy_75 : decode cX12_apartBy 75 = .ok (.aload_n 0, 1) := by decide +kernel
theorem dX12_apartBy_76 : decode cX12_apartBy 76 = .ok (.getfield 19, 3) := by decide +kernel
theorem dX12_apartBy_79 : decode cX12_apartBy 79 = .ok (.iload 5, 2) := by decide +kernel
theorem dX12_apartBy_81 : decode cX12_apartBy 81 = .ok (.iconst 1, 1) := by decide +kernel
theorem dX12_apartBy_82 : decode cX12_apartBy 82 = .ok (.isub, 1) := by decide +kernel
theorem dX12_apartBy_83 : decode cX12_apartBy 83 = .ok (.iaload, 1) := by decide +kernel
theorem dX12_apartBy_84 : decode cX12_apartBy 84 = .ok (.aload_n 0, 1) := by decide +kernel
theorem dX12_apartBy_85 : decode cX12_apartBy 85 = .ok (.getfield 22, 3) := by decide +kernel
theorem dX12_apartBy_88 : decode cX12_apartBy 88 = .ok (.iload 6, 2) := by decide +kernel
theorem dX12_apartBy_90 : decode cX12_apartBy 90 = .ok (.iconst 1, 1) := by decide +kernel
theorem dX12_apartBy_91 : decode cX12_apartBy 91 = .ok (.isub, 1) := by decide +kernel
theorem dX12_apartBy_92 : decode cX12_apartBy 92 = .ok (.iaload, 1) := by decide +kernel
theorem dX12_apartBy_93 : decode cX12_apartBy 93 = .ok (.if_icmp .ne 7, 3) := by decide +kernel
theorem dX12_apartBy_96 : decode cX12_apartBy 96 = .ok (.iconst 0, 1) := by decide +kernel
theorem dX12_apartBy_97 : decode cX12_apartBy 97 = .ok (.goto 4, 3) := by decide +kernel
theorem dX12_apartBy_100 : decode cX12_apartBy 100 = .ok (.iconst 1, 1) := by decide +kernel
theorem dX12_apartBy_101 : decode cX12_apartBy 101 = .ok (.iadd, 1) := by decide +kernel
theorem dX12_apartBy_102 : decode cX12_apartBy 102 = .ok (.istore 7, 2) := by decide +kernel
theorem dX12_apartBy_104 : decode cX12_apartBy 104 = .ok (.iload 5, 2) := by decide +kernel
theorem dX12_apartBy_106 : decode cX12_apartBy 106 = .ok (.ifCond .le 100, 3) := by decide +kernel
theorem dX12_apartBy_109 : decode cX12_apartBy 109 = .ok (.iload 6, 2) := by decide +kernel
theorem dX12_apartBy_111 : decode cX12_apartBy 111 = .ok (.ifCond .le 95, 3) := by decide +kernel
theorem dX12_apartBy_114 : decode cX12_apartBy 114 = .ok (.aload_n 0, 1) := by decide +kernel
theorem dX12_apartBy_115 : decode cX12_apartBy 115 = .ok (.getfield 25, 3) := by decide +kernel
theorem dX12_apartBy_118 : decode cX12_apartBy 118 = .ok (.bipush 7, 2) := by decide +kernel
theorem dX12_apartBy_120 : decode cX12_apartBy 120 = .ok (.iload 5, 2) := by decide +kernel
theorem dX12_apartBy_122 : decode cX12_apartBy 122 = .ok (.iconst 1, 1) := by decide +kernel
theorem dX12_apartBy_123 : decode cX12_apartBy 123 = .ok (.isub, 1) := by decide +kernel
theorem dX12_apartBy_124 : decode cX12_apartBy 124 = .ok (.imul, 1) := by decide +kernel
theorem dX12_apartBy_125 : decode cX12_apartBy 125 = .ok (.iload 6, 2) := by decide +kernel
theorem dX12_apartBy_127 : decode cX12_apartBy 127 = .ok (.iadd, 1) := by decide +kernel
theorem dX12_apartBy_128 : decode cX12_apartBy 128 = .ok (.iaload, 1) := by decide +kernel
theorem dX12_apartBy_129 : decode cX12_apartBy 129 = .ok (.iconst 1, 1) := by decide +kernel
theorem dX12_apartBy_130 : decode cX12_apartBy 130 = .ok (.iadd, 1) := by decide +kernel
theorem dX12_apartBy_131 : decode cX12_apartBy 131 = .ok (.iload 7, 2) := by decide +kernel
theorem dX12_apartBy_133 : decode cX12_apartBy 133 = .ok (.if_icmp .ge 23, 3) := by decide +kernel
theorem dX12_apartBy_136 : decode cX12_apartBy 136 = .ok (.aload_n 0, 1) := by decide +kernel
theorem dX12_apartBy_137 : decode cX12_apartBy 137 = .ok (.getfield 25, 3) := by decide +kernel
theorem dX12_apartBy_140 : decode cX12_apartBy 140 = .ok (.bipush 7, 2) := by decide +kernel
theorem dX12_apartBy_142 : decode cX12_apartBy 142 = .ok (.iload 5, 2) := by decide +kernel
theorem dX12_apartBy_144 : decode cX12_apartBy 144 = .ok (.iconst 1, 1) := by decide +kernel
theorem dX12_apartBy_145 : decode cX12_apartBy 145 = .ok (.isub, 1) := by decide +kernel
theorem dX12_apartBy_146 : decode cX12_apartBy 146 = .ok (.imul, 1) := by decide +kernel
theorem dX12_apartBy_147 : decode cX12_apartBy 147 = .ok (.iload 6, 2) := by decide +kernel
theorem dX12_apartBy_149 : decode cX12_apartBy 149 = .ok (.iadd, 1) := by decide +kernel
theorem dX12_apartBy_150 : decode cX12_apartBy 150 = .ok (.iaload, 1) := by decide +kernel
theorem dX12_apartBy_151 : decode cX12_apartBy 151 = .ok (.iconst 1, 1) := by decide +kernel
theorem dX12_apartBy_152 : decode cX12_apartBy 152 = .ok (.iadd, 1) := by decide +kernel
theorem dX12_apartBy_153 : decode cX12_apartBy 153 = .ok (.goto 5, 3) := by decide +kernel
theorem dX12_apartBy_156 : decode cX12_apartBy 156 = .ok (.iload 7, 2) := by decide +kernel
theorem dX12_apartBy_158 : decode cX12_apartBy 158 = .ok (.istore 7, 2) := by decide +kernel
theorem dX12_apartBy_160 : decode cX12_apartBy 160 = .ok (.aload_n 0, 1) := by decide +kernel
theorem dX12_apartBy_161 : decode cX12_apartBy 161 = .ok (.getfield 25, 3) := by decide +kernel
theorem dX12_apartBy_164 : decode cX12_apartBy 164 = .ok (.bipush 7, 2) := by decide +kernel
theorem dX12_apartBy_166 : decode cX12_apartBy 166 = .ok (.iload 5, 2) := by decide +kernel
theorem dX12_apartBy_168 : decode cX12_apartBy 168 = .ok (.imul, 1) := by decide +kernel
theorem dX12_apartBy_169 : decode cX12_apartBy 169 = .ok (.iload 6, 2) := by decide +kernel
theorem dX12_apartBy_171 : decode cX12_apartBy 171 = .ok (.iadd, 1) := by decide +kernel
theorem dX12_apartBy_172 : decode cX12_apartBy 172 = .ok (.iconst 1, 1) := by decide +kernel
theorem dX12_apartBy_173 : decode cX12_apartBy 173 = .ok (.isub, 1) := by decide +kernel
theorem dX12_apartBy_174 : decode cX12_apartBy 174 = .ok (.iaload, 1) := by decide +kernel
theorem dX12_apartBy_175 : decode cX12_apartBy 175 = .ok (.iconst 1, 1) := by decide +kernel
theorem dX12_apartBy_176 : decode cX12_apartBy 176 = .ok (.iadd, 1) := by decide +kernel
theorem dX12_apartBy_177 : decode cX12_apartBy 177 = .ok (.iload 7, 2) := by decide +kernel
theorem dX12_apartBy_179 : decode cX12_apartBy 179 = .ok (.if_icmp .ge 23, 3) := by decide +kernel
theorem dX12_apartBy_182 : decode cX12_apartBy 182 = .ok (.aload_n 0, 1) := by decide +kernel
theorem dX12_apartBy_183 : decode cX12_apartBy 183 = .ok (.getfield 25, 3) := by decide +kernel
theorem dX12_apartBy_186 : decode cX12_apartBy 186 = .ok (.bipush 7, 2) := by decide +kernel
theorem dX12_apartBy_188 : decode cX12_apartBy 188 = .ok (.iload 5, 2) := by decide +kernel
theorem dX12_apartBy_190 : decode cX12_apartBy 190 = .ok (.imul, 1) := by decide +kernel
theorem dX12_apartBy_191 : decode cX12_apartBy 191 = .ok (.iload 6, 2) := by decide +kernel
theorem dX12_apartBy_193 : decode cX12_apartBy 193 = .ok (.iadd, 1) := by decide +kernel
theorem dX12_apartBy_194 : decode cX12_apartBy 194 = .ok (.iconst 1, 1) := by decide +kernel
theorem dX12_apartBy_195 : decode cX12_apartBy 195 = .ok (.isub, 1) := by decide +kernel
theorem dX12_apartBy_196 : decode cX12_apartBy 196 = .ok (.iaload, 1) := by decide +kernel
theorem dX12_apartBy_197 : decode cX12_apartBy 197 = .ok (.iconst 1, 1) := by decide +kernel
theorem dX12_apartBy_198 : decode cX12_apartBy 198 = .ok (.iadd, 1) := by decide +kernel
theorem dX12_apartBy_199 : decode cX12_apartBy 199 = .ok (.goto 5, 3) := by decide +kernel
theorem dX12_apartBy_202 : decode cX12_apartBy 202 = .ok (.iload 7, 2) := by decide +kernel
theorem dX12_apartBy_204 : decode cX12_apartBy 204 = .ok (.istore 7, 2) := by decide +kernel
theorem dX12_apartBy_206 : decode cX12_apartBy 206 = .ok (.aload_n 0, 1) := by decide +kernel
theorem dX12_apartBy_207 : decode cX12_apartBy 207 = .ok (.getfield 25, 3) := by decide +kernel
theorem dX12_apartBy_210 : decode cX12_apartBy 210 = .ok (.bipush 7, 2) := by decide +kernel
theorem dX12_apartBy_212 : decode cX12_apartBy 212 = .ok (.iload 5, 2) := by decide +kernel
theorem dX12_apartBy_214 : decode cX12_apartBy 214 = .ok (.imul, 1) := by decide +kernel
theorem dX12_apartBy_215 : decode cX12_apartBy 215 = .ok (.iload 6, 2) := by decide +kernel
theorem dX12_apartBy_217 : decode cX12_apartBy 217 = .ok (.iadd, 1) := by decide +kernel
theorem dX12_apartBy_218 : decode cX12_apartBy 218 = .ok (.iload 7, 2) := by decide +kernel
theorem dX12_apartBy_220 : decode cX12_apartBy 220 = .ok (.iastore, 1) := by decide +kernel
theorem dX12_apartBy_221 : decode cX12_apartBy 221 = .ok (.iinc 6 1, 3) := by decide +kernel
theorem dX12_apartBy_224 : decode cX12_apartBy 224 = .ok (.goto (-193), 3) := by decide +kernel
theorem dX12_apartBy_227 : decode cX12_apartBy 227 = .ok (.iinc 5 1, 3) := by decide +kernel
theorem dX12_apartBy_230 : decode cX12_apartBy 230 = .ok (.goto (-208), 3) := by decide +kernel
theorem dX12_apartBy_233 : decode cX12_apartBy 233 = .ok (.aload_n 0, 1) := by decide +kernel
theorem dX12_apartBy_234 : decode cX12_apartBy 234 = .ok (.getfield 25, 3) := by decide +kernel
theorem dX12_apartBy_237 : decode cX12_apartBy 237 = .ok (.bipush 7, 2) := by decide +kernel
theorem dX12_apartBy_239 : decode cX12_apartBy 239 = .ok (.iload_n 3, 1) := by decide +kernel
theorem dX12_apartBy_240 : decode cX12_apartBy 240 = .ok (.imul, 1) := by decide +kernel
theorem dX12_apartBy_241 : decode cX12_apartBy 241 = .ok (.iload 4, 2) := by decide +kernel
theorem dX12_apartBy_243 : decode cX12_apartBy 243 = .ok (.iadd, 1) := by decide +kernel
theorem dX12_apartBy_244 : decode cX12_apartBy 244 = .ok (.iaload, 1) := by decide +kernel
theorem dX12_apartBy_245 : decode cX12_apartBy 245 = .ok (.ireturn, 1) := by decide +kernel
theorem dX12_apart_0 : decode cX12_apart 0 = .ok (.iload_n 1, 1) := by decide +kernel
theorem dX12_apart_1 : decode cX12_apart 1 = .ok (.invokestatic 97, 3) := by decide +kernel
theorem dX12_apart_4 : decode cX12_apart 4 = .ok (.ifCond .eq 19, 3) := by decide +kernel
theorem dX12_apart_7 : decode cX12_apart 7 = .ok (.iload_n 2, 1) := by decide +kernel
theorem dX12_apart_8 : decode cX12_apart 8 = .ok (.invokestatic 97, 3) := by decide +kernel
theorem dX12_apart_11 : decode cX12_apart 11 = .ok (.ifCond .eq 12, 3) := by decide +kernel
theorem dX12_apart_14 : decode cX12_apart 14 = .ok (.aload_n 0, 1) := by decide +kernel
theorem dX12_apart_15 : decode cX12_apart 15 = .ok (.iload_n 1, 1) := by decide +kernel
theorem dX12_apart_16 : decode cX12_apart 16 = .ok (.iload_n 2, 1) := by decide +kernel
theorem dX12_apart_17 : decode cX12_apart 17 = .ok (.invokevirtual 135, 3) := by decide +kernel
theorem dX12_apart_20 : decode cX12_apart 20 = .ok (.goto 4, 3) := by decide +kernel
theorem dX12_apart_23 : decode cX12_apart 23 = .ok (.iconst (-1), 1) := by decide +kernel
theorem dX12_apart_24 : decode cX12_apart 24 = .ok (.ireturn, 1) := by decide +kernel
theorem dX12_fits_0 : decode cX12_fits 0 = .ok (.iconst 0, 1) := by decide +kernel
theorem dX12_fits_1 : decode cX12_fits 1 = .ok (.istore_n 3, 1) := by decide +kernel
theorem dX12_fits_2 : decode cX12_fits 2 = .ok (.iconst 0, 1) := by decide +kernel
theorem dX12_fits_3 : decode cX12_fits 3 = .ok (.istore 4, 2) := by decide +kernel
theorem dX12_fits_5 : decode cX12_fits 5 = .ok (.iload 4, 2) := by decide +kernel
theorem dX12_fits_7 : decode cX12_fits 7 = .ok (.aload_n 0, 1) := by decide +kernel
theorem dX12_fits_8 : decode cX12_fits 8 = .ok (.getfield 7, 3) := by decide +kernel
theorem dX12_fits_11 : decode cX12_fits 11 = .ok (.iconst 2, 1) := by decide +kernel
theorem dX12_fits_12 : decode cX12_fits 12 = .ok (.iaload, 1) := by decide +kernel
theorem dX12_fits_13 : decode cX12_fits 13 = .ok (.if_icmp .ge 179, 3) := by decide +kernel
theorem dX12_fits_16 : decode cX12_fits 16 = .ok (.iload_n 2, 1) := by decide +kernel
theorem dX12_fits_17 : decode cX12_fits 17 = .ok (.ifCond .eq 34, 3) := by decide +kernel
theorem dX12_fits_20 : decode cX12_fits 20 = .ok (.aload_n 0, 1) := by decide +kernel
theorem dX12_fits_21 : decode cX12_fits 21 = .ok (.getfield 7, 3) := by decide +kernel
theorem dX12_fits_24 : decode cX12_fits 24 = .ok (.sipush 651, 3) := by decide +kernel
theorem dX12_fits_27 : decode cX12_fits 27 = .ok (.iload_n 1, 1) := by decide +kernel
theorem dX12_fits_28 : decode cX12_fits 28 = .ok (.iadd, 1) := by decide +kernel
theorem dX12_fits_29 : decode cX12_fits 29 = .ok (.iaload, 1) := by decide +kernel
theorem dX12_fits_30 : decode cX12_fits 30 = .ok (.aload_n 0, 1) := by decide +kernel
theorem dX12_fits_31 : decode cX12_fits 31 = .ok (.getfield 7, 3) := by decide +kernel
theorem dX12_fits_34 : decode cX12_fits 34 = .ok (.bipush 107, 2) := by decide +kernel
theorem dX12_fits_36 : decode cX12_fits 36 = .ok (.iload 4, 2) := by decide +kernel
theorem dX12_fits_38 : decode cX12_fits 38 = .ok (.iadd, 1) := by decide +kernel
theorem dX12_fits_39 : decode cX12_fits 39 = .ok (.iaload, 1) := by decide +kernel
theorem dX12_fits_40 : decode cX12_fits 40 = .ok (.if_icmp .ne 7, 3) := by decide +kernel
theorem dX12_fits_43 : decode cX12_fits 43 = .ok (.iconst 1, 1) := by decide +kernel
theorem dX12_fits_44 : decode cX12_fits 44 = .ok (.goto 40, 3) := by decide +kernel
theorem dX12_fits_47 : decode cX12_fits 47 = .ok (.iconst 0, 1) := by decide +kernel
theorem dX12_fits_48 : decode cX12_fits 48 = .ok (.goto 36, 3) := by decide +kernel
theorem dX12_fits_51 : decode cX12_fits 51 = .ok (.aload_n 0, 1) := by decide +kernel
theorem dX12_fits_52 : decode cX12_fits 52 = .ok (.aload_n 0, 1) := by decide +kernel
theorem dX12_fits_53 : decode cX12_fits 53 = .ok (.getfield 7, 3) := by decide +kernel
theorem dX12_fits_56 : decode cX12_fits 56 = .ok (.sipush 651, 3) := by decide +kernel
theorem dX12_fits_59 : decode cX12_fits 59 = .ok (.iload_n 1, 1) := by decide +kernel
theorem dX12_fits_60 : decode cX12_fits 60 = .ok (.iadd, 1) := by decide +kernel
theorem dX12_fits_61 : decode cX12_fits 61 = .ok (.iaload, 1) := by decide +kernel
theorem dX12_fits_62 : decode cX12_fits 62 = .ok (.aload_n 0, 1) := by decide +kernel
theorem dX12_fits_63 : decode cX12_fits 63 = .ok (.getfield 7, 3) := by decide +kernel
theorem dX12_fits_66 : decode cX12_fits 66 = .ok (.bipush 107, 2) := by decide +kernel
theorem dX12_fits_68 : decode cX12_fits 68 = .ok (.iload 4, 2) := by decide +kernel
theorem dX12_fits_70 : decode cX12_fits 70 = .ok (.iadd, 1) := by decide +kernel
theorem dX12_fits_71 : decode cX12_fits 71 = .ok (.iaload, 1) := by decide +kernel
theorem dX12_fits_72 : decode cX12_fits 72 = .ok (.invokevirtual 135, 3) := by decide +kernel
theorem dX12_fits_75 : decode cX12_fits 75 = .ok (.iconst 1, 1) := by decide +kernel
theorem dX12_fits_76 : decode cX12_fits 76 = .ok (.if_icmp .gt 7, 3) := by decide +kernel
theorem dX12_fits_79 : decode cX12_fits 79 = .ok (.iconst 1, 1) := by decide +kernel
theorem dX12_fits_80 : decode cX12_fits 80 = .ok (.goto 4, 3) := by decide +kernel
theorem dX12_fits_83 : decode cX12_fits 83 = .ok (.iconst 0, 1) := by decide +kernel
theorem dX12_fits_84 : decode cX12_fits 84 = .ok (.istore 5, 2) := by decide +kernel
theorem dX12_fits_86 : decode cX12_fits 86 = .ok (.aload_n 0, 1) := by decide +kernel
theorem dX12_fits_87 : decode cX12_fits 87 = .ok (.getfield 7, 3) := by decide +kernel
theorem dX12_fits_90 : decode cX12_fits 90 = .ok (.sipush 691, 3) := by decide +kernel
theorem dX12_fits_93 : decode cX12_fits 93 = .ok (.iload_n 1, 1) := by decide +kernel
theorem dX12_fits_94 : decode cX12_fits 94 = .ok (.iadd, 1) := by decide +kernel
theorem dX12_fits_95 : decode cX12_fits 95 = .ok (.iaload, 1) := by decide +kernel
theorem dX12_fits_96 : decode cX12_fits 96 = .ok (.ifCond .eq 26, 3) := by decide +kernel
theorem dX12_fits_99 : decode cX12_fits 99 = .ok (.aload_n 0, 1) := by decide +kernel
theorem dX12_fits_100 : decode cX12_fits 100 = .ok (.getfield 7, 3) := by decide +kernel
theorem dX12_fits_103 : decode cX12_fits 103 = .ok (.sipush 691, 3) := by decide +kernel
theorem dX12_fits_106 : decode cX12_fits 106 = .ok (.iload_n 1, 1) := by decide +kernel
theorem dX12_fits_107 : decode cX12_fits 107 = .ok (.iadd, 1) := by decide +kernel
theorem dX12_fits_108 : decode cX12_fits 108 = .ok (.iaload, 1) := by decide +kernel
theorem dX12_fits_109 : decode cX12_fits 109 = .ok (.aload_n 0, 1) := by decide +kernel
theorem dX12_fits_110 : decode cX12_fits 110 = .ok (.getfield 7, 3) := by decide +kernel
theorem dX12_fits_113 : decode cX12_fits 113 = .ok (.bipush 123, 2) := by decide +kernel
theorem dX12_fits_115 : decode cX12_fits 115 = .ok (.iload 4, 2) := by decide +kernel
theorem dX12_fits_117 : decode cX12_fits 117 = .ok (.iadd, 1) := by decide +kernel
theorem dX12_fits_118 : decode cX12_fits 118 = .ok (.iaload, 1) := by decide +kernel
theorem dX12_fits_119 : decode cX12_fits 119 = .ok (.if_icmp .ne 43, 3) := by decide +kernel
theorem dX12_fits_122 : decode cX12_fits 122 = .ok (.aload_n 0, 1) := by decide +kernel
theorem dX12_fits_123 : decode cX12_fits 123 = .ok (.getfield 7, 3) := by decide +kernel
theorem dX12_fits_126 : decode cX12_fits 126 = .ok (.sipush 731, 3) := by decide +kernel
theorem dX12_fits_129 : decode cX12_fits 129 = .ok (.iload_n 1, 1) := by decide +kernel
theorem dX12_fits_130 : decode cX12_fits 130 = .ok (.iadd, 1) := by decide +kernel
theorem dX12_fits_131 : decode cX12_fits 131 = .ok (.iaload, 1) := by decide +kernel
theorem dX12_fits_132 : decode cX12_fits 132 = .ok (.ifCond .lt 26, 3) := by decide +kernel
theorem dX12_fits_135 : decode cX12_fits 135 = .ok (.aload_n 0, 1) := by decide +kernel
theorem dX12_fits_136 : decode cX12_fits 136 = .ok (.getfield 7, 3) := by decide +kernel
theorem dX12_fits_139 : decode cX12_fits 139 = .ok (.sipush 731, 3) := by decide +kernel
theorem dX12_fits_142 : decode cX12_fits 142 = .ok (.iload_n 1, 1) := by decide +kernel
theorem dX12_fits_143 : decode cX12_fits 143 = .ok (.iadd, 1) := by decide +kernel
theorem dX12_fits_144 : decode cX12_fits 144 = .ok (.iaload, 1) := by decide +kernel
theorem dX12_fits_145 : decode cX12_fits 145 = .ok (.aload_n 0, 1) := by decide +kernel
theorem dX12_fits_146 : decode cX12_fits 146 = .ok (.getfield 7, 3) := by decide +kernel
theorem dX12_fits_149 : decode cX12_fits 149 = .ok (.bipush 75, 2) := by decide +kernel
theorem dX12_fits_151 : decode cX12_fits 151 = .ok (.iload 4, 2) := by decide +kernel
theorem dX12_fits_153 : decode cX12_fits 153 = .ok (.iadd, 1) := by decide +kernel
theorem dX12_fits_154 : decode cX12_fits 154 = .ok (.iaload, 1) := by decide +kernel
theorem dX12_fits_155 : decode cX12_fits 155 = .ok (.if_icmp .ne 7, 3) := by decide +kernel
theorem dX12_fits_158 : decode cX12_fits 158 = .ok (.iconst 1, 1) := by decide +kernel
theorem dX12_fits_159 : decode cX12_fits 159 = .ok (.goto 4, 3) := by decide +kernel
theorem dX12_fits_162 : decode cX12_fits 162 = .ok (.iconst 0, 1) := by decide +kernel
theorem dX12_fits_163 : decode cX12_fits 163 = .ok (.istore 6, 2) := by decide +kernel
theorem dX12_fits_165 : decode cX12_fits 165 = .ok (.iload_n 3, 1) := by decide +kernel
theorem dX12_fits_166 : decode cX12_fits 166 = .ok (.iload 5, 2) := by decide +kernel
theorem dX12_fits_168 : decode cX12_fits 168 = .ok (.ifCond .eq 15, 3) := by decide +kernel
theorem dX12_fits_171 : decode cX12_fits 171 = .ok (.iload 6, 2) := by decide +kernel
theorem dX12_fits_173 : decode cX12_fits 173 = .ok (.ifCond .eq 10, 3) := by decide +kernel
theorem dX12_fits_176 : decode cX12_fits 176 = .ok (.iconst 1, 1) := by decide +kernel
theorem dX12_fits_177 : decode cX12_fits 177 = .ok (.iload 4, 2) := by decide +kernel
theorem dX12_fits_179 : decode cX12_fits 179 = .ok (.ishl, 1) := by decide +kernel
theorem dX12_fits_180 : decode cX12_fits 180 = .ok (.goto 4, 3) := by decide +kernel
theorem dX12_fits_183 : decode cX12_fits 183 = .ok (.iconst 0, 1) := by decide +kernel
theorem dX12_fits_184 : decode cX12_fits 184 = .ok (.ior, 1) := by decide +kernel
theorem dX12_fits_185 : decode cX12_fits 185 = .ok (.istore_n 3, 1) := by decide +kernel
theorem dX12_fits_186 : decode cX12_fits 186 = .ok (.iinc 4 1, 3) := by decide +kernel
theorem dX12_fits_189 : decode cX12_fits 189 = .ok (.goto (-184), 3) := by decide +kernel
theorem dX12_fits_192 : decode cX12_fits 192 = .ok (.iload_n 3, 1) := by decide +kernel
theorem dX12_fits_193 : decode cX12_fits 193 = .ok (.ireturn, 1) := by decide +kernel
theorem dX12_meant_0 : decode cX12_meant 0 = .ok (.aload_n 0, 1) := by decide +kernel
theorem dX12_meant_1 : decode cX12_meant 1 = .ok (.iload_n 1, 1) := by decide +kernel
theorem dX12_meant_2 : decode cX12_meant 2 = .ok (.iconst 1, 1) := by decide +kernel
theorem dX12_meant_3 : decode cX12_meant 3 = .ok (.invokevirtual 138, 3) := by decide +kernel
theorem dX12_meant_6 : decode cX12_meant 6 = .ok (.istore_n 2, 1) := by decide +kernel
theorem dX12_meant_7 : decode cX12_meant 7 = .ok (.iload_n 2, 1) := by decide +kernel
theorem dX12_meant_8 : decode cX12_meant 8 = .ok (.ifCond .eq 7, 3) := by decide +kernel
theorem dX12_meant_11 : decode cX12_meant 11 = .ok (.iload_n 2, 1) := by decide +kernel
theorem dX12_meant_12 : decode cX12_meant 12 = .ok (.goto 9, 3) := by decide +kernel
theorem dX12_meant_15 : decode cX12_meant 15 = .ok (.aload_n 0, 1) := by decide +kernel
theorem dX12_meant_16 : decode cX12_meant 16 = .ok (.iload_n 1, 1) := by decide +kernel
theorem dX12_meant_17 : decode cX12_meant 17 = .ok (.iconst 0, 1) := by decide +kernel
theorem dX12_meant_18 : decode cX12_meant 18 = .ok (.invokevirtual 138, 3) := by decide +kernel
theorem dX12_meant_21 : decode cX12_meant 21 = .ok (.ireturn, 1) := by decide +kernel
theorem dX12_bits_0 : decode cX12_bits 0 = .ok (.iconst 0, 1) := by decide +kernel
theorem dX12_bits_1 : decode cX12_bits 1 = .ok (.istore_n 1, 1) := by decide +kernel
theorem dX12_bits_2 : decode cX12_bits 2 = .ok (.iconst 0, 1) := by decide +kernel
theorem dX12_bits_3 : decode cX12_bits 3 = .ok (.istore_n 2, 1) := by decide +kernel
theorem dX12_bits_4 : decode cX12_bits 4 = .ok (.iload_n 2, 1) := by decide +kernel
theorem dX12_bits_5 : decode cX12_bits 5 = .ok (.bipush 16, 2) := by decide +kernel
theorem dX12_bits_7 : decode cX12_bits 7 = .ok (.if_icmp .ge 17, 3) := by decide +kernel
theorem dX12_bits_10 : decode cX12_bits 10 = .ok (.iload_n 1, 1) := by decide +kernel
theorem dX12_bits_11 : decode cX12_bits 11 = .ok (.iload_n 0, 1) := by decide +kernel
theorem dX12_bits_12 : decode cX12_bits 12 = .ok (.iload_n 2, 1) := by decide +kernel
theorem dX12_bits_13 : decode cX12_bits 13 = .ok (.ishr, 1) := by decide +kernel
theorem dX12_bits_14 : decode cX12_bits 14 = .ok (.iconst 1, 1) := by decide +kernel
theorem dX12_bits_15 : decode cX12_bits 15 = .ok (.iand, 1) := by decide +kernel
theorem dX12_bits_16 : decode cX12_bits 16 = .ok (.iadd, 1) := by decide +kernel
theorem dX12_bits_17 : decode cX12_bits 17 = .ok (.istore_n 1, 1) := by decide +kernel
theorem dX12_bits_18 : decode cX12_bits 18 = .ok (.iinc 2 1, 3) := by decide +kernel
theorem dX12_bits_21 : decode cX12_bits 21 = .ok (.goto (-17), 3) := by decide +kernel
theorem dX12_bits_24 : decode cX12_bits 24 = .ok (.iload_n 1, 1) := by decide +kernel
theorem dX12_bits_25 : decode cX12_bits 25 = .ok (.ireturn, 1) := by decide +kernel
theorem dX12_meaning_0 : decode cX12_meaning 0 = .ok (.aload_n 0, 1) := by decide +kernel
theorem dX12_meaning_1 : decode cX12_meaning 1 = .ok (.iload_n 1, 1) := by decide +kernel
theorem dX12_meaning_2 : decode cX12_meaning 2 = .ok (.invokevirtual 142, 3) := by decide +kernel
theorem dX12_meaning_5 : decode cX12_meaning 5 = .ok (.istore_n 2, 1) := by decide +kernel
theorem dX12_meaning_6 : decode cX12_meaning 6 = .ok (.iload_n 2, 1) := by decide +kernel
theorem dX12_meaning_7 : decode cX12_meaning 7 = .ok (.ifCond .ne 7, 3) := by decide +kernel
theorem dX12_meaning_10 : decode cX12_meaning 10 = .ok (.iconst 0, 1) := by decide +kernel
theorem dX12_meaning_11 : decode cX12_meaning 11 = .ok (.goto 29, 3) := by decide +kernel
theorem dX12_meaning_14 : decode cX12_meaning 14 = .ok (.iload_n 2, 1) := by decide +kernel
theorem dX12_meaning_15 : decode cX12_meaning 15 = .ok (.invokestatic 146, 3) := by decide +kernel
theorem dX12_meaning_18 : decode cX12_meaning 18 = .ok (.iconst 1, 1) := by decide +kernel
theorem dX12_meaning_19 : decode cX12_meaning 19 = .ok (.if_icmp .le 7, 3) := by decide +kernel
theorem dX12_meaning_22 : decode cX12_meaning 22 = .ok (.iconst 3, 1) := by decide +kernel
theorem dX12_meaning_23 : decode cX12_meaning 23 = .ok (.goto 17, 3) := by decide +kernel
theorem dX12_meaning_26 : decode cX12_meaning 26 = .ok (.aload_n 0, 1) := by decide +kernel
theorem dX12_meaning_27 : decode cX12_meaning 27 = .ok (.iload_n 1, 1) := by decide +kernel
theorem dX12_meaning_28 : decode cX12_meaning 28 = .ok (.iconst 1, 1) := by decide +kernel
theorem dX12_meaning_29 : decode cX12_meaning 29 = .ok (.invokevirtual 138, 3) := by decide +kernel
theorem dX12_meaning_32 : decode cX12_meaning 32 = .ok (.ifCond .eq 7, 3) := by decide +kernel
theorem dX12_meaning_35 : decode cX12_meaning 35 = .ok (.iconst 1, 1) := by decide +kernel
theorem dX12_meaning_36 : decode cX12_meaning 36 = .ok (.goto 4, 3) := by decide +kernel
theorem dX12_meaning_39 : decode cX12_meaning 39 = .ok (.iconst 2, 1) := by decide +kernel
theorem dX12_meaning_40 : decode cX12_meaning 40 = .ok (.ireturn, 1) := by decide +kernel
theorem dX12_sherdOf_0 : decode cX12_sherdOf 0 = .ok (.aload_n 0, 1) := by decide +kernel
theorem dX12_sherdOf_1 : decode cX12_sherdOf 1 = .ok (.iload_n 1, 1) := by decide +kernel
theorem dX12_sherdOf_2 : decode cX12_sherdOf 2 = .ok (.invokevirtual 128, 3) := by decide +kernel
theorem dX12_sherdOf_5 : decode cX12_sherdOf 5 = .ok (.ifCond .eq 13, 3) := by decide +kernel
theorem dX12_sherdOf_8 : decode cX12_sherdOf 8 = .ok (.iload_n 2, 1) := by decide +kernel
theorem dX12_sherdOf_9 : decode cX12_sherdOf 9 = .ok (.iconst 0, 1) := by decide +kernel
theorem dX12_sherdOf_10 : decode cX12_sherdOf 10 = .ok (.bipush 11, 2) := by decide +kernel
theorem dX12_sherdOf_12 : decode cX12_sherdOf 12 = .ok (.invokestatic 77, 3) := by decide +kernel
theorem dX12_sherdOf_15 : decode cX12_sherdOf 15 = .ok (.ifCond .ne 5, 3) := by decide +kernel
theorem dX12_sherdOf_18 : decode cX12_sherdOf 18 = .ok (.iconst (-1), 1) := by decide +kernel
theorem dX12_sherdOf_19 : decode cX12_sherdOf 19 = .ok (.ireturn, 1) := by decide +kernel
theorem dX12_sherdOf_20 : decode cX12_sherdOf 20 = .ok (.iload_n 2, 1) := by decide +kernel
theorem dX12_sherdOf_21 : decode cX12_sherdOf 21 = .ok (.tableswitch 224 0 10 #[59, 70, 81, 110, 139, 150, 161, 172, 183, 212, 218], 59) := by decide +kernel
theorem dX12_sherdOf_80 : decode cX12_sherdOf 80 = .ok (.aload_n 0, 1) := by decide +kernel
theorem dX12_sherdOf_81 : decode cX12_sherdOf 81 = .ok (.getfield 7, 3) := by decide +kernel
theorem dX12_sherdOf_84 : decode cX12_sherdOf 84 = .ok (.sipush 651, 3) := by decide +kernel
theorem dX12_sherdOf_87 : decode cX12_sherdOf 87 = .ok (.iload_n 1, 1) := by decide +kernel
theorem dX12_sherdOf_88 : decode cX12_sherdOf 88 = .ok (.iadd, 1) := by decide +kernel
theorem dX12_sherdOf_89 : decode cX12_sherdOf 89 = .ok (.iaload, 1) := by decide +kernel
theorem dX12_sherdOf_90 : decode cX12_sherdOf 90 = .ok (.ireturn, 1) := by decide +kernel
theorem dX12_sherdOf_91 : decode cX12_sherdOf 91 = .ok (.aload_n 0, 1) := by decide +kernel
theorem dX12_sherdOf_92 : decode cX12_sherdOf 92 = .ok (.getfield 7, 3) := by decide +kernel
theorem dX12_sherdOf_95 : decode cX12_sherdOf 95 = .ok (.sipush 691, 3) := by decide +kernel
theorem dX12_sherdOf_98 : decode cX12_sherdOf 98 = .ok (.iload_n 1, 1) := by decide +kernel
theorem dX12_sherdOf_99 : decode cX12_sherdOf 99 = .ok (.iadd, 1) := by decide +kernel
theorem dX12_sherdOf_100 : decode cX12_sherdOf 100 = .ok (.iaload, 1) := by decide +kernel
theorem dX12_sherdOf_101 : decode cX12_sherdOf 101 = .ok (.ireturn, 1) := by decide +kernel
theorem dX12_sherdOf_102 : decode cX12_sherdOf 102 = .ok (.aload_n 0, 1) := by decide +kernel
theorem dX12_sherdOf_103 : decode cX12_sherdOf 103 = .ok (.getfield 7, 3) := by decide +kernel
theorem dX12_sherdOf_106 : decode cX12_sherdOf 106 = .ok (.sipush 731, 3) := by decide +kernel
theorem dX12_sherdOf_109 : decode cX12_sherdOf 109 = .ok (.iload_n 1, 1) := by decide +kernel
theorem dX12_sherdOf_110 : decode cX12_sherdOf 110 = .ok (.iadd, 1) := by decide +kernel
theorem dX12_sherdOf_111 : decode cX12_sherdOf 111 = .ok (.iaload, 1) := by decide +kernel
theorem dX12_sherdOf_112 : decode cX12_sherdOf 112 = .ok (.ifCond .ge 8, 3) := by decide +kernel
theorem dX12_sherdOf_115 : decode cX12_sherdOf 115 = .ok (.bipush (-3), 2) := by decide +kernel
theorem dX12_sherdOf_117 : decode cX12_sherdOf 117 = .ok (.goto 13, 3) := by decide +kernel
theorem dX12_sherdOf_120 : decode cX12_sherdOf 120 = .ok (.aload_n 0, 1) := by decide +kernel
theorem dX12_sherdOf_121 : decode cX12_sherdOf 121 = .ok (.getfield 7, 3) := by decide +kernel
theorem dX12_sherdOf_124 : decode cX12_sherdOf 124 = .ok (.sipush 731, 3) := by decide +kernel
theorem dX12_sherdOf_127 : decode cX12_sherdOf 127 = .ok (.iload_n 1, 1) := by decide +kernel
theorem dX12_sherdOf_128 : decode cX12_sherdOf 128 = .ok (.iadd, 1) := by decide +kernel
theorem dX12_sherdOf_129 : decode cX12_sherdOf 129 = .ok (.iaload, 1) := by decide +kernel
theorem dX12_sherdOf_130 : decode cX12_sherdOf 130 = .ok (.ireturn, 1) := by decide +kernel
theorem dX12_sherdOf_131 : decode cX12_sherdOf 131 = .ok (.aload_n 0, 1) := by decide +kernel
theorem dX12_sherdOf_132 : decode cX12_sherdOf 132 = .ok (.getfield 7, 3) := by decide +kernel
theorem dX12_sherdOf_135 : decode cX12_sherdOf 135 = .ok (.sipush 771, 3) := by decide +kernel
theorem dX12_sherdOf_138 : decode cX12_sherdOf 138 = .ok (.iload_n 1, 1) := by decide +kernel
theorem dX12_sherdOf_139 : decode cX12_sherdOf 139 = .ok (.iadd, 1) := by decide +kernel
theorem dX12_sherdOf_140 : decode cX12_sherdOf 140 = .ok (.iaload, 1) := by decide +kernel
theorem dX12_sherdOf_141 : decode cX12_sherdOf 141 = .ok (.ifCond .ge 8, 3) := by decide +kernel
theorem dX12_sherdOf_144 : decode cX12_sherdOf 144 = .ok (.bipush (-3), 2) := by decide +kernel
theorem dX12_sherdOf_146 : decode cX12_sherdOf 146 = .ok (.goto 13, 3) := by decide +kernel
theorem dX12_sherdOf_149 : decode cX12_sherdOf 149 = .ok (.aload_n 0, 1) := by decide +kernel
theorem dX12_sherdOf_150 : decode cX12_sherdOf 150 = .ok (.getfield 7, 3) := by decide +kernel
theorem dX12_sherdOf_153 : decode cX12_sherdOf 153 = .ok (.sipush 771, 3) := by decide +kernel
theorem dX12_sherdOf_156 : decode cX12_sherdOf 156 = .ok (.iload_n 1, 1) := by decide +kernel
theorem dX12_sherdOf_157 : decode cX12_sherdOf 157 = .ok (.iadd, 1) := by decide +kernel
theorem dX12_sherdOf_158 : decode cX12_sherdOf 158 = .ok (.iaload, 1) := by decide +kernel
theorem dX12_sherdOf_159 : decode cX12_sherdOf 159 = .ok (.ireturn, 1) := by decide +kernel
theorem dX12_sherdOf_160 : decode cX12_sherdOf 160 = .ok (.aload_n 0, 1) := by decide +kernel
theorem dX12_sherdOf_161 : decode cX12_sherdOf 161 = .ok (.getfield 7, 3) := by decide +kernel
theorem dX12_sherdOf_164 : decode cX12_sherdOf 164 = .ok (.sipush 811, 3) := by decide +kernel
theorem dX12_sherdOf_167 : decode cX12_sherdOf 167 = .ok (.iload_n 1, 1) := by decide +kernel
theorem dX12_sherdOf_168 : decode cX12_sherdOf 168 = .ok (.iadd, 1) := by decide +kernel
theorem dX12_sherdOf_169 : decode cX12_sherdOf 169 = .ok (.iaload, 1) := by decide +kernel
theorem dX12_sherdOf_170 : decode cX12_sherdOf 170 = .ok (.ireturn, 1) := by decide +kernel
theorem dX12_sherdOf_171 : decode cX12_sherdOf 171 = .ok (.aload_n 0, 1) := by decide +kernel
theorem dX12_sherdOf_172 : decode cX12_sherdOf 172 = .ok (.getfield 7, 3) := by decide +kernel
theorem dX12_sherdOf_175 : decode cX12_sherdOf 175 = .ok (.sipush 851, 3) := by decide +kernel
theorem dX12_sherdOf_178 : decode cX12_sherdOf 178 = .ok (.iload_n 1, 1) := by decide +kernel
theorem dX12_sherdOf_179 : decode cX12_sherdOf 179 = .ok (.iadd, 1) := by decide +kernel
theorem dX12_sherdOf_180 : decode cX12_sherdOf 180 = .ok (.iaload, 1) := by decide +kernel
theorem dX12_sherdOf_181 : decode cX12_sherdOf 181 = .ok (.ireturn, 1) := by decide +kernel
theorem dX12_sherdOf_182 : decode cX12_sherdOf 182 = .ok (.aload_n 0, 1) := by decide +kernel
theorem dX12_sherdOf_183 : decode cX12_sherdOf 183 = .ok (.getfield 7, 3) := by decide +kernel
theorem dX12_sherdOf_186 : decode cX12_sherdOf 186 = .ok (.sipush 891, 3) := by decide +kernel
theorem dX12_sherdOf_189 : decode cX12_sherdOf 189 = .ok (.iload_n 1, 1) := by decide +kernel
theorem dX12_sherdOf_190 : decode cX12_sherdOf 190 = .ok (.iadd, 1) := by decide +kernel
theorem dX12_sherdOf_191 : decode cX12_sherdOf 191 = .ok (.iaload, 1) := by decide +kernel
theorem dX12_sherdOf_192 : decode cX12_sherdOf 192 = .ok (.ireturn, 1) := by decide +kernel
theorem dX12_sherdOf_193 : decode cX12_sherdOf 193 = .ok (.aload_n 0, 1) := by decide +kernel
theorem dX12_sherdOf_194 : decode cX12_sherdOf 194 = .ok (.getfield 7, 3) := by decide +kernel
theorem dX12_sherdOf_197 : decode cX12_sherdOf 197 = .ok (.sipush 931, 3) := by decide +kernel
theorem dX12_sherdOf_200 : decode cX12_sherdOf 200 = .ok (.iload_n 1, 1) := by decide +kernel
theorem dX12_sherdOf_201 : decode cX12_sherdOf 201 = .ok (.iadd, 1) := by decide +kernel
theorem dX12_sherdOf_202 : decode cX12_sherdOf 202 = .ok (.iaload, 1) := by decide +kernel
theorem dX12_sherdOf_203 : decode cX12_sherdOf 203 = .ok (.ireturn, 1) := by decide +kernel
theorem dX12_sherdOf_204 : decode cX12_sherdOf 204 = .ok (.aload_n 0, 1) := by decide +kernel
theorem dX12_sherdOf_205 : decode cX12_sherdOf 205 = .ok (.getfield 7, 3) := by decide +kernel
theorem dX12_sherdOf_208 : decode cX12_sherdOf 208 = .ok (.sipush 971, 3) := by decide +kernel
theorem dX12_sherdOf_211 : decode cX12_sherdOf 211 = .ok (.iload_n 1, 1) := by decide +kernel
theorem dX12_sherdOf_212 : decode cX12_sherdOf 212 = .ok (.iadd, 1) := by decide +kernel
theorem dX12_sherdOf_213 : decode cX12_sherdOf 213 = .ok (.iaload, 1) := by decide +kernel
theorem dX12_sherdOf_214 : decode cX12_sherdOf 214 = .ok (.ifCond .ge 8, 3) := by decide +kernel
theorem dX12_sherdOf_217 : decode cX12_sherdOf 217 = .ok (.bipush (-3), 2) := by decide +kernel
theorem dX12_sherdOf_219 : decode cX12_sherdOf 219 = .ok (.goto 13, 3) := by decide +kernel
theorem dX12_sherdOf_222 : decode cX12_sherdOf 222 = .ok (.aload_n 0, 1) := by decide +kernel
theorem dX12_sherdOf_223 : decode cX12_sherdOf 223 = .ok (.getfield 7, 3) := by decide +kernel
theorem dX12_sherdOf_226 : decode cX12_sherdOf 226 = .ok (.sipush 971, 3) := by decide +kernel
theorem dX12_sherdOf_229 : decode cX12_sherdOf 229 = .ok (.iload_n 1, 1) := by decide +kernel
theorem dX12_sherdOf_230 : decode cX12_sherdOf 230 = .ok (.iadd, 1) := by decide +kernel
theorem dX12_sherdOf_231 : decode cX12_sherdOf 231 = .ok (.iaload, 1) := by decide +kernel
theorem dX12_sherdOf_232 : decode cX12_sherdOf 232 = .ok (.ireturn, 1) := by decide +kernel
theorem dX12_sherdOf_233 : decode cX12_sherdOf 233 = .ok (.aload_n 0, 1) := by decide +kernel
theorem dX12_sherdOf_234 : decode cX12_sherdOf 234 = .ok (.iload_n 1, 1) := by decide +kernel
theorem dX12_sherdOf_235 : decode cX12_sherdOf 235 = .ok (.invokevirtual 149, 3) := by decide +kernel
theorem dX12_sherdOf_238 : decode cX12_sherdOf 238 = .ok (.ireturn, 1) := by decide +kernel
theorem dX12_sherdOf_239 : decode cX12_sherdOf 239 = .ok (.aload_n 0, 1) := by decide +kernel
theorem dX12_sherdOf_240 : decode cX12_sherdOf 240 = .ok (.iload_n 1, 1) := by decide +kernel
theorem dX12_sherdOf_241 : decode cX12_sherdOf 241 = .ok (.invokevirtual 142, 3) := by decide +kernel
theorem dX12_sherdOf_244 : decode cX12_sherdOf 244 = .ok (.ireturn, 1) := by decide +kernel
theorem dX12_sherdOf_245 : decode cX12_sherdOf 245 = .ok (.aload_n 0, 1) := by decide +kernel
theorem dX12_sherdOf_246 : decode cX12_sherdOf 246 = .ok (.iload_n 1, 1) := by decide +kernel
theorem dX12_sherdOf_247 : decode cX12_sherdOf 247 = .ok (.invokevirtual 152, 3) := by decide +kernel
theorem dX12_sherdOf_250 : decode cX12_sherdOf 250 = .ok (.ifCond .eq 7, 3) := by decide +kernel
theorem dX12_sherdOf_253 : decode cX12_sherdOf 253 = .ok (.iconst 1, 1) := by decide +kernel
theorem dX12_sherdOf_254 : decode cX12_sherdOf 254 = .ok (.goto 4, 3) := by decide +kernel
theorem dX12_sherdOf_257 : decode cX12_sherdOf 257 = .ok (.iconst 0, 1) := by decide +kernel
theorem dX12_sherdOf_258 : decode cX12_sherdOf 258 = .ok (.ireturn, 1) := by decide +kernel
theorem dX12_feed_0 : decode cX12_feed 0 = .ok (.iload_n 3, 1) := by decide +kernel
theorem dX12_feed_1 : decode cX12_feed 1 = .ok (.iconst 1, 1) := by decide +kernel
theorem dX12_feed_2 : decode cX12_feed 2 = .ok (.bipush 8, 2) := by decide +kernel
theorem dX12_feed_4 : decode cX12_feed 4 = .ok (.invokestatic 77, 3) := by decide +kernel
theorem dX12_feed_7 : decode cX12_feed 7 = .ok (.ifCond .ne 5, 3) := by decide +kernel
theorem dX12_feed_10 : decode cX12_feed 10 = .ok (.iconst (-1), 1) := by decide +kernel
theorem dX12_feed_11 : decode cX12_feed 11 = .ok (.ireturn, 1) := by decide +kernel
theorem dX12_feed_12 : decode cX12_feed 12 = .ok (.aload_n 0, 1) := by decide +kernel
theorem dX12_feed_13 : decode cX12_feed 13 = .ok (.getfield 155, 3) := by decide +kernel
theorem dX12_feed_16 : decode cX12_feed 16 = .ok (.iload_n 3, 1) := by decide +kernel
theorem dX12_feed_17 : decode cX12_feed 17 = .ok (.iadd, 1) := by decide +kernel
theorem dX12_feed_18 : decode cX12_feed 18 = .ok (.sipush 300, 3) := by decide +kernel
theorem dX12_feed_21 : decode cX12_feed 21 = .ok (.if_icmp .le 6, 3) := by decide +kernel
theorem dX12_feed_24 : decode cX12_feed 24 = .ok (.bipush (-2), 2) := by decide +kernel
theorem dX12_feed_26 : decode cX12_feed 26 = .ok (.ireturn, 1) := by decide +kernel
theorem dX12_feed_27 : decode cX12_feed 27 = .ok (.iconst 0, 1) := by decide +kernel
theorem dX12_feed_28 : decode cX12_feed 28 = .ok (.istore 4, 2) := by decide +kernel
theorem dX12_feed_30 : decode cX12_feed 30 = .ok (.iload 4, 2) := by decide +kernel
theorem dX12_feed_32 : decode cX12_feed 32 = .ok (.iload_n 3, 1) := by decide +kernel
theorem dX12_feed_33 : decode cX12_feed 33 = .ok (.if_icmp .ge 40, 3) := by decide +kernel
theorem dX12_feed_36 : decode cX12_feed 36 = .ok (.aload_n 0, 1) := by decide +kernel
theorem dX12_feed_37 : decode cX12_feed 37 = .ok (.getfield 16, 3) := by decide +kernel
theorem dX12_feed_40 : decode cX12_feed 40 = .ok (.aload_n 0, 1) := by decide +kernel
theorem dX12_feed_41 : decode cX12_feed 41 = .ok (.getfield 155, 3) := by decide +kernel
theorem dX12_feed_44 : decode cX12_feed 44 = .ok (.lload_n 1, 1) := by decide +kernel
theorem dX12_feed_45 : decode cX12_feed 45 = .ok (.bipush 8, 2) := by decide +kernel
theorem dX12_feed_47 : decode cX12_feed 47 = .ok (.iload 4, 2) := by decide +kernel
theorem dX12_feed_49 : decode cX12_feed 49 = .ok (.imul, 1) := by decide +kernel
theorem dX12_feed_50 : decode cX12_feed 50 = .ok (.lshr, 1) := by decide +kernel
theorem dX12_feed_51 : decode cX12_feed 51 = .ok (.ldc2_w 159, 3) := by decide +kernel
theorem dX12_feed_54 : decode cX12_feed 54 = .ok (.land, 1) := by decide +kernel
theorem dX12_feed_55 : decode cX12_feed 55 = .ok (.l2i, 1) := by decide +kernel
theorem dX12_feed_56 : decode cX12_feed 56 = .ok (.iastore, 1) := by decide +kernel
theorem dX12_feed_57 : decode cX12_feed 57 = .ok (.aload_n 0, 1) := by decide +kernel
theorem dX12_feed_58 : decode cX12_feed 58 = .ok (.dup, 1) := by decide +kernel
theorem dX12_feed_59 : decode cX12_feed 59 = .ok (.getfield 155, 3) := by decide +kernel
theorem dX12_feed_62 : decode cX12_feed 62 = .ok (.iconst 1, 1) := by decide +kernel
theorem dX12_feed_63 : decode cX12_feed 63 = .ok (.iadd, 1) := by decide +kernel
theorem dX12_feed_64 : decode cX12_feed 64 = .ok (.putfield 155, 3) := by decide +kernel
theorem dX12_feed_67 : decode cX12_feed 67 = .ok (.iinc 4 1, 3) := by decide +kernel
theorem dX12_feed_70 : decode cX12_feed 70 = .ok (.goto (-40), 3) := by decide +kernel
theorem dX12_feed_73 : decode cX12_feed 73 = .ok (.aload_n 0, 1) := by decide +kernel
theorem dX12_feed_74 : decode cX12_feed 74 = .ok (.getfield 155, 3) := by decide +kernel
theorem dX12_feed_77 : decode cX12_feed 77 = .ok (.ireturn, 1) := by decide +kernel
theorem dX12_byteAt_0 : decode cX12_byteAt 0 = .ok (.iload_n 1, 1) := by decide +kernel
theorem dX12_byteAt_1 : decode cX12_byteAt 1 = .ok (.aload_n 0, 1) := by decide +kernel
theorem dX12_byteAt_2 : decode cX12_byteAt 2 = .ok (.getfield 161, 3) := by decide +kernel
theorem dX12_byteAt_5 : decode cX12_byteAt 5 = .ok (.if_icmp .lt 7, 3) := by decide +kernel
theorem dX12_byteAt_8 : decode cX12_byteAt 8 = .ok (.iconst (-1), 1) := by decide +kernel
theorem dX12_byteAt_9 : decode cX12_byteAt 9 = .ok (.goto 30, 3) := by decide +kernel
theorem dX12_byteAt_12 : decode cX12_byteAt 12 = .ok (.aload_n 0, 1) := by decide +kernel
theorem dX12_byteAt_13 : decode cX12_byteAt 13 = .ok (.getfield 164, 3) := by decide +kernel
theorem dX12_byteAt_16 : decode cX12_byteAt 16 = .ok (.ifCond .ge 12, 3) := by decide +kernel
theorem dX12_byteAt_19 : decode cX12_byteAt 19 = .ok (.aload_n 0, 1) := by decide +kernel
theorem dX12_byteAt_20 : decode cX12_byteAt 20 = .ok (.getfield 16, 3) := by decide +kernel
theorem dX12_byteAt_23 : decode cX12_byteAt 23 = .ok (.iload_n 1, 1) := by decide +kernel
theorem dX12_byteAt_24 : decode cX12_byteAt 24 = .ok (.iaload, 1) := by decide +kernel
theorem dX12_byteAt_25 : decode cX12_byteAt 25 = .ok (.goto 14, 3) := by decide +kernel
theorem dX12_byteAt_28 : decode cX12_byteAt 28 = .ok (.aload_n 0, 1) := by decide +kernel
theorem dX12_byteAt_29 : decode cX12_byteAt 29 = .ok (.getfield 7, 3) := by decide +kernel
theorem dX12_byteAt_32 : decode cX12_byteAt 32 = .ok (.aload_n 0, 1) := by decide +kernel
theorem dX12_byteAt_33 : decode cX12_byteAt 33 = .ok (.getfield 164, 3) := by decide +kernel
theorem dX12_byteAt_36 : decode cX12_byteAt 36 = .ok (.iload_n 1, 1) := by decide +kernel
theorem dX12_byteAt_37 : decode cX12_byteAt 37 = .ok (.iadd, 1) := by decide +kernel
theorem dX12_byteAt_38 : decode cX12_byteAt 38 = .ok (.iaload, 1) := by decide +kernel
theorem dX12_byteAt_39 : decode cX12_byteAt 39 = .ok (.ireturn, 1) := by decide +kernel
theorem dX12_next_0 : decode cX12_next 0 = .ok (.aload_n 0, 1) := by decide +kernel
theorem dX12_next_1 : decode cX12_next 1 = .ok (.aload_n 0, 1) := by decide +kernel
theorem dX12_next_2 : decode cX12_next 2 = .ok (.getfield 167, 3) := by decide +kernel
theorem dX12_next_5 : decode cX12_next 5 = .ok (.invokevirtual 170, 3) := by decide +kernel
theorem dX12_next_8 : decode cX12_next 8 = .ok (.bipush 32, 2) := by decide +kernel
theorem dX12_next_10 : decode cX12_next 10 = .ok (.if_icmp .ne 16, 3) := by decide +kernel
theorem dX12_next_13 : decode cX12_next 13 = .ok (.aload_n 0, 1) := by decide +kernel
theorem dX12_next_14 : decode cX12_next 14 = .ok (.dup, 1) := by decide +kernel
theorem dX12_next_15 : decode cX12_next 15 = .ok (.getfield 167, 3) := by decide +kernel
theorem dX12_next_18 : decode cX12_next 18 = .ok (.iconst 1, 1) := by decide +kernel
theorem dX12_next_19 : decode cX12_next 19 = .ok (.iadd, 1) := by decide +kernel
theorem dX12_next_20 : decode cX12_next 20 = .ok (.putfield 167, 3) := by decide +kernel
theorem dX12_next_23 : decode cX12_next 23 = .ok (.goto (-23), 3) := by decide +kernel
theorem dX12_next_26 : decode cX12_next 26 = .ok (.aload_n 0, 1) := by decide +kernel
theorem dX12_next_27 : decode cX12_next 27 = .ok (.aload_n 0, 1) := by decide +kernel
theorem dX12_next_28 : decode cX12_next 28 = .ok (.getfield 167, 3) := by decide +kernel
theorem dX12_next_31 : decode cX12_next 31 = .ok (.putfield 173, 3) := by decide +kernel
theorem dX12_next_34 : decode cX12_next 34 = .ok (.aload_n 0, 1) := by decide +kernel
theorem dX12_next_35 : decode cX12_next 35 = .ok (.aload_n 0, 1) := by decide +kernel
theorem dX12_next_36 : decode cX12_next 36 = .ok (.getfield 167, 3) := by decide +kernel
theorem dX12_next_39 : decode cX12_next 39 = .ok (.invokevirtual 170, 3) := by decide +kernel
theorem dX12_next_42 : decode cX12_next 42 = .ok (.istore_n 1, 1) := by decide +kernel
theorem dX12_next_43 : decode cX12_next 43 = .ok (.iload_n 1, 1) := by decide +kernel
theorem dX12_next_44 : decode cX12_next 44 = .ok (.ifCond .ge 11, 3) := by decide +kernel
theorem dX12_next_47 : decode cX12_next 47 = .ok (.aload_n 0, 1) := by decide +kernel
theorem dX12_next_48 : decode cX12_next 48 = .ok (.iconst 0, 1) := by decide +kernel
theorem dX12_next_49 : decode cX12_next 49 = .ok (.putfield 176, 3) := by decide +kernel
theorem dX12_next_52 : decode cX12_next 52 = .ok (.goto 234, 3) := by decide +kernel
theorem dX12_next_55 : decode cX12_next 55 = .ok (.iload_n 1, 1) := by decide +kernel
theorem dX12_next_56 : decode cX12_next 56 = .ok (.bipush 48, 2) := by decide +kernel
theorem dX12_next_58 : decode cX12_next 58 = .ok (.bipush 57, 2) := by decide +kernel
theorem dX12_next_60 : decode cX12_next 60 = .ok (.invokestatic 77, 3) := by decide +kernel
theorem dX12_next_63 : decode cX12_next 63 = .ok (.ifCond .eq 107, 3) := by decide +kernel
theorem dX12_next_66 : decode cX12_next 66 = .ok (.aload_n 0, 1) := by decide +kernel
theorem dX12_next_67 : decode cX12_next 67 = .ok (.iconst 0, 1) := by decide +kernel
theorem dX12_next_68 : decode cX12_next 68 = .ok (.putfield 179, 3) := by decide +kernel
theorem dX12_next_71 : decode cX12_next 71 = .ok (.aload_n 0, 1) := by decide +kernel
theorem dX12_next_72 : decode cX12_next 72 = .ok (.aload_n 0, 1) := by decide +kernel
theorem dX12_next_73 : decode cX12_next 73 = .ok (.getfield 167, 3) := by decide +kernel
theorem dX12_next_76 : decode cX12_next 76 = .ok (.invokevirtual 170, 3) := by decide +kernel
theorem dX12_next_79 : decode cX12_next 79 = .ok (.bipush 48, 2) := by decide +kernel
theorem dX12_next_81 : decode cX12_next 81 = .ok (.bipush 57, 2) := by decide +kernel
theorem dX12_next_83 : decode cX12_next 83 = .ok (.invokestatic 77, 3) := by decide +kernel
theorem dX12_next_86 : decode cX12_next 86 = .ok (.ifCond .eq 59, 3) := by decide +kernel
theorem dX12_next_89 : decode cX12_next 89 = .ok (.aload_n 0, 1) := by decide +kernel
theorem dX12_next_90 : decode cX12_next 90 = .ok (.aload_n 0, 1) := by decide +kernel
theorem dX12_next_91 : decode cX12_next 91 = .ok (.getfield 167, 3) := by decide +kernel
theorem dX12_next_94 : decode cX12_next 94 = .ok (.aload_n 0, 1) := by decide +kernel
theorem dX12_next_95 : decode cX12_next 95 = .ok (.getfield 173, 3) := by decide +kernel
theorem dX12_next_98 : decode cX12_next 98 = .ok (.isub, 1) := by decide +kernel
theorem dX12_next_99 : decode cX12_next 99 = .ok (.iconst 4, 1) := by decide +kernel
theorem dX12_next_100 : decode cX12_next 100 = .ok (.if_icmp .ge 25, 3) := by decide +kernel
theorem dX12_next_103 : decode cX12_next 103 = .ok (.bipush 10, 2) := by decide +kernel
theorem dX12_next_105 : decode cX12_next 105 = .ok (.aload_n 0, 1) := by decide +kernel
theorem dX12_next_106 : decode cX12_next 106 = .ok (.getfield 179, 3) := by decide +kernel
theorem dX12_next_109 : decode cX12_next 109 = .ok (.imul, 1) := by decide +kernel
theorem dX12_next_110 : decode cX12_next 110 = .ok (.aload_n 0, 1) := by decide +kernel
theorem dX12_next_111 : decode cX12_next 111 = .ok (.aload_n 0, 1) := by decide +kernel
theorem dX12_next_112 : decode cX12_next 112 = .ok (.getfield 167, 3) := by decide +kernel
theorem dX12_next_115 : decode cX12_next 115 = .ok (.invokevirtual 170, 3) := by decide +kernel
theorem dX12_next_118 : decode cX12_next 118 = .ok (.iadd, 1) := by decide +kernel
theorem dX12_next_119 : decode cX12_next 119 = .ok (.bipush 48, 2) := by decide +kernel
theorem dX12_next_121 : decode cX12_next 121 = .ok (.isub, 1) := by decide +kernel
theorem dX12_next_122 : decode cX12_next 122 = .ok (.goto 7, 3) := by decide +kernel
theorem dX12_next_125 : decode cX12_next 125 = .ok (.aload_n 0, 1) := by decide +kernel
theorem dX12_next_126 : decode cX12_next 126 = .ok (.getfield 179, 3) := by decide +kernel
theorem dX12_next_129 : decode cX12_next 129 = .ok (.putfield 179, 3) := by decide +kernel
theorem dX12_next_132 : decode cX12_next 132 = .ok (.aload_n 0, 1) := by decide +kernel
theorem dX12_next_133 : decode cX12_next 133 = .ok (.dup, 1) := by decide +kernel
theorem dX12_next_134 : decode cX12_next 134 = .ok (.getfield 167, 3) := by decide +kernel
theorem dX12_next_137 : decode cX12_next 137 = .ok (.iconst 1, 1) := by decide +kernel
theorem dX12_next_138 : decode cX12_next 138 = .ok (.iadd, 1) := by decide +kernel
theorem dX12_next_139 : decode cX12_next 139 = .ok (.putfield 167, 3) := by decide +kernel
theorem dX12_next_142 : decode cX12_next 142 = .ok (.goto (-71), 3) := by decide +kernel
theorem dX12_next_145 : decode cX12_next 145 = .ok (.aload_n 0, 1) := by decide +kernel
theorem dX12_next_146 : decode cX12_next 146 = .ok (.aload_n 0, 1) := by decide +kernel
theorem dX12_next_147 : decode cX12_next 147 = .ok (.getfield 167, 3) := by decide +kernel
theorem dX12_next_150 : decode cX12_next 150 = .ok (.aload_n 0, 1) := by decide +kernel
theorem dX12_next_151 : decode cX12_next 151 = .ok (.getfield 173, 3) := by decide +kernel
theorem dX12_next_154 : decode cX12_next 154 = .ok (.isub, 1) := by decide +kernel
theorem dX12_next_155 : decode cX12_next 155 = .ok (.iconst 4, 1) := by decide +kernel
theorem dX12_next_156 : decode cX12_next 156 = .ok (.if_icmp .le 7, 3) := by decide +kernel
theorem dX12_next_159 : decode cX12_next 159 = .ok (.iconst 1, 1) := by decide +kernel
theorem dX12_next_160 : decode cX12_next 160 = .ok (.goto 4, 3) := by decide +kernel
theorem dX12_next_163 : decode cX12_next 163 = .ok (.iconst 3, 1) := by decide +kernel
theorem dX12_next_164 : decode cX12_next 164 = .ok (.putfield 176, 3) := by decide +kernel
theorem dX12_next_167 : decode cX12_next 167 = .ok (.goto 119, 3) := by decide +kernel
theorem dX12_next_170 : decode cX12_next 170 = .ok (.iload_n 1, 1) := by decide +kernel
theorem dX12_next_171 : decode cX12_next 171 = .ok (.bipush 97, 2) := by decide +kernel
theorem dX12_next_173 : decode cX12_next 173 = .ok (.bipush 122, 2) := by decide +kernel
theorem dX12_next_175 : decode cX12_next 175 = .ok (.invokestatic 77, 3) := by decide +kernel
theorem dX12_next_178 : decode cX12_next 178 = .ok (.ifCond .eq 41, 3) := by decide +kernel
theorem dX12_next_181 : decode cX12_next 181 = .ok (.aload_n 0, 1) := by decide +kernel
theorem dX12_next_182 : decode cX12_next 182 = .ok (.aload_n 0, 1) := by decide +kernel
theorem dX12_next_183 : decode cX12_next 183 = .ok (.getfield 167, 3) := by decide +kernel
theorem dX12_next_186 : decode cX12_next 186 = .ok (.invokevirtual 170, 3) := by decide +kernel
theorem dX12_next_189 : decode cX12_next 189 = .ok (.bipush 97, 2) := by decide +kernel
theorem dX12_next_191 : decode cX12_next 191 = .ok (.bipush 122, 2) := by decide +kernel
theorem dX12_next_193 : decode cX12_next 193 = .ok (.invokestatic 77, 3) := by decide +kernel
theorem dX12_next_196 : decode cX12_next 196 = .ok (.ifCond .eq 16, 3) := by decide +kernel
theorem dX12_next_199 : decode cX12_next 199 = .ok (.aload_n 0, 1) := by decide +kernel
theorem dX12_next_200 : decode cX12_next 200 = .ok (.dup, 1) := by decide +kernel
theorem dX12_next_201 : decode cX12_next 201 = .ok (.getfield 167, 3) := by decide +kernel
theorem dX12_next_204 : decode cX12_next 204 = .ok (.iconst 1, 1) := by decide +kernel
theorem dX12_next_205 : decode cX12_next 205 = .ok (.iadd, 1) := by decide +kernel
theorem dX12_next_206 : decode cX12_next 206 = .ok (.putfield 167, 3) := by decide +kernel
theorem dX12_next_209 : decode cX12_next 209 = .ok (.goto (-28), 3) := by decide +kernel
theorem dX12_next_212 : decode cX12_next 212 = .ok (.aload_n 0, 1) := by decide +kernel
theorem dX12_next_213 : decode cX12_next 213 = .ok (.invokevirtual 182, 3) := by decide +kernel
theorem dX12_next_216 : decode cX12_next 216 = .ok (.goto 70, 3) := by decide +kernel
theorem dX12_next_219 : decode cX12_next 219 = .ok (.aload_n 0, 1) := by decide +kernel
theorem dX12_next_220 : decode cX12_next 220 = .ok (.dup, 1) := by decide +kernel
theorem dX12_next_221 : decode cX12_next 221 = .ok (.getfield 167, 3) := by decide +kernel
theorem dX12_next_224 : decode cX12_next 224 = .ok (.iconst 1, 1) := by decide +kernel
theorem dX12_next_225 : decode cX12_next 225 = .ok (.iadd, 1) := by decide +kernel
theorem dX12_next_226 : decode cX12_next 226 = .ok (.putfield 167, 3) := by decide +kernel
theorem dX12_next_229 : decode cX12_next 229 = .ok (.aload_n 0, 1) := by decide +kernel
theorem dX12_next_230 : decode cX12_next 230 = .ok (.iload_n 1, 1) := by decide +kernel
theorem dX12_next_231 : decode cX12_next 231 = .ok (.bipush 59, 2) := by decide +kernel
theorem dX12_next_233 : decode cX12_next 233 = .ok (.if_icmp .eq 45, 3) := by decide +kernel
theorem dX12_next_236 : decode cX12_next 236 = .ok (.iload_n 1, 1) := by decide +kernel
theorem dX12_next_237 : decode cX12_next 237 = .ok (.bipush 40, 2) := by decide +kernel
theorem dX12_next_239 : decode cX12_next 239 = .ok (.if_icmp .eq 39, 3) := by decide +kernel
theorem dX12_next_242 : decode cX12_next 242 = .ok (.iload_n 1, 1) := by decide +kernel
theorem dX12_next_243 : decode cX12_next 243 = .ok (.bipush 41, 2) := by decide +kernel
theorem dX12_next_245 : decode cX12_next 245 = .ok (.if_icmp .eq 33, 3) := by decide +kernel
theorem dX12_next_248 : decode cX12_next 248 = .ok (.iload_n 1, 1) := by decide +kernel
theorem dX12_next_249 : decode cX12_next 249 = .ok (.bipush 60, 2) := by decide +kernel
theorem dX12_next_251 : decode cX12_next 251 = .ok (.if_icmp .eq 27, 3) := by decide +kernel
theorem dX12_next_254 : decode cX12_next 254 = .ok (.iload_n 1, 1) := by decide +kernel
theorem dX12_next_255 : decode cX12_next 255 = .ok (.bipush 61, 2) := by decide +kernel
theorem dX12_next_257 : decode cX12_next 257 = .ok (.if_icmp .eq 21, 3) := by decide +kernel
theorem dX12_next_260 : decode cX12_next 260 = .ok (.iload_n 1, 1) := by decide +kernel
theorem dX12_next_261 : decode cX12_next 261 = .ok (.bipush 62, 2) := by decide +kernel
theorem dX12_next_263 : decode cX12_next 263 = .ok (.if_icmp .eq 15, 3) := by decide +kernel
theorem dX12_next_266 : decode cX12_next 266 = .ok (.iload_n 1, 1) := by decide +kernel
theorem dX12_next_267 : decode cX12_next 267 = .ok (.bipush 43, 2) := by decide +kernel
theorem dX12_next_269 : decode cX12_next 269 = .ok (.if_icmp .eq 9, 3) := by decide +kernel
theorem dX12_next_272 : decode cX12_next 272 = .ok (.iload_n 1, 1) := by decide +kernel
theorem dX12_next_273 : decode cX12_next 273 = .ok (.bipush 45, 2) := by decide +kernel
theorem dX12_next_275 : decode cX12_next 275 = .ok (.if_icmp .ne 7, 3) := by decide +kernel
theorem dX12_next_278 : decode cX12_next 278 = .ok (.iload_n 1, 1) := by decide +kernel
theorem dX12_next_279 : decode cX12_next 279 = .ok (.goto 4, 3) := by decide +kernel
theorem dX12_next_282 : decode cX12_next 282 = .ok (.iconst 1, 1) := by decide +kernel
theorem dX12_next_283 : decode cX12_next 283 = .ok (.putfield 176, 3) := by decide +kernel
theorem dX12_next_286 : decode cX12_next 286 = .ok (.return_, 1) := by decide +kernel
theorem dX12_word__0 : decode cX12_word_ 0 = .ok (.aload_n 0, 1) := by decide +kernel
theorem dX12_word__1 : decode cX12_word_ 1 = .ok (.iconst 1, 1) := by decide +kernel
theorem dX12_word__2 : decode cX12_word_ 2 = .ok (.putfield 176, 3) := by decide +kernel
theorem dX12_word__5 : decode cX12_word_ 5 = .ok (.iconst 0, 1) := by decide +kernel
theorem dX12_word__6 : decode cX12_word_ 6 = .ok (.istore_n 1, 1) := by decide +kernel
theorem dX12_word__7 : decode cX12_word_ 7 = .ok (.aload_n 0, 1) := by decide +kernel
theorem dX12_word__8 : decode cX12_word_ 8 = .ok (.getfield 173, 3) := by decide +kernel
theorem dX12_word__11 : decode cX12_word_ 11 = .ok (.istore_n 2, 1) := by decide +kernel
theorem dX12_word__12 : decode cX12_word_ 12 = .ok (.iconst 1, 1) := by decide +kernel
theorem dX12_word__13 : decode cX12_word_ 13 = .ok (.istore_n 3, 1) := by decide +kernel
theorem dX12_word__14 : decode cX12_word_ 14 = .ok (.iconst 0, 1) := by decide +kernel
theorem dX12_word__15 : decode cX12_word_ 15 = .ok (.istore 4, 2) := by decide +kernel
theorem dX12_word__17 : decode cX12_word_ 17 = .ok (.iload 4, 2) := by decide +kernel
theorem dX12_word__19 : decode cX12_word_ 19 = .ok (.getstatic 185, 3) := by decide +kernel
theorem dX12_word__22 : decode cX12_word_ 22 = .ok (.arraylength, 1) := by decide +kernel
theorem dX12_word__23 : decode cX12_word_ 23 = .ok (.if_icmp .ge 88, 3) := by decide +kernel
theorem dX12_word__26 : decode cX12_word_ 26 = .ok (.getstatic 185, 3) := by decide +kernel
theorem dX12_word__29 : decode cX12_word_ 29 = .ok (.iload 4, 2) := by decide +kernel
theorem dX12_word__31 : decode cX12_word_ 31 = .ok (.iaload, 1) := by decide +kernel
theorem dX12_word__32 : decode cX12_word_ 32 = .ok (.ifCond .ne 38, 3) := by decide +kernel
theorem dX12_word__35 : decode cX12_word_ 35 = .ok (.iload_n 3, 1) := by decide +kernel
theorem dX12_word__36 : decode cX12_word_ 36 = .ok (.ifCond .eq 21, 3) := by decide +kernel
theorem dX12_word__39 : decode cX12_word_ 39 = .ok (.iload_n 2, 1) := by decide +kernel
theorem dX12_word__40 : decode cX12_word_ 40 = .ok (.aload_n 0, 1) := by decide +kernel
theorem dX12_word__41 : decode cX12_word_ 41 = .ok (.getfield 167, 3) := by decide +kernel
theorem dX12_word__44 : decode cX12_word_ 44 = .ok (.if_icmp .ne 13, 3) := by decide +kernel
theorem dX12_word__47 : decode cX12_word_ 47 = .ok (.aload_n 0, 1) := by decide +kernel
theorem dX12_word__48 : decode cX12_word_ 48 = .ok (.iconst 2, 1) := by decide +kernel
theorem dX12_word__49 : decode cX12_word_ 49 = .ok (.putfield 176, 3) := by decide +kernel
theorem dX12_word__52 : decode cX12_word_ 52 = .ok (.aload_n 0, 1) := by decide +kernel
theorem dX12_word__53 : decode cX12_word_ 53 = .ok (.iload_n 1, 1) := by decide +kernel
theorem dX12_word__54 : decode cX12_word_ 54 = .ok (.putfield 179, 3) := by decide +kernel
theorem dX12_word__57 : decode cX12_word_ 57 = .ok (.iinc 1 1, 3) := by decide +kernel
theorem dX12_word__60 : decode cX12_word_ 60 = .ok (.aload_n 0, 1) := by decide +kernel
theorem dX12_word__61 : decode cX12_word_ 61 = .ok (.getfield 173, 3) := by decide +kernel
theorem dX12_word__64 : decode cX12_word_ 64 = .ok (.istore_n 2, 1) := by decide +kernel
theorem dX12_word__65 : decode cX12_word_ 65 = .ok (.iconst 1, 1) := by decide +kernel
theorem dX12_word__66 : decode cX12_word_ 66 = .ok (.istore_n 3, 1) := by decide +kernel
theorem dX12_word__67 : decode cX12_word_ 67 = .ok (.goto 38, 3) := by decide +kernel
theorem dX12_word__70 : decode cX12_word_ 70 = .ok (.iload_n 3, 1) := by decide +kernel
theorem dX12_word__71 : decode cX12_word_ 71 = .ok (.ifCond .eq 29, 3) := by decide +kernel
theorem dX12_word__74 : decode cX12_word_ 74 = .ok (.iload_n 2, 1) := by decide +kernel
theorem dX12_word__75 : decode cX12_word_ 75 = .ok (.aload_n 0, 1) := by decide +kernel
theorem dX12_word__76 : decode cX12_word_ 76 = .ok (.getfield 167, 3) := by decide +kernel
theorem dX12_word__79 : decode cX12_word_ 79 = .ok (.if_icmp .ge 21, 3) := by decide +kernel
theorem dX12_word__82 : decode cX12_word_ 82 = .ok (.aload_n 0, 1) := by decide +kernel
theorem dX12_word__83 : decode cX12_word_ 83 = .ok (.iload_n 2, 1) := by decide +kernel
theorem dX12_word__84 : decode cX12_word_ 84 = .ok (.invokevirtual 170, 3) := by decide +kernel
theorem dX12_word__87 : decode cX12_word_ 87 = .ok (.getstatic 185, 3) := by decide +kernel
theorem dX12_word__90 : decode cX12_word_ 90 = .ok (.iload 4, 2) := by decide +kernel
theorem dX12_word__92 : decode cX12_word_ 92 = .ok (.iaload, 1) := by decide +kernel
theorem dX12_word__93 : decode cX12_word_ 93 = .ok (.if_icmp .ne 7, 3) := by decide +kernel
theorem dX12_word__96 : decode cX12_word_ 96 = .ok (.iconst 1, 1) := by decide +kernel
theorem dX12_word__97 : decode cX12_word_ 97 = .ok (.goto 4, 3) := by decide +kernel
theorem dX12_word__100 : decode cX12_word_ 100 = .ok (.iconst 0, 1) := by decide +kernel
theorem dX12_word__101 : decode cX12_word_ 101 = .ok (.istore_n 3, 1) := by decide +kernel
theorem dX12_word__102 : decode cX12_word_ 102 = .ok (.iinc 2 1, 3) := by decide +kernel
theorem dX12_word__105 : decode cX12_word_ 105 = .ok (.iinc 4 1, 3) := by decide +kernel
theorem dX12_word__108 : decode cX12_word_ 108 = .ok (.goto (-91), 3) := by decide +kernel
theorem dX12_word__111 : decode cX12_word_ 111 = .ok (.return_, 1) := by decide +kernel
theorem dX12_wrong_0 : decode cX12_wrong 0 = .ok (.aload_n 0, 1) := by decide +kernel
theorem dX12_wrong_1 : decode cX12_wrong 1 = .ok (.aload_n 0, 1) := by decide +kernel
theorem dX12_wrong_2 : decode cX12_wrong 2 = .ok (.getfield 188, 3) := by decide +kernel
theorem dX12_wrong_5 : decode cX12_wrong 5 = .ok (.ifCond .ge 10, 3) := by decide +kernel
theorem dX12_wrong_8 : decode cX12_wrong 8 = .ok (.aload_n 0, 1) := by decide +kernel
theorem dX12_wrong_9 : decode cX12_wrong 9 = .ok (.getfield 173, 3) := by decide +kernel
theorem dX12_wrong_12 : decode cX12_wrong 12 = .ok (.goto 7, 3) := by decide +kernel
theorem dX12_wrong_15 : decode cX12_wrong 15 = .ok (.aload_n 0, 1) := by decide +kernel
theorem dX12_wrong_16 : decode cX12_wrong 16 = .ok (.getfield 188, 3) := by decide +kernel
theorem dX12_wrong_19 : decode cX12_wrong 19 = .ok (.putfield 188, 3) := by decide +kernel
theorem dX12_wrong_22 : decode cX12_wrong 22 = .ok (.return_, 1) := by decide +kernel
theorem dX12_isWord_0 : decode cX12_isWord 0 = .ok (.aload_n 0, 1) := by decide +kernel
theorem dX12_isWord_1 : decode cX12_isWord 1 = .ok (.getfield 188, 3) := by decide +kernel
theorem dX12_isWord_4 : decode cX12_isWord 4 = .ok (.ifCond .ge 23, 3) := by decide +kernel
theorem dX12_isWord_7 : decode cX12_isWord 7 = .ok (.aload_n 0, 1) := by decide +kernel
theorem dX12_isWord_8 : decode cX12_isWord 8 = .ok (.getfield 176, 3) := by decide +kernel
theorem dX12_isWord_11 : decode cX12_isWord 11 = .ok (.iconst 2, 1) := by decide +kernel
theorem dX12_isWord_12 : decode cX12_isWord 12 = .ok (.if_icmp .ne 15, 3) := by decide +kernel
theorem dX12_isWord_15 : decode cX12_isWord 15 = .ok (.aload_n 0, 1) := by decide +kernel
theorem dX12_isWord_16 : decode cX12_isWord 16 = .ok (.getfield 179, 3) := by decide +kernel
theorem dX12_isWord_19 : decode cX12_isWord 19 = .ok (.iload_n 1, 1) := by decide +kernel
theorem dX12_isWord_20 : decode cX12_isWord 20 = .ok (.if_icmp .ne 7, 3) := by decide +kernel
theorem dX12_isWord_23 : decode cX12_isWord 23 = .ok (.iconst 1, 1) := by decide +kernel
theorem dX12_isWord_24 : decode cX12_isWord 24 = .ok (.goto 4, 3) := by decide +kernel
theorem dX12_isWord_27 : decode cX12_isWord 27 = .ok (.iconst 0, 1) := by decide +kernel
theorem dX12_isWord_28 : decode cX12_isWord 28 = .ok (.ireturn, 1) := by decide +kernel
theorem dX12_factOf_0 : decode cX12_factOf 0 = .ok (.iload_n 0, 1) := by decide +kernel
theorem dX12_factOf_1 : decode cX12_factOf 1 = .ok (.tableswitch 89 0 2 #[27, 47, 67], 27) := by decide +kernel
theorem dX12_factOf_28 : decode cX12_factOf 28 = .ok (.iload_n 1, 1) := by decide +kernel
theorem dX12_factOf_29 : decode cX12_factOf 29 = .ok (.bipush 8, 2) := by decide +kernel
theorem dX12_factOf_31 : decode cX12_factOf 31 = .ok (.bipush 14, 2) := by decide +kernel
theorem dX12_factOf_33 : decode cX12_factOf 33 = .ok (.invokestatic 77, 3) := by decide +kernel
theorem dX12_factOf_36 : decode cX12_factOf 36 = .ok (.ifCond .eq 10, 3) := by decide +kernel
theorem dX12_factOf_39 : decode cX12_factOf 39 = .ok (.iload_n 1, 1) := by decide +kernel
theorem dX12_factOf_40 : decode cX12_factOf 40 = .ok (.bipush 8, 2) := by decide +kernel
theorem dX12_factOf_42 : decode cX12_factOf 42 = .ok (.isub, 1) := by decide +kernel
theorem dX12_factOf_43 : decode cX12_factOf 43 = .ok (.goto 4, 3) := by decide +kernel
theorem dX12_factOf_46 : decode cX12_factOf 46 = .ok (.iconst (-1), 1) := by decide +kernel
theorem dX12_factOf_47 : decode cX12_factOf 47 = .ok (.ireturn, 1) := by decide +kernel
theorem dX12_factOf_48 : decode cX12_factOf 48 = .ok (.iload_n 1, 1) := by decide +kernel
theorem dX12_factOf_49 : decode cX12_factOf 49 = .ok (.bipush 15, 2) := by decide +kernel
theorem dX12_factOf_51 : decode cX12_factOf 51 = .ok (.bipush 18, 2) := by decide +kernel
theorem dX12_factOf_53 : decode cX12_factOf 53 = .ok (.invokestatic 77, 3) := by decide +kernel
theorem dX12_factOf_56 : decode cX12_factOf 56 = .ok (.ifCond .eq 10, 3) := by decide +kernel
theorem dX12_factOf_59 : decode cX12_factOf 59 = .ok (.iload_n 1, 1) := by decide +kernel
theorem dX12_factOf_60 : decode cX12_factOf 60 = .ok (.bipush 15, 2) := by decide +kernel
theorem dX12_factOf_62 : decode cX12_factOf 62 = .ok (.isub, 1) := by decide +kernel
theorem dX12_factOf_63 : decode cX12_factOf 63 = .ok (.goto 4, 3) := by decide +kernel
theorem dX12_factOf_66 : decode cX12_factOf 66 = .ok (.iconst (-1), 1) := by decide +kernel
theorem dX12_factOf_67 : decode cX12_factOf 67 = .ok (.ireturn, 1) := by decide +kernel
theorem dX12_factOf_68 : decode cX12_factOf 68 = .ok (.iload_n 1, 1) := by decide +kernel
theorem dX12_factOf_69 : decode cX12_factOf 69 = .ok (.bipush 19, 2) := by decide +kernel
theorem dX12_factOf_71 : decode cX12_factOf 71 = .ok (.if_icmp .ne 7, 3) := by decide +kernel
theorem dX12_factOf_74 : decode cX12_factOf 74 = .ok (.iconst 0, 1) := by decide +kernel
theorem dX12_factOf_75 : decode cX12_factOf 75 = .ok (.goto 14, 3) := by decide +kernel
theorem dX12_factOf_78 : decode cX12_factOf 78 = .ok (.iload_n 1, 1) := by decide +kernel
theorem dX12_factOf_79 : decode cX12_factOf 79 = .ok (.bipush 15, 2) := by decide +kernel
theorem dX12_factOf_81 : decode cX12_factOf 81 = .ok (.if_icmp .ne 7, 3) := by decide +kernel
theorem dX12_factOf_84 : decode cX12_factOf 84 = .ok (.iconst 1, 1) := by decide +kernel
theorem dX12_factOf_85 : decode cX12_factOf 85 = .ok (.goto 4, 3) := by decide +kernel
theorem dX12_factOf_88 : decode cX12_factOf 88 = .ok (.iconst (-1), 1) := by decide +kernel
theorem dX12_factOf_89 : decode cX12_factOf 89 = .ok (.ireturn, 1) := by decide +kernel
theorem dX12_factOf_90 : decode cX12_factOf 90 = .ok (.iload_n 1, 1) := by decide +kernel
theorem dX12_factOf_91 : decode cX12_factOf 91 = .ok (.bipush 20, 2) := by decide +kernel
theorem dX12_factOf_93 : decode cX12_factOf 93 = .ok (.if_icmp .ne 7, 3) := by decide +kernel
theorem dX12_factOf_96 : decode cX12_factOf 96 = .ok (.iconst 0, 1) := by decide +kernel
theorem dX12_factOf_97 : decode cX12_factOf 97 = .ok (.goto 13, 3) := by decide +kernel
theorem dX12_factOf_100 : decode cX12_factOf 100 = .ok (.iload_n 1, 1) := by decide +kernel
theorem dX12_factOf_101 : decode cX12_factOf 101 = .ok (.iconst 4, 1) := by decide +kernel
theorem dX12_factOf_102 : decode cX12_factOf 102 = .ok (.if_icmp .ne 7, 3) := by decide +kernel
theorem dX12_factOf_105 : decode cX12_factOf 105 = .ok (.iconst 1, 1) := by decide +kernel
theorem dX12_factOf_106 : decode cX12_factOf 106 = .ok (.goto 4, 3) := by decide +kernel
theorem dX12_factOf_109 : decode cX12_factOf 109 = .ok (.iconst (-1), 1) := by decide +kernel
theorem dX12_factOf_110 : decode cX12_factOf 110 = .ok (.ireturn, 1) := by decide +kernel
theorem dX12_term_0 : decode cX12_term 0 = .ok (.iconst 0, 1) := by decide +kernel
theorem dX12_term_1 : decode cX12_term 1 = .ok (.istore_n 2, 1) := by decide +kernel
theorem dX12_term_2 : decode cX12_term 2 = .ok (.aload_n 0, 1) := by decide +kernel
theorem dX12_term_3 : decode cX12_term 3 = .ok (.getfield 188, 3) := by decide +kernel
theorem dX12_term_6 : decode cX12_term 6 = .ok (.ifCond .ge 23, 3) := by decide +kernel
theorem dX12_term_9 : decode cX12_term 9 = .ok (.aload_n 0, 1) := by decide +kernel
theorem dX12_term_10 : decode cX12_term 10 = .ok (.getfield 176, 3) := by decide +kernel
theorem dX12_term_13 : decode cX12_term 13 = .ok (.iconst 3, 1) := by decide +kernel
theorem dX12_term_14 : decode cX12_term 14 = .ok (.if_icmp .ne 15, 3) := by decide +kernel
theorem dX12_term_17 : decode cX12_term 17 = .ok (.aload_n 0, 1) := by decide +kernel
theorem dX12_term_18 : decode cX12_term 18 = .ok (.getfield 179, 3) := by decide +kernel
theorem dX12_term_21 : decode cX12_term 21 = .ok (.istore_n 2, 1) := by decide +kernel
theorem dX12_term_22 : decode cX12_term 22 = .ok (.aload_n 0, 1) := by decide +kernel
theorem dX12_term_23 : decode cX12_term 23 = .ok (.invokevirtual 191, 3) := by decide +kernel
theorem dX12_term_26 : decode cX12_term 26 = .ok (.goto 54, 3) := by decide +kernel
theorem dX12_term_29 : decode cX12_term 29 = .ok (.aload_n 0, 1) := by decide +kernel
theorem dX12_term_30 : decode cX12_term 30 = .ok (.getfield 188, 3) := by decide +kernel
theorem dX12_term_33 : decode cX12_term 33 = .ok (.ifCond .ge 43, 3) := by decide +kernel
theorem dX12_term_36 : decode cX12_term 36 = .ok (.aload_n 0, 1) := by decide +kernel
theorem dX12_term_37 : decode cX12_term 37 = .ok (.getfield 176, 3) := by decide +kernel
theorem dX12_term_40 : decode cX12_term 40 = .ok (.iconst 2, 1) := by decide +kernel
theorem dX12_term_41 : decode cX12_term 41 = .ok (.if_icmp .ne 35, 3) := by decide +kernel
theorem dX12_term_44 : decode cX12_term 44 = .ok (.iload_n 1, 1) := by decide +kernel
theorem dX12_term_45 : decode cX12_term 45 = .ok (.aload_n 0, 1) := by decide +kernel
theorem dX12_term_46 : decode cX12_term 46 = .ok (.getfield 179, 3) := by decide +kernel
theorem dX12_term_49 : decode cX12_term 49 = .ok (.invokestatic 194, 3) := by decide +kernel
theorem dX12_term_52 : decode cX12_term 52 = .ok (.ifCond .lt 24, 3) := by decide +kernel
theorem dX12_term_55 : decode cX12_term 55 = .ok (.aload_n 0, 1) := by decide +kernel
theorem dX12_term_56 : decode cX12_term 56 = .ok (.getfield 28, 3) := by decide +kernel
theorem dX12_term_59 : decode cX12_term 59 = .ok (.iload_n 1, 1) := by decide +kernel
theorem dX12_term_60 : decode cX12_term 60 = .ok (.aload_n 0, 1) := by decide +kernel
theorem dX12_term_61 : decode cX12_term 61 = .ok (.getfield 179, 3) := by decide +kernel
theorem dX12_term_64 : decode cX12_term 64 = .ok (.invokestatic 194, 3) := by decide +kernel
theorem dX12_term_67 : decode cX12_term 67 = .ok (.iaload, 1) := by decide +kernel
theorem dX12_term_68 : decode cX12_term 68 = .ok (.istore_n 2, 1) := by decide +kernel
theorem dX12_term_69 : decode cX12_term 69 = .ok (.aload_n 0, 1) := by decide +kernel
theorem dX12_term_70 : decode cX12_term 70 = .ok (.invokevirtual 191, 3) := by decide +kernel
theorem dX12_term_73 : decode cX12_term 73 = .ok (.goto 7, 3) := by decide +kernel
theorem dX12_term_76 : decode cX12_term 76 = .ok (.aload_n 0, 1) := by decide +kernel
theorem dX12_term_77 : decode cX12_term 77 = .ok (.invokevirtual 197, 3) := by decide +kernel
theorem dX12_term_80 : decode cX12_term 80 = .ok (.iload_n 2, 1) := by decide +kernel
theorem dX12_term_81 : decode cX12_term 81 = .ok (.ireturn, 1) := by decide +kernel
theorem dX12_sum_0 : decode cX12_sum 0 = .ok (.aload_n 0, 1) := by decide +kernel
theorem dX12_sum_1 : decode cX12_sum 1 = .ok (.iload_n 1, 1) := by decide +kernel
theorem dX12_sum_2 : decode cX12_sum 2 = .ok (.invokevirtual 200, 3) := by decide +kernel
theorem dX12_sum_5 : decode cX12_sum 5 = .ok (.istore_n 2, 1) := by decide +kernel
theorem dX12_sum_6 : decode cX12_sum 6 = .ok (.aload_n 0, 1) := by decide +kernel
theorem dX12_sum_7 : decode cX12_sum 7 = .ok (.getfield 188, 3) := by decide +kernel
theorem dX12_sum_10 : decode cX12_sum 10 = .ok (.ifCond .ge 66, 3) := by decide +kernel
theorem dX12_sum_13 : decode cX12_sum 13 = .ok (.aload_n 0, 1) := by decide +kernel
theorem dX12_sum_14 : decode cX12_sum 14 = .ok (.getfield 176, 3) := by decide +kernel
theorem dX12_sum_17 : decode cX12_sum 17 = .ok (.bipush 43, 2) := by decide +kernel
theorem dX12_sum_19 : decode cX12_sum 19 = .ok (.if_icmp .eq 12, 3) := by decide +kernel
theorem dX12_sum_22 : decode cX12_sum 22 = .ok (.aload_n 0, 1) := by decide +kernel
theorem dX12_sum_23 : decode cX12_sum 23 = .ok (.getfield 176, 3) := by decide +kernel
theorem dX12_sum_26 : decode cX12_sum 26 = .ok (.bipush 45, 2) := by decide +kernel
theorem dX12_sum_28 : decode cX12_sum 28 = .ok (.if_icmp .ne 48, 3) := by decide +kernel
theorem dX12_sum_31 : decode cX12_sum 31 = .ok (.aload_n 0, 1) := by decide +kernel
theorem dX12_sum_32 : decode cX12_sum 32 = .ok (.getfield 176, 3) := by decide +kernel
theorem dX12_sum_35 : decode cX12_sum 35 = .ok (.bipush 43, 2) := by decide +kernel
theorem dX12_sum_37 : decode cX12_sum 37 = .ok (.if_icmp .ne 7, 3) := by decide +kernel
theorem dX12_sum_40 : decode cX12_sum 40 = .ok (.iconst 1, 1) := by decide +kernel
theorem dX12_sum_41 : decode cX12_sum 41 = .ok (.goto 4, 3) := by decide +kernel
theorem dX12_sum_44 : decode cX12_sum 44 = .ok (.iconst 0, 1) := by decide +kernel
theorem dX12_sum_45 : decode cX12_sum 45 = .ok (.istore_n 3, 1) := by decide +kernel
theorem dX12_sum_46 : decode cX12_sum 46 = .ok (.aload_n 0, 1) := by decide +kernel
theorem dX12_sum_47 : decode cX12_sum 47 = .ok (.invokevirtual 191, 3) := by decide +kernel
theorem dX12_sum_50 : decode cX12_sum 50 = .ok (.aload_n 0, 1) := by decide +kernel
theorem dX12_sum_51 : decode cX12_sum 51 = .ok (.iload_n 1, 1) := by decide +kernel
theorem dX12_sum_52 : decode cX12_sum 52 = .ok (.invokevirtual 200, 3) := by decide +kernel
theorem dX12_sum_55 : decode cX12_sum 55 = .ok (.istore 4, 2) := by decide +kernel
theorem dX12_sum_57 : decode cX12_sum 57 = .ok (.iload_n 3, 1) := by decide +kernel
theorem dX12_sum_58 : decode cX12_sum 58 = .ok (.ifCond .eq 10, 3) := by decide +kernel
theorem dX12_sum_61 : decode cX12_sum 61 = .ok (.iload_n 2, 1) := by decide +kernel
theorem dX12_sum_62 : decode cX12_sum 62 = .ok (.iload 4, 2) := by decide +kernel
theorem dX12_sum_64 : decode cX12_sum 64 = .ok (.iadd, 1) := by decide +kernel
theorem dX12_sum_65 : decode cX12_sum 65 = .ok (.goto 7, 3) := by decide +kernel
theorem dX12_sum_68 : decode cX12_sum 68 = .ok (.iload_n 2, 1) := by decide +kernel
theorem dX12_sum_69 : decode cX12_sum 69 = .ok (.iload 4, 2) := by decide +kernel
theorem dX12_sum_71 : decode cX12_sum 71 = .ok (.isub, 1) := by decide +kernel
theorem dX12_sum_72 : decode cX12_sum 72 = .ok (.istore_n 2, 1) := by decide +kernel
theorem dX12_sum_73 : decode cX12_sum 73 = .ok (.goto (-67), 3) := by decide +kernel
theorem dX12_sum_76 : decode cX12_sum 76 = .ok (.iload_n 2, 1) := by decide +kernel
theorem dX12_sum_77 : decode cX12_sum 77 = .ok (.ireturn, 1) := by decide +kernel
theorem dX12_single_0 : decode cX12_single 0 = .ok (.iconst 0, 1) := by decide +kernel
theorem dX12_single_1 : decode cX12_single 1 = .ok (.istore_n 2, 1) := by decide +kernel
theorem dX12_single_2 : decode cX12_single 2 = .ok (.aload_n 0, 1) := by decide +kernel
theorem dX12_single_3 : decode cX12_single 3 = .ok (.bipush 7, 2) := by decide +kernel
theorem dX12_single_5 : decode cX12_single 5 = .ok (.invokevirtual 203, 3) := by decide +kernel
theorem dX12_single_8 : decode cX12_single 8 = .ok (.ifCond .eq 20, 3) := by decide +kernel
theorem dX12_single_11 : decode cX12_single 11 = .ok (.iload_n 2, 1) := by decide +kernel
theorem dX12_single_12 : decode cX12_single 12 = .ok (.ifCond .ne 7, 3) := by decide +kernel
theorem dX12_single_15 : decode cX12_single 15 = .ok (.iconst 1, 1) := by decide +kernel
theorem dX12_single_16 : decode cX12_single 16 = .ok (.goto 4, 3) := by decide +kernel
theorem dX12_single_19 : decode cX12_single 19 = .ok (.iconst 0, 1) := by decide +kernel
theorem dX12_single_20 : decode cX12_single 20 = .ok (.istore_n 2, 1) := by decide +kernel
theorem dX12_single_21 : decode cX12_single 21 = .ok (.aload_n 0, 1) := by decide +kernel
theorem dX12_single_22 : decode cX12_single 22 = .ok (.invokevirtual 191, 3) := by decide +kernel
theorem dX12_single_25 : decode cX12_single 25 = .ok (.goto (-23), 3) := by decide +kernel
theorem dX12_single_28 : decode cX12_single 28 = .ok (.iconst 0, 1) := by decide +kernel
theorem dX12_single_29 : decode cX12_single 29 = .ok (.istore_n 3, 1) := by decide +kernel
theorem dX12_single_30 : decode cX12_single 30 = .ok (.aload_n 0, 1) := by decide +kernel
theorem dX12_single_31 : decode cX12_single 31 = .ok (.getfield 188, 3) := by decide +kernel
theorem dX12_single_34 : decode cX12_single 34 = .ok (.ifCond .ge 98, 3) := by decide +kernel
theorem dX12_single_37 : decode cX12_single 37 = .ok (.aload_n 0, 1) := by decide +kernel
theorem dX12_single_38 : decode cX12_single 38 = .ok (.getfield 176, 3) := by decide +kernel
theorem dX12_single_41 : decode cX12_single 41 = .ok (.bipush 40, 2) := by decide +kernel
theorem dX12_single_43 : decode cX12_single 43 = .ok (.if_icmp .ne 89, 3) := by decide +kernel
theorem dX12_single_46 : decode cX12_single 46 = .ok (.aload_n 0, 1) := by decide +kernel
theorem dX12_single_47 : decode cX12_single 47 = .ok (.getfield 206, 3) := by decide +kernel
theorem dX12_single_50 : decode cX12_single 50 = .ok (.iconst 5, 1) := by decide +kernel
theorem dX12_single_51 : decode cX12_single 51 = .ok (.if_icmp .ne 9, 3) := by decide +kernel
theorem dX12_single_54 : decode cX12_single 54 = .ok (.aload_n 0, 1) := by decide +kernel
theorem dX12_single_55 : decode cX12_single 55 = .ok (.invokevirtual 197, 3) := by decide +kernel
theorem dX12_single_58 : decode cX12_single 58 = .ok (.iconst 0, 1) := by decide +kernel
theorem dX12_single_59 : decode cX12_single 59 = .ok (.ireturn, 1) := by decide +kernel
theorem dX12_single_60 : decode cX12_single 60 = .ok (.aload_n 0, 1) := by decide +kernel
theorem dX12_single_61 : decode cX12_single 61 = .ok (.dup, 1) := by decide +kernel
theorem dX12_single_62 : decode cX12_single 62 = .ok (.getfield 206, 3) := by decide +kernel
theorem dX12_single_65 : decode cX12_single 65 = .ok (.iconst 1, 1) := by decide +kernel
theorem dX12_single_66 : decode cX12_single 66 = .ok (.iadd, 1) := by decide +kernel
theorem dX12_single_67 : decode cX12_single 67 = .ok (.putfield 206, 3) := by decide +kernel
theorem dX12_single_70 : decode cX12_single 70 = .ok (.aload_n 0, 1) := by decide +kernel
theorem dX12_single_71 : decode cX12_single 71 = .ok (.invokevirtual 191, 3) := by decide +kernel
theorem dX12_single_74 : decode cX12_single 74 = .ok (.aload_n 0, 1) := by decide +kernel
theorem dX12_single_75 : decode cX12_single 75 = .ok (.iload_n 1, 1) := by decide +kernel
theorem dX12_single_76 : decode cX12_single 76 = .ok (.invokevirtual 209, 3) := by decide +kernel
theorem dX12_single_79 : decode cX12_single 79 = .ok (.istore_n 3, 1) := by decide +kernel
theorem dX12_single_80 : decode cX12_single 80 = .ok (.aload_n 0, 1) := by decide +kernel
theorem dX12_single_81 : decode cX12_single 81 = .ok (.getfield 188, 3) := by decide +kernel
theorem dX12_single_84 : decode cX12_single 84 = .ok (.ifCond .ge 16, 3) := by decide +kernel
theorem dX12_single_87 : decode cX12_single 87 = .ok (.aload_n 0, 1) := by decide +kernel
theorem dX12_single_88 : decode cX12_single 88 = .ok (.getfield 176, 3) := by decide +kernel
theorem dX12_single_91 : decode cX12_single 91 = .ok (.bipush 41, 2) := by decide +kernel
theorem dX12_single_93 : decode cX12_single 93 = .ok (.if_icmp .eq 7, 3) := by decide +kernel
theorem dX12_single_96 : decode cX12_single 96 = .ok (.aload_n 0, 1) := by decide +kernel
theorem dX12_single_97 : decode cX12_single 97 = .ok (.invokevirtual 197, 3) := by decide +kernel
theorem dX12_single_100 : decode cX12_single 100 = .ok (.aload_n 0, 1) := by decide +kernel
theorem dX12_single_101 : decode cX12_single 101 = .ok (.getfield 188, 3) := by decide +kernel
theorem dX12_single_104 : decode cX12_single 104 = .ok (.ifCond .ge 7, 3) := by decide +kernel
theorem dX12_single_107 : decode cX12_single 107 = .ok (.aload_n 0, 1) := by decide +kernel
theorem dX12_single_108 : decode cX12_single 108 = .ok (.invokevirtual 191, 3) := by decide +kernel
theorem dX12_single_111 : decode cX12_single 111 = .ok (.aload_n 0, 1) := by decide +kernel
theorem dX12_single_112 : decode cX12_single 112 = .ok (.dup, 1) := by decide +kernel
theorem dX12_single_113 : decode cX12_single 113 = .ok (.getfield 206, 3) := by decide +kernel
theorem dX12_single_116 : decode cX12_single 116 = .ok (.iconst 1, 1) := by decide +kernel
theorem dX12_single_117 : decode cX12_single 117 = .ok (.isub, 1) := by decide +kernel
theorem dX12_single_118 : decode cX12_single 118 = .ok (.putfield 206, 3) := by decide +kernel
theorem dX12_single_121 : decode cX12_single 121 = .ok (.iload_n 3, 1) := by decide +kernel
theorem dX12_single_122 : decode cX12_single 122 = .ok (.iload_n 2, 1) := by decide +kernel
theorem dX12_single_123 : decode cX12_single 123 = .ok (.if_icmp .eq 7, 3) := by decide +kernel
theorem dX12_single_126 : decode cX12_single 126 = .ok (.iconst 1, 1) := by decide +kernel
theorem dX12_single_127 : decode cX12_single 127 = .ok (.goto 4, 3) := by decide +kernel
theorem dX12_single_130 : decode cX12_single 130 = .ok (.iconst 0, 1) := by decide +kernel
theorem dX12_single_131 : decode cX12_single 131 = .ok (.ireturn, 1) := by decide +kernel
theorem dX12_single_132 : decode cX12_single 132 = .ok (.aload_n 0, 1) := by decide +kernel
theorem dX12_single_133 : decode cX12_single 133 = .ok (.iload_n 1, 1) := by decide +kernel
theorem dX12_single_134 : decode cX12_single 134 = .ok (.invokevirtual 212, 3) := by decide +kernel
theorem dX12_single_137 : decode cX12_single 137 = .ok (.istore 4, 2) := by decide +kernel
theorem dX12_single_139 : decode cX12_single 139 = .ok (.aload_n 0, 1) := by decide +kernel
theorem dX12_single_140 : decode cX12_single 140 = .ok (.getfield 188, 3) := by decide +kernel
theorem dX12_single_143 : decode cX12_single 143 = .ok (.ifCond .ge 107, 3) := by decide +kernel
theorem dX12_single_146 : decode cX12_single 146 = .ok (.aload_n 0, 1) := by decide +kernel
theorem dX12_single_147 : decode cX12_single 147 = .ok (.getfield 176, 3) := by decide +kernel
theorem dX12_single_150 : decode cX12_single 150 = .ok (.bipush 60, 2) := by decide +kernel
theorem dX12_single_152 : decode cX12_single 152 = .ok (.if_icmp .eq 21, 3) := by decide +kernel
theorem dX12_single_155 : decode cX12_single 155 = .ok (.aload_n 0, 1) := by decide +kernel
theorem dX12_single_156 : decode cX12_single 156 = .ok (.getfield 176, 3) := by decide +kernel
theorem dX12_single_159 : decode cX12_single 159 = .ok (.bipush 61, 2) := by decide +kernel
theorem dX12_single_161 : decode cX12_single 161 = .ok (.if_icmp .eq 12, 3) := by decide +kernel
theorem dX12_single_164 : decode cX12_single 164 = .ok (.aload_n 0, 1) := by decide +kernel
theorem dX12_single_165 : decode cX12_single 165 = .ok (.getfield 176, 3) := by decide +kernel
theorem dX12_single_168 : decode cX12_single 168 = .ok (.bipush 62, 2) := by decide +kernel
theorem dX12_single_170 : decode cX12_single 170 = .ok (.if_icmp .ne 80, 3) := by decide +kernel
theorem dX12_single_173 : decode cX12_single 173 = .ok (.aload_n 0, 1) := by decide +kernel
theorem dX12_single_174 : decode cX12_single 174 = .ok (.getfield 176, 3) := by decide +kernel
theorem dX12_single_177 : decode cX12_single 177 = .ok (.istore 5, 2) := by decide +kernel
theorem dX12_single_179 : decode cX12_single 179 = .ok (.aload_n 0, 1) := by decide +kernel
theorem dX12_single_180 : decode cX12_single 180 = .ok (.invokevirtual 191, 3) := by decide +kernel
theorem dX12_single_183 : decode cX12_single 183 = .ok (.aload_n 0, 1) := by decide +kernel
theorem dX12_single_184 : decode cX12_single 184 = .ok (.iload_n 1, 1) := by decide +kernel
theorem dX12_single_185 : decode cX12_single 185 = .ok (.invokevirtual 212, 3) := by decide +kernel
theorem dX12_single_188 : decode cX12_single 188 = .ok (.istore 6, 2) := by decide +kernel
theorem dX12_single_190 : decode cX12_single 190 = .ok (.iload 5, 2) := by decide +kernel
theorem dX12_single_192 : decode cX12_single 192 = .ok (.bipush 60, 2) := by decide +kernel
theorem dX12_single_194 : decode cX12_single 194 = .ok (.if_icmp .ne 18, 3) := by decide +kernel
theorem dX12_single_197 : decode cX12_single 197 = .ok (.iload 4, 2) := by decide +kernel
theorem dX12_single_199 : decode cX12_single 199 = .ok (.iload 6, 2) := by decide +kernel
theorem dX12_single_201 : decode cX12_single 201 = .ok (.if_icmp .ge 7, 3) := by decide +kernel
theorem dX12_single_204 : decode cX12_single 204 = .ok (.iconst 1, 1) := by decide +kernel
theorem dX12_single_205 : decode cX12_single 205 = .ok (.goto 41, 3) := by decide +kernel
theorem dX12_single_208 : decode cX12_single 208 = .ok (.iconst 0, 1) := by decide +kernel
theorem dX12_single_209 : decode cX12_single 209 = .ok (.goto 37, 3) := by decide +kernel
theorem dX12_single_212 : decode cX12_single 212 = .ok (.iload 5, 2) := by decide +kernel
theorem dX12_single_214 : decode cX12_single 214 = .ok (.bipush 61, 2) := by decide +kernel
theorem dX12_single_216 : decode cX12_single 216 = .ok (.if_icmp .ne 18, 3) := by decide +kernel
theorem dX12_single_219 : decode cX12_single 219 = .ok (.iload 4, 2) := by decide +kernel
theorem dX12_single_221 : decode cX12_single 221 = .ok (.iload 6, 2) := by decide +kernel
theorem dX12_single_223 : decode cX12_single 223 = .ok (.if_icmp .ne 7, 3) := by decide +kernel
theorem dX12_single_226 : decode cX12_single 226 = .ok (.iconst 1, 1) := by decide +kernel
theorem dX12_single_227 : decode cX12_single 227 = .ok (.goto 19, 3) := by decide +kernel
theorem dX12_single_230 : decode cX12_single 230 = .ok (.iconst 0, 1) := by decide +kernel
theorem dX12_single_231 : decode cX12_single 231 = .ok (.goto 15, 3) := by decide +kernel
theorem dX12_single_234 : decode cX12_single 234 = .ok (.iload 4, 2) := by decide +kernel
theorem dX12_single_236 : decode cX12_single 236 = .ok (.iload 6, 2) := by decide +kernel
theorem dX12_single_238 : decode cX12_single 238 = .ok (.if_icmp .le 7, 3) := by decide +kernel
theorem dX12_single_241 : decode cX12_single 241 = .ok (.iconst 1, 1) := by decide +kernel
theorem dX12_single_242 : decode cX12_single 242 = .ok (.goto 4, 3) := by decide +kernel
theorem dX12_single_245 : decode cX12_single 245 = .ok (.iconst 0, 1) := by decide +kernel
theorem dX12_single_246 : decode cX12_single 246 = .ok (.istore_n 3, 1) := by decide +kernel
theorem dX12_single_247 : decode cX12_single 247 = .ok (.goto 14, 3) := by decide +kernel
theorem dX12_single_250 : decode cX12_single 250 = .ok (.iload 4, 2) := by decide +kernel
theorem dX12_single_252 : decode cX12_single 252 = .ok (.ifCond .eq 7, 3) := by decide +kernel
theorem dX12_single_255 : decode cX12_single 255 = .ok (.iconst 1, 1) := by decide +kernel
theorem dX12_single_256 : decode cX12_single 256 = .ok (.goto 4, 3) := by decide +kernel
theorem dX12_single_259 : decode cX12_single 259 = .ok (.iconst 0, 1) := by decide +kernel
theorem dX12_single_260 : decode cX12_single 260 = .ok (.istore_n 3, 1) := by decide +kernel
theorem dX12_single_261 : decode cX12_single 261 = .ok (.iload_n 3, 1) := by decide +kernel
theorem dX12_single_262 : decode cX12_single 262 = .ok (.iload_n 2, 1) := by decide +kernel
theorem dX12_single_263 : decode cX12_single 263 = .ok (.if_icmp .eq 7, 3) := by decide +kernel
theorem dX12_single_266 : decode cX12_single 266 = .ok (.iconst 1, 1) := by decide +kernel
theorem dX12_single_267 : decode cX12_single 267 = .ok (.goto 4, 3) := by decide +kernel
theorem dX12_single_270 : decode cX12_single 270 = .ok (.iconst 0, 1) := by decide +kernel
theorem dX12_single_271 : decode cX12_single 271 = .ok (.ireturn, 1) := by decide +kernel
theorem dX12_every_0 : decode cX12_every 0 = .ok (.aload_n 0, 1) := by decide +kernel
theorem dX12_every_1 : decode cX12_every 1 = .ok (.iload_n 1, 1) := by decide +kernel
theorem dX12_every_2 : decode cX12_every 2 = .ok (.invokevirtual 215, 3) := by decide +kernel
theorem dX12_every_5 : decode cX12_every 5 = .ok (.istore_n 2, 1) := by decide +kernel
theorem dX12_every_6 : decode cX12_every 6 = .ok (.aload_n 0, 1) := by decide +kernel
theorem dX12_every_7 : decode cX12_every 7 = .ok (.bipush 6, 2) := by decide +kernel
theorem dX12_every_9 : decode cX12_every 9 = .ok (.invokevirtual 203, 3) := by decide +kernel
theorem dX12_every_12 : decode cX12_every 12 = .ok (.ifCond .eq 20, 3) := by decide +kernel
theorem dX12_every_15 : decode cX12_every 15 = .ok (.aload_n 0, 1) := by decide +kernel
theorem dX12_every_16 : decode cX12_every 16 = .ok (.invokevirtual 191, 3) := by decide +kernel
theorem dX12_every_19 : decode cX12_every 19 = .ok (.aload_n 0, 1) := by decide +kernel
theorem dX12_every_20 : decode cX12_every 20 = .ok (.iload_n 1, 1) := by decide +kernel
theorem dX12_every_21 : decode cX12_every 21 = .ok (.invokevirtual 215, 3) := by decide +kernel
theorem dX12_every_24 : decode cX12_every 24 = .ok (.istore_n 3, 1) := by decide +kernel
theorem dX12_every_25 : decode cX12_every 25 = .ok (.iload_n 2, 1) := by decide +kernel
theorem dX12_every_26 : decode cX12_every 26 = .ok (.iload_n 3, 1) := by decide +kernel
theorem dX12_every_27 : decode cX12_every 27 = .ok (.iand, 1) := by decide +kernel
theorem dX12_every_28 : decode cX12_every 28 = .ok (.istore_n 2, 1) := by decide +kernel
theorem dX12_every_29 : decode cX12_every 29 = .ok (.goto (-23), 3) := by decide +kernel
theorem dX12_every_32 : decode cX12_every 32 = .ok (.iload_n 2, 1) := by decide +kernel
theorem dX12_every_33 : decode cX12_every 33 = .ok (.ireturn, 1) := by decide +kernel
theorem dX12_cond_0 : decode cX12_cond 0 = .ok (.aload_n 0, 1) := by decide +kernel
theorem dX12_cond_1 : decode cX12_cond 1 = .ok (.iload_n 1, 1) := by decide +kernel
theorem dX12_cond_2 : decode cX12_cond 2 = .ok (.invokevirtual 218, 3) := by decide +kernel
theorem dX12_cond_5 : decode cX12_cond 5 = .ok (.istore_n 2, 1) := by decide +kernel
theorem dX12_cond_6 : decode cX12_cond 6 = .ok (.aload_n 0, 1) := by decide +kernel
theorem dX12_cond_7 : decode cX12_cond 7 = .ok (.iconst 5, 1) := by decide +kernel
theorem dX12_cond_8 : decode cX12_cond 8 = .ok (.invokevirtual 203, 3) := by decide +kernel
theorem dX12_cond_11 : decode cX12_cond 11 = .ok (.ifCond .eq 20, 3) := by decide +kernel
theorem dX12_cond_14 : decode cX12_cond 14 = .ok (.aload_n 0, 1) := by decide +kernel
theorem dX12_cond_15 : decode cX12_cond 15 = .ok (.invokevirtual 191, 3) := by decide +kernel
theorem dX12_cond_18 : decode cX12_cond 18 = .ok (.aload_n 0, 1) := by decide +kernel
theorem dX12_cond_19 : decode cX12_cond 19 = .ok (.iload_n 1, 1) := by decide +kernel
theorem dX12_cond_20 : decode cX12_cond 20 = .ok (.invokevirtual 218, 3) := by decide +kernel
theorem dX12_cond_23 : decode cX12_cond 23 = .ok (.istore_n 3, 1) := by decide +kernel
theorem dX12_cond_24 : decode cX12_cond 24 = .ok (.iload_n 2, 1) := by decide +kernel
theorem dX12_cond_25 : decode cX12_cond 25 = .ok (.iload_n 3, 1) := by decide +kernel
theorem dX12_cond_26 : decode cX12_cond 26 = .ok (.ior, 1) := by decide +kernel
theorem dX12_cond_27 : decode cX12_cond 27 = .ok (.istore_n 2, 1) := by decide +kernel
theorem dX12_cond_28 : decode cX12_cond 28 = .ok (.goto (-22), 3) := by decide +kernel
theorem dX12_cond_31 : decode cX12_cond 31 = .ok (.iload_n 2, 1) := by decide +kernel
theorem dX12_cond_32 : decode cX12_cond 32 = .ok (.ireturn, 1) := by decide +kernel
theorem dX12_reads_0 : decode cX12_reads 0 = .ok (.aload_n 0, 1) := by decide +kernel
theorem dX12_reads_1 : decode cX12_reads 1 = .ok (.iload_n 1, 1) := by decide +kernel
theorem dX12_reads_2 : decode cX12_reads 2 = .ok (.putfield 164, 3) := by decide +kernel
theorem dX12_reads_5 : decode cX12_reads 5 = .ok (.aload_n 0, 1) := by decide +kernel
theorem dX12_reads_6 : decode cX12_reads 6 = .ok (.iload_n 2, 1) := by decide +kernel
theorem dX12_reads_7 : decode cX12_reads 7 = .ok (.putfield 161, 3) := by decide +kernel
theorem dX12_reads_10 : decode cX12_reads 10 = .ok (.aload_n 0, 1) := by decide +kernel
theorem dX12_reads_11 : decode cX12_reads 11 = .ok (.iconst 0, 1) := by decide +kernel
theorem dX12_reads_12 : decode cX12_reads 12 = .ok (.putfield 167, 3) := by decide +kernel
theorem dX12_reads_15 : decode cX12_reads 15 = .ok (.aload_n 0, 1) := by decide +kernel
theorem dX12_reads_16 : decode cX12_reads 16 = .ok (.iconst (-1), 1) := by decide +kernel
theorem dX12_reads_17 : decode cX12_reads 17 = .ok (.putfield 188, 3) := by decide +kernel
theorem dX12_reads_20 : decode cX12_reads 20 = .ok (.aload_n 0, 1) := by decide +kernel
theorem dX12_reads_21 : decode cX12_reads 21 = .ok (.iconst 0, 1) := by decide +kernel
theorem dX12_reads_22 : decode cX12_reads 22 = .ok (.putfield 206, 3) := by decide +kernel
theorem dX12_reads_25 : decode cX12_reads 25 = .ok (.iconst 0, 1) := by decide +kernel
theorem dX12_reads_26 : decode cX12_reads 26 = .ok (.istore_n 3, 1) := by decide +kernel
theorem dX12_reads_27 : decode cX12_reads 27 = .ok (.iconst 0, 1) := by decide +kernel
theorem dX12_reads_28 : decode cX12_reads 28 = .ok (.istore 4, 2) := by decide +kernel
theorem dX12_reads_30 : decode cX12_reads 30 = .ok (.iload 4, 2) := by decide +kernel
theorem dX12_reads_32 : decode cX12_reads 32 = .ok (.iconst 5, 1) := by decide +kernel
theorem dX12_reads_33 : decode cX12_reads 33 = .ok (.if_icmp .ge 17, 3) := by decide +kernel
theorem dX12_reads_36 : decode cX12_reads 36 = .ok (.aload_n 0, 1) := by decide +kernel
theorem dX12_reads_37 : decode cX12_reads 37 = .ok (.getfield 31, 3) := by decide +kernel
theorem dX12_reads_40 : decode cX12_reads 40 = .ok (.iload 4, 2) := by decide +kernel
theorem dX12_reads_42 : decode cX12_reads 42 = .ok (.iconst 0, 1) := by decide +kernel
theorem dX12_reads_43 : decode cX12_reads 43 = .ok (.bastore, 1) := by decide +kernel
theorem dX12_reads_44 : decode cX12_reads 44 = .ok (.iinc 4 1, 3) := by decide +kernel
theorem dX12_reads_47 : decode cX12_reads 47 = .ok (.goto (-17), 3) := by decide +kernel
theorem dX12_reads_50 : decode cX12_reads 50 = .ok (.aload_n 0, 1) := by decide +kernel
theorem dX12_reads_51 : decode cX12_reads 51 = .ok (.invokevirtual 191, 3) := by decide +kernel
theorem dX12_reads_54 : decode cX12_reads 54 = .ok (.aload_n 0, 1) := by decide +kernel
theorem dX12_reads_55 : decode cX12_reads 55 = .ok (.getfield 188, 3) := by decide +kernel
theorem dX12_reads_58 : decode cX12_reads 58 = .ok (.ifCond .ge 75, 3) := by decide +kernel
theorem dX12_reads_61 : decode cX12_reads 61 = .ok (.aload_n 0, 1) := by decide +kernel
theorem dX12_reads_62 : decode cX12_reads 62 = .ok (.getfield 176, 3) := by decide +kernel
theorem dX12_reads_65 : decode cX12_reads 65 = .ok (.ifCond .eq 68, 3) := by decide +kernel
theorem dX12_reads_68 : decode cX12_reads 68 = .ok (.aload_n 0, 1) := by decide +kernel
theorem dX12_reads_69 : decode cX12_reads 69 = .ok (.getfield 176, 3) := by decide +kernel
theorem dX12_reads_72 : decode cX12_reads 72 = .ok (.iconst 2, 1) := by decide +kernel
theorem dX12_reads_73 : decode cX12_reads 73 = .ok (.if_icmp .ne 23, 3) := by decide +kernel
theorem dX12_reads_76 : decode cX12_reads 76 = .ok (.aload_n 0, 1) := by decide +kernel
theorem dX12_reads_77 : decode cX12_reads 77 = .ok (.getfield 179, 3) := by decide +kernel
theorem dX12_reads_80 : decode cX12_reads 80 = .ok (.iconst 4, 1) := by decide +kernel
theorem dX12_reads_81 : decode cX12_reads 81 = .ok (.if_icmp .gt 15, 3) := by decide +kernel
theorem dX12_reads_84 : decode cX12_reads 84 = .ok (.aload_n 0, 1) := by decide +kernel
theorem dX12_reads_85 : decode cX12_reads 85 = .ok (.getfield 31, 3) := by decide +kernel
theorem dX12_reads_88 : decode cX12_reads 88 = .ok (.aload_n 0, 1) := by decide +kernel
theorem dX12_reads_89 : decode cX12_reads 89 = .ok (.getfield 179, 3) := by decide +kernel
theorem dX12_reads_92 : decode cX12_reads 92 = .ok (.baload, 1) := by decide +kernel
theorem dX12_reads_93 : decode cX12_reads 93 = .ok (.ifCond .eq 10, 3) := by decide +kernel
theorem dX12_reads_96 : decode cX12_reads 96 = .ok (.aload_n 0, 1) := by decide +kernel
theorem dX12_reads_97 : decode cX12_reads 97 = .ok (.invokevirtual 197, 3) := by decide +kernel
theorem dX12_reads_100 : decode cX12_reads 100 = .ok (.goto (-46), 3) := by decide +kernel
theorem dX12_reads_103 : decode cX12_reads 103 = .ok (.aload_n 0, 1) := by decide +kernel
theorem dX12_reads_104 : decode cX12_reads 104 = .ok (.getfield 179, 3) := by decide +kernel
theorem dX12_reads_107 : decode cX12_reads 107 = .ok (.istore 4, 2) := by decide +kernel
theorem dX12_reads_109 : decode cX12_reads 109 = .ok (.aload_n 0, 1) := by decide +kernel
theorem dX12_reads_110 : decode cX12_reads 110 = .ok (.invokevirtual 191, 3) := by decide +kernel
theorem dX12_reads_113 : decode cX12_reads 113 = .ok (.aload_n 0, 1) := by decide +kernel
theorem dX12_reads_114 : decode cX12_reads 114 = .ok (.iload 4, 2) := by decide +kernel
theorem dX12_reads_116 : decode cX12_reads 116 = .ok (.invokevirtual 221, 3) := by decide +kernel
theorem dX12_reads_119 : decode cX12_reads 119 = .ok (.aload_n 0, 1) := by decide +kernel
theorem dX12_reads_120 : decode cX12_reads 120 = .ok (.getfield 31, 3) := by decide +kernel
theorem dX12_reads_123 : decode cX12_reads 123 = .ok (.iload 4, 2) := by decide +kernel
theorem dX12_reads_125 : decode cX12_reads 125 = .ok (.iconst 1, 1) := by decide +kernel
theorem dX12_reads_126 : decode cX12_reads 126 = .ok (.bastore, 1) := by decide +kernel
theorem dX12_reads_127 : decode cX12_reads 127 = .ok (.iinc 3 1, 3) := by decide +kernel
theorem dX12_reads_130 : decode cX12_reads 130 = .ok (.goto (-76), 3) := by decide +kernel
theorem dX12_reads_133 : decode cX12_reads 133 = .ok (.iload_n 3, 1) := by decide +kernel
theorem dX12_reads_134 : decode cX12_reads 134 = .ok (.ireturn, 1) := by decide +kernel
theorem dX12_line_0 : decode cX12_line 0 = .ok (.iload_n 1, 1) := by decide +kernel
theorem dX12_line_1 : decode cX12_line 1 = .ok (.iconst 4, 1) := by decide +kernel
theorem dX12_line_2 : decode cX12_line 2 = .ok (.if_icmp .ge 25, 3) := by decide +kernel
theorem dX12_line_5 : decode cX12_line 5 = .ok (.aload_n 0, 1) := by decide +kernel
theorem dX12_line_6 : decode cX12_line 6 = .ok (.getfield 35, 3) := by decide +kernel
theorem dX12_line_9 : decode cX12_line 9 = .ok (.iload_n 1, 1) := by decide +kernel
theorem dX12_line_10 : decode cX12_line 10 = .ok (.aload_n 0, 1) := by decide +kernel
theorem dX12_line_11 : decode cX12_line 11 = .ok (.iload_n 1, 1) := by decide +kernel
theorem dX12_line_12 : decode cX12_line 12 = .ok (.invokevirtual 209, 3) := by decide +kernel
theorem dX12_line_15 : decode cX12_line 15 = .ok (.ifCond .eq 7, 3) := by decide +kernel
theorem dX12_line_18 : decode cX12_line 18 = .ok (.iconst 1, 1) := by decide +kernel
theorem dX12_line_19 : decode cX12_line 19 = .ok (.goto 4, 3) := by decide +kernel
theorem dX12_line_22 : decode cX12_line 22 = .ok (.iconst 0, 1) := by decide +kernel
theorem dX12_line_23 : decode cX12_line 23 = .ok (.iastore, 1) := by decide +kernel
theorem dX12_line_24 : decode cX12_line 24 = .ok (.goto 41, 3) := by decide +kernel
theorem dX12_line_27 : decode cX12_line 27 = .ok (.aload_n 0, 1) := by decide +kernel
theorem dX12_line_28 : decode cX12_line 28 = .ok (.getfield 176, 3) := by decide +kernel
theorem dX12_line_31 : decode cX12_line 31 = .ok (.iconst 3, 1) := by decide +kernel
theorem dX12_line_32 : decode cX12_line 32 = .ok (.if_icmp .ne 12, 3) := by decide +kernel
theorem dX12_line_35 : decode cX12_line 35 = .ok (.aload_n 0, 1) := by decide +kernel
theorem dX12_line_36 : decode cX12_line 36 = .ok (.getfield 179, 3) := by decide +kernel
theorem dX12_line_39 : decode cX12_line 39 = .ok (.bipush 50, 2) := by decide +kernel
theorem dX12_line_41 : decode cX12_line 41 = .ok (.if_icmp .le 10, 3) := by decide +kernel
theorem dX12_line_44 : decode cX12_line 44 = .ok (.aload_n 0, 1) := by decide +kernel
theorem dX12_line_45 : decode cX12_line 45 = .ok (.invokevirtual 197, 3) := by decide +kernel
theorem dX12_line_48 : decode cX12_line 48 = .ok (.goto 17, 3) := by decide +kernel
theorem dX12_line_51 : decode cX12_line 51 = .ok (.aload_n 0, 1) := by decide +kernel
theorem dX12_line_52 : decode cX12_line 52 = .ok (.getfield 35, 3) := by decide +kernel
theorem dX12_line_55 : decode cX12_line 55 = .ok (.iload_n 1, 1) := by decide +kernel
theorem dX12_line_56 : decode cX12_line 56 = .ok (.aload_n 0, 1) := by decide +kernel
theorem dX12_line_57 : decode cX12_line 57 = .ok (.getfield 179, 3) := by decide +kernel
theorem dX12_line_60 : decode cX12_line 60 = .ok (.iastore, 1) := by decide +kernel
theorem dX12_line_61 : decode cX12_line 61 = .ok (.aload_n 0, 1) := by decide +kernel
theorem dX12_line_62 : decode cX12_line 62 = .ok (.invokevirtual 191, 3) := by decide +kernel
theorem dX12_line_65 : decode cX12_line 65 = .ok (.aload_n 0, 1) := by decide +kernel
theorem dX12_line_66 : decode cX12_line 66 = .ok (.getfield 188, 3) := by decide +kernel
theorem dX12_line_69 : decode cX12_line 69 = .ok (.ifCond .ge 16, 3) := by decide +kernel
theorem dX12_line_72 : decode cX12_line 72 = .ok (.aload_n 0, 1) := by decide +kernel
theorem dX12_line_73 : decode cX12_line 73 = .ok (.getfield 176, 3) := by decide +kernel
theorem dX12_line_76 : decode cX12_line 76 = .ok (.bipush 59, 2) := by decide +kernel
theorem dX12_line_78 : decode cX12_line 78 = .ok (.if_icmp .eq 7, 3) := by decide +kernel
theorem dX12_line_81 : decode cX12_line 81 = .ok (.aload_n 0, 1) := by decide +kernel
theorem dX12_line_82 : decode cX12_line 82 = .ok (.invokevirtual 197, 3) := by decide +kernel
theorem dX12_line_85 : decode cX12_line 85 = .ok (.aload_n 0, 1) := by decide +kernel
theorem dX12_line_86 : decode cX12_line 86 = .ok (.getfield 188, 3) := by decide +kernel
theorem dX12_line_89 : decode cX12_line 89 = .ok (.ifCond .ge 7, 3) := by decide +kernel
theorem dX12_line_92 : decode cX12_line 92 = .ok (.aload_n 0, 1) := by decide +kernel
theorem dX12_line_93 : decode cX12_line 93 = .ok (.invokevirtual 191, 3) := by decide +kernel
theorem dX12_line_96 : decode cX12_line 96 = .ok (.return_, 1) := by decide +kernel
theorem dX12_read_0 : decode cX12_read 0 = .ok (.iload_n 1, 1) := by decide +kernel
theorem dX12_read_1 : decode cX12_read 1 = .ok (.iconst 0, 1) := by decide +kernel
theorem dX12_read_2 : decode cX12_read 2 = .ok (.iconst 3, 1) := by decide +kernel
theorem dX12_read_3 : decode cX12_read 3 = .ok (.invokestatic 77, 3) := by decide +kernel
theorem dX12_read_6 : decode cX12_read 6 = .ok (.ifCond .ne 5, 3) := by decide +kernel
theorem dX12_read_9 : decode cX12_read 9 = .ok (.iconst (-1), 1) := by decide +kernel
theorem dX12_read_10 : decode cX12_read 10 = .ok (.ireturn, 1) := by decide +kernel
theorem dX12_read_11 : decode cX12_read 11 = .ok (.aload_n 0, 1) := by decide +kernel
theorem dX12_read_12 : decode cX12_read 12 = .ok (.iconst (-1), 1) := by decide +kernel
theorem dX12_read_13 : decode cX12_read 13 = .ok (.aload_n 0, 1) := by decide +kernel
theorem dX12_read_14 : decode cX12_read 14 = .ok (.getfield 155, 3) := by decide +kernel
theorem dX12_read_17 : decode cX12_read 17 = .ok (.invokevirtual 225, 3) := by decide +kernel
theorem dX12_read_20 : decode cX12_read 20 = .ok (.istore_n 2, 1) := by decide +kernel
theorem dX12_read_21 : decode cX12_read 21 = .ok (.aload_n 0, 1) := by decide +kernel
theorem dX12_read_22 : decode cX12_read 22 = .ok (.getfield 155, 3) := by decide +kernel
theorem dX12_read_25 : decode cX12_read 25 = .ok (.istore_n 3, 1) := by decide +kernel
theorem dX12_read_26 : decode cX12_read 26 = .ok (.aload_n 0, 1) := by decide +kernel
theorem dX12_read_27 : decode cX12_read 27 = .ok (.iconst 0, 1) := by decide +kernel
theorem dX12_read_28 : decode cX12_read 28 = .ok (.putfield 155, 3) := by decide +kernel
theorem dX12_read_31 : decode cX12_read 31 = .ok (.aload_n 0, 1) := by decide +kernel
theorem dX12_read_32 : decode cX12_read 32 = .ok (.getfield 188, 3) := by decide +kernel
theorem dX12_read_35 : decode cX12_read 35 = .ok (.ifCond .lt 11, 3) := by decide +kernel
theorem dX12_read_38 : decode cX12_read 38 = .ok (.bipush (-100), 2) := by decide +kernel
theorem dX12_read_40 : decode cX12_read 40 = .ok (.aload_n 0, 1) := by decide +kernel
theorem dX12_read_41 : decode cX12_read 41 = .ok (.getfield 188, 3) := by decide +kernel
theorem dX12_read_44 : decode cX12_read 44 = .ok (.isub, 1) := by decide +kernel
theorem dX12_read_45 : decode cX12_read 45 = .ok (.ireturn, 1) := by decide +kernel
theorem dX12_read_46 : decode cX12_read 46 = .ok (.iconst 0, 1) := by decide +kernel
theorem dX12_read_47 : decode cX12_read 47 = .ok (.istore 4, 2) := by decide +kernel
theorem dX12_read_49 : decode cX12_read 49 = .ok (.iload 4, 2) := by decide +kernel
theorem dX12_read_51 : decode cX12_read 51 = .ok (.iload_n 3, 1) := by decide +kernel
theorem dX12_read_52 : decode cX12_read 52 = .ok (.if_icmp .ge 33, 3) := by decide +kernel
theorem dX12_read_55 : decode cX12_read 55 = .ok (.aload_n 0, 1) := by decide +kernel
theorem dX12_read_56 : decode cX12_read 56 = .ok (.getfield 7, 3) := by decide +kernel
theorem dX12_read_59 : decode cX12_read 59 = .ok (.sipush 1024, 3) := by decide +kernel
theorem dX12_read_62 : decode cX12_read 62 = .ok (.sipush 300, 3) := by decide +kernel
theorem dX12_read_65 : decode cX12_read 65 = .ok (.iload_n 1, 1) := by decide +kernel
theorem dX12_read_66 : decode cX12_read 66 = .ok (.imul, 1) := by decide +kernel
theorem dX12_read_67 : decode cX12_read 67 = .ok (.iadd, 1) := by decide +kernel
theorem dX12_read_68 : decode cX12_read 68 = .ok (.iload 4, 2) := by decide +kernel
theorem dX12_read_70 : decode cX12_read 70 = .ok (.iadd, 1) := by decide +kernel
theorem dX12_read_71 : decode cX12_read 71 = .ok (.aload_n 0, 1) := by decide +kernel
theorem dX12_read_72 : decode cX12_read 72 = .ok (.getfield 16, 3) := by decide +kernel
theorem dX12_read_75 : decode cX12_read 75 = .ok (.iload 4, 2) := by decide +kernel
theorem dX12_read_77 : decode cX12_read 77 = .ok (.iaload, 1) := by decide +kernel
theorem dX12_read_78 : decode cX12_read 78 = .ok (.iastore, 1) := by decide +kernel
theorem dX12_read_79 : decode cX12_read 79 = .ok (.iinc 4 1, 3) := by decide +kernel
theorem dX12_read_82 : decode cX12_read 82 = .ok (.goto (-33), 3) := by decide +kernel
theorem dX12_read_85 : decode cX12_read 85 = .ok (.aload_n 0, 1) := by decide +kernel
theorem dX12_read_86 : decode cX12_read 86 = .ok (.getfield 7, 3) := by decide +kernel
theorem dX12_read_89 : decode cX12_read 89 = .ok (.sipush 1020, 3) := by decide +kernel
theorem dX12_read_92 : decode cX12_read 92 = .ok (.iload_n 1, 1) := by decide +kernel
theorem dX12_read_93 : decode cX12_read 93 = .ok (.iadd, 1) := by decide +kernel
theorem dX12_read_94 : decode cX12_read 94 = .ok (.iload_n 3, 1) := by decide +kernel
theorem dX12_read_95 : decode cX12_read 95 = .ok (.iastore, 1) := by decide +kernel
theorem dX12_read_96 : decode cX12_read 96 = .ok (.iload_n 2, 1) := by decide +kernel
theorem dX12_read_97 : decode cX12_read 97 = .ok (.ireturn, 1) := by decide +kernel
theorem dX12_force_0 : decode cX12_force 0 = .ok (.iload_n 1, 1) := by decide +kernel
theorem dX12_force_1 : decode cX12_force 1 = .ok (.iconst (-1), 1) := by decide +kernel
theorem dX12_force_2 : decode cX12_force 2 = .ok (.iconst 3, 1) := by decide +kernel
theorem dX12_force_3 : decode cX12_force 3 = .ok (.invokestatic 77, 3) := by decide +kernel
theorem dX12_force_6 : decode cX12_force 6 = .ok (.ifCond .ne 6, 3) := by decide +kernel
theorem dX12_force_9 : decode cX12_force 9 = .ok (.bipush (-9), 2) := by decide +kernel
theorem dX12_force_11 : decode cX12_force 11 = .ok (.ireturn, 1) := by decide +kernel
theorem dX12_force_12 : decode cX12_force 12 = .ok (.iload_n 1, 1) := by decide +kernel
theorem dX12_force_13 : decode cX12_force 13 = .ok (.ifCond .lt 19, 3) := by decide +kernel
theorem dX12_force_16 : decode cX12_force 16 = .ok (.aload_n 0, 1) := by decide +kernel
theorem dX12_force_17 : decode cX12_force 17 = .ok (.getfield 7, 3) := by decide +kernel
theorem dX12_force_20 : decode cX12_force 20 = .ok (.sipush 1020, 3) := by decide +kernel
theorem dX12_force_23 : decode cX12_force 23 = .ok (.iload_n 1, 1) := by decide +kernel
theorem dX12_force_24 : decode cX12_force 24 = .ok (.iadd, 1) := by decide +kernel
theorem dX12_force_25 : decode cX12_force 25 = .ok (.iaload, 1) := by decide +kernel
theorem dX12_force_26 : decode cX12_force 26 = .ok (.ifCond .ge 6, 3) := by decide +kernel
theorem dX12_force_29 : decode cX12_force 29 = .ok (.bipush (-8), 2) := by decide +kernel
theorem dX12_force_31 : decode cX12_force 31 = .ok (.ireturn, 1) := by decide +kernel
theorem dX12_force_32 : decode cX12_force 32 = .ok (.aload_n 0, 1) := by decide +kernel
theorem dX12_force_33 : decode cX12_force 33 = .ok (.getfield 7, 3) := by decide +kernel
theorem dX12_force_36 : decode cX12_force 36 = .ok (.bipush 7, 2) := by decide +kernel
theorem dX12_force_38 : decode cX12_force 38 = .ok (.iaload, 1) := by decide +kernel
theorem dX12_force_39 : decode cX12_force 39 = .ok (.istore_n 2, 1) := by decide +kernel
theorem dX12_force_40 : decode cX12_force 40 = .ok (.aload_n 0, 1) := by decide +kernel
theorem dX12_force_41 : decode cX12_force 41 = .ok (.getfield 7, 3) := by decide +kernel
theorem dX12_force_44 : decode cX12_force 44 = .ok (.bipush 7, 2) := by decide +kernel
theorem dX12_force_46 : decode cX12_force 46 = .ok (.iload_n 1, 1) := by decide +kernel
theorem dX12_force_47 : decode cX12_force 47 = .ok (.iastore, 1) := by decide +kernel
theorem dX12_force_48 : decode cX12_force 48 = .ok (.iload_n 2, 1) := by decide +kernel
theorem dX12_force_49 : decode cX12_force 49 = .ok (.ireturn, 1) := by decide +kernel
theorem dX12_ruled_0 : decode cX12_ruled 0 = .ok (.aload_n 0, 1) := by decide +kernel
theorem dX12_ruled_1 : decode cX12_ruled 1 = .ok (.sipush 1024, 3) := by decide +kernel
theorem dX12_ruled_4 : decode cX12_ruled 4 = .ok (.sipush 300, 3) := by decide +kernel
theorem dX12_ruled_7 : decode cX12_ruled 7 = .ok (.aload_n 0, 1) := by decide +kernel
theorem dX12_ruled_8 : decode cX12_ruled 8 = .ok (.getfield 7, 3) := by decide +kernel
theorem dX12_ruled_11 : decode cX12_ruled 11 = .ok (.bipush 7, 2) := by decide +kernel
theorem dX12_ruled_13 : decode cX12_ruled 13 = .ok (.iaload, 1) := by decide +kernel
theorem dX12_ruled_14 : decode cX12_ruled 14 = .ok (.ifCond .ge 7, 3) := by decide +kernel
theorem dX12_ruled_17 : decode cX12_ruled 17 = .ok (.iconst 0, 1) := by decide +kernel
theorem dX12_ruled_18 : decode cX12_ruled 18 = .ok (.goto 10, 3) := by decide +kernel
theorem dX12_ruled_21 : decode cX12_ruled 21 = .ok (.aload_n 0, 1) := by decide +kernel
theorem dX12_ruled_22 : decode cX12_ruled 22 = .ok (.getfield 7, 3) := by decide +kernel
theorem dX12_ruled_25 : decode cX12_ruled 25 = .ok (.bipush 7, 2) := by decide +kernel
theorem dX12_ruled_27 : decode cX12_ruled 27 = .ok (.iaload, 1) := by decide +kernel
theorem dX12_ruled_28 : decode cX12_ruled 28 = .ok (.imul, 1) := by decide +kernel
theorem dX12_ruled_29 : decode cX12_ruled 29 = .ok (.iadd, 1) := by decide +kernel
theorem dX12_ruled_30 : decode cX12_ruled 30 = .ok (.aload_n 0, 1) := by decide +kernel
theorem dX12_ruled_31 : decode cX12_ruled 31 = .ok (.getfield 7, 3) := by decide +kernel
theorem dX12_ruled_34 : decode cX12_ruled 34 = .ok (.bipush 7, 2) := by decide +kernel
theorem dX12_ruled_36 : decode cX12_ruled 36 = .ok (.iaload, 1) := by decide +kernel
theorem dX12_ruled_37 : decode cX12_ruled 37 = .ok (.ifCond .ge 7, 3) := by decide +kernel
theorem dX12_ruled_40 : decode cX12_ruled 40 = .ok (.iconst 0, 1) := by decide +kernel
theorem dX12_ruled_41 : decode cX12_ruled 41 = .ok (.goto 19, 3) := by decide +kernel
theorem dX12_ruled_44 : decode cX12_ruled 44 = .ok (.aload_n 0, 1) := by decide +kernel
theorem dX12_ruled_45 : decode cX12_ruled 45 = .ok (.getfield 7, 3) := by decide +kernel
theorem dX12_ruled_48 : decode cX12_ruled 48 = .ok (.sipush 1020, 3) := by decide +kernel
theorem dX12_ruled_51 : decode cX12_ruled 51 = .ok (.aload_n 0, 1) := by decide +kernel
theorem dX12_ruled_52 : decode cX12_ruled 52 = .ok (.getfield 7, 3) := by decide +kernel
theorem dX12_ruled_55 : decode cX12_ruled 55 = .ok (.bipush 7, 2) := by decide +kernel
theorem dX12_ruled_57 : decode cX12_ruled 57 = .ok (.iaload, 1) := by decide +kernel
theorem dX12_ruled_58 : decode cX12_ruled 58 = .ok (.iadd, 1) := by decide +kernel
theorem dX12_ruled_59 : decode cX12_ruled 59 = .ok (.iaload, 1) := by decide +kernel
theorem dX12_ruled_60 : decode cX12_ruled 60 = .ok (.invokevirtual 225, 3) := by decide +kernel
theorem dX12_ruled_63 : decode cX12_ruled 63 = .ok (.istore_n 3, 1) := by decide +kernel
theorem dX12_ruled_64 : decode cX12_ruled 64 = .ok (.aload_n 0, 1) := by decide +kernel
theorem dX12_ruled_65 : decode cX12_ruled 65 = .ok (.getfield 31, 3) := by decide +kernel
theorem dX12_ruled_68 : decode cX12_ruled 68 = .ok (.iload_n 1, 1) := by decide +kernel
theorem dX12_ruled_69 : decode cX12_ruled 69 = .ok (.baload, 1) := by decide +kernel
theorem dX12_ruled_70 : decode cX12_ruled 70 = .ok (.ifCond .eq 12, 3) := by decide +kernel
theorem dX12_ruled_73 : decode cX12_ruled 73 = .ok (.aload_n 0, 1) := by decide +kernel
theorem dX12_ruled_74 : decode cX12_ruled 74 = .ok (.getfield 35, 3) := by decide +kernel
theorem dX12_ruled_77 : decode cX12_ruled 77 = .ok (.iload_n 1, 1) := by decide +kernel
theorem dX12_ruled_78 : decode cX12_ruled 78 = .ok (.iaload, 1) := by decide +kernel
theorem dX12_ruled_79 : decode cX12_ruled 79 = .ok (.goto 4, 3) := by decide +kernel
theorem dX12_ruled_82 : decode cX12_ruled 82 = .ok (.iload_n 2, 1) := by decide +kernel
theorem dX12_ruled_83 : decode cX12_ruled 83 = .ok (.ireturn, 1) := by decide +kernel
