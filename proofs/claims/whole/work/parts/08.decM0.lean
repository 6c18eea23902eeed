theorem dX12_init_0 : decode cX12_init 0 = .ok (.aload_n 0, 1) := by decide +kernel
theorem dX12_init_1 : decode cX12_init 1 = .ok (.invokespecial 1, 3) := by decide +kernel
theorem dX12_init_4 : decode cX12_init 4 = .ok (.aload_n 0, 1) := by decide +kernel
theorem dX12_init_5 : decode cX12_init 5 = .ok (.bipush 64, 2) := by decide +kernel
theorem dX12_init_7 : decode cX12_init 7 = .ok (.newarray .int, 2) := by decide +kernel
theorem dX12_init_9 : decode cX12_init 9 = .ok (.putfield 7, 3) := by decide +kernel
theorem dX12_init_12 : decode cX12_init 12 = .ok (.aload_n 0, 1) := by decide +kernel
theorem dX12_init_13 : decode cX12_init 13 = .ok (.iconst 1, 1) := by decide +kernel
theorem dX12_init_14 : decode cX12_init 14 = .ok (.putfield 13, 3) := by decide +kernel
theorem dX12_init_17 : decode cX12_init 17 = .ok (.aload_n 0, 1) := by decide +kernel
theorem dX12_init_18 : decode cX12_init 18 = .ok (.bipush 8, 2) := by decide +kernel
theorem dX12_init_20 : decode cX12_init 20 = .ok (.newarray .int, 2) := by decide +kernel
theorem dX12_init_22 : decode cX12_init 22 = .ok (.putfield 17, 3) := by decide +kernel
theorem dX12_init_25 : decode cX12_init 25 = .ok (.aload_n 0, 1) := by decide +kernel
theorem dX12_init_26 : decode cX12_init 26 = .ok (.bipush 8, 2) := by decide +kernel
theorem dX12_init_28 : decode cX12_init 28 = .ok (.newarray .int, 2) := by decide +kernel
theorem dX12_init_30 : decode cX12_init 30 = .ok (.putfield 20, 3) := by decide +kernel
theorem dX12_init_33 : decode cX12_init 33 = .ok (.aload_n 0, 1) := by decide +kernel
theorem dX12_init_34 : decode cX12_init 34 = .ok (.bipush 8, 2) := by decide +kernel
theorem dX12_init_36 : decode cX12_init 36 = .ok (.newarray .int, 2) := by decide +kernel
theorem dX12_init_38 : decode cX12_init 38 = .ok (.putfield 23, 3) := by decide +kernel
theorem dX12_init_41 : decode cX12_init 41 = .ok (.aload_n 0, 1) := by decide +kernel
theorem dX12_init_42 : decode cX12_init 42 = .ok (.iconst 4, 1) := by decide +kernel
theorem dX12_init_43 : decode cX12_init 43 = .ok (.newarray .boolean, 2) := by decide +kernel
theorem dX12_init_45 : decode cX12_init 45 = .ok (.putfield 26, 3) := by decide +kernel
theorem dX12_init_48 : decode cX12_init 48 = .ok (.aload_n 0, 1) := by decide +kernel
theorem dX12_init_49 : decode cX12_init 49 = .ok (.iconst 4, 1) := by decide +kernel
theorem dX12_init_50 : decode cX12_init 50 = .ok (.newarray .int, 2) := by decide +kernel
theorem dX12_init_52 : decode cX12_init 52 = .ok (.putfield 30, 3) := by decide +kernel
theorem dX12_init_55 : decode cX12_init 55 = .ok (.aload_n 0, 1) := by decide +kernel
theorem dX12_init_56 : decode cX12_init 56 = .ok (.iconst 4, 1) := by decide +kernel
theorem dX12_init_57 : decode cX12_init 57 = .ok (.newarray .int, 2) := by decide +kernel
theorem dX12_init_59 : decode cX12_init 59 = .ok (.putfield 33, 3) := by decide +kernel
theorem dX12_init_62 : decode cX12_init 62 = .ok (.aload_n 0, 1) := by decide +kernel
theorem dX12_init_63 : decode cX12_init 63 = .ok (.iconst 4, 1) := by decide +kernel
theorem dX12_init_64 : decode cX12_init 64 = .ok (.newarray .int, 2) := by decide +kernel
theorem dX12_init_66 : decode cX12_init 66 = .ok (.putfield 36, 3) := by decide +kernel
theorem dX12_init_69 : decode cX12_init 69 = .ok (.aload_n 0, 1) := by decide +kernel
theorem dX12_init_70 : decode cX12_init 70 = .ok (.iconst 4, 1) := by decide +kernel
theorem dX12_init_71 : decode cX12_init 71 = .ok (.newarray .int, 2) := by decide +kernel
theorem dX12_init_73 : decode cX12_init 73 = .ok (.putfield 39, 3) := by decide +kernel
theorem dX12_init_76 : decode cX12_init 76 = .ok (.aload_n 0, 1) := by decide +kernel
theorem dX12_init_77 : decode cX12_init 77 = .ok (.bipush 6, 2) := by decide +kernel
theorem dX12_init_79 : decode cX12_init 79 = .ok (.newarray .int, 2) := by decide +kernel
theorem dX12_init_81 : decode cX12_init 81 = .ok (.putfield 42, 3) := by decide +kernel
theorem dX12_init_84 : decode cX12_init 84 = .ok (.aload_n 0, 1) := by decide +kernel
theorem dX12_init_85 : decode cX12_init 85 = .ok (.bipush 8, 2) := by decide +kernel
theorem dX12_init_87 : decode cX12_init 87 = .ok (.newarray .int, 2) := by decide +kernel
theorem dX12_init_89 : decode cX12_init 89 = .ok (.putfield 45, 3) := by decide +kernel
theorem dX12_init_92 : decode cX12_init 92 = .ok (.aload_n 0, 1) := by decide +kernel
theorem dX12_init_93 : decode cX12_init 93 = .ok (.bipush 8, 2) := by decide +kernel
theorem dX12_init_95 : decode cX12_init 95 = .ok (.newarray .int, 2) := by decide +kernel
theorem dX12_init_97 : decode cX12_init 97 = .ok (.putfield 48, 3) := by decide +kernel
theorem dX12_init_100 : decode cX12_init 100 = .ok (.aload_n 0, 1) := by decide +kernel
theorem dX12_init_101 : decode cX12_init 101 = .ok (.bipush 8, 2) := by decide +kernel
theorem dX12_init_103 : decode cX12_init 103 = .ok (.newarray .int, 2) := by decide +kernel
theorem dX12_init_105 : decode cX12_init 105 = .ok (.putfield 51, 3) := by decide +kernel
theorem dX12_init_108 : decode cX12_init 108 = .ok (.aload_n 0, 1) := by decide +kernel
theorem dX12_init_109 : decode cX12_init 109 = .ok (.iconst 4, 1) := by decide +kernel
theorem dX12_init_110 : decode cX12_init 110 = .ok (.newarray .boolean, 2) := by decide +kernel
theorem dX12_init_112 : decode cX12_init 112 = .ok (.putfield 54, 3) := by decide +kernel
theorem dX12_init_115 : decode cX12_init 115 = .ok (.aload_n 0, 1) := by decide +kernel
theorem dX12_init_116 : decode cX12_init 116 = .ok (.iconst 4, 1) := by decide +kernel
theorem dX12_init_117 : decode cX12_init 117 = .ok (.newarray .int, 2) := by decide +kernel
theorem dX12_init_119 : decode cX12_init 119 = .ok (.putfield 57, 3) := by decide +kernel
theorem dX12_init_122 : decode cX12_init 122 = .ok (.aload_n 0, 1) := by decide +kernel
theorem dX12_init_123 : decode cX12_init 123 = .ok (.iconst 4, 1) := by decide +kernel
theorem dX12_init_124 : decode cX12_init 124 = .ok (.newarray .int, 2) := by decide +kernel
theorem dX12_init_126 : decode cX12_init 126 = .ok (.putfield 60, 3) := by decide +kernel
theorem dX12_init_129 : decode cX12_init 129 = .ok (.aload_n 0, 1) := by decide +kernel
theorem dX12_init_130 : decode cX12_init 130 = .ok (.iconst 4, 1) := by decide +kernel
theorem dX12_init_131 : decode cX12_init 131 = .ok (.newarray .boolean, 2) := by decide +kernel
theorem dX12_init_133 : decode cX12_init 133 = .ok (.putfield 63, 3) := by decide +kernel
theorem dX12_init_136 : decode cX12_init 136 = .ok (.aload_n 0, 1) := by decide +kernel
theorem dX12_init_137 : decode cX12_init 137 = .ok (.iconst 4, 1) := by decide +kernel
theorem dX12_init_138 : decode cX12_init 138 = .ok (.newarray .int, 2) := by decide +kernel
theorem dX12_init_140 : decode cX12_init 140 = .ok (.putfield 66, 3) := by decide +kernel
theorem dX12_init_143 : decode cX12_init 143 = .ok (.aload_n 0, 1) := by decide +kernel
theorem dX12_init_144 : decode cX12_init 144 = .ok (.iconst 4, 1) := by decide +kernel
theorem dX12_init_145 : decode cX12_init 145 = .ok (.newarray .int, 2) := by decide +kernel
theorem dX12_init_147 : decode cX12_init 147 = .ok (.putfield 69, 3) := by decide +kernel
theorem dX12_init_150 : decode cX12_init 150 = .ok (.aload_n 0, 1) := by decide +kernel
theorem dX12_init_151 : decode cX12_init 151 = .ok (.bipush 6, 2) := by decide +kernel
theorem dX12_init_153 : decode cX12_init 153 = .ok (.newarray .int, 2) := by decide +kernel
theorem dX12_init_155 : decode cX12_init 155 = .ok (.putfield 72, 3) := by decide +kernel
theorem dX12_init_158 : decode cX12_init 158 = .ok (.aload_n 0, 1) := by decide +kernel
theorem dX12_init_159 : decode cX12_init 159 = .ok (.bipush 40, 2) := by decide +kernel
theorem dX12_init_161 : decode cX12_init 161 = .ok (.newarray .int, 2) := by decide +kernel
theorem dX12_init_163 : decode cX12_init 163 = .ok (.putfield 75, 3) := by decide +kernel
theorem dX12_init_166 : decode cX12_init 166 = .ok (.aload_n 0, 1) := by decide +kernel
theorem dX12_init_167 : decode cX12_init 167 = .ok (.bipush 10, 2) := by decide +kernel
theorem dX12_init_169 : decode cX12_init 169 = .ok (.newarray .int, 2) := by decide +kernel
theorem dX12_init_171 : decode cX12_init 171 = .ok (.putfield 78, 3) := by decide +kernel
theorem dX12_init_174 : decode cX12_init 174 = .ok (.aload_n 0, 1) := by decide +kernel
theorem dX12_init_175 : decode cX12_init 175 = .ok (.bipush 7, 2) := by decide +kernel
theorem dX12_init_177 : decode cX12_init 177 = .ok (.newarray .int, 2) := by decide +kernel
theorem dX12_init_179 : decode cX12_init 179 = .ok (.putfield 81, 3) := by decide +kernel
theorem dX12_init_182 : decode cX12_init 182 = .ok (.aload_n 0, 1) := by decide +kernel
theorem dX12_init_183 : decode cX12_init 183 = .ok (.bipush 14, 2) := by decide +kernel
theorem dX12_init_185 : decode cX12_init 185 = .ok (.newarray .int, 2) := by decide +kernel
theorem dX12_init_187 : decode cX12_init 187 = .ok (.putfield 84, 3) := by decide +kernel
theorem dX12_init_190 : decode cX12_init 190 = .ok (.aload_n 0, 1) := by decide +kernel
theorem dX12_init_191 : decode cX12_init 191 = .ok (.iconst 2, 1) := by decide +kernel
theorem dX12_init_192 : decode cX12_init 192 = .ok (.newarray .boolean, 2) := by decide +kernel
theorem dX12_init_194 : decode cX12_init 194 = .ok (.putfield 87, 3) := by decide +kernel
theorem dX12_init_197 : decode cX12_init 197 = .ok (.aload_n 0, 1) := by decide +kernel
theorem dX12_init_198 : decode cX12_init 198 = .ok (.bipush 10, 2) := by decide +kernel
theorem dX12_init_200 : decode cX12_init 200 = .ok (.newarray .int, 2) := by decide +kernel
theorem dX12_init_202 : decode cX12_init 202 = .ok (.putfield 90, 3) := by decide +kernel
theorem dX12_init_205 : decode cX12_init 205 = .ok (.aload_n 0, 1) := by decide +kernel
theorem dX12_init_206 : decode cX12_init 206 = .ok (.bipush 16, 2) := by decide +kernel
theorem dX12_init_208 : decode cX12_init 208 = .ok (.newarray .int, 2) := by decide +kernel
theorem dX12_init_210 : decode cX12_init 210 = .ok (.putfield 93, 3) := by decide +kernel
theorem dX12_init_213 : decode cX12_init 213 = .ok (.aload_n 0, 1) := by decide +kernel
theorem dX12_init_214 : decode cX12_init 214 = .ok (.bipush 20, 2) := by decide +kernel
theorem dX12_init_216 : decode cX12_init 216 = .ok (.newarray .int, 2) := by decide +kernel
theorem dX12_init_218 : decode cX12_init 218 = .ok (.putfield 96, 3) := by decide +kernel
theorem dX12_init_221 : decode cX12_init 221 = .ok (.aload_n 0, 1) := by decide +kernel
theorem dX12_init_222 : decode cX12_init 222 = .ok (.bipush 20, 2) := by decide +kernel
theorem dX12_init_224 : decode cX12_init 224 = .ok (.newarray .int, 2) := by decide +kernel
theorem dX12_init_226 : decode cX12_init 226 = .ok (.putfield 99, 3) := by decide +kernel
theorem dX12_init_229 : decode cX12_init 229 = .ok (.aload_n 0, 1) := by decide +kernel
theorem dX12_init_230 : decode cX12_init 230 = .ok (.bipush 20, 2) := by decide +kernel
theorem dX12_init_232 : decode cX12_init 232 = .ok (.newarray .int, 2) := by decide +kernel
theorem dX12_init_234 : decode cX12_init 234 = .ok (.putfield 102, 3) := by decide +kernel
theorem dX12_init_237 : decode cX12_init 237 = .ok (.aload_n 0, 1) := by decide +kernel
theorem dX12_init_238 : decode cX12_init 238 = .ok (.sipush 352, 3) := by decide +kernel
theorem dX12_init_241 : decode cX12_init 241 = .ok (.newarray .int, 2) := by decide +kernel
theorem dX12_init_243 : decode cX12_init 243 = .ok (.putfield 105, 3) := by decide +kernel
theorem dX12_init_246 : decode cX12_init 246 = .ok (.aload_n 0, 1) := by decide +kernel
theorem dX12_init_247 : decode cX12_init 247 = .ok (.bipush 10, 2) := by decide +kernel
theorem dX12_init_249 : decode cX12_init 249 = .ok (.newarray .int, 2) := by decide +kernel
theorem dX12_init_251 : decode cX12_init 251 = .ok (.putfield 108, 3) := by decide +kernel
theorem dX12_init_254 : decode cX12_init 254 = .ok (.aload_n 0, 1) := by decide +kernel
theorem dX12_init_255 : decode cX12_init 255 = .ok (.bipush 32, 2) := by decide +kernel
theorem dX12_init_257 : decode cX12_init 257 = .ok (.newarray .long, 2) := by decide +kernel
theorem dX12_init_259 : decode cX12_init 259 = .ok (.putfield 111, 3) := by decide +kernel
theorem dX12_init_262 : decode cX12_init 262 = .ok (.iconst 0, 1) := by decide +kernel
theorem dX12_init_263 : decode cX12_init 263 = .ok (.istore_n 1, 1) := by decide +kernel
theorem dX12_init_264 : decode cX12_init 264 = .ok (.iload_n 1, 1) := by decide +kernel
theorem dX12_init_265 : decode cX12_init 265 = .ok (.bipush 40, 2) := by decide +kernel
theorem dX12_init_267 : decode cX12_init 267 = .ok (.if_icmp .ge 16, 3) := by decide +kernel
theorem dX12_init_270 : decode cX12_init 270 = .ok (.aload_n 0, 1) := by decide +kernel
theorem dX12_init_271 : decode cX12_init 271 = .ok (.getfield 75, 3) := by decide +kernel
theorem dX12_init_274 : decode cX12_init 274 = .ok (.iload_n 1, 1) := by decide +kernel
theorem dX12_init_275 : decode cX12_init 275 = .ok (.iconst 4, 1) := by decide +kernel
theorem dX12_init_276 : decode cX12_init 276 = .ok (.iastore, 1) := by decide +kernel
theorem dX12_init_277 : decode cX12_init 277 = .ok (.iinc 1 1, 3) := by decide +kernel
theorem dX12_init_280 : decode cX12_init 280 = .ok (.goto (-16), 3) := by decide +kernel
theorem dX12_init_283 : decode cX12_init 283 = .ok (.aload_n 0, 1) := by decide +kernel
theorem dX12_init_284 : decode cX12_init 284 = .ok (.invokevirtual 115, 3) := by decide +kernel
theorem dX12_init_287 : decode cX12_init 287 = .ok (.return_, 1) := by decide +kernel
theorem dX12_in_0 : decode cX12_in 0 = .ok (.lload_n 0, 1) := by decide +kernel
theorem dX12_in_1 : decode cX12_in 1 = .ok (.lload_n 2, 1) := by decide +kernel
theorem dX12_in_2 : decode cX12_in 2 = .ok (.lcmp, 1) := by decide +kernel
theorem dX12_in_3 : decode cX12_in 3 = .ok (.ifCond .lt 14, 3) := by decide +kernel
theorem dX12_in_6 : decode cX12_in 6 = .ok (.lload_n 0, 1) := by decide +kernel
theorem dX12_in_7 : decode cX12_in 7 = .ok (.lload 4, 2) := by decide +kernel
theorem dX12_in_9 : decode cX12_in 9 = .ok (.lcmp, 1) := by decide +kernel
theorem dX12_in_10 : decode cX12_in 10 = .ok (.ifCond .gt 7, 3) := by decide +kernel
theorem dX12_in_13 : decode cX12_in 13 = .ok (.iconst 1, 1) := by decide +kernel
theorem dX12_in_14 : decode cX12_in 14 = .ok (.goto 4, 3) := by decide +kernel
theorem dX12_in_17 : decode cX12_in 17 = .ok (.iconst 0, 1) := by decide +kernel
theorem dX12_in_18 : decode cX12_in 18 = .ok (.ireturn, 1) := by decide +kernel
theorem dX12_begin_0 : decode cX12_begin 0 = .ok (.iconst 0, 1) := by decide +kernel
theorem dX12_begin_1 : decode cX12_begin 1 = .ok (.istore_n 1, 1) := by decide +kernel
theorem dX12_begin_2 : decode cX12_begin 2 = .ok (.iload_n 1, 1) := by decide +kernel
theorem dX12_begin_3 : decode cX12_begin 3 = .ok (.bipush 7, 2) := by decide +kernel
theorem dX12_begin_5 : decode cX12_begin 5 = .ok (.if_icmp .ge 26, 3) := by decide +kernel
theorem dX12_begin_8 : decode cX12_begin 8 = .ok (.aload_n 0, 1) := by decide +kernel
theorem dX12_begin_9 : decode cX12_begin 9 = .ok (.getfield 81, 3) := by decide +kernel
theorem dX12_begin_12 : decode cX12_begin 12 = .ok (.iload_n 1, 1) := by decide +kernel
theorem dX12_begin_13 : decode cX12_begin 13 = .ok (.iload_n 1, 1) := by decide +kernel
theorem dX12_begin_14 : decode cX12_begin 14 = .ok (.iconst 1, 1) := by decide +kernel
theorem dX12_begin_15 : decode cX12_begin 15 = .ok (.if_icmp .ne 8, 3) := by decide +kernel
theorem dX12_begin_18 : decode cX12_begin 18 = .ok (.bipush 10, 2) := by decide +kernel
theorem dX12_begin_20 : decode cX12_begin 20 = .ok (.goto 4, 3) := by decide +kernel
theorem dX12_begin_23 : decode cX12_begin 23 = .ok (.iconst 0, 1) := by decide +kernel
theorem dX12_begin_24 : decode cX12_begin 24 = .ok (.iastore, 1) := by decide +kernel
theorem dX12_begin_25 : decode cX12_begin 25 = .ok (.iinc 1 1, 3) := by decide +kernel
theorem dX12_begin_28 : decode cX12_begin 28 = .ok (.goto (-26), 3) := by decide +kernel
theorem dX12_begin_31 : decode cX12_begin 31 = .ok (.iconst 0, 1) := by decide +kernel
theorem dX12_begin_32 : decode cX12_begin 32 = .ok (.istore_n 1, 1) := by decide +kernel
theorem dX12_begin_33 : decode cX12_begin 33 = .ok (.iload_n 1, 1) := by decide +kernel
theorem dX12_begin_34 : decode cX12_begin 34 = .ok (.bipush 10, 2) := by decide +kernel
theorem dX12_begin_36 : decode cX12_begin 36 = .ok (.if_icmp .ge 17, 3) := by decide +kernel
theorem dX12_begin_39 : decode cX12_begin 39 = .ok (.aload_n 0, 1) := by decide +kernel
theorem dX12_begin_40 : decode cX12_begin 40 = .ok (.getfield 90, 3) := by decide +kernel
theorem dX12_begin_43 : decode cX12_begin 43 = .ok (.iload_n 1, 1) := by decide +kernel
theorem dX12_begin_44 : decode cX12_begin 44 = .ok (.bipush 99, 2) := by decide +kernel
theorem dX12_begin_46 : decode cX12_begin 46 = .ok (.iastore, 1) := by decide +kernel
theorem dX12_begin_47 : decode cX12_begin 47 = .ok (.iinc 1 1, 3) := by decide +kernel
theorem dX12_begin_50 : decode cX12_begin 50 = .ok (.goto (-17), 3) := by decide +kernel
theorem dX12_begin_53 : decode cX12_begin 53 = .ok (.aload_n 0, 1) := by decide +kernel
theorem dX12_begin_54 : decode cX12_begin 54 = .ok (.getfield 87, 3) := by decide +kernel
theorem dX12_begin_57 : decode cX12_begin 57 = .ok (.iconst 0, 1) := by decide +kernel
theorem dX12_begin_58 : decode cX12_begin 58 = .ok (.iconst 0, 1) := by decide +kernel
theorem dX12_begin_59 : decode cX12_begin 59 = .ok (.bastore, 1) := by decide +kernel
theorem dX12_begin_60 : decode cX12_begin 60 = .ok (.aload_n 0, 1) := by decide +kernel
theorem dX12_begin_61 : decode cX12_begin 61 = .ok (.getfield 87, 3) := by decide +kernel
theorem dX12_begin_64 : decode cX12_begin 64 = .ok (.iconst 1, 1) := by decide +kernel
theorem dX12_begin_65 : decode cX12_begin 65 = .ok (.iconst 0, 1) := by decide +kernel
theorem dX12_begin_66 : decode cX12_begin 66 = .ok (.bastore, 1) := by decide +kernel
theorem dX12_begin_67 : decode cX12_begin 67 = .ok (.aload_n 0, 1) := by decide +kernel
theorem dX12_begin_68 : decode cX12_begin 68 = .ok (.iconst 0, 1) := by decide +kernel
theorem dX12_begin_69 : decode cX12_begin 69 = .ok (.putfield 121, 3) := by decide +kernel
theorem dX12_begin_72 : decode cX12_begin 72 = .ok (.return_, 1) := by decide +kernel
theorem dX12_noRule_0 : decode cX12_noRule 0 = .ok (.iload_n 0, 1) := by decide +kernel
theorem dX12_noRule_1 : decode cX12_noRule 1 = .ok (.i2l, 1) := by decide +kernel
theorem dX12_noRule_2 : decode cX12_noRule 2 = .ok (.lconst 0, 1) := by decide +kernel
theorem dX12_noRule_3 : decode cX12_noRule 3 = .ok (.ldc2_w 124, 3) := by decide +kernel
theorem dX12_noRule_6 : decode cX12_noRule 6 = .ok (.invokestatic 126, 3) := by decide +kernel
theorem dX12_noRule_9 : decode cX12_noRule 9 = .ok (.ifCond .ne 7, 3) := by decide +kernel
theorem dX12_noRule_12 : decode cX12_noRule 12 = .ok (.iconst 1, 1) := by decide +kernel
theorem dX12_noRule_13 : decode cX12_noRule 13 = .ok (.goto 4, 3) := by decide +kernel
theorem dX12_noRule_16 : decode cX12_noRule 16 = .ok (.iconst 0, 1) := by decide +kernel
theorem dX12_noRule_17 : decode cX12_noRule 17 = .ok (.ireturn, 1) := by decide +kernel
theorem dX12_noHour_0 : decode cX12_noHour 0 = .ok (.iload_n 0, 1) := by decide +kernel
theorem dX12_noHour_1 : decode cX12_noHour 1 = .ok (.i2l, 1) := by decide +kernel
theorem dX12_noHour_2 : decode cX12_noHour 2 = .ok (.lconst 0, 1) := by decide +kernel
theorem dX12_noHour_3 : decode cX12_noHour 3 = .ok (.ldc2_w 130, 3) := by decide +kernel
theorem dX12_noHour_6 : decode cX12_noHour 6 = .ok (.invokestatic 126, 3) := by decide +kernel
theorem dX12_noHour_9 : decode cX12_noHour 9 = .ok (.ifCond .ne 7, 3) := by decide +kernel
theorem dX12_noHour_12 : decode cX12_noHour 12 = .ok (.iconst 1, 1) := by decide +kernel
theorem dX12_noHour_13 : decode cX12_noHour 13 = .ok (.goto 4, 3) := by decide +kernel
theorem dX12_noHour_16 : decode cX12_noHour 16 = .ok (.iconst 0, 1) := by decide +kernel
theorem dX12_noHour_17 : decode cX12_noHour 17 = .ok (.ireturn, 1) := by decide +kernel
theorem dX12_noBegin_0 : decode cX12_noBegin 0 = .ok (.iload_n 1, 1) := by decide +kernel
theorem dX12_noBegin_1 : decode cX12_noBegin 1 = .ok (.i2l, 1) := by decide +kernel
theorem dX12_noBegin_2 : decode cX12_noBegin 2 = .ok (.lconst 0, 1) := by decide +kernel
theorem dX12_noBegin_3 : decode cX12_noBegin 3 = .ok (.ldc2_w 132, 3) := by decide +kernel
theorem dX12_noBegin_6 : decode cX12_noBegin 6 = .ok (.invokestatic 126, 3) := by decide +kernel
theorem dX12_noBegin_9 : decode cX12_noBegin 9 = .ok (.ifCond .eq 12, 3) := by decide +kernel
theorem dX12_noBegin_12 : decode cX12_noBegin 12 = .ok (.aload_n 0, 1) := by decide +kernel
theorem dX12_noBegin_13 : decode cX12_noBegin 13 = .ok (.getfield 26, 3) := by decide +kernel
theorem dX12_noBegin_16 : decode cX12_noBegin 16 = .ok (.iload_n 1, 1) := by decide +kernel
theorem dX12_noBegin_17 : decode cX12_noBegin 17 = .ok (.baload, 1) := by decide +kernel
theorem dX12_noBegin_18 : decode cX12_noBegin 18 = .ok (.ifCond .ne 26, 3) := by decide +kernel
theorem dX12_noBegin_21 : decode cX12_noBegin 21 = .ok (.iload_n 1, 1) := by decide +kernel
theorem dX12_noBegin_22 : decode cX12_noBegin 22 = .ok (.i2l, 1) := by decide +kernel
theorem dX12_noBegin_23 : decode cX12_noBegin 23 = .ok (.ldc2_w 134, 3) := by decide +kernel
theorem dX12_noBegin_26 : decode cX12_noBegin 26 = .ok (.bipush 9, 2) := by decide +kernel
theorem dX12_noBegin_28 : decode cX12_noBegin 28 = .ok (.aload_n 0, 1) := by decide +kernel
theorem dX12_noBegin_29 : decode cX12_noBegin 29 = .ok (.getfield 13, 3) := by decide +kernel
theorem dX12_noBegin_32 : decode cX12_noBegin 32 = .ok (.iadd, 1) := by decide +kernel
theorem dX12_noBegin_33 : decode cX12_noBegin 33 = .ok (.i2l, 1) := by decide +kernel
theorem dX12_noBegin_34 : decode cX12_noBegin 34 = .ok (.invokestatic 126, 3) := by decide +kernel
theorem dX12_noBegin_37 : decode cX12_noBegin 37 = .ok (.ifCond .ne 7, 3) := by decide +kernel
theorem dX12_noBegin_40 : decode cX12_noBegin 40 = .ok (.iconst 1, 1) := by decide +kernel
theorem dX12_noBegin_41 : decode cX12_noBegin 41 = .ok (.goto 4, 3) := by decide +kernel
theorem dX12_noBegin_44 : decode cX12_noBegin 44 = .ok (.iconst 0, 1) := by decide +kernel
theorem dX12_noBegin_45 : decode cX12_noBegin 45 = .ok (.ireturn, 1) := by decide +kernel
theorem dX12_noSession_0 : decode cX12_noSession 0 = .ok (.iload_n 1, 1) := by decide +kernel
theorem dX12_noSession_1 : decode cX12_noSession 1 = .ok (.i2l, 1) := by decide +kernel
theorem dX12_noSession_2 : decode cX12_noSession 2 = .ok (.lconst 0, 1) := by decide +kernel
theorem dX12_noSession_3 : decode cX12_noSession 3 = .ok (.aload_n 0, 1) := by decide +kernel
theorem dX12_noSession_4 : decode cX12_noSession 4 = .ok (.getfield 136, 3) := by decide +kernel
theorem dX12_noSession_7 : decode cX12_noSession 7 = .ok (.iconst 1, 1) := by decide +kernel
theorem dX12_noSession_8 : decode cX12_noSession 8 = .ok (.isub, 1) := by decide +kernel
theorem dX12_noSession_9 : decode cX12_noSession 9 = .ok (.i2l, 1) := by decide +kernel
theorem dX12_noSession_10 : decode cX12_noSession 10 = .ok (.invokestatic 126, 3) := by decide +kernel
theorem dX12_noSession_13 : decode cX12_noSession 13 = .ok (.ifCond .ne 7, 3) := by decide +kernel
theorem dX12_noSession_16 : decode cX12_noSession 16 = .ok (.iconst 1, 1) := by decide +kernel
theorem dX12_noSession_17 : decode cX12_noSession 17 = .ok (.goto 4, 3) := by decide +kernel
theorem dX12_noSession_20 : decode cX12_noSession 20 = .ok (.iconst 0, 1) := by decide +kernel
theorem dX12_noSession_21 : decode cX12_noSession 21 = .ok (.ireturn, 1) := by decide +kernel
theorem dX12_write_0 : decode cX12_write 0 = .ok (.aload_n 0, 1) := by decide +kernel
theorem dX12_write_1 : decode cX12_write 1 = .ok (.iconst 0, 1) := by decide +kernel
theorem dX12_write_2 : decode cX12_write 2 = .ok (.putfield 118, 3) := by decide +kernel
theorem dX12_write_5 : decode cX12_write 5 = .ok (.iload_n 1, 1) := by decide +kernel
theorem dX12_write_6 : decode cX12_write 6 = .ok (.i2l, 1) := by decide +kernel
theorem dX12_write_7 : decode cX12_write 7 = .ok (.lconst 1, 1) := by decide +kernel
theorem dX12_write_8 : decode cX12_write 8 = .ok (.ldc2_w 139, 3) := by decide +kernel
theorem dX12_write_11 : decode cX12_write 11 = .ok (.invokestatic 126, 3) := by decide +kernel
theorem dX12_write_14 : decode cX12_write 14 = .ok (.ifCond .ne 6, 3) := by decide +kernel
theorem dX12_write_17 : decode cX12_write 17 = .ok (.bipush (-2), 2) := by decide +kernel
theorem dX12_write_19 : decode cX12_write 19 = .ok (.ireturn, 1) := by decide +kernel
theorem dX12_write_20 : decode cX12_write 20 = .ok (.aload_n 0, 1) := by decide +kernel
theorem dX12_write_21 : decode cX12_write 21 = .ok (.getfield 141, 3) := by decide +kernel
theorem dX12_write_24 : decode cX12_write 24 = .ok (.iload_n 1, 1) := by decide +kernel
theorem dX12_write_25 : decode cX12_write 25 = .ok (.iadd, 1) := by decide +kernel
theorem dX12_write_26 : decode cX12_write 26 = .ok (.bipush 64, 2) := by decide +kernel
theorem dX12_write_28 : decode cX12_write 28 = .ok (.if_icmp .le 6, 3) := by decide +kernel
theorem dX12_write_31 : decode cX12_write 31 = .ok (.bipush (-4), 2) := by decide +kernel
theorem dX12_write_33 : decode cX12_write 33 = .ok (.ireturn, 1) := by decide +kernel
theorem dX12_write_34 : decode cX12_write 34 = .ok (.iload_n 1, 1) := by decide +kernel
theorem dX12_write_35 : decode cX12_write 35 = .ok (.iconst 1, 1) := by decide +kernel
theorem dX12_write_36 : decode cX12_write 36 = .ok (.isub, 1) := by decide +kernel
theorem dX12_write_37 : decode cX12_write 37 = .ok (.istore 4, 2) := by decide +kernel
theorem dX12_write_39 : decode cX12_write 39 = .ok (.iload 4, 2) := by decide +kernel
theorem dX12_write_41 : decode cX12_write 41 = .ok (.ifCond .lt 40, 3) := by decide +kernel
theorem dX12_write_44 : decode cX12_write 44 = .ok (.aload_n 0, 1) := by decide +kernel
theorem dX12_write_45 : decode cX12_write 45 = .ok (.getfield 7, 3) := by decide +kernel
theorem dX12_write_48 : decode cX12_write 48 = .ok (.aload_n 0, 1) := by decide +kernel
theorem dX12_write_49 : decode cX12_write 49 = .ok (.getfield 141, 3) := by decide +kernel
theorem dX12_write_52 : decode cX12_write 52 = .ok (.lload_n 2, 1) := by decide +kernel
theorem dX12_write_53 : decode cX12_write 53 = .ok (.bipush 8, 2) := by decide +kernel
theorem dX12_write_55 : decode cX12_write 55 = .ok (.iload 4, 2) := by decide +kernel
theorem dX12_write_57 : decode cX12_write 57 = .ok (.imul, 1) := by decide +kernel
theorem dX12_write_58 : decode cX12_write 58 = .ok (.lshr, 1) := by decide +kernel
theorem dX12_write_59 : decode cX12_write 59 = .ok (.l2i, 1) := by decide +kernel
theorem dX12_write_60 : decode cX12_write 60 = .ok (.sipush 255, 3) := by decide +kernel
theorem dX12_write_63 : decode cX12_write 63 = .ok (.iand, 1) := by decide +kernel
theorem dX12_write_64 : decode cX12_write 64 = .ok (.iastore, 1) := by decide +kernel
theorem dX12_write_65 : decode cX12_write 65 = .ok (.aload_n 0, 1) := by decide +kernel
theorem dX12_write_66 : decode cX12_write 66 = .ok (.dup, 1) := by decide +kernel
theorem dX12_write_67 : decode cX12_write 67 = .ok (.getfield 141, 3) := by decide +kernel
theorem dX12_write_70 : decode cX12_write 70 = .ok (.iconst 1, 1) := by decide +kernel
theorem dX12_write_71 : decode cX12_write 71 = .ok (.iadd, 1) := by decide +kernel
theorem dX12_write_72 : decode cX12_write 72 = .ok (.putfield 141, 3) := by decide +kernel
theorem dX12_write_75 : decode cX12_write 75 = .ok (.iinc 4 (-1), 3) := by decide +kernel
theorem dX12_write_78 : decode cX12_write 78 = .ok (.goto (-39), 3) := by decide +kernel
theorem dX12_write_81 : decode cX12_write 81 = .ok (.aload_n 0, 1) := by decide +kernel
theorem dX12_write_82 : decode cX12_write 82 = .ok (.getfield 141, 3) := by decide +kernel
theorem dX12_write_85 : decode cX12_write 85 = .ok (.ireturn, 1) := by decide +kernel
theorem dX12_wipe_0 : decode cX12_wipe 0 = .ok (.aload_n 0, 1) := by decide +kernel
theorem dX12_wipe_1 : decode cX12_wipe 1 = .ok (.iconst 0, 1) := by decide +kernel
theorem dX12_wipe_2 : decode cX12_wipe 2 = .ok (.putfield 118, 3) := by decide +kernel
theorem dX12_wipe_5 : decode cX12_wipe 5 = .ok (.aload_n 0, 1) := by decide +kernel
theorem dX12_wipe_6 : decode cX12_wipe 6 = .ok (.getfield 141, 3) := by decide +kernel
theorem dX12_wipe_9 : decode cX12_wipe 9 = .ok (.istore_n 1, 1) := by decide +kernel
theorem dX12_wipe_10 : decode cX12_wipe 10 = .ok (.aload_n 0, 1) := by decide +kernel
theorem dX12_wipe_11 : decode cX12_wipe 11 = .ok (.iconst 0, 1) := by decide +kernel
theorem dX12_wipe_12 : decode cX12_wipe 12 = .ok (.putfield 141, 3) := by decide +kernel
theorem dX12_wipe_15 : decode cX12_wipe 15 = .ok (.iload_n 1, 1) := by decide +kernel
theorem dX12_wipe_16 : decode cX12_wipe 16 = .ok (.ireturn, 1) := by decide +kernel
theorem dX12_sign_0 : decode cX12_sign 0 = .ok (.aload_n 0, 1) := by decide +kernel
theorem dX12_sign_1 : decode cX12_sign 1 = .ok (.getfield 144, 3) := by decide +kernel
theorem dX12_sign_4 : decode cX12_sign 4 = .ok (.aload_n 0, 1) := by decide +kernel
theorem dX12_sign_5 : decode cX12_sign 5 = .ok (.getfield 141, 3) := by decide +kernel
theorem dX12_sign_8 : decode cX12_sign 8 = .ok (.if_icmp .ge 20, 3) := by decide +kernel
theorem dX12_sign_11 : decode cX12_sign 11 = .ok (.aload_n 0, 1) := by decide +kernel
theorem dX12_sign_12 : decode cX12_sign 12 = .ok (.getfield 7, 3) := by decide +kernel
theorem dX12_sign_15 : decode cX12_sign 15 = .ok (.aload_n 0, 1) := by decide +kernel
theorem dX12_sign_16 : decode cX12_sign 16 = .ok (.getfield 144, 3) := by decide +kernel
theorem dX12_sign_19 : decode cX12_sign 19 = .ok (.iaload, 1) := by decide +kernel
theorem dX12_sign_20 : decode cX12_sign 20 = .ok (.iload_n 1, 1) := by decide +kernel
theorem dX12_sign_21 : decode cX12_sign 21 = .ok (.if_icmp .ne 7, 3) := by decide +kernel
theorem dX12_sign_24 : decode cX12_sign 24 = .ok (.iconst 1, 1) := by decide +kernel
theorem dX12_sign_25 : decode cX12_sign 25 = .ok (.goto 4, 3) := by decide +kernel
theorem dX12_sign_28 : decode cX12_sign 28 = .ok (.iconst 0, 1) := by decide +kernel
theorem dX12_sign_29 : decode cX12_sign 29 = .ok (.istore_n 2, 1) := by decide +kernel
theorem dX12_sign_30 : decode cX12_sign 30 = .ok (.aload_n 0, 1) := by decide +kernel
theorem dX12_sign_31 : decode cX12_sign 31 = .ok (.dup, 1) := by decide +kernel
theorem dX12_sign_32 : decode cX12_sign 32 = .ok (.getfield 144, 3) := by decide +kernel
theorem dX12_sign_35 : decode cX12_sign 35 = .ok (.iload_n 2, 1) := by decide +kernel
theorem dX12_sign_36 : decode cX12_sign 36 = .ok (.ifCond .eq 7, 3) := by decide +kernel
theorem dX12_sign_39 : decode cX12_sign 39 = .ok (.iconst 1, 1) := by decide +kernel
theorem dX12_sign_40 : decode cX12_sign 40 = .ok (.goto 4, 3) := by decide +kernel
theorem dX12_sign_43 : decode cX12_sign 43 = .ok (.iconst 0, 1) := by decide +kernel
theorem dX12_sign_44 : decode cX12_sign 44 = .ok (.iadd, 1) := by decide +kernel
theorem dX12_sign_45 : decode cX12_sign 45 = .ok (.putfield 144, 3) := by decide +kernel
theorem dX12_sign_48 : decode cX12_sign 48 = .ok (.iload_n 2, 1) := by decide +kernel
theorem dX12_sign_49 : decode cX12_sign 49 = .ok (.ireturn, 1) := by decide +kernel
theorem dX12_figure_0 : decode cX12_figure 0 = .ok (.aload_n 0, 1) := by decide +kernel
theorem dX12_figure_1 : decode cX12_figure 1 = .ok (.getfield 144, 3) := by decide +kernel
theorem dX12_figure_4 : decode cX12_figure 4 = .ok (.aload_n 0, 1) := by decide +kernel
theorem dX12_figure_5 : decode cX12_figure 5 = .ok (.getfield 141, 3) := by decide +kernel
theorem dX12_figure_8 : decode cX12_figure 8 = .ok (.if_icmp .eq 26, 3) := by decide +kernel
theorem dX12_figure_11 : decode cX12_figure 11 = .ok (.aload_n 0, 1) := by decide +kernel
theorem dX12_figure_12 : decode cX12_figure 12 = .ok (.getfield 7, 3) := by decide +kernel
theorem dX12_figure_15 : decode cX12_figure 15 = .ok (.aload_n 0, 1) := by decide +kernel
theorem dX12_figure_16 : decode cX12_figure 16 = .ok (.getfield 144, 3) := by decide +kernel
theorem dX12_figure_19 : decode cX12_figure 19 = .ok (.iaload, 1) := by decide +kernel
theorem dX12_figure_20 : decode cX12_figure 20 = .ok (.bipush 48, 2) := by decide +kernel
theorem dX12_figure_22 : decode cX12_figure 22 = .ok (.isub, 1) := by decide +kernel
theorem dX12_figure_23 : decode cX12_figure 23 = .ok (.i2l, 1) := by decide +kernel
theorem dX12_figure_24 : decode cX12_figure 24 = .ok (.iload_n 1, 1) := by decide +kernel
theorem dX12_figure_25 : decode cX12_figure 25 = .ok (.i2l, 1) := by decide +kernel
theorem dX12_figure_26 : decode cX12_figure 26 = .ok (.iload_n 2, 1) := by decide +kernel
theorem dX12_figure_27 : decode cX12_figure 27 = .ok (.i2l, 1) := by decide +kernel
theorem dX12_figure_28 : decode cX12_figure 28 = .ok (.invokestatic 126, 3) := by decide +kernel
theorem dX12_figure_31 : decode cX12_figure 31 = .ok (.ifCond .ne 6, 3) := by decide +kernel
theorem dX12_figure_34 : decode cX12_figure 34 = .ok (.bipush (-9), 2) := by decide +kernel
theorem dX12_figure_36 : decode cX12_figure 36 = .ok (.ireturn, 1) := by decide +kernel
theorem dX12_figure_37 : decode cX12_figure 37 = .ok (.aload_n 0, 1) := by decide +kernel
theorem dX12_figure_38 : decode cX12_figure 38 = .ok (.dup, 1) := by decide +kernel
theorem dX12_figure_39 : decode cX12_figure 39 = .ok (.getfield 144, 3) := by decide +kernel
theorem dX12_figure_42 : decode cX12_figure 42 = .ok (.iconst 1, 1) := by decide +kernel
theorem dX12_figure_43 : decode cX12_figure 43 = .ok (.iadd, 1) := by decide +kernel
theorem dX12_figure_44 : decode cX12_figure 44 = .ok (.putfield 144, 3) := by decide +kernel
theorem dX12_figure_47 : decode cX12_figure 47 = .ok (.aload_n 0, 1) := by decide +kernel
theorem dX12_figure_48 : decode cX12_figure 48 = .ok (.getfield 7, 3) := by decide +kernel
theorem dX12_figure_51 : decode cX12_figure 51 = .ok (.aload_n 0, 1) := by decide +kernel
theorem dX12_figure_52 : decode cX12_figure 52 = .ok (.getfield 144, 3) := by decide +kernel
theorem dX12_figure_55 : decode cX12_figure 55 = .ok (.iconst 1, 1) := by decide +kernel
theorem dX12_figure_56 : decode cX12_figure 56 = .ok (.isub, 1) := by decide +kernel
theorem dX12_figure_57 : decode cX12_figure 57 = .ok (.iaload, 1) := by decide +kernel
theorem dX12_figure_58 : decode cX12_figure 58 = .ok (.bipush 48, 2) := by decide +kernel
theorem dX12_figure_60 : decode cX12_figure 60 = .ok (.isub, 1) := by decide +kernel
theorem dX12_figure_61 : decode cX12_figure 61 = .ok (.ireturn, 1) := by decide +kernel
theorem dX12_oneOf_0 : decode cX12_oneOf 0 = .ok (.aload_n 0, 1) := by decide +kernel
theorem dX12_oneOf_1 : decode cX12_oneOf 1 = .ok (.getfield 144, 3) := by decide +kernel
theorem dX12_oneOf_4 : decode cX12_oneOf 4 = .ok (.aload_n 0, 1) := by decide +kernel
theorem dX12_oneOf_5 : decode cX12_oneOf 5 = .ok (.getfield 141, 3) := by decide +kernel
theorem dX12_oneOf_8 : decode cX12_oneOf 8 = .ok (.if_icmp .ge 18, 3) := by decide +kernel
theorem dX12_oneOf_11 : decode cX12_oneOf 11 = .ok (.aload_n 0, 1) := by decide +kernel
theorem dX12_oneOf_12 : decode cX12_oneOf 12 = .ok (.getfield 7, 3) := by decide +kernel
theorem dX12_oneOf_15 : decode cX12_oneOf 15 = .ok (.aload_n 0, 1) := by decide +kernel
theorem dX12_oneOf_16 : decode cX12_oneOf 16 = .ok (.getfield 144, 3) := by decide +kernel
theorem dX12_oneOf_19 : decode cX12_oneOf 19 = .ok (.iaload, 1) := by decide +kernel
theorem dX12_oneOf_20 : decode cX12_oneOf 20 = .ok (.bipush 48, 2) := by decide +kernel
theorem dX12_oneOf_22 : decode cX12_oneOf 22 = .ok (.isub, 1) := by decide +kernel
theorem dX12_oneOf_23 : decode cX12_oneOf 23 = .ok (.goto 5, 3) := by decide +kernel
theorem dX12_oneOf_26 : decode cX12_oneOf 26 = .ok (.bipush (-9), 2) := by decide +kernel
theorem dX12_oneOf_28 : decode cX12_oneOf 28 = .ok (.istore_n 2, 1) := by decide +kernel
theorem dX12_oneOf_29 : decode cX12_oneOf 29 = .ok (.iload_n 2, 1) := by decide +kernel
theorem dX12_oneOf_30 : decode cX12_oneOf 30 = .ok (.i2l, 1) := by decide +kernel
theorem dX12_oneOf_31 : decode cX12_oneOf 31 = .ok (.lconst 0, 1) := by decide +kernel
theorem dX12_oneOf_32 : decode cX12_oneOf 32 = .ok (.ldc2_w 130, 3) := by decide +kernel
theorem dX12_oneOf_35 : decode cX12_oneOf 35 = .ok (.invokestatic 126, 3) := by decide +kernel
theorem dX12_oneOf_38 : decode cX12_oneOf 38 = .ok (.ifCond .eq 11, 3) := by decide +kernel
theorem dX12_oneOf_41 : decode cX12_oneOf 41 = .ok (.iload_n 1, 1) := by decide +kernel
theorem dX12_oneOf_42 : decode cX12_oneOf 42 = .ok (.iload_n 2, 1) := by decide +kernel
theorem dX12_oneOf_43 : decode cX12_oneOf 43 = .ok (.ishr, 1) := by decide +kernel
theorem dX12_oneOf_44 : decode cX12_oneOf 44 = .ok (.iconst 1, 1) := by decide +kernel
theorem dX12_oneOf_45 : decode cX12_oneOf 45 = .ok (.iand, 1) := by decide +kernel
theorem dX12_oneOf_46 : decode cX12_oneOf 46 = .ok (.ifCond .ne 6, 3) := by decide +kernel
theorem dX12_oneOf_49 : decode cX12_oneOf 49 = .ok (.bipush (-9), 2) := by decide +kernel
theorem dX12_oneOf_51 : decode cX12_oneOf 51 = .ok (.ireturn, 1) := by decide +kernel
theorem dX12_oneOf_52 : decode cX12_oneOf 52 = .ok (.aload_n 0, 1) := by decide +kernel
theorem dX12_oneOf_53 : decode cX12_oneOf 53 = .ok (.dup, 1) := by decide +kernel
theorem dX12_oneOf_54 : decode cX12_oneOf 54 = .ok (.getfield 144, 3) := by decide +kernel
theorem dX12_oneOf_57 : decode cX12_oneOf 57 = .ok (.iconst 1, 1) := by decide +kernel
theorem dX12_oneOf_58 : decode cX12_oneOf 58 = .ok (.iadd, 1) := by decide +kernel
theorem dX12_oneOf_59 : decode cX12_oneOf 59 = .ok (.putfield 144, 3) := by decide +kernel
theorem dX12_oneOf_62 : decode cX12_oneOf 62 = .ok (.iload_n 2, 1) := by decide +kernel
theorem dX12_oneOf_63 : decode cX12_oneOf 63 = .ok (.ireturn, 1) := by decide +kernel
theorem dX12_free_0 : decode cX12_free 0 = .ok (.sipush 1023, 3) := by decide +kernel
theorem dX12_free_3 : decode cX12_free 3 = .ok (.istore_n 2, 1) := by decide +kernel
theorem dX12_free_4 : decode cX12_free 4 = .ok (.iconst 0, 1) := by decide +kernel
theorem dX12_free_5 : decode cX12_free 5 = .ok (.istore_n 3, 1) := by decide +kernel
theorem dX12_free_6 : decode cX12_free 6 = .ok (.iload_n 3, 1) := by decide +kernel
theorem dX12_free_7 : decode cX12_free 7 = .ok (.aload_n 0, 1) := by decide +kernel
theorem dX12_free_8 : decode cX12_free 8 = .ok (.getfield 147, 3) := by decide +kernel
theorem dX12_free_11 : decode cX12_free 11 = .ok (.if_icmp .ge 53, 3) := by decide +kernel
theorem dX12_free_14 : decode cX12_free 14 = .ok (.aload_n 0, 1) := by decide +kernel
theorem dX12_free_15 : decode cX12_free 15 = .ok (.getfield 48, 3) := by decide +kernel
theorem dX12_free_18 : decode cX12_free 18 = .ok (.iload_n 3, 1) := by decide +kernel
theorem dX12_free_19 : decode cX12_free 19 = .ok (.iaload, 1) := by decide +kernel
theorem dX12_free_20 : decode cX12_free 20 = .ok (.istore 4, 2) := by decide +kernel
theorem dX12_free_22 : decode cX12_free 22 = .ok (.iload 4, 2) := by decide +kernel
theorem dX12_free_24 : decode cX12_free 24 = .ok (.aload_n 0, 1) := by decide +kernel
theorem dX12_free_25 : decode cX12_free 25 = .ok (.getfield 51, 3) := by decide +kernel
theorem dX12_free_28 : decode cX12_free 28 = .ok (.iload_n 3, 1) := by decide +kernel
theorem dX12_free_29 : decode cX12_free 29 = .ok (.iaload, 1) := by decide +kernel
theorem dX12_free_30 : decode cX12_free 30 = .ok (.if_icmp .gt 28, 3) := by decide +kernel
theorem dX12_free_33 : decode cX12_free 33 = .ok (.aload_n 0, 1) := by decide +kernel
theorem dX12_free_34 : decode cX12_free 34 = .ok (.getfield 45, 3) := by decide +kernel
theorem dX12_free_37 : decode cX12_free 37 = .ok (.iload_n 3, 1) := by decide +kernel
theorem dX12_free_38 : decode cX12_free 38 = .ok (.iaload, 1) := by decide +kernel
theorem dX12_free_39 : decode cX12_free 39 = .ok (.iload_n 1, 1) := by decide +kernel
theorem dX12_free_40 : decode cX12_free 40 = .ok (.if_icmp .ne 18, 3) := by decide +kernel
theorem dX12_free_43 : decode cX12_free 43 = .ok (.iload_n 2, 1) := by decide +kernel
theorem dX12_free_44 : decode cX12_free 44 = .ok (.iconst 1, 1) := by decide +kernel
theorem dX12_free_45 : decode cX12_free 45 = .ok (.iload 4, 2) := by decide +kernel
theorem dX12_free_47 : decode cX12_free 47 = .ok (.ishl, 1) := by decide +kernel
theorem dX12_free_48 : decode cX12_free 48 = .ok (.iconst (-1), 1) := by decide +kernel
theorem dX12_free_49 : decode cX12_free 49 = .ok (.ixor, 1) := by decide +kernel
theorem dX12_free_50 : decode cX12_free 50 = .ok (.iand, 1) := by decide +kernel
theorem dX12_free_51 : decode cX12_free 51 = .ok (.istore_n 2, 1) := by decide +kernel
theorem dX12_free_52 : decode cX12_free 52 = .ok (.iinc 4 1, 3) := by decide +kernel
theorem dX12_free_55 : decode cX12_free 55 = .ok (.goto (-33), 3) := by decide +kernel
theorem dX12_free_58 : decode cX12_free 58 = .ok (.iinc 3 1, 3) := by decide +kernel
theorem dX12_free_61 : decode cX12_free 61 = .ok (.goto (-55), 3) := by decide +kernel
theorem dX12_free_64 : decode cX12_free 64 = .ok (.iload_n 2, 1) := by decide +kernel
theorem dX12_free_65 : decode cX12_free 65 = .ok (.ireturn, 1) := by decide +kernel
theorem dX12_freePeople_0 : decode cX12_freePeople 0 = .ok (.iconst 0, 1) := by decide +kernel
theorem dX12_freePeople_1 : decode cX12_freePeople 1 = .ok (.istore_n 1, 1) := by decide +kernel
theorem dX12_freePeople_2 : decode cX12_freePeople 2 = .ok (.iconst 0, 1) := by decide +kernel
theorem dX12_freePeople_3 : decode cX12_freePeople 3 = .ok (.istore_n 2, 1) := by decide +kernel
theorem dX12_freePeople_4 : decode cX12_freePeople 4 = .ok (.iload_n 2, 1) := by decide +kernel
theorem dX12_freePeople_5 : decode cX12_freePeople 5 = .ok (.aload_n 0, 1) := by decide +kernel
theorem dX12_freePeople_6 : decode cX12_freePeople 6 = .ok (.getfield 150, 3) := by decide +kernel
theorem dX12_freePeople_9 : decode cX12_freePeople 9 = .ok (.if_icmp .ge 36, 3) := by decide +kernel
theorem dX12_freePeople_12 : decode cX12_freePeople 12 = .ok (.aload_n 0, 1) := by decide +kernel
theorem dX12_freePeople_13 : decode cX12_freePeople 13 = .ok (.getfield 147, 3) := by decide +kernel
theorem dX12_freePeople_16 : decode cX12_freePeople 16 = .ok (.bipush 8, 2) := by decide +kernel
theorem dX12_freePeople_18 : decode cX12_freePeople 18 = .ok (.if_icmp .ge 27, 3) := by decide +kernel
theorem dX12_freePeople_21 : decode cX12_freePeople 21 = .ok (.iload_n 1, 1) := by decide +kernel
theorem dX12_freePeople_22 : decode cX12_freePeople 22 = .ok (.aload_n 0, 1) := by decide +kernel
theorem dX12_freePeople_23 : decode cX12_freePeople 23 = .ok (.iload_n 2, 1) := by decide +kernel
theorem dX12_freePeople_24 : decode cX12_freePeople 24 = .ok (.invokevirtual 153, 3) := by decide +kernel
theorem dX12_freePeople_27 : decode cX12_freePeople 27 = .ok (.ifCond .eq 9, 3) := by decide +kernel
theorem dX12_freePeople_30 : decode cX12_freePeople 30 = .ok (.iconst 1, 1) := by decide +kernel
theorem dX12_freePeople_31 : decode cX12_freePeople 31 = .ok (.iload_n 2, 1) := by decide +kernel
theorem dX12_freePeople_32 : decode cX12_freePeople 32 = .ok (.ishl, 1) := by decide +kernel
theorem dX12_freePeople_33 : decode cX12_freePeople 33 = .ok (.goto 4, 3) := by decide +kernel
theorem dX12_freePeople_36 : decode cX12_freePeople 36 = .ok (.iconst 0, 1) := by decide +kernel
theorem dX12_freePeople_37 : decode cX12_freePeople 37 = .ok (.ior, 1) := by decide +kernel
theorem dX12_freePeople_38 : decode cX12_freePeople 38 = .ok (.istore_n 1, 1) := by decide +kernel
theorem dX12_freePeople_39 : decode cX12_freePeople 39 = .ok (.iinc 2 1, 3) := by decide +kernel
theorem dX12_freePeople_42 : decode cX12_freePeople 42 = .ok (.goto (-38), 3) := by decide +kernel
theorem dX12_freePeople_45 : decode cX12_freePeople 45 = .ok (.iload_n 1, 1) := by decide +kernel
theorem dX12_freePeople_46 : decode cX12_freePeople 46 = .ok (.ireturn, 1) := by decide +kernel
theorem dX12_readSession_0 : decode cX12_readSession 0 = .ok (.aload_n 0, 1) := by decide +kernel
theorem dX12_readSession_1 : decode cX12_readSession 1 = .ok (.iload_n 1, 1) := by decide +kernel
theorem dX12_readSession_2 : decode cX12_readSession 2 = .ok (.invokevirtual 157, 3) := by decide +kernel
theorem dX12_readSession_5 : decode cX12_readSession 5 = .ok (.istore_n 2, 1) := by decide +kernel
theorem dX12_readSession_6 : decode cX12_readSession 6 = .ok (.iload_n 2, 1) := by decide +kernel
theorem dX12_readSession_7 : decode cX12_readSession 7 = .ok (.bipush (-9), 2) := by decide +kernel
theorem dX12_readSession_9 : decode cX12_readSession 9 = .ok (.if_icmp .ne 5, 3) := by decide +kernel
theorem dX12_readSession_12 : decode cX12_readSession 12 = .ok (.iconst 0, 1) := by decide +kernel
theorem dX12_readSession_13 : decode cX12_readSession 13 = .ok (.ireturn, 1) := by decide +kernel
theorem dX12_readSession_14 : decode cX12_readSession 14 = .ok (.aload_n 0, 1) := by decide +kernel
theorem dX12_readSession_15 : decode cX12_readSession 15 = .ok (.aload_n 0, 1) := by decide +kernel
theorem dX12_readSession_16 : decode cX12_readSession 16 = .ok (.iload_n 2, 1) := by decide +kernel
theorem dX12_readSession_17 : decode cX12_readSession 17 = .ok (.invokevirtual 153, 3) := by decide +kernel
theorem dX12_readSession_20 : decode cX12_readSession 20 = .ok (.invokevirtual 157, 3) := by decide +kernel
theorem dX12_readSession_23 : decode cX12_readSession 23 = .ok (.istore_n 3, 1) := by decide +kernel
theorem dX12_readSession_24 : decode cX12_readSession 24 = .ok (.iload_n 3, 1) := by decide +kernel
theorem dX12_readSession_25 : decode cX12_readSession 25 = .ok (.bipush (-9), 2) := by decide +kernel
theorem dX12_readSession_27 : decode cX12_readSession 27 = .ok (.if_icmp .ne 5, 3) := by decide +kernel
theorem dX12_readSession_30 : decode cX12_readSession 30 = .ok (.iconst 0, 1) := by decide +kernel
theorem dX12_readSession_31 : decode cX12_readSession 31 = .ok (.ireturn, 1) := by decide +kernel
theorem dX12_readSession_32 : decode cX12_readSession 32 = .ok (.iconst 0, 1) := by decide +kernel
theorem dX12_readSession_33 : decode cX12_readSession 33 = .ok (.istore 4, 2) := by decide +kernel
theorem dX12_readSession_35 : decode cX12_readSession 35 = .ok (.iload_n 3, 1) := by decide +kernel
theorem dX12_readSession_36 : decode cX12_readSession 36 = .ok (.istore 5, 2) := by decide +kernel
theorem dX12_readSession_38 : decode cX12_readSession 38 = .ok (.iload 5, 2) := by decide +kernel
theorem dX12_readSession_40 : decode cX12_readSession 40 = .ok (.bipush 10, 2) := by decide +kernel
theorem dX12_readSession_42 : decode cX12_readSession 42 = .ok (.if_icmp .ge 32, 3) := by decide +kernel
theorem dX12_readSession_45 : decode cX12_readSession 45 = .ok (.aload_n 0, 1) := by decide +kernel
theorem dX12_readSession_46 : decode cX12_readSession 46 = .ok (.iload_n 2, 1) := by decide +kernel
theorem dX12_readSession_47 : decode cX12_readSession 47 = .ok (.invokevirtual 153, 3) := by decide +kernel
theorem dX12_readSession_50 : decode cX12_readSession 50 = .ok (.iload 5, 2) := by decide +kernel
theorem dX12_readSession_52 : decode cX12_readSession 52 = .ok (.ishr, 1) := by decide +kernel
theorem dX12_readSession_53 : decode cX12_readSession 53 = .ok (.iconst 1, 1) := by decide +kernel
theorem dX12_readSession_54 : decode cX12_readSession 54 = .ok (.iand, 1) := by decide +kernel
theorem dX12_readSession_55 : decode cX12_readSession 55 = .ok (.iconst 1, 1) := by decide +kernel
theorem dX12_readSession_56 : decode cX12_readSession 56 = .ok (.if_icmp .ne 18, 3) := by decide +kernel
theorem dX12_readSession_59 : decode cX12_readSession 59 = .ok (.iload 4, 2) := by decide +kernel
theorem dX12_readSession_61 : decode cX12_readSession 61 = .ok (.iconst 1, 1) := by decide +kernel
theorem dX12_readSession_62 : decode cX12_readSession 62 = .ok (.iload 5, 2) := by decide +kernel
theorem dX12_readSession_64 : decode cX12_readSession 64 = .ok (.ishl, 1) := by decide +kernel
theorem dX12_readSession_65 : decode cX12_readSession 65 = .ok (.ior, 1) := by decide +kernel
theorem dX12_readSession_66 : decode cX12_readSession 66 = .ok (.istore 4, 2) := by decide +kernel
theorem dX12_readSession_68 : decode cX12_readSession 68 = .ok (.iinc 5 1, 3) := by decide +kernel
theorem dX12_readSession_71 : decode cX12_readSession 71 = .ok (.goto (-33), 3) := by decide +kernel
theorem dX12_readSession_74 : decode cX12_readSession 74 = .ok (.aload_n 0, 1) := by decide +kernel
theorem dX12_readSession_75 : decode cX12_readSession 75 = .ok (.iload 4, 2) := by decide +kernel
theorem dX12_readSession_77 : decode cX12_readSession 77 = .ok (.invokevirtual 157, 3) := by decide +kernel
theorem dX12_readSession_80 : decode cX12_readSession 80 = .ok (.istore 5, 2) := by decide +kernel
theorem dX12_readSession_82 : decode cX12_readSession 82 = .ok (.iload 5, 2) := by decide +kernel
theorem dX12_readSession_84 : decode cX12_readSession 84 = .ok (.bipush (-9), 2) := by decide +kernel
theorem dX12_readSession_86 : decode cX12_readSession 86 = .ok (.if_icmp .ne 5, 3) := by decide +kernel
theorem dX12_readSession_89 : decode cX12_readSession 89 = .ok (.iconst 0, 1) := by decide +kernel
theorem dX12_readSession_90 : decode cX12_readSession 90 = .ok (.ireturn, 1) := by decide +kernel
theorem dX12_readSession_91 : decode cX12_readSession 91 = .ok (.aload_n 0, 1) := by decide +kernel
theorem dX12_readSession_92 : decode cX12_readSession 92 = .ok (.getfield 45, 3) := by decide +kernel
theorem dX12_readSession_95 : decode cX12_readSession 95 = .ok (.aload_n 0, 1) := by decide +kernel
theorem dX12_readSession_96 : decode cX12_readSession 96 = .ok (.getfield 147, 3) := by decide +kernel
theorem dX12_readSession_99 : decode cX12_readSession 99 = .ok (.iload_n 2, 1) := by decide +kernel
theorem dX12_readSession_100 : decode cX12_readSession 100 = .ok (.iastore, 1) := by decide +kernel
theorem dX12_readSession_101 : decode cX12_readSession 101 = .ok (.aload_n 0, 1) := by decide +kernel
theorem dX12_readSession_102 : decode cX12_readSession 102 = .ok (.getfield 48, 3) := by decide +kernel
theorem dX12_readSession_105 : decode cX12_readSession 105 = .ok (.aload_n 0, 1) := by decide +kernel
theorem dX12_readSession_106 : decode cX12_readSession 106 = .ok (.getfield 147, 3) := by decide +kernel
theorem dX12_readSession_109 : decode cX12_readSession 109 = .ok (.iload_n 3, 1) := by decide +kernel
theorem dX12_readSession_110 : decode cX12_readSession 110 = .ok (.iastore, 1) := by decide +kernel
theorem dX12_readSession_111 : decode cX12_readSession 111 = .ok (.aload_n 0, 1) := by decide +kernel
theorem dX12_readSession_112 : decode cX12_readSession 112 = .ok (.getfield 51, 3) := by decide +kernel
theorem dX12_readSession_115 : decode cX12_readSession 115 = .ok (.aload_n 0, 1) := by decide +kernel
theorem dX12_readSession_116 : decode cX12_readSession 116 = .ok (.getfield 147, 3) := by decide +kernel
theorem dX12_readSession_119 : decode cX12_readSession 119 = .ok (.iload 5, 2) := by decide +kernel
theorem dX12_readSession_121 : decode cX12_readSession 121 = .ok (.iastore, 1) := by decide +kernel
theorem dX12_readSession_122 : decode cX12_readSession 122 = .ok (.aload_n 0, 1) := by decide +kernel
theorem dX12_readSession_123 : decode cX12_readSession 123 = .ok (.dup, 1) := by decide +kernel
theorem dX12_readSession_124 : decode cX12_readSession 124 = .ok (.getfield 147, 3) := by decide +kernel
theorem dX12_readSession_127 : decode cX12_readSession 127 = .ok (.iconst 1, 1) := by decide +kernel
theorem dX12_readSession_128 : decode cX12_readSession 128 = .ok (.iadd, 1) := by decide +kernel
theorem dX12_readSession_129 : decode cX12_readSession 129 = .ok (.putfield 147, 3) := by decide +kernel
theorem dX12_readSession_132 : decode cX12_readSession 132 = .ok (.iconst 1, 1) := by decide +kernel
theorem dX12_readSession_133 : decode cX12_readSession 133 = .ok (.ireturn, 1) := by decide +kernel
theorem dX12_places_0 : decode cX12_places 0 = .ok (.iconst 0, 1) := by decide +kernel
theorem dX12_places_1 : decode cX12_places 1 = .ok (.istore_n 2, 1) := by decide +kernel
theorem dX12_places_2 : decode cX12_places 2 = .ok (.iconst 0, 1) := by decide +kernel
theorem dX12_places_3 : decode cX12_places 3 = .ok (.istore_n 3, 1) := by decide +kernel
theorem dX12_places_4 : decode cX12_places 4 = .ok (.iload_n 3, 1) := by decide +kernel
theorem dX12_places_5 : decode cX12_places 5 = .ok (.iconst 4, 1) := by decide +kernel
theorem dX12_places_6 : decode cX12_places 6 = .ok (.if_icmp .ge 70, 3) := by decide +kernel
theorem dX12_places_9 : decode cX12_places 9 = .ok (.iload_n 1, 1) := by decide +kernel
theorem dX12_places_10 : decode cX12_places 10 = .ok (.ifCond .eq 29, 3) := by decide +kernel
theorem dX12_places_13 : decode cX12_places 13 = .ok (.aload_n 0, 1) := by decide +kernel
theorem dX12_places_14 : decode cX12_places 14 = .ok (.getfield 54, 3) := by decide +kernel
theorem dX12_places_17 : decode cX12_places 17 = .ok (.iload_n 3, 1) := by decide +kernel
theorem dX12_places_18 : decode cX12_places 18 = .ok (.baload, 1) := by decide +kernel
theorem dX12_places_19 : decode cX12_places 19 = .ok (.ifCond .eq 16, 3) := by decide +kernel
theorem dX12_places_22 : decode cX12_places 22 = .ok (.aload_n 0, 1) := by decide +kernel
theorem dX12_places_23 : decode cX12_places 23 = .ok (.getfield 63, 3) := by decide +kernel
theorem dX12_places_26 : decode cX12_places 26 = .ok (.iload_n 3, 1) := by decide +kernel
theorem dX12_places_27 : decode cX12_places 27 = .ok (.baload, 1) := by decide +kernel
theorem dX12_places_28 : decode cX12_places 28 = .ok (.ifCond .ne 7, 3) := by decide +kernel
theorem dX12_places_31 : decode cX12_places 31 = .ok (.iconst 1, 1) := by decide +kernel
theorem dX12_places_32 : decode cX12_places 32 = .ok (.goto 21, 3) := by decide +kernel
theorem dX12_places_35 : decode cX12_places 35 = .ok (.iconst 0, 1) := by decide +kernel
theorem dX12_places_36 : decode cX12_places 36 = .ok (.goto 17, 3) := by decide +kernel
theorem dX12_places_39 : decode cX12_places 39 = .ok (.aload_n 0, 1) := by decide +kernel
theorem dX12_places_40 : decode cX12_places 40 = .ok (.getfield 54, 3) := by decide +kernel
theorem dX12_places_43 : decode cX12_places 43 = .ok (.iload_n 3, 1) := by decide +kernel
theorem dX12_places_44 : decode cX12_places 44 = .ok (.baload, 1) := by decide +kernel
theorem dX12_places_45 : decode cX12_places 45 = .ok (.ifCond .ne 7, 3) := by decide +kernel
theorem dX12_places_48 : decode cX12_places 48 = .ok (.iconst 1, 1) := by decide +kernel
theorem dX12_places_49 : decode cX12_places 49 = .ok (.goto 4, 3) := by decide +kernel
theorem dX12_places_52 : decode cX12_places 52 = .ok (.iconst 0, 1) := by decide +kernel
theorem dX12_places_53 : decode cX12_places 53 = .ok (.istore 4, 2) := by decide +kernel
theorem dX12_places_55 : decode cX12_places 55 = .ok (.iload_n 2, 1) := by decide +kernel
theorem dX12_places_56 : decode cX12_places 56 = .ok (.iload 4, 2) := by decide +kernel
theorem dX12_places_58 : decode cX12_places 58 = .ok (.ifCond .eq 9, 3) := by decide +kernel
theorem dX12_places_61 : decode cX12_places 61 = .ok (.iconst 1, 1) := by decide +kernel
theorem dX12_places_62 : decode cX12_places 62 = .ok (.iload_n 3, 1) := by decide +kernel
theorem dX12_places_63 : decode cX12_places 63 = .ok (.ishl, 1) := by decide +kernel
theorem dX12_places_64 : decode cX12_places 64 = .ok (.goto 4, 3) := by decide +kernel
theorem dX12_places_67 : decode cX12_places 67 = .ok (.iconst 0, 1) := by decide +kernel
theorem dX12_places_68 : decode cX12_places 68 = .ok (.ior, 1) := by decide +kernel
theorem dX12_places_69 : decode cX12_places 69 = .ok (.istore_n 2, 1) := by decide +kernel
theorem dX12_places_70 : decode cX12_places 70 = .ok (.iinc 3 1, 3) := by decide +kernel
theorem dX12_places_73 : decode cX12_places 73 = .ok (.goto (-69), 3) := by decide +kernel
theorem dX12_places_76 : decode cX12_places 76 = .ok (.iload_n 2, 1) := by decide +kernel
theorem dX12_places_77 : decode cX12_places 77 = .ok (.ireturn, 1) := by decide +kernel
theorem dX12_readPlace_0 : decode cX12_readPlace 0 = .ok (.aload_n 0, 1) := by decide +kernel
theorem dX12_readPlace_1 : decode cX12_readPlace 1 = .ok (.aload_n 0, 1) := by decide +kernel
theorem dX12_readPlace_2 : decode cX12_readPlace 2 = .ok (.iconst 0, 1) := by decide +kernel
theorem dX12_readPlace_3 : decode cX12_readPlace 3 = .ok (.invokevirtual 160, 3) := by decide +kernel
theorem dX12_readPlace_6 : decode cX12_readPlace 6 = .ok (.invokevirtual 157, 3) := by decide +kernel
theorem dX12_readPlace_9 : decode cX12_readPlace 9 = .ok (.istore_n 1, 1) := by decide +kernel
theorem dX12_readPlace_10 : decode cX12_readPlace 10 = .ok (.iload_n 1, 1) := by decide +kernel
theorem dX12_readPlace_11 : decode cX12_readPlace 11 = .ok (.bipush (-9), 2) := by decide +kernel
theorem dX12_readPlace_13 : decode cX12_readPlace 13 = .ok (.if_icmp .ne 8, 3) := by decide +kernel
theorem dX12_readPlace_16 : decode cX12_readPlace 16 = .ok (.bipush (-9), 2) := by decide +kernel
theorem dX12_readPlace_18 : decode cX12_readPlace 18 = .ok (.goto 10, 3) := by decide +kernel
theorem dX12_readPlace_21 : decode cX12_readPlace 21 = .ok (.aload_n 0, 1) := by decide +kernel
theorem dX12_readPlace_22 : decode cX12_readPlace 22 = .ok (.iconst 0, 1) := by decide +kernel
theorem dX12_readPlace_23 : decode cX12_readPlace 23 = .ok (.bipush 9, 2) := by decide +kernel
theorem dX12_readPlace_25 : decode cX12_readPlace 25 = .ok (.invokevirtual 164, 3) := by decide +kernel
theorem dX12_readPlace_28 : decode cX12_readPlace 28 = .ok (.istore_n 2, 1) := by decide +kernel
theorem dX12_readPlace_29 : decode cX12_readPlace 29 = .ok (.iload_n 2, 1) := by decide +kernel
theorem dX12_readPlace_30 : decode cX12_readPlace 30 = .ok (.bipush (-9), 2) := by decide +kernel
theorem dX12_readPlace_32 : decode cX12_readPlace 32 = .ok (.if_icmp .ne 8, 3) := by decide +kernel
theorem dX12_readPlace_35 : decode cX12_readPlace 35 = .ok (.bipush (-9), 2) := by decide +kernel
theorem dX12_readPlace_37 : decode cX12_readPlace 37 = .ok (.goto 10, 3) := by decide +kernel
theorem dX12_readPlace_40 : decode cX12_readPlace 40 = .ok (.aload_n 0, 1) := by decide +kernel
theorem dX12_readPlace_41 : decode cX12_readPlace 41 = .ok (.iconst 0, 1) := by decide +kernel
theorem dX12_readPlace_42 : decode cX12_readPlace 42 = .ok (.bipush 9, 2) := by decide +kernel
theorem dX12_readPlace_44 : decode cX12_readPlace 44 = .ok (.invokevirtual 164, 3) := by decide +kernel
theorem dX12_readPlace_47 : decode cX12_readPlace 47 = .ok (.istore_n 3, 1) := by decide +kernel
theorem dX12_readPlace_48 : decode cX12_readPlace 48 = .ok (.iload_n 3, 1) := by decide +kernel
theorem dX12_readPlace_49 : decode cX12_readPlace 49 = .ok (.bipush (-9), 2) := by decide +kernel
theorem dX12_readPlace_51 : decode cX12_readPlace 51 = .ok (.if_icmp .ne 5, 3) := by decide +kernel
theorem dX12_readPlace_54 : decode cX12_readPlace 54 = .ok (.iconst 0, 1) := by decide +kernel
theorem dX12_readPlace_55 : decode cX12_readPlace 55 = .ok (.ireturn, 1) := by decide +kernel
theorem dX12_readPlace_56 : decode cX12_readPlace 56 = .ok (.aload_n 0, 1) := by decide +kernel
theorem dX12_readPlace_57 : decode cX12_readPlace 57 = .ok (.getfield 54, 3) := by decide +kernel
theorem dX12_readPlace_60 : decode cX12_readPlace 60 = .ok (.iload_n 1, 1) := by decide +kernel
theorem dX12_readPlace_61 : decode cX12_readPlace 61 = .ok (.iconst 1, 1) := by decide +kernel
theorem dX12_readPlace_62 : decode cX12_readPlace 62 = .ok (.bastore, 1) := by decide +kernel
theorem dX12_readPlace_63 : decode cX12_readPlace 63 = .ok (.aload_n 0, 1) := by decide +kernel
theorem dX12_readPlace_64 : decode cX12_readPlace 64 = .ok (.getfield 57, 3) := by decide +kernel
theorem dX12_readPlace_67 : decode cX12_readPlace 67 = .ok (.iload_n 1, 1) := by decide +kernel
theorem dX12_readPlace_68 : decode cX12_readPlace 68 = .ok (.iload_n 2, 1) := by decide +kernel
theorem dX12_readPlace_69 : decode cX12_readPlace 69 = .ok (.iastore, 1) := by decide +kernel
theorem dX12_readPlace_70 : decode cX12_readPlace 70 = .ok (.aload_n 0, 1) := by decide +kernel
theorem dX12_readPlace_71 : decode cX12_readPlace 71 = .ok (.getfield 60, 3) := by decide +kernel
theorem dX12_readPlace_74 : decode cX12_readPlace 74 = .ok (.iload_n 1, 1) := by decide +kernel
theorem dX12_readPlace_75 : decode cX12_readPlace 75 = .ok (.iload_n 3, 1) := by decide +kernel
theorem dX12_readPlace_76 : decode cX12_readPlace 76 = .ok (.iastore, 1) := by decide +kernel
theorem dX12_readPlace_77 : decode cX12_readPlace 77 = .ok (.iconst 1, 1) := by decide +kernel
theorem dX12_readPlace_78 : decode cX12_readPlace 78 = .ok (.ireturn, 1) := by decide +kernel
theorem dX12_readHours_0 : decode cX12_readHours 0 = .ok (.aload_n 0, 1) := by decide +kernel
theorem dX12_readHours_1 : decode cX12_readHours 1 = .ok (.aload_n 0, 1) := by decide +kernel
theorem dX12_readHours_2 : decode cX12_readHours 2 = .ok (.iconst 1, 1) := by decide +kernel
theorem dX12_readHours_3 : decode cX12_readHours 3 = .ok (.invokevirtual 160, 3) := by decide +kernel
theorem dX12_readHours_6 : decode cX12_readHours 6 = .ok (.invokevirtual 157, 3) := by decide +kernel
theorem dX12_readHours_9 : decode cX12_readHours 9 = .ok (.istore_n 1, 1) := by decide +kernel
theorem dX12_readHours_10 : decode cX12_readHours 10 = .ok (.iload_n 1, 1) := by decide +kernel
theorem dX12_readHours_11 : decode cX12_readHours 11 = .ok (.bipush (-9), 2) := by decide +kernel
theorem dX12_readHours_13 : decode cX12_readHours 13 = .ok (.if_icmp .ne 8, 3) := by decide +kernel
theorem dX12_readHours_16 : decode cX12_readHours 16 = .ok (.bipush (-9), 2) := by decide +kernel
theorem dX12_readHours_18 : decode cX12_readHours 18 = .ok (.goto 10, 3) := by decide +kernel
theorem dX12_readHours_21 : decode cX12_readHours 21 = .ok (.aload_n 0, 1) := by decide +kernel
theorem dX12_readHours_22 : decode cX12_readHours 22 = .ok (.iconst 0, 1) := by decide +kernel
theorem dX12_readHours_23 : decode cX12_readHours 23 = .ok (.bipush 9, 2) := by decide +kernel
theorem dX12_readHours_25 : decode cX12_readHours 25 = .ok (.invokevirtual 164, 3) := by decide +kernel
theorem dX12_readHours_28 : decode cX12_readHours 28 = .ok (.istore_n 2, 1) := by decide +kernel
theorem dX12_readHours_29 : decode cX12_readHours 29 = .ok (.iload_n 2, 1) := by decide +kernel
theorem dX12_readHours_30 : decode cX12_readHours 30 = .ok (.bipush (-9), 2) := by decide +kernel
theorem dX12_readHours_32 : decode cX12_readHours 32 = .ok (.if_icmp .ne 8, 3) := by decide +kernel
theorem dX12_readHours_35 : decode cX12_readHours 35 = .ok (.bipush (-9), 2) := by decide +kernel
theorem dX12_readHours_37 : decode cX12_readHours 37 = .ok (.goto 10, 3) := by decide +kernel
theorem dX12_readHours_40 : decode cX12_readHours 40 = .ok (.aload_n 0, 1) := by decide +kernel
theorem dX12_readHours_41 : decode cX12_readHours 41 = .ok (.iload_n 2, 1) := by decide +kernel
theorem dX12_readHours_42 : decode cX12_readHours 42 = .ok (.bipush 9, 2) := by decide +kernel
theorem dX12_readHours_44 : decode cX12_readHours 44 = .ok (.invokevirtual 164, 3) := by decide +kernel
theorem dX12_readHours_47 : decode cX12_readHours 47 = .ok (.istore_n 3, 1) := by decide +kernel
theorem dX12_readHours_48 : decode cX12_readHours 48 = .ok (.iload_n 3, 1) := by decide +kernel
theorem dX12_readHours_49 : decode cX12_readHours 49 = .ok (.bipush (-9), 2) := by decide +kernel
theorem dX12_readHours_51 : decode cX12_readHours 51 = .ok (.if_icmp .ne 5, 3) := by decide +kernel
theorem dX12_readHours_54 : decode cX12_readHours 54 = .ok (.iconst 0, 1) := by decide +kernel
theorem dX12_readHours_55 : decode cX12_readHours 55 = .ok (.ireturn, 1) := by decide +kernel
theorem dX12_readHours_56 : decode cX12_readHours 56 = .ok (.aload_n 0, 1) := by decide +kernel
theorem dX12_readHours_57 : decode cX12_readHours 57 = .ok (.getfield 63, 3) := by decide +kernel
theorem dX12_readHours_60 : decode cX12_readHours 60 = .ok (.iload_n 1, 1) := by decide +kernel
theorem dX12_readHours_61 : decode cX12_readHours 61 = .ok (.iconst 1, 1) := by decide +kernel
theorem dX12_readHours_62 : decode cX12_readHours 62 = .ok (.bastore, 1) := by decide +kernel
theorem dX12_readHours_63 : decode cX12_readHours 63 = .ok (.aload_n 0, 1) := by decide +kernel
theorem dX12_readHours_64 : decode cX12_readHours 64 = .ok (.getfield 66, 3) := by decide +kernel
theorem dX12_readHours_67 : decode cX12_readHours 67 = .ok (.iload_n 1, 1) := by decide +kernel
theorem dX12_readHours_68 : decode cX12_readHours 68 = .ok (.iload_n 2, 1) := by decide +kernel
theorem dX12_readHours_69 : decode cX12_readHours 69 = .ok (.iastore, 1) := by decide +kernel
theorem dX12_readHours_70 : decode cX12_readHours 70 = .ok (.aload_n 0, 1) := by decide +kernel
theorem dX12_readHours_71 : decode cX12_readHours 71 = .ok (.getfield 69, 3) := by decide +kernel
theorem dX12_readHours_74 : decode cX12_readHours 74 = .ok (.iload_n 1, 1) := by decide +kernel
theorem dX12_readHours_75 : decode cX12_readHours 75 = .ok (.iload_n 3, 1) := by decide +kernel
theorem dX12_readHours_76 : decode cX12_readHours 76 = .ok (.iastore, 1) := by decide +kernel
theorem dX12_readHours_77 : decode cX12_readHours 77 = .ok (.iconst 1, 1) := by decide +kernel
theorem dX12_readHours_78 : decode cX12_readHours 78 = .ok (.ireturn, 1) := by decide +kernel
theorem dX12_homeless_0 : decode cX12_homeless 0 = .ok (.iconst 0, 1) := by decide +kernel
theorem dX12_homeless_1 : decode cX12_homeless 1 = .ok (.istore_n 1, 1) := by decide +kernel
theorem dX12_homeless_2 : decode cX12_homeless 2 = .ok (.iconst 0, 1) := by decide +kernel
theorem dX12_homeless_3 : decode cX12_homeless 3 = .ok (.istore_n 2, 1) := by decide +kernel
theorem dX12_homeless_4 : decode cX12_homeless 4 = .ok (.iload_n 2, 1) := by decide +kernel
theorem dX12_homeless_5 : decode cX12_homeless 5 = .ok (.aload_n 0, 1) := by decide +kernel
theorem dX12_homeless_6 : decode cX12_homeless 6 = .ok (.getfield 150, 3) := by decide +kernel
theorem dX12_homeless_9 : decode cX12_homeless 9 = .ok (.if_icmp .ge 30, 3) := by decide +kernel
theorem dX12_homeless_12 : decode cX12_homeless 12 = .ok (.iload_n 1, 1) := by decide +kernel
theorem dX12_homeless_13 : decode cX12_homeless 13 = .ok (.aload_n 0, 1) := by decide +kernel
theorem dX12_homeless_14 : decode cX12_homeless 14 = .ok (.getfield 72, 3) := by decide +kernel
theorem dX12_homeless_17 : decode cX12_homeless 17 = .ok (.iload_n 2, 1) := by decide +kernel
theorem dX12_homeless_18 : decode cX12_homeless 18 = .ok (.iaload, 1) := by decide +kernel
theorem dX12_homeless_19 : decode cX12_homeless 19 = .ok (.bipush (-9), 2) := by decide +kernel
theorem dX12_homeless_21 : decode cX12_homeless 21 = .ok (.if_icmp .ne 9, 3) := by decide +kernel
theorem dX12_homeless_24 : decode cX12_homeless 24 = .ok (.iconst 1, 1) := by decide +kernel
theorem dX12_homeless_25 : decode cX12_homeless 25 = .ok (.iload_n 2, 1) := by decide +kernel
theorem dX12_homeless_26 : decode cX12_homeless 26 = .ok (.ishl, 1) := by decide +kernel
theorem dX12_homeless_27 : decode cX12_homeless 27 = .ok (.goto 4, 3) := by decide +kernel
theorem dX12_homeless_30 : decode cX12_homeless 30 = .ok (.iconst 0, 1) := by decide +kernel
theorem dX12_homeless_31 : decode cX12_homeless 31 = .ok (.ior, 1) := by decide +kernel
theorem dX12_homeless_32 : decode cX12_homeless 32 = .ok (.istore_n 1, 1) := by decide +kernel
theorem dX12_homeless_33 : decode cX12_homeless 33 = .ok (.iinc 2 1, 3) := by decide +kernel
theorem dX12_homeless_36 : decode cX12_homeless 36 = .ok (.goto (-32), 3) := by decide +kernel
theorem dX12_homeless_39 : decode cX12_homeless 39 = .ok (.iload_n 1, 1) := by decide +kernel
theorem dX12_homeless_40 : decode cX12_homeless 40 = .ok (.ireturn, 1) := by decide +kernel
theorem dX12_readHome_0 : decode cX12_readHome 0 = .ok (.aload_n 0, 1) := by decide +kernel
theorem dX12_readHome_1 : decode cX12_readHome 1 = .ok (.aload_n 0, 1) := by decide +kernel
theorem dX12_readHome_2 : decode cX12_readHome 2 = .ok (.invokevirtual 168, 3) := by decide +kernel
theorem dX12_readHome_5 : decode cX12_readHome 5 = .ok (.invokevirtual 157, 3) := by decide +kernel
theorem dX12_readHome_8 : decode cX12_readHome 8 = .ok (.istore_n 1, 1) := by decide +kernel
theorem dX12_readHome_9 : decode cX12_readHome 9 = .ok (.iload_n 1, 1) := by decide +kernel
theorem dX12_readHome_10 : decode cX12_readHome 10 = .ok (.bipush (-9), 2) := by decide +kernel
theorem dX12_readHome_12 : decode cX12_readHome 12 = .ok (.if_icmp .ne 8, 3) := by decide +kernel
theorem dX12_readHome_15 : decode cX12_readHome 15 = .ok (.bipush (-9), 2) := by decide +kernel
theorem dX12_readHome_17 : decode cX12_readHome 17 = .ok (.goto 10, 3) := by decide +kernel
theorem dX12_readHome_20 : decode cX12_readHome 20 = .ok (.aload_n 0, 1) := by decide +kernel
theorem dX12_readHome_21 : decode cX12_readHome 21 = .ok (.iconst 0, 1) := by decide +kernel
theorem dX12_readHome_22 : decode cX12_readHome 22 = .ok (.bipush 9, 2) := by decide +kernel
theorem dX12_readHome_24 : decode cX12_readHome 24 = .ok (.invokevirtual 164, 3) := by decide +kernel
theorem dX12_readHome_27 : decode cX12_readHome 27 = .ok (.istore_n 2, 1) := by decide +kernel
theorem dX12_readHome_28 : decode cX12_readHome 28 = .ok (.iload_n 2, 1) := by decide +kernel
theorem dX12_readHome_29 : decode cX12_readHome 29 = .ok (.bipush (-9), 2) := by decide +kernel
theorem dX12_readHome_31 : decode cX12_readHome 31 = .ok (.if_icmp .ne 5, 3) := by decide +kernel
theorem dX12_readHome_34 : decode cX12_readHome 34 = .ok (.iconst 0, 1) := by decide +kernel
theorem dX12_readHome_35 : decode cX12_readHome 35 = .ok (.ireturn, 1) := by decide +kernel
theorem dX12_readHome_36 : decode cX12_readHome 36 = .ok (.aload_n 0, 1) := by decide +kernel
theorem dX12_readHome_37 : decode cX12_readHome 37 = .ok (.getfield 72, 3) := by decide +kernel
theorem dX12_readHome_40 : decode cX12_readHome 40 = .ok (.iload_n 1, 1) := by decide +kernel
theorem dX12_readHome_41 : decode cX12_readHome 41 = .ok (.iload_n 2, 1) := by decide +kernel
theorem dX12_readHome_42 : decode cX12_readHome 42 = .ok (.iastore, 1) := by decide +kernel
theorem dX12_readHome_43 : decode cX12_readHome 43 = .ok (.iconst 1, 1) := by decide +kernel
theorem dX12_readHome_44 : decode cX12_readHome 44 = .ok (.ireturn, 1) := by decide +kernel
theorem dX12_readPart_0 : decode cX12_readPart 0 = .ok (.aload_n 0, 1) := by decide +kernel
theorem dX12_readPart_1 : decode cX12_readPart 1 = .ok (.invokevirtual 172, 3) := by decide +kernel
theorem dX12_readPart_4 : decode cX12_readPart 4 = .ok (.istore_n 1, 1) := by decide +kernel
theorem dX12_readPart_5 : decode cX12_readPart 5 = .ok (.iload_n 1, 1) := by decide +kernel
theorem dX12_readPart_6 : decode cX12_readPart 6 = .ok (.ifCond .eq 18, 3) := by decide +kernel
theorem dX12_readPart_9 : decode cX12_readPart 9 = .ok (.aload_n 0, 1) := by decide +kernel
theorem dX12_readPart_10 : decode cX12_readPart 10 = .ok (.bipush 82, 2) := by decide +kernel
theorem dX12_readPart_12 : decode cX12_readPart 12 = .ok (.invokevirtual 175, 3) := by decide +kernel
theorem dX12_readPart_15 : decode cX12_readPart 15 = .ok (.ifCond .eq 9, 3) := by decide +kernel
theorem dX12_readPart_18 : decode cX12_readPart 18 = .ok (.aload_n 0, 1) := by decide +kernel
theorem dX12_readPart_19 : decode cX12_readPart 19 = .ok (.iload_n 1, 1) := by decide +kernel
theorem dX12_readPart_20 : decode cX12_readPart 20 = .ok (.invokevirtual 179, 3) := by decide +kernel
theorem dX12_readPart_23 : decode cX12_readPart 23 = .ok (.ireturn, 1) := by decide +kernel
theorem dX12_readPart_24 : decode cX12_readPart 24 = .ok (.aload_n 0, 1) := by decide +kernel
theorem dX12_readPart_25 : decode cX12_readPart 25 = .ok (.iconst 0, 1) := by decide +kernel
theorem dX12_readPart_26 : decode cX12_readPart 26 = .ok (.invokevirtual 160, 3) := by decide +kernel
theorem dX12_readPart_29 : decode cX12_readPart 29 = .ok (.ifCond .eq 17, 3) := by decide +kernel
theorem dX12_readPart_32 : decode cX12_readPart 32 = .ok (.aload_n 0, 1) := by decide +kernel
theorem dX12_readPart_33 : decode cX12_readPart 33 = .ok (.bipush 80, 2) := by decide +kernel
theorem dX12_readPart_35 : decode cX12_readPart 35 = .ok (.invokevirtual 175, 3) := by decide +kernel
theorem dX12_readPart_38 : decode cX12_readPart 38 = .ok (.ifCond .eq 8, 3) := by decide +kernel
theorem dX12_readPart_41 : decode cX12_readPart 41 = .ok (.aload_n 0, 1) := by decide +kernel
theorem dX12_readPart_42 : decode cX12_readPart 42 = .ok (.invokevirtual 182, 3) := by decide +kernel
theorem dX12_readPart_45 : decode cX12_readPart 45 = .ok (.ireturn, 1) := by decide +kernel
theorem dX12_readPart_46 : decode cX12_readPart 46 = .ok (.aload_n 0, 1) := by decide +kernel
theorem dX12_readPart_47 : decode cX12_readPart 47 = .ok (.iconst 1, 1) := by decide +kernel
theorem dX12_readPart_48 : decode cX12_readPart 48 = .ok (.invokevirtual 160, 3) := by decide +kernel
theorem dX12_readPart_51 : decode cX12_readPart 51 = .ok (.ifCond .eq 17, 3) := by decide +kernel
theorem dX12_readPart_54 : decode cX12_readPart 54 = .ok (.aload_n 0, 1) := by decide +kernel
theorem dX12_readPart_55 : decode cX12_readPart 55 = .ok (.bipush 79, 2) := by decide +kernel
theorem dX12_readPart_57 : decode cX12_readPart 57 = .ok (.invokevirtual 175, 3) := by decide +kernel
theorem dX12_readPart_60 : decode cX12_readPart 60 = .ok (.ifCond .eq 8, 3) := by decide +kernel
theorem dX12_readPart_63 : decode cX12_readPart 63 = .ok (.aload_n 0, 1) := by decide +kernel
theorem dX12_readPart_64 : decode cX12_readPart 64 = .ok (.invokevirtual 186, 3) := by decide +kernel
theorem dX12_readPart_67 : decode cX12_readPart 67 = .ok (.ireturn, 1) := by decide +kernel
theorem dX12_readPart_68 : decode cX12_readPart 68 = .ok (.aload_n 0, 1) := by decide +kernel
theorem dX12_readPart_69 : decode cX12_readPart 69 = .ok (.invokevirtual 168, 3) := by decide +kernel
theorem dX12_readPart_72 : decode cX12_readPart 72 = .ok (.ifCond .eq 17, 3) := by decide +kernel
theorem dX12_readPart_75 : decode cX12_readPart 75 = .ok (.aload_n 0, 1) := by decide +kernel
theorem dX12_readPart_76 : decode cX12_readPart 76 = .ok (.bipush 72, 2) := by decide +kernel
theorem dX12_readPart_78 : decode cX12_readPart 78 = .ok (.invokevirtual 175, 3) := by decide +kernel
theorem dX12_readPart_81 : decode cX12_readPart 81 = .ok (.ifCond .eq 8, 3) := by decide +kernel
theorem dX12_readPart_84 : decode cX12_readPart 84 = .ok (.aload_n 0, 1) := by decide +kernel
theorem dX12_readPart_85 : decode cX12_readPart 85 = .ok (.invokevirtual 189, 3) := by decide +kernel
theorem dX12_readPart_88 : decode cX12_readPart 88 = .ok (.ireturn, 1) := by decide +kernel
theorem dX12_readPart_89 : decode cX12_readPart 89 = .ok (.aload_n 0, 1) := by decide +kernel
theorem dX12_readPart_90 : decode cX12_readPart 90 = .ok (.getfield 192, 3) := by decide +kernel
theorem dX12_readPart_93 : decode cX12_readPart 93 = .ok (.ifCond .ne 47, 3) := by decide +kernel
theorem dX12_readPart_96 : decode cX12_readPart 96 = .ok (.aload_n 0, 1) := by decide +kernel
theorem dX12_readPart_97 : decode cX12_readPart 97 = .ok (.bipush 70, 2) := by decide +kernel
theorem dX12_readPart_99 : decode cX12_readPart 99 = .ok (.invokevirtual 175, 3) := by decide +kernel
theorem dX12_readPart_102 : decode cX12_readPart 102 = .ok (.ifCond .eq 38, 3) := by decide +kernel
theorem dX12_readPart_105 : decode cX12_readPart 105 = .ok (.aload_n 0, 1) := by decide +kernel
theorem dX12_readPart_106 : decode cX12_readPart 106 = .ok (.iconst 1, 1) := by decide +kernel
theorem dX12_readPart_107 : decode cX12_readPart 107 = .ok (.bipush 9, 2) := by decide +kernel
theorem dX12_readPart_109 : decode cX12_readPart 109 = .ok (.invokevirtual 164, 3) := by decide +kernel
theorem dX12_readPart_112 : decode cX12_readPart 112 = .ok (.istore_n 2, 1) := by decide +kernel
theorem dX12_readPart_113 : decode cX12_readPart 113 = .ok (.aload_n 0, 1) := by decide +kernel
theorem dX12_readPart_114 : decode cX12_readPart 114 = .ok (.iload_n 2, 1) := by decide +kernel
theorem dX12_readPart_115 : decode cX12_readPart 115 = .ok (.bipush (-9), 2) := by decide +kernel
theorem dX12_readPart_117 : decode cX12_readPart 117 = .ok (.if_icmp .ne 7, 3) := by decide +kernel
theorem dX12_readPart_120 : decode cX12_readPart 120 = .ok (.iconst 0, 1) := by decide +kernel
theorem dX12_readPart_121 : decode cX12_readPart 121 = .ok (.goto 4, 3) := by decide +kernel
theorem dX12_readPart_124 : decode cX12_readPart 124 = .ok (.iload_n 2, 1) := by decide +kernel
theorem dX12_readPart_125 : decode cX12_readPart 125 = .ok (.putfield 192, 3) := by decide +kernel
theorem dX12_readPart_128 : decode cX12_readPart 128 = .ok (.iload_n 2, 1) := by decide +kernel
theorem dX12_readPart_129 : decode cX12_readPart 129 = .ok (.bipush (-9), 2) := by decide +kernel
theorem dX12_readPart_131 : decode cX12_readPart 131 = .ok (.if_icmp .eq 7, 3) := by decide +kernel
theorem dX12_readPart_134 : decode cX12_readPart 134 = .ok (.iconst 1, 1) := by decide +kernel
theorem dX12_readPart_135 : decode cX12_readPart 135 = .ok (.goto 4, 3) := by decide +kernel
theorem dX12_readPart_138 : decode cX12_readPart 138 = .ok (.iconst 0, 1) := by decide +kernel
theorem dX12_readPart_139 : decode cX12_readPart 139 = .ok (.ireturn, 1) := by decide +kernel
theorem dX12_readPart_140 : decode cX12_readPart 140 = .ok (.iconst 0, 1) := by decide +kernel
theorem dX12_readPart_141 : decode cX12_readPart 141 = .ok (.ireturn, 1) := by decide +kernel
theorem dX12_readClub_0 : decode cX12_readClub 0 = .ok (.aload_n 0, 1) := by decide +kernel
theorem dX12_readClub_1 : decode cX12_readClub 1 = .ok (.iconst 0, 1) := by decide +kernel
theorem dX12_readClub_2 : decode cX12_readClub 2 = .ok (.putfield 144, 3) := by decide +kernel
theorem dX12_readClub_5 : decode cX12_readClub 5 = .ok (.aload_n 0, 1) := by decide +kernel
theorem dX12_readClub_6 : decode cX12_readClub 6 = .ok (.bipush 78, 2) := by decide +kernel
theorem dX12_readClub_8 : decode cX12_readClub 8 = .ok (.invokevirtual 175, 3) := by decide +kernel
theorem dX12_readClub_11 : decode cX12_readClub 11 = .ok (.ifCond .ne 8, 3) := by decide +kernel
theorem dX12_readClub_14 : decode cX12_readClub 14 = .ok (.aload_n 0, 1) := by decide +kernel
theorem dX12_readClub_15 : decode cX12_readClub 15 = .ok (.getfield 144, 3) := by decide +kernel
theorem dX12_readClub_18 : decode cX12_readClub 18 = .ok (.ireturn, 1) := by decide +kernel
theorem dX12_readClub_19 : decode cX12_readClub 19 = .ok (.aload_n 0, 1) := by decide +kernel
theorem dX12_readClub_20 : decode cX12_readClub 20 = .ok (.iconst 1, 1) := by decide +kernel
theorem dX12_readClub_21 : decode cX12_readClub 21 = .ok (.bipush 6, 2) := by decide +kernel
theorem dX12_readClub_23 : decode cX12_readClub 23 = .ok (.invokevirtual 164, 3) := by decide +kernel
theorem dX12_readClub_26 : decode cX12_readClub 26 = .ok (.istore_n 1, 1) := by decide +kernel
theorem dX12_readClub_27 : decode cX12_readClub 27 = .ok (.iload_n 1, 1) := by decide +kernel
theorem dX12_readClub_28 : decode cX12_readClub 28 = .ok (.bipush (-9), 2) := by decide +kernel
theorem dX12_readClub_30 : decode cX12_readClub 30 = .ok (.if_icmp .ne 8, 3) := by decide +kernel
theorem dX12_readClub_33 : decode cX12_readClub 33 = .ok (.aload_n 0, 1) := by decide +kernel
theorem dX12_readClub_34 : decode cX12_readClub 34 = .ok (.getfield 144, 3) := by decide +kernel
theorem dX12_readClub_37 : decode cX12_readClub 37 = .ok (.ireturn, 1) := by decide +kernel
theorem dX12_readClub_38 : decode cX12_readClub 38 = .ok (.aload_n 0, 1) := by decide +kernel
theorem dX12_readClub_39 : decode cX12_readClub 39 = .ok (.iload_n 1, 1) := by decide +kernel
theorem dX12_readClub_40 : decode cX12_readClub 40 = .ok (.putfield 150, 3) := by decide +kernel
theorem dX12_readClub_43 : decode cX12_readClub 43 = .ok (.aload_n 0, 1) := by decide +kernel
theorem dX12_readClub_44 : decode cX12_readClub 44 = .ok (.iconst 0, 1) := by decide +kernel
theorem dX12_readClub_45 : decode cX12_readClub 45 = .ok (.putfield 192, 3) := by decide +kernel
theorem dX12_readClub_48 : decode cX12_readClub 48 = .ok (.aload_n 0, 1) := by decide +kernel
theorem dX12_readClub_49 : decode cX12_readClub 49 = .ok (.iconst 0, 1) := by decide +kernel
theorem dX12_readClub_50 : decode cX12_readClub 50 = .ok (.putfield 147, 3) := by decide +kernel
theorem dX12_readClub_53 : decode cX12_readClub 53 = .ok (.iconst 0, 1) := by decide +kernel
theorem dX12_readClub_54 : decode cX12_readClub 54 = .ok (.istore_n 2, 1) := by decide +kernel
theorem dX12_readClub_55 : decode cX12_readClub 55 = .ok (.iload_n 2, 1) := by decide +kernel
theorem dX12_readClub_56 : decode cX12_readClub 56 = .ok (.iconst 4, 1) := by decide +kernel
theorem dX12_readClub_57 : decode cX12_readClub 57 = .ok (.if_icmp .ge 52, 3) := by decide +kernel
theorem dX12_readClub_60 : decode cX12_readClub 60 = .ok (.aload_n 0, 1) := by decide +kernel
theorem dX12_readClub_61 : decode cX12_readClub 61 = .ok (.getfield 54, 3) := by decide +kernel
theorem dX12_readClub_64 : decode cX12_readClub 64 = .ok (.iload_n 2, 1) := by decide +kernel
theorem dX12_readClub_65 : decode cX12_readClub 65 = .ok (.iconst 0, 1) := by decide +kernel
theorem dX12_readClub_66 : decode cX12_readClub 66 = .ok (.bastore, 1) := by decide +kernel
theorem dX12_readClub_67 : decode cX12_readClub 67 = .ok (.aload_n 0, 1) := by decide +kernel
theorem dX12_readClub_68 : decode cX12_readClub 68 = .ok (.getfield 63, 3) := by decide +kernel
theorem dX12_readClub_71 : decode cX12_readClub 71 = .ok (.iload_n 2, 1) := by decide +kernel
theorem dX12_readClub_72 : decode cX12_readClub 72 = .ok (.iconst 0, 1) := by decide +kernel
theorem dX12_readClub_73 : decode cX12_readClub 73 = .ok (.bastore, 1) := by decide +kernel
theorem dX12_readClub_74 : decode cX12_readClub 74 = .ok (.aload_n 0, 1) := by decide +kernel
theorem dX12_readClub_75 : decode cX12_readClub 75 = .ok (.getfield 66, 3) := by decide +kernel
theorem dX12_readClub_78 : decode cX12_readClub 78 = .ok (.iload_n 2, 1) := by decide +kernel
theorem dX12_readClub_79 : decode cX12_readClub 79 = .ok (.iconst 0, 1) := by decide +kernel
theorem dX12_readClub_80 : decode cX12_readClub 80 = .ok (.iastore, 1) := by decide +kernel
theorem dX12_readClub_81 : decode cX12_readClub 81 = .ok (.aload_n 0, 1) := by decide +kernel
theorem dX12_readClub_82 : decode cX12_readClub 82 = .ok (.getfield 69, 3) := by decide +kernel
theorem dX12_readClub_85 : decode cX12_readClub 85 = .ok (.iload_n 2, 1) := by decide +kernel
theorem dX12_readClub_86 : decode cX12_readClub 86 = .ok (.bipush 9, 2) := by decide +kernel
theorem dX12_readClub_88 : decode cX12_readClub 88 = .ok (.iastore, 1) := by decide +kernel
theorem dX12_readClub_89 : decode cX12_readClub 89 = .ok (.aload_n 0, 1) := by decide +kernel
theorem dX12_readClub_90 : decode cX12_readClub 90 = .ok (.getfield 57, 3) := by decide +kernel
theorem dX12_readClub_93 : decode cX12_readClub 93 = .ok (.iload_n 2, 1) := by decide +kernel
theorem dX12_readClub_94 : decode cX12_readClub 94 = .ok (.iconst 0, 1) := by decide +kernel
theorem dX12_readClub_95 : decode cX12_readClub 95 = .ok (.iastore, 1) := by decide +kernel
theorem dX12_readClub_96 : decode cX12_readClub 96 = .ok (.aload_n 0, 1) := by decide +kernel
theorem dX12_readClub_97 : decode cX12_readClub 97 = .ok (.getfield 60, 3) := by decide +kernel
theorem dX12_readClub_100 : decode cX12_readClub 100 = .ok (.iload_n 2, 1) := by decide +kernel
theorem dX12_readClub_101 : decode cX12_readClub 101 = .ok (.iconst 0, 1) := by decide +kernel
theorem dX12_readClub_102 : decode cX12_readClub 102 = .ok (.iastore, 1) := by decide +kernel
theorem dX12_readClub_103 : decode cX12_readClub 103 = .ok (.iinc 2 1, 3) := by decide +kernel
theorem dX12_readClub_106 : decode cX12_readClub 106 = .ok (.goto (-51), 3) := by decide +kernel
theorem dX12_readClub_109 : decode cX12_readClub 109 = .ok (.iconst 0, 1) := by decide +kernel
theorem dX12_readClub_110 : decode cX12_readClub 110 = .ok (.istore_n 2, 1) := by decide +kernel
theorem dX12_readClub_111 : decode cX12_readClub 111 = .ok (.iload_n 2, 1) := by decide +kernel
theorem dX12_readClub_112 : decode cX12_readClub 112 = .ok (.bipush 6, 2) := by decide +kernel
theorem dX12_readClub_114 : decode cX12_readClub 114 = .ok (.if_icmp .ge 17, 3) := by decide +kernel
theorem dX12_readClub_117 : decode cX12_readClub 117 = .ok (.aload_n 0, 1) := by decide +kernel
theorem dX12_readClub_118 : decode cX12_readClub 118 = .ok (.getfield 72, 3) := by decide +kernel
theorem dX12_readClub_121 : decode cX12_readClub 121 = .ok (.iload_n 2, 1) := by decide +kernel
theorem dX12_readClub_122 : decode cX12_readClub 122 = .ok (.bipush (-9), 2) := by decide +kernel
theorem dX12_readClub_124 : decode cX12_readClub 124 = .ok (.iastore, 1) := by decide +kernel
theorem dX12_readClub_125 : decode cX12_readClub 125 = .ok (.iinc 2 1, 3) := by decide +kernel
theorem dX12_readClub_128 : decode cX12_readClub 128 = .ok (.goto (-17), 3) := by decide +kernel
theorem dX12_readClub_131 : decode cX12_readClub 131 = .ok (.aload_n 0, 1) := by decide +kernel
theorem dX12_readClub_132 : decode cX12_readClub 132 = .ok (.getfield 144, 3) := by decide +kernel
theorem dX12_readClub_135 : decode cX12_readClub 135 = .ok (.aload_n 0, 1) := by decide +kernel
theorem dX12_readClub_136 : decode cX12_readClub 136 = .ok (.getfield 141, 3) := by decide +kernel
theorem dX12_readClub_139 : decode cX12_readClub 139 = .ok (.if_icmp .ge 15, 3) := by decide +kernel
theorem dX12_readClub_142 : decode cX12_readClub 142 = .ok (.aload_n 0, 1) := by decide +kernel
theorem dX12_readClub_143 : decode cX12_readClub 143 = .ok (.invokevirtual 195, 3) := by decide +kernel
theorem dX12_readClub_146 : decode cX12_readClub 146 = .ok (.ifCond .ne (-15), 3) := by decide +kernel
theorem dX12_readClub_149 : decode cX12_readClub 149 = .ok (.aload_n 0, 1) := by decide +kernel
theorem dX12_readClub_150 : decode cX12_readClub 150 = .ok (.getfield 144, 3) := by decide +kernel
theorem dX12_readClub_153 : decode cX12_readClub 153 = .ok (.ireturn, 1) := by decide +kernel
theorem dX12_readClub_154 : decode cX12_readClub 154 = .ok (.bipush (-9), 2) := by decide +kernel
theorem dX12_readClub_156 : decode cX12_readClub 156 = .ok (.ireturn, 1) := by decide +kernel
theorem dX12_readAct_0 : decode cX12_readAct 0 = .ok (.aload_n 0, 1) := by decide +kernel
theorem dX12_readAct_1 : decode cX12_readAct 1 = .ok (.bipush 80, 2) := by decide +kernel
theorem dX12_readAct_3 : decode cX12_readAct 3 = .ok (.invokevirtual 175, 3) := by decide +kernel
theorem dX12_readAct_6 : decode cX12_readAct 6 = .ok (.ifCond .eq 10, 3) := by decide +kernel
theorem dX12_readAct_9 : decode cX12_readAct 9 = .ok (.aload_n 0, 1) := by decide +kernel
theorem dX12_readAct_10 : decode cX12_readAct 10 = .ok (.iconst 0, 1) := by decide +kernel
theorem dX12_readAct_11 : decode cX12_readAct 11 = .ok (.iconst 3, 1) := by decide +kernel
theorem dX12_readAct_12 : decode cX12_readAct 12 = .ok (.invokevirtual 164, 3) := by decide +kernel
theorem dX12_readAct_15 : decode cX12_readAct 15 = .ok (.ireturn, 1) := by decide +kernel
theorem dX12_readAct_16 : decode cX12_readAct 16 = .ok (.aload_n 0, 1) := by decide +kernel
theorem dX12_readAct_17 : decode cX12_readAct 17 = .ok (.bipush 72, 2) := by decide +kernel
theorem dX12_readAct_19 : decode cX12_readAct 19 = .ok (.invokevirtual 175, 3) := by decide +kernel
theorem dX12_readAct_22 : decode cX12_readAct 22 = .ok (.ifCond .eq 7, 3) := by decide +kernel
theorem dX12_readAct_25 : decode cX12_readAct 25 = .ok (.iconst 4, 1) := by decide +kernel
theorem dX12_readAct_26 : decode cX12_readAct 26 = .ok (.goto 18, 3) := by decide +kernel
theorem dX12_readAct_29 : decode cX12_readAct 29 = .ok (.aload_n 0, 1) := by decide +kernel
theorem dX12_readAct_30 : decode cX12_readAct 30 = .ok (.bipush 78, 2) := by decide +kernel
theorem dX12_readAct_32 : decode cX12_readAct 32 = .ok (.invokevirtual 175, 3) := by decide +kernel
theorem dX12_readAct_35 : decode cX12_readAct 35 = .ok (.ifCond .eq 7, 3) := by decide +kernel
theorem dX12_readAct_38 : decode cX12_readAct 38 = .ok (.iconst 5, 1) := by decide +kernel
theorem dX12_readAct_39 : decode cX12_readAct 39 = .ok (.goto 5, 3) := by decide +kernel
theorem dX12_readAct_42 : decode cX12_readAct 42 = .ok (.bipush (-9), 2) := by decide +kernel
theorem dX12_readAct_44 : decode cX12_readAct 44 = .ok (.ireturn, 1) := by decide +kernel
theorem dX12_readRule_0 : decode cX12_readRule 0 = .ok (.aload_n 0, 1) := by decide +kernel
theorem dX12_readRule_1 : decode cX12_readRule 1 = .ok (.iconst 0, 1) := by decide +kernel
theorem dX12_readRule_2 : decode cX12_readRule 2 = .ok (.putfield 144, 3) := by decide +kernel
theorem dX12_readRule_5 : decode cX12_readRule 5 = .ok (.aload_n 0, 1) := by decide +kernel
theorem dX12_readRule_6 : decode cX12_readRule 6 = .ok (.iconst 0, 1) := by decide +kernel
theorem dX12_readRule_7 : decode cX12_readRule 7 = .ok (.putfield 198, 3) := by decide +kernel
theorem dX12_readRule_10 : decode cX12_readRule 10 = .ok (.iconst 0, 1) := by decide +kernel
theorem dX12_readRule_11 : decode cX12_readRule 11 = .ok (.istore_n 1, 1) := by decide +kernel
theorem dX12_readRule_12 : decode cX12_readRule 12 = .ok (.iconst 0, 1) := by decide +kernel
theorem dX12_readRule_13 : decode cX12_readRule 13 = .ok (.istore_n 2, 1) := by decide +kernel
theorem dX12_readRule_14 : decode cX12_readRule 14 = .ok (.iload_n 2, 1) := by decide +kernel
theorem dX12_readRule_15 : decode cX12_readRule 15 = .ok (.bipush 10, 2) := by decide +kernel
theorem dX12_readRule_17 : decode cX12_readRule 17 = .ok (.if_icmp .ge 17, 3) := by decide +kernel
theorem dX12_readRule_20 : decode cX12_readRule 20 = .ok (.aload_n 0, 1) := by decide +kernel
theorem dX12_readRule_21 : decode cX12_readRule 21 = .ok (.getfield 78, 3) := by decide +kernel
theorem dX12_readRule_24 : decode cX12_readRule 24 = .ok (.iload_n 2, 1) := by decide +kernel
theorem dX12_readRule_25 : decode cX12_readRule 25 = .ok (.bipush (-9), 2) := by decide +kernel
theorem dX12_readRule_27 : decode cX12_readRule 27 = .ok (.iastore, 1) := by decide +kernel
theorem dX12_readRule_28 : decode cX12_readRule 28 = .ok (.iinc 2 1, 3) := by decide +kernel
theorem dX12_readRule_31 : decode cX12_readRule 31 = .ok (.goto (-17), 3) := by decide +kernel
theorem dX12_readRule_34 : decode cX12_readRule 34 = .ok (.aload_n 0, 1) := by decide +kernel
theorem dX12_readRule_35 : decode cX12_readRule 35 = .ok (.sipush 1023, 3) := by decide +kernel
theorem dX12_readRule_38 : decode cX12_readRule 38 = .ok (.invokevirtual 157, 3) := by decide +kernel
theorem dX12_readRule_41 : decode cX12_readRule 41 = .ok (.istore_n 2, 1) := by decide +kernel
theorem dX12_readRule_42 : decode cX12_readRule 42 = .ok (.iload_n 2, 1) := by decide +kernel
theorem dX12_readRule_43 : decode cX12_readRule 43 = .ok (.bipush (-9), 2) := by decide +kernel
theorem dX12_readRule_45 : decode cX12_readRule 45 = .ok (.if_icmp .eq 57, 3) := by decide +kernel
theorem dX12_readRule_48 : decode cX12_readRule 48 = .ok (.aload_n 0, 1) := by decide +kernel
theorem dX12_readRule_49 : decode cX12_readRule 49 = .ok (.invokevirtual 201, 3) := by decide +kernel
theorem dX12_readRule_52 : decode cX12_readRule 52 = .ok (.istore_n 3, 1) := by decide +kernel
theorem dX12_readRule_53 : decode cX12_readRule 53 = .ok (.iload_n 3, 1) := by decide +kernel
theorem dX12_readRule_54 : decode cX12_readRule 54 = .ok (.bipush (-9), 2) := by decide +kernel
theorem dX12_readRule_56 : decode cX12_readRule 56 = .ok (.if_icmp .ne 8, 3) := by decide +kernel
theorem dX12_readRule_59 : decode cX12_readRule 59 = .ok (.aload_n 0, 1) := by decide +kernel
theorem dX12_readRule_60 : decode cX12_readRule 60 = .ok (.getfield 144, 3) := by decide +kernel
theorem dX12_readRule_63 : decode cX12_readRule 63 = .ok (.ireturn, 1) := by decide +kernel
theorem dX12_readRule_64 : decode cX12_readRule 64 = .ok (.aload_n 0, 1) := by decide +kernel
theorem dX12_readRule_65 : decode cX12_readRule 65 = .ok (.getfield 78, 3) := by decide +kernel
theorem dX12_readRule_68 : decode cX12_readRule 68 = .ok (.iload_n 2, 1) := by decide +kernel
theorem dX12_readRule_69 : decode cX12_readRule 69 = .ok (.iload_n 3, 1) := by decide +kernel
theorem dX12_readRule_70 : decode cX12_readRule 70 = .ok (.iastore, 1) := by decide +kernel
theorem dX12_readRule_71 : decode cX12_readRule 71 = .ok (.iload_n 1, 1) := by decide +kernel
theorem dX12_readRule_72 : decode cX12_readRule 72 = .ok (.iconst 1, 1) := by decide +kernel
theorem dX12_readRule_73 : decode cX12_readRule 73 = .ok (.iload_n 2, 1) := by decide +kernel
theorem dX12_readRule_74 : decode cX12_readRule 74 = .ok (.ishl, 1) := by decide +kernel
theorem dX12_readRule_75 : decode cX12_readRule 75 = .ok (.ior, 1) := by decide +kernel
theorem dX12_readRule_76 : decode cX12_readRule 76 = .ok (.istore_n 1, 1) := by decide +kernel
theorem dX12_readRule_77 : decode cX12_readRule 77 = .ok (.aload_n 0, 1) := by decide +kernel
theorem dX12_readRule_78 : decode cX12_readRule 78 = .ok (.dup, 1) := by decide +kernel
theorem dX12_readRule_79 : decode cX12_readRule 79 = .ok (.getfield 198, 3) := by decide +kernel
theorem dX12_readRule_82 : decode cX12_readRule 82 = .ok (.iconst 1, 1) := by decide +kernel
theorem dX12_readRule_83 : decode cX12_readRule 83 = .ok (.iadd, 1) := by decide +kernel
theorem dX12_readRule_84 : decode cX12_readRule 84 = .ok (.putfield 198, 3) := by decide +kernel
theorem dX12_readRule_87 : decode cX12_readRule 87 = .ok (.aload_n 0, 1) := by decide +kernel
theorem dX12_readRule_88 : decode cX12_readRule 88 = .ok (.sipush 1023, 3) := by decide +kernel
theorem dX12_readRule_91 : decode cX12_readRule 91 = .ok (.iload_n 1, 1) := by decide +kernel
theorem dX12_readRule_92 : decode cX12_readRule 92 = .ok (.iconst (-1), 1) := by decide +kernel
theorem dX12_readRule_93 : decode cX12_readRule 93 = .ok (.ixor, 1) := by decide +kernel
theorem dX12_readRule_94 : decode cX12_readRule 94 = .ok (.iand, 1) := by decide +kernel
theorem dX12_readRule_95 : decode cX12_readRule 95 = .ok (.invokevirtual 157, 3) := by decide +kernel
theorem dX12_readRule_98 : decode cX12_readRule 98 = .ok (.istore_n 2, 1) := by decide +kernel
theorem dX12_readRule_99 : decode cX12_readRule 99 = .ok (.goto (-57), 3) := by decide +kernel
theorem dX12_readRule_102 : decode cX12_readRule 102 = .ok (.aload_n 0, 1) := by decide +kernel
theorem dX12_readRule_103 : decode cX12_readRule 103 = .ok (.invokevirtual 201, 3) := by decide +kernel
theorem dX12_readRule_106 : decode cX12_readRule 106 = .ok (.istore_n 3, 1) := by decide +kernel
theorem dX12_readRule_107 : decode cX12_readRule 107 = .ok (.iload_n 3, 1) := by decide +kernel
theorem dX12_readRule_108 : decode cX12_readRule 108 = .ok (.bipush (-9), 2) := by decide +kernel
theorem dX12_readRule_110 : decode cX12_readRule 110 = .ok (.if_icmp .eq 14, 3) := by decide +kernel
theorem dX12_readRule_113 : decode cX12_readRule 113 = .ok (.aload_n 0, 1) := by decide +kernel
theorem dX12_readRule_114 : decode cX12_readRule 114 = .ok (.getfield 144, 3) := by decide +kernel
theorem dX12_readRule_117 : decode cX12_readRule 117 = .ok (.aload_n 0, 1) := by decide +kernel
theorem dX12_readRule_118 : decode cX12_readRule 118 = .ok (.getfield 141, 3) := by decide +kernel
theorem dX12_readRule_121 : decode cX12_readRule 121 = .ok (.if_icmp .ge 8, 3) := by decide +kernel
theorem dX12_readRule_124 : decode cX12_readRule 124 = .ok (.aload_n 0, 1) := by decide +kernel
theorem dX12_readRule_125 : decode cX12_readRule 125 = .ok (.getfield 144, 3) := by decide +kernel
theorem dX12_readRule_128 : decode cX12_readRule 128 = .ok (.ireturn, 1) := by decide +kernel
theorem dX12_readRule_129 : decode cX12_readRule 129 = .ok (.iconst 0, 1) := by decide +kernel
theorem dX12_readRule_130 : decode cX12_readRule 130 = .ok (.istore 4, 2) := by decide +kernel
theorem dX12_readRule_132 : decode cX12_readRule 132 = .ok (.iload 4, 2) := by decide +kernel
theorem dX12_readRule_134 : decode cX12_readRule 134 = .ok (.bipush 10, 2) := by decide +kernel
theorem dX12_readRule_136 : decode cX12_readRule 136 = .ok (.if_icmp .ge 39, 3) := by decide +kernel
theorem dX12_readRule_139 : decode cX12_readRule 139 = .ok (.aload_n 0, 1) := by decide +kernel
theorem dX12_readRule_140 : decode cX12_readRule 140 = .ok (.getfield 78, 3) := by decide +kernel
theorem dX12_readRule_143 : decode cX12_readRule 143 = .ok (.iload 4, 2) := by decide +kernel
theorem dX12_readRule_145 : decode cX12_readRule 145 = .ok (.aload_n 0, 1) := by decide +kernel
theorem dX12_readRule_146 : decode cX12_readRule 146 = .ok (.getfield 78, 3) := by decide +kernel
theorem dX12_readRule_149 : decode cX12_readRule 149 = .ok (.iload 4, 2) := by decide +kernel
theorem dX12_readRule_151 : decode cX12_readRule 151 = .ok (.iaload, 1) := by decide +kernel
theorem dX12_readRule_152 : decode cX12_readRule 152 = .ok (.bipush (-9), 2) := by decide +kernel
theorem dX12_readRule_154 : decode cX12_readRule 154 = .ok (.if_icmp .ne 7, 3) := by decide +kernel
theorem dX12_readRule_157 : decode cX12_readRule 157 = .ok (.iload_n 3, 1) := by decide +kernel
theorem dX12_readRule_158 : decode cX12_readRule 158 = .ok (.goto 10, 3) := by decide +kernel
theorem dX12_readRule_161 : decode cX12_readRule 161 = .ok (.aload_n 0, 1) := by decide +kernel
theorem dX12_readRule_162 : decode cX12_readRule 162 = .ok (.getfield 78, 3) := by decide +kernel
theorem dX12_readRule_165 : decode cX12_readRule 165 = .ok (.iload 4, 2) := by decide +kernel
theorem dX12_readRule_167 : decode cX12_readRule 167 = .ok (.iaload, 1) := by decide +kernel
theorem dX12_readRule_168 : decode cX12_readRule 168 = .ok (.iastore, 1) := by decide +kernel
theorem dX12_readRule_169 : decode cX12_readRule 169 = .ok (.iinc 4 1, 3) := by decide +kernel
theorem dX12_readRule_172 : decode cX12_readRule 172 = .ok (.goto (-40), 3) := by decide +kernel
theorem dX12_readRule_175 : decode cX12_readRule 175 = .ok (.bipush (-9), 2) := by decide +kernel
theorem dX12_readRule_177 : decode cX12_readRule 177 = .ok (.ireturn, 1) := by decide +kernel
theorem dX12_fault_0 : decode cX12_fault 0 = .ok (.aload_n 0, 1) := by decide +kernel
theorem dX12_fault_1 : decode cX12_fault 1 = .ok (.iconst 0, 1) := by decide +kernel
theorem dX12_fault_2 : decode cX12_fault 2 = .ok (.putfield 118, 3) := by decide +kernel
theorem dX12_fault_5 : decode cX12_fault 5 = .ok (.iload_n 1, 1) := by decide +kernel
theorem dX12_fault_6 : decode cX12_fault 6 = .ok (.ifCond .eq 10, 3) := by decide +kernel
theorem dX12_fault_9 : decode cX12_fault 9 = .ok (.aload_n 0, 1) := by decide +kernel
theorem dX12_fault_10 : decode cX12_fault 10 = .ok (.invokevirtual 204, 3) := by decide +kernel
theorem dX12_fault_13 : decode cX12_fault 13 = .ok (.goto 7, 3) := by decide +kernel
theorem dX12_fault_16 : decode cX12_fault 16 = .ok (.aload_n 0, 1) := by decide +kernel
theorem dX12_fault_17 : decode cX12_fault 17 = .ok (.invokevirtual 207, 3) := by decide +kernel
theorem dX12_fault_20 : decode cX12_fault 20 = .ok (.ireturn, 1) := by decide +kernel
theorem dX12_make_0 : decode cX12_make 0 = .ok (.aload_n 0, 1) := by decide +kernel
theorem dX12_make_1 : decode cX12_make 1 = .ok (.iconst 0, 1) := by decide +kernel
theorem dX12_make_2 : decode cX12_make 2 = .ok (.putfield 118, 3) := by decide +kernel
theorem dX12_make_5 : decode cX12_make 5 = .ok (.aload_n 0, 1) := by decide +kernel
theorem dX12_make_6 : decode cX12_make 6 = .ok (.invokevirtual 207, 3) := by decide +kernel
theorem dX12_make_9 : decode cX12_make 9 = .ok (.bipush (-9), 2) := by decide +kernel
theorem dX12_make_11 : decode cX12_make 11 = .ok (.if_icmp .eq 6, 3) := by decide +kernel
theorem dX12_make_14 : decode cX12_make 14 = .ok (.bipush (-3), 2) := by decide +kernel
theorem dX12_make_16 : decode cX12_make 16 = .ok (.ireturn, 1) := by decide +kernel
theorem dX12_make_17 : decode cX12_make 17 = .ok (.aload_n 0, 1) := by decide +kernel
theorem dX12_make_18 : decode cX12_make 18 = .ok (.aload_n 0, 1) := by decide +kernel
theorem dX12_make_19 : decode cX12_make 19 = .ok (.getfield 150, 3) := by decide +kernel
theorem dX12_make_22 : decode cX12_make 22 = .ok (.putfield 13, 3) := by decide +kernel
theorem dX12_make_25 : decode cX12_make 25 = .ok (.aload_n 0, 1) := by decide +kernel
theorem dX12_make_26 : decode cX12_make 26 = .ok (.aload_n 0, 1) := by decide +kernel
theorem dX12_make_27 : decode cX12_make 27 = .ok (.getfield 192, 3) := by decide +kernel
theorem dX12_make_30 : decode cX12_make 30 = .ok (.putfield 210, 3) := by decide +kernel
theorem dX12_make_33 : decode cX12_make 33 = .ok (.aload_n 0, 1) := by decide +kernel
theorem dX12_make_34 : decode cX12_make 34 = .ok (.aload_n 0, 1) := by decide +kernel
theorem dX12_make_35 : decode cX12_make 35 = .ok (.getfield 147, 3) := by decide +kernel
theorem dX12_make_38 : decode cX12_make 38 = .ok (.putfield 136, 3) := by decide +kernel
theorem dX12_make_41 : decode cX12_make 41 = .ok (.iconst 0, 1) := by decide +kernel
theorem dX12_make_42 : decode cX12_make 42 = .ok (.istore_n 1, 1) := by decide +kernel
theorem dX12_make_43 : decode cX12_make 43 = .ok (.iload_n 1, 1) := by decide +kernel
theorem dX12_make_44 : decode cX12_make 44 = .ok (.bipush 8, 2) := by decide +kernel
theorem dX12_make_46 : decode cX12_make 46 = .ok (.if_icmp .ge 45, 3) := by decide +kernel
theorem dX12_make_49 : decode cX12_make 49 = .ok (.aload_n 0, 1) := by decide +kernel
theorem dX12_make_50 : decode cX12_make 50 = .ok (.getfield 17, 3) := by decide +kernel
theorem dX12_make_53 : decode cX12_make 53 = .ok (.iload_n 1, 1) := by decide +kernel
theorem dX12_make_54 : decode cX12_make 54 = .ok (.aload_n 0, 1) := by decide +kernel
theorem dX12_make_55 : decode cX12_make 55 = .ok (.getfield 45, 3) := by decide +kernel
theorem dX12_make_58 : decode cX12_make 58 = .ok (.iload_n 1, 1) := by decide +kernel
theorem dX12_make_59 : decode cX12_make 59 = .ok (.iaload, 1) := by decide +kernel
theorem dX12_make_60 : decode cX12_make 60 = .ok (.iastore, 1) := by decide +kernel
theorem dX12_make_61 : decode cX12_make 61 = .ok (.aload_n 0, 1) := by decide +kernel
theorem dX12_make_62 : decode cX12_make 62 = .ok (.getfield 20, 3) := by decide +kernel
theorem dX12_make_65 : decode cX12_make 65 = .ok (.iload_n 1, 1) := by decide +kernel
theorem dX12_make_66 : decode cX12_make 66 = .ok (.aload_n 0, 1) := by decide +kernel
theorem dX12_make_67 : decode cX12_make 67 = .ok (.getfield 48, 3) := by decide +kernel
theorem dX12_make_70 : decode cX12_make 70 = .ok (.iload_n 1, 1) := by decide +kernel
theorem dX12_make_71 : decode cX12_make 71 = .ok (.iaload, 1) := by decide +kernel
theorem dX12_make_72 : decode cX12_make 72 = .ok (.iastore, 1) := by decide +kernel
theorem dX12_make_73 : decode cX12_make 73 = .ok (.aload_n 0, 1) := by decide +kernel
theorem dX12_make_74 : decode cX12_make 74 = .ok (.getfield 23, 3) := by decide +kernel
theorem dX12_make_77 : decode cX12_make 77 = .ok (.iload_n 1, 1) := by decide +kernel
theorem dX12_make_78 : decode cX12_make 78 = .ok (.aload_n 0, 1) := by decide +kernel
theorem dX12_make_79 : decode cX12_make 79 = .ok (.getfield 51, 3) := by decide +kernel
theorem dX12_make_82 : decode cX12_make 82 = .ok (.iload_n 1, 1) := by decide +kernel
theorem dX12_make_83 : decode cX12_make 83 = .ok (.iaload, 1) := by decide +kernel
theorem dX12_make_84 : decode cX12_make 84 = .ok (.iastore, 1) := by decide +kernel
theorem dX12_make_85 : decode cX12_make 85 = .ok (.iinc 1 1, 3) := by decide +kernel
theorem dX12_make_88 : decode cX12_make 88 = .ok (.goto (-45), 3) := by decide +kernel
theorem dX12_make_91 : decode cX12_make 91 = .ok (.iconst 0, 1) := by decide +kernel
theorem dX12_make_92 : decode cX12_make 92 = .ok (.istore_n 1, 1) := by decide +kernel
theorem dX12_make_93 : decode cX12_make 93 = .ok (.iload_n 1, 1) := by decide +kernel
theorem dX12_make_94 : decode cX12_make 94 = .ok (.iconst 4, 1) := by decide +kernel
theorem dX12_make_95 : decode cX12_make 95 = .ok (.if_icmp .ge 69, 3) := by decide +kernel
theorem dX12_make_98 : decode cX12_make 98 = .ok (.aload_n 0, 1) := by decide +kernel
theorem dX12_make_99 : decode cX12_make 99 = .ok (.getfield 26, 3) := by decide +kernel
theorem dX12_make_102 : decode cX12_make 102 = .ok (.iload_n 1, 1) := by decide +kernel
theorem dX12_make_103 : decode cX12_make 103 = .ok (.aload_n 0, 1) := by decide +kernel
theorem dX12_make_104 : decode cX12_make 104 = .ok (.getfield 54, 3) := by decide +kernel
theorem dX12_make_107 : decode cX12_make 107 = .ok (.iload_n 1, 1) := by decide +kernel
theorem dX12_make_108 : decode cX12_make 108 = .ok (.baload, 1) := by decide +kernel
theorem dX12_make_109 : decode cX12_make 109 = .ok (.bastore, 1) := by decide +kernel
theorem dX12_make_110 : decode cX12_make 110 = .ok (.aload_n 0, 1) := by decide +kernel
theorem dX12_make_111 : decode cX12_make 111 = .ok (.getfield 30, 3) := by decide +kernel
theorem dX12_make_114 : decode cX12_make 114 = .ok (.iload_n 1, 1) := by decide +kernel
theorem dX12_make_115 : decode cX12_make 115 = .ok (.aload_n 0, 1) := by decide +kernel
theorem dX12_make_116 : decode cX12_make 116 = .ok (.getfield 57, 3) := by decide +kernel
theorem dX12_make_119 : decode cX12_make 119 = .ok (.iload_n 1, 1) := by decide +kernel
theorem dX12_make_120 : decode cX12_make 120 = .ok (.iaload, 1) := by decide +kernel
theorem dX12_make_121 : decode cX12_make 121 = .ok (.iastore, 1) := by decide +kernel
theorem dX12_make_122 : decode cX12_make 122 = .ok (.aload_n 0, 1) := by decide +kernel
theorem dX12_make_123 : decode cX12_make 123 = .ok (.getfield 33, 3) := by decide +kernel
theorem dX12_make_126 : decode cX12_make 126 = .ok (.iload_n 1, 1) := by decide +kernel
theorem dX12_make_127 : decode cX12_make 127 = .ok (.aload_n 0, 1) := by decide +kernel
theorem dX12_make_128 : decode cX12_make 128 = .ok (.getfield 60, 3) := by decide +kernel
theorem dX12_make_131 : decode cX12_make 131 = .ok (.iload_n 1, 1) := by decide +kernel
theorem dX12_make_132 : decode cX12_make 132 = .ok (.iaload, 1) := by decide +kernel
theorem dX12_make_133 : decode cX12_make 133 = .ok (.iastore, 1) := by decide +kernel
theorem dX12_make_134 : decode cX12_make 134 = .ok (.aload_n 0, 1) := by decide +kernel
theorem dX12_make_135 : decode cX12_make 135 = .ok (.getfield 36, 3) := by decide +kernel
theorem dX12_make_138 : decode cX12_make 138 = .ok (.iload_n 1, 1) := by decide +kernel
theorem dX12_make_139 : decode cX12_make 139 = .ok (.aload_n 0, 1) := by decide +kernel
theorem dX12_make_140 : decode cX12_make 140 = .ok (.getfield 66, 3) := by decide +kernel
theorem dX12_make_143 : decode cX12_make 143 = .ok (.iload_n 1, 1) := by decide +kernel
theorem dX12_make_144 : decode cX12_make 144 = .ok (.iaload, 1) := by decide +kernel
theorem dX12_make_145 : decode cX12_make 145 = .ok (.iastore, 1) := by decide +kernel
theorem dX12_make_146 : decode cX12_make 146 = .ok (.aload_n 0, 1) := by decide +kernel
theorem dX12_make_147 : decode cX12_make 147 = .ok (.getfield 39, 3) := by decide +kernel
theorem dX12_make_150 : decode cX12_make 150 = .ok (.iload_n 1, 1) := by decide +kernel
theorem dX12_make_151 : decode cX12_make 151 = .ok (.aload_n 0, 1) := by decide +kernel
theorem dX12_make_152 : decode cX12_make 152 = .ok (.getfield 69, 3) := by decide +kernel
theorem dX12_make_155 : decode cX12_make 155 = .ok (.iload_n 1, 1) := by decide +kernel
theorem dX12_make_156 : decode cX12_make 156 = .ok (.iaload, 1) := by decide +kernel
theorem dX12_make_157 : decode cX12_make 157 = .ok (.iastore, 1) := by decide +kernel
theorem dX12_make_158 : decode cX12_make 158 = .ok (.iinc 1 1, 3) := by decide +kernel
theorem dX12_make_161 : decode cX12_make 161 = .ok (.goto (-68), 3) := by decide +kernel
theorem dX12_make_164 : decode cX12_make 164 = .ok (.iconst 0, 1) := by decide +kernel
theorem dX12_make_165 : decode cX12_make 165 = .ok (.istore_n 1, 1) := by decide +kernel
theorem dX12_make_166 : decode cX12_make 166 = .ok (.iload_n 1, 1) := by decide +kernel
theorem dX12_make_167 : decode cX12_make 167 = .ok (.bipush 6, 2) := by decide +kernel
theorem dX12_make_169 : decode cX12_make 169 = .ok (.if_icmp .ge 36, 3) := by decide +kernel
theorem dX12_make_172 : decode cX12_make 172 = .ok (.aload_n 0, 1) := by decide +kernel
theorem dX12_make_173 : decode cX12_make 173 = .ok (.getfield 42, 3) := by decide +kernel
theorem dX12_make_176 : decode cX12_make 176 = .ok (.iload_n 1, 1) := by decide +kernel
theorem dX12_make_177 : decode cX12_make 177 = .ok (.aload_n 0, 1) := by decide +kernel
theorem dX12_make_178 : decode cX12_make 178 = .ok (.getfield 72, 3) := by decide +kernel
theorem dX12_make_181 : decode cX12_make 181 = .ok (.iload_n 1, 1) := by decide +kernel
theorem dX12_make_182 : decode cX12_make 182 = .ok (.iaload, 1) := by decide +kernel
theorem dX12_make_183 : decode cX12_make 183 = .ok (.bipush (-9), 2) := by decide +kernel
theorem dX12_make_185 : decode cX12_make 185 = .ok (.if_icmp .ne 7, 3) := by decide +kernel
theorem dX12_make_188 : decode cX12_make 188 = .ok (.iconst 0, 1) := by decide +kernel
theorem dX12_make_189 : decode cX12_make 189 = .ok (.goto 9, 3) := by decide +kernel
theorem dX12_make_192 : decode cX12_make 192 = .ok (.aload_n 0, 1) := by decide +kernel
theorem dX12_make_193 : decode cX12_make 193 = .ok (.getfield 72, 3) := by decide +kernel
theorem dX12_make_196 : decode cX12_make 196 = .ok (.iload_n 1, 1) := by decide +kernel
theorem dX12_make_197 : decode cX12_make 197 = .ok (.iaload, 1) := by decide +kernel
theorem dX12_make_198 : decode cX12_make 198 = .ok (.iastore, 1) := by decide +kernel
theorem dX12_make_199 : decode cX12_make 199 = .ok (.iinc 1 1, 3) := by decide +kernel
theorem dX12_make_202 : decode cX12_make 202 = .ok (.goto (-36), 3) := by decide +kernel
theorem dX12_make_205 : decode cX12_make 205 = .ok (.aload_n 0, 1) := by decide +kernel
theorem dX12_make_206 : decode cX12_make 206 = .ok (.invokevirtual 115, 3) := by decide +kernel
theorem dX12_make_209 : decode cX12_make 209 = .ok (.aload_n 0, 1) := by decide +kernel
theorem dX12_make_210 : decode cX12_make 210 = .ok (.getfield 13, 3) := by decide +kernel
theorem dX12_make_213 : decode cX12_make 213 = .ok (.ireturn, 1) := by decide +kernel
theorem dX12_rule_0 : decode cX12_rule 0 = .ok (.aload_n 0, 1) := by decide +kernel
theorem dX12_rule_1 : decode cX12_rule 1 = .ok (.iconst 0, 1) := by decide +kernel
theorem dX12_rule_2 : decode cX12_rule 2 = .ok (.putfield 118, 3) := by decide +kernel
theorem dX12_rule_5 : decode cX12_rule 5 = .ok (.iload_n 1, 1) := by decide +kernel
theorem dX12_rule_6 : decode cX12_rule 6 = .ok (.invokestatic 213, 3) := by decide +kernel
theorem dX12_rule_9 : decode cX12_rule 9 = .ok (.ifCond .eq 5, 3) := by decide +kernel
theorem dX12_rule_12 : decode cX12_rule 12 = .ok (.iconst (-1), 1) := by decide +kernel
theorem dX12_rule_13 : decode cX12_rule 13 = .ok (.ireturn, 1) := by decide +kernel
theorem dX12_rule_14 : decode cX12_rule 14 = .ok (.aload_n 0, 1) := by decide +kernel
theorem dX12_rule_15 : decode cX12_rule 15 = .ok (.invokevirtual 204, 3) := by decide +kernel
theorem dX12_rule_18 : decode cX12_rule 18 = .ok (.bipush (-9), 2) := by decide +kernel
theorem dX12_rule_20 : decode cX12_rule 20 = .ok (.if_icmp .eq 6, 3) := by decide +kernel
theorem dX12_rule_23 : decode cX12_rule 23 = .ok (.bipush (-3), 2) := by decide +kernel
theorem dX12_rule_25 : decode cX12_rule 25 = .ok (.ireturn, 1) := by decide +kernel
theorem dX12_rule_26 : decode cX12_rule 26 = .ok (.iconst 0, 1) := by decide +kernel
theorem dX12_rule_27 : decode cX12_rule 27 = .ok (.istore_n 2, 1) := by decide +kernel
theorem dX12_rule_28 : decode cX12_rule 28 = .ok (.iload_n 2, 1) := by decide +kernel
theorem dX12_rule_29 : decode cX12_rule 29 = .ok (.bipush 10, 2) := by decide +kernel
theorem dX12_rule_31 : decode cX12_rule 31 = .ok (.if_icmp .ge 26, 3) := by decide +kernel
theorem dX12_rule_34 : decode cX12_rule 34 = .ok (.aload_n 0, 1) := by decide +kernel
theorem dX12_rule_35 : decode cX12_rule 35 = .ok (.getfield 75, 3) := by decide +kernel
theorem dX12_rule_38 : decode cX12_rule 38 = .ok (.bipush 10, 2) := by decide +kernel
theorem dX12_rule_40 : decode cX12_rule 40 = .ok (.iload_n 1, 1) := by decide +kernel
theorem dX12_rule_41 : decode cX12_rule 41 = .ok (.imul, 1) := by decide +kernel
theorem dX12_rule_42 : decode cX12_rule 42 = .ok (.iload_n 2, 1) := by decide +kernel
theorem dX12_rule_43 : decode cX12_rule 43 = .ok (.iadd, 1) := by decide +kernel
theorem dX12_rule_44 : decode cX12_rule 44 = .ok (.aload_n 0, 1) := by decide +kernel
theorem dX12_rule_45 : decode cX12_rule 45 = .ok (.getfield 78, 3) := by decide +kernel
theorem dX12_rule_48 : decode cX12_rule 48 = .ok (.iload_n 2, 1) := by decide +kernel
theorem dX12_rule_49 : decode cX12_rule 49 = .ok (.iaload, 1) := by decide +kernel
theorem dX12_rule_50 : decode cX12_rule 50 = .ok (.iastore, 1) := by decide +kernel
theorem dX12_rule_51 : decode cX12_rule 51 = .ok (.iinc 2 1, 3) := by decide +kernel
theorem dX12_rule_54 : decode cX12_rule 54 = .ok (.goto (-26), 3) := by decide +kernel
theorem dX12_rule_57 : decode cX12_rule 57 = .ok (.aload_n 0, 1) := by decide +kernel
theorem dX12_rule_58 : decode cX12_rule 58 = .ok (.getfield 198, 3) := by decide +kernel
theorem dX12_rule_61 : decode cX12_rule 61 = .ok (.ireturn, 1) := by decide +kernel
theorem dX12_ruled_0 : decode cX12_ruled 0 = .ok (.aload_n 0, 1) := by decide +kernel
theorem dX12_ruled_1 : decode cX12_ruled 1 = .ok (.iconst 0, 1) := by decide +kernel
theorem dX12_ruled_2 : decode cX12_ruled 2 = .ok (.putfield 118, 3) := by decide +kernel
theorem dX12_ruled_5 : decode cX12_ruled 5 = .ok (.iload_n 1, 1) := by decide +kernel
theorem dX12_ruled_6 : decode cX12_ruled 6 = .ok (.invokestatic 213, 3) := by decide +kernel
theorem dX12_ruled_9 : decode cX12_ruled 9 = .ok (.ifCond .ne 10, 3) := by decide +kernel
theorem dX12_ruled_12 : decode cX12_ruled 12 = .ok (.iload_n 2, 1) := by decide +kernel
theorem dX12_ruled_13 : decode cX12_ruled 13 = .ok (.invokestatic 216, 3) := by decide +kernel
theorem dX12_ruled_16 : decode cX12_ruled 16 = .ok (.ifCond .eq 7, 3) := by decide +kernel
theorem dX12_ruled_19 : decode cX12_ruled 19 = .ok (.iconst (-1), 1) := by decide +kernel
theorem dX12_ruled_20 : decode cX12_ruled 20 = .ok (.goto 14, 3) := by decide +kernel
theorem dX12_ruled_23 : decode cX12_ruled 23 = .ok (.aload_n 0, 1) := by decide +kernel
theorem dX12_ruled_24 : decode cX12_ruled 24 = .ok (.getfield 75, 3) := by decide +kernel
theorem dX12_ruled_27 : decode cX12_ruled 27 = .ok (.bipush 10, 2) := by decide +kernel
theorem dX12_ruled_29 : decode cX12_ruled 29 = .ok (.iload_n 1, 1) := by decide +kernel
theorem dX12_ruled_30 : decode cX12_ruled 30 = .ok (.imul, 1) := by decide +kernel
theorem dX12_ruled_31 : decode cX12_ruled 31 = .ok (.iload_n 2, 1) := by decide +kernel
theorem dX12_ruled_32 : decode cX12_ruled 32 = .ok (.iadd, 1) := by decide +kernel
theorem dX12_ruled_33 : decode cX12_ruled 33 = .ok (.iaload, 1) := by decide +kernel
theorem dX12_ruled_34 : decode cX12_ruled 34 = .ok (.ireturn, 1) := by decide +kernel
theorem dX12_session_0 : decode cX12_session 0 = .ok (.aload_n 0, 1) := by decide +kernel
theorem dX12_session_1 : decode cX12_session 1 = .ok (.iconst 0, 1) := by decide +kernel
theorem dX12_session_2 : decode cX12_session 2 = .ok (.putfield 118, 3) := by decide +kernel
theorem dX12_session_5 : decode cX12_session 5 = .ok (.aload_n 0, 1) := by decide +kernel
theorem dX12_session_6 : decode cX12_session 6 = .ok (.iload_n 1, 1) := by decide +kernel
theorem dX12_session_7 : decode cX12_session 7 = .ok (.invokevirtual 219, 3) := by decide +kernel
theorem dX12_session_10 : decode cX12_session 10 = .ok (.ifCond .eq 5, 3) := by decide +kernel
theorem dX12_session_13 : decode cX12_session 13 = .ok (.iconst (-1), 1) := by decide +kernel
theorem dX12_session_14 : decode cX12_session 14 = .ok (.ireturn, 1) := by decide +kernel
theorem dX12_session_15 : decode cX12_session 15 = .ok (.iload_n 2, 1) := by decide +kernel
theorem dX12_session_16 : decode cX12_session 16 = .ok (.ifCond .ne 12, 3) := by decide +kernel
theorem dX12_session_19 : decode cX12_session 19 = .ok (.aload_n 0, 1) := by decide +kernel
theorem dX12_session_20 : decode cX12_session 20 = .ok (.getfield 17, 3) := by decide +kernel
theorem dX12_session_23 : decode cX12_session 23 = .ok (.iload_n 1, 1) := by decide +kernel
theorem dX12_session_24 : decode cX12_session 24 = .ok (.iaload, 1) := by decide +kernel
theorem dX12_session_25 : decode cX12_session 25 = .ok (.goto 33, 3) := by decide +kernel
theorem dX12_session_28 : decode cX12_session 28 = .ok (.iload_n 2, 1) := by decide +kernel
theorem dX12_session_29 : decode cX12_session 29 = .ok (.iconst 1, 1) := by decide +kernel
theorem dX12_session_30 : decode cX12_session 30 = .ok (.if_icmp .ne 12, 3) := by decide +kernel
theorem dX12_session_33 : decode cX12_session 33 = .ok (.aload_n 0, 1) := by decide +kernel
theorem dX12_session_34 : decode cX12_session 34 = .ok (.getfield 20, 3) := by decide +kernel
theorem dX12_session_37 : decode cX12_session 37 = .ok (.iload_n 1, 1) := by decide +kernel
theorem dX12_session_38 : decode cX12_session 38 = .ok (.iaload, 1) := by decide +kernel
theorem dX12_session_39 : decode cX12_session 39 = .ok (.goto 19, 3) := by decide +kernel
theorem dX12_session_42 : decode cX12_session 42 = .ok (.iload_n 2, 1) := by decide +kernel
theorem dX12_session_43 : decode cX12_session 43 = .ok (.iconst 2, 1) := by decide +kernel
theorem dX12_session_44 : decode cX12_session 44 = .ok (.if_icmp .ne 12, 3) := by decide +kernel
theorem dX12_session_47 : decode cX12_session 47 = .ok (.aload_n 0, 1) := by decide +kernel
theorem dX12_session_48 : decode cX12_session 48 = .ok (.getfield 23, 3) := by decide +kernel
theorem dX12_session_51 : decode cX12_session 51 = .ok (.iload_n 1, 1) := by decide +kernel
theorem dX12_session_52 : decode cX12_session 52 = .ok (.iaload, 1) := by decide +kernel
theorem dX12_session_53 : decode cX12_session 53 = .ok (.goto 5, 3) := by decide +kernel
theorem dX12_session_56 : decode cX12_session 56 = .ok (.bipush (-2), 2) := by decide +kernel
theorem dX12_session_58 : decode cX12_session 58 = .ok (.ireturn, 1) := by decide +kernel
theorem dX12_place_0 : decode cX12_place 0 = .ok (.aload_n 0, 1) := by decide +kernel
theorem dX12_place_1 : decode cX12_place 1 = .ok (.iconst 0, 1) := by decide +kernel
theorem dX12_place_2 : decode cX12_place 2 = .ok (.putfield 118, 3) := by decide +kernel
theorem dX12_place_5 : decode cX12_place 5 = .ok (.iload_n 1, 1) := by decide +kernel
theorem dX12_place_6 : decode cX12_place 6 = .ok (.i2l, 1) := by decide +kernel
theorem dX12_place_7 : decode cX12_place 7 = .ok (.lconst 0, 1) := by decide +kernel
theorem dX12_place_8 : decode cX12_place 8 = .ok (.ldc2_w 132, 3) := by decide +kernel
theorem dX12_place_11 : decode cX12_place 11 = .ok (.invokestatic 126, 3) := by decide +kernel
theorem dX12_place_14 : decode cX12_place 14 = .ok (.ifCond .eq 12, 3) := by decide +kernel
theorem dX12_place_17 : decode cX12_place 17 = .ok (.aload_n 0, 1) := by decide +kernel
theorem dX12_place_18 : decode cX12_place 18 = .ok (.getfield 26, 3) := by decide +kernel
theorem dX12_place_21 : decode cX12_place 21 = .ok (.iload_n 1, 1) := by decide +kernel
theorem dX12_place_22 : decode cX12_place 22 = .ok (.baload, 1) := by decide +kernel
theorem dX12_place_23 : decode cX12_place 23 = .ok (.ifCond .ne 5, 3) := by decide +kernel
theorem dX12_place_26 : decode cX12_place 26 = .ok (.iconst (-1), 1) := by decide +kernel
theorem dX12_place_27 : decode cX12_place 27 = .ok (.ireturn, 1) := by decide +kernel
theorem dX12_place_28 : decode cX12_place 28 = .ok (.iload_n 2, 1) := by decide +kernel
theorem dX12_place_29 : decode cX12_place 29 = .ok (.ifCond .ne 12, 3) := by decide +kernel
theorem dX12_place_32 : decode cX12_place 32 = .ok (.aload_n 0, 1) := by decide +kernel
theorem dX12_place_33 : decode cX12_place 33 = .ok (.getfield 30, 3) := by decide +kernel
theorem dX12_place_36 : decode cX12_place 36 = .ok (.iload_n 1, 1) := by decide +kernel
theorem dX12_place_37 : decode cX12_place 37 = .ok (.iaload, 1) := by decide +kernel
theorem dX12_place_38 : decode cX12_place 38 = .ok (.goto 47, 3) := by decide +kernel
theorem dX12_place_41 : decode cX12_place 41 = .ok (.iload_n 2, 1) := by decide +kernel
theorem dX12_place_42 : decode cX12_place 42 = .ok (.iconst 1, 1) := by decide +kernel
theorem dX12_place_43 : decode cX12_place 43 = .ok (.if_icmp .ne 12, 3) := by decide +kernel
theorem dX12_place_46 : decode cX12_place 46 = .ok (.aload_n 0, 1) := by decide +kernel
theorem dX12_place_47 : decode cX12_place 47 = .ok (.getfield 33, 3) := by decide +kernel
theorem dX12_place_50 : decode cX12_place 50 = .ok (.iload_n 1, 1) := by decide +kernel
theorem dX12_place_51 : decode cX12_place 51 = .ok (.iaload, 1) := by decide +kernel
theorem dX12_place_52 : decode cX12_place 52 = .ok (.goto 33, 3) := by decide +kernel
theorem dX12_place_55 : decode cX12_place 55 = .ok (.iload_n 2, 1) := by decide +kernel
theorem dX12_place_56 : decode cX12_place 56 = .ok (.iconst 2, 1) := by decide +kernel
theorem dX12_place_57 : decode cX12_place 57 = .ok (.if_icmp .ne 12, 3) := by decide +kernel
theorem dX12_place_60 : decode cX12_place 60 = .ok (.aload_n 0, 1) := by decide +kernel
theorem dX12_place_61 : decode cX12_place 61 = .ok (.getfield 36, 3) := by decide +kernel
theorem dX12_place_64 : decode cX12_place 64 = .ok (.iload_n 1, 1) := by decide +kernel
theorem dX12_place_65 : decode cX12_place 65 = .ok (.iaload, 1) := by decide +kernel
theorem dX12_place_66 : decode cX12_place 66 = .ok (.goto 19, 3) := by decide +kernel
theorem dX12_place_69 : decode cX12_place 69 = .ok (.iload_n 2, 1) := by decide +kernel
theorem dX12_place_70 : decode cX12_place 70 = .ok (.iconst 3, 1) := by decide +kernel
theorem dX12_place_71 : decode cX12_place 71 = .ok (.if_icmp .ne 12, 3) := by decide +kernel
theorem dX12_place_74 : decode cX12_place 74 = .ok (.aload_n 0, 1) := by decide +kernel
theorem dX12_place_75 : decode cX12_place 75 = .ok (.getfield 39, 3) := by decide +kernel
theorem dX12_place_78 : decode cX12_place 78 = .ok (.iload_n 1, 1) := by decide +kernel
theorem dX12_place_79 : decode cX12_place 79 = .ok (.iaload, 1) := by decide +kernel
theorem dX12_place_80 : decode cX12_place 80 = .ok (.goto 5, 3) := by decide +kernel
theorem dX12_place_83 : decode cX12_place 83 = .ok (.bipush (-2), 2) := by decide +kernel
theorem dX12_place_85 : decode cX12_place 85 = .ok (.ireturn, 1) := by decide +kernel
theorem dX12_home_0 : decode cX12_home 0 = .ok (.aload_n 0, 1) := by decide +kernel
theorem dX12_home_1 : decode cX12_home 1 = .ok (.iconst 0, 1) := by decide +kernel
theorem dX12_home_2 : decode cX12_home 2 = .ok (.putfield 118, 3) := by decide +kernel
theorem dX12_home_5 : decode cX12_home 5 = .ok (.iload_n 1, 1) := by decide +kernel
theorem dX12_home_6 : decode cX12_home 6 = .ok (.i2l, 1) := by decide +kernel
theorem dX12_home_7 : decode cX12_home 7 = .ok (.lconst 0, 1) := by decide +kernel
theorem dX12_home_8 : decode cX12_home 8 = .ok (.aload_n 0, 1) := by decide +kernel
theorem dX12_home_9 : decode cX12_home 9 = .ok (.getfield 13, 3) := by decide +kernel
theorem dX12_home_12 : decode cX12_home 12 = .ok (.iconst 1, 1) := by decide +kernel
theorem dX12_home_13 : decode cX12_home 13 = .ok (.isub, 1) := by decide +kernel
theorem dX12_home_14 : decode cX12_home 14 = .ok (.i2l, 1) := by decide +kernel
theorem dX12_home_15 : decode cX12_home 15 = .ok (.invokestatic 126, 3) := by decide +kernel
theorem dX12_home_18 : decode cX12_home 18 = .ok (.ifCond .eq 12, 3) := by decide +kernel
theorem dX12_home_21 : decode cX12_home 21 = .ok (.aload_n 0, 1) := by decide +kernel
theorem dX12_home_22 : decode cX12_home 22 = .ok (.getfield 42, 3) := by decide +kernel
theorem dX12_home_25 : decode cX12_home 25 = .ok (.iload_n 1, 1) := by decide +kernel
theorem dX12_home_26 : decode cX12_home 26 = .ok (.iaload, 1) := by decide +kernel
theorem dX12_home_27 : decode cX12_home 27 = .ok (.goto 4, 3) := by decide +kernel
theorem dX12_home_30 : decode cX12_home 30 = .ok (.iconst (-1), 1) := by decide +kernel
theorem dX12_home_31 : decode cX12_home 31 = .ok (.ireturn, 1) := by decide +kernel
theorem dX12_own_0 : decode cX12_own 0 = .ok (.aload_n 0, 1) := by decide +kernel
theorem dX12_own_1 : decode cX12_own 1 = .ok (.iconst 0, 1) := by decide +kernel
theorem dX12_own_2 : decode cX12_own 2 = .ok (.putfield 118, 3) := by decide +kernel
theorem dX12_own_5 : decode cX12_own 5 = .ok (.iload_n 1, 1) := by decide +kernel
theorem dX12_own_6 : decode cX12_own 6 = .ok (.i2l, 1) := by decide +kernel
theorem dX12_own_7 : decode cX12_own 7 = .ok (.lconst 0, 1) := by decide +kernel
theorem dX12_own_8 : decode cX12_own 8 = .ok (.iconst 1, 1) := by decide +kernel
theorem dX12_own_9 : decode cX12_own 9 = .ok (.aload_n 0, 1) := by decide +kernel
theorem dX12_own_10 : decode cX12_own 10 = .ok (.getfield 13, 3) := by decide +kernel
theorem dX12_own_13 : decode cX12_own 13 = .ok (.ishl, 1) := by decide +kernel
theorem dX12_own_14 : decode cX12_own 14 = .ok (.iconst 1, 1) := by decide +kernel
theorem dX12_own_15 : decode cX12_own 15 = .ok (.isub, 1) := by decide +kernel
theorem dX12_own_16 : decode cX12_own 16 = .ok (.i2l, 1) := by decide +kernel
theorem dX12_own_17 : decode cX12_own 17 = .ok (.invokestatic 126, 3) := by decide +kernel
theorem dX12_own_20 : decode cX12_own 20 = .ok (.ifCond .ne 6, 3) := by decide +kernel
theorem dX12_own_23 : decode cX12_own 23 = .ok (.bipush (-2), 2) := by decide +kernel
theorem dX12_own_25 : decode cX12_own 25 = .ok (.ireturn, 1) := by decide +kernel
theorem dX12_own_26 : decode cX12_own 26 = .ok (.aload_n 0, 1) := by decide +kernel
theorem dX12_own_27 : decode cX12_own 27 = .ok (.getfield 121, 3) := by decide +kernel
theorem dX12_own_30 : decode cX12_own 30 = .ok (.istore_n 2, 1) := by decide +kernel
theorem dX12_own_31 : decode cX12_own 31 = .ok (.aload_n 0, 1) := by decide +kernel
theorem dX12_own_32 : decode cX12_own 32 = .ok (.iload_n 1, 1) := by decide +kernel
theorem dX12_own_33 : decode cX12_own 33 = .ok (.putfield 121, 3) := by decide +kernel
theorem dX12_own_36 : decode cX12_own 36 = .ok (.iload_n 2, 1) := by decide +kernel
theorem dX12_own_37 : decode cX12_own 37 = .ok (.ireturn, 1) := by decide +kernel
theorem dX12_isOpen_0 : decode cX12_isOpen 0 = .ok (.aload_n 0, 1) := by decide +kernel
theorem dX12_isOpen_1 : decode cX12_isOpen 1 = .ok (.getfield 26, 3) := by decide +kernel
theorem dX12_isOpen_4 : decode cX12_isOpen 4 = .ok (.iload_n 1, 1) := by decide +kernel
theorem dX12_isOpen_5 : decode cX12_isOpen 5 = .ok (.baload, 1) := by decide +kernel
theorem dX12_isOpen_6 : decode cX12_isOpen 6 = .ok (.ifCond .eq 29, 3) := by decide +kernel
theorem dX12_isOpen_9 : decode cX12_isOpen 9 = .ok (.iload_n 2, 1) := by decide +kernel
theorem dX12_isOpen_10 : decode cX12_isOpen 10 = .ok (.i2l, 1) := by decide +kernel
theorem dX12_isOpen_11 : decode cX12_isOpen 11 = .ok (.aload_n 0, 1) := by decide +kernel
theorem dX12_isOpen_12 : decode cX12_isOpen 12 = .ok (.getfield 36, 3) := by decide +kernel
theorem dX12_isOpen_15 : decode cX12_isOpen 15 = .ok (.iload_n 1, 1) := by decide +kernel
theorem dX12_isOpen_16 : decode cX12_isOpen 16 = .ok (.iaload, 1) := by decide +kernel
theorem dX12_isOpen_17 : decode cX12_isOpen 17 = .ok (.i2l, 1) := by decide +kernel
theorem dX12_isOpen_18 : decode cX12_isOpen 18 = .ok (.aload_n 0, 1) := by decide +kernel
theorem dX12_isOpen_19 : decode cX12_isOpen 19 = .ok (.getfield 39, 3) := by decide +kernel
theorem dX12_isOpen_22 : decode cX12_isOpen 22 = .ok (.iload_n 1, 1) := by decide +kernel
theorem dX12_isOpen_23 : decode cX12_isOpen 23 = .ok (.iaload, 1) := by decide +kernel
theorem dX12_isOpen_24 : decode cX12_isOpen 24 = .ok (.i2l, 1) := by decide +kernel
theorem dX12_isOpen_25 : decode cX12_isOpen 25 = .ok (.invokestatic 126, 3) := by decide +kernel
theorem dX12_isOpen_28 : decode cX12_isOpen 28 = .ok (.ifCond .eq 7, 3) := by decide +kernel
theorem dX12_isOpen_31 : decode cX12_isOpen 31 = .ok (.iconst 1, 1) := by decide +kernel
theorem dX12_isOpen_32 : decode cX12_isOpen 32 = .ok (.goto 4, 3) := by decide +kernel
theorem dX12_isOpen_35 : decode cX12_isOpen 35 = .ok (.iconst 0, 1) := by decide +kernel
theorem dX12_isOpen_36 : decode cX12_isOpen 36 = .ok (.ireturn, 1) := by decide +kernel
theorem dX12_comes_0 : decode cX12_comes 0 = .ok (.aload_n 0, 1) := by decide +kernel
theorem dX12_comes_1 : decode cX12_comes 1 = .ok (.getfield 222, 3) := by decide +kernel
theorem dX12_comes_4 : decode cX12_comes 4 = .ok (.ifCond .ne 20, 3) := by decide +kernel
theorem dX12_comes_7 : decode cX12_comes 7 = .ok (.aload_n 0, 1) := by decide +kernel
theorem dX12_comes_8 : decode cX12_comes 8 = .ok (.getfield 121, 3) := by decide +kernel
theorem dX12_comes_11 : decode cX12_comes 11 = .ok (.aload_n 0, 1) := by decide +kernel
theorem dX12_comes_12 : decode cX12_comes 12 = .ok (.getfield 17, 3) := by decide +kernel
theorem dX12_comes_15 : decode cX12_comes 15 = .ok (.iload_n 1, 1) := by decide +kernel
theorem dX12_comes_16 : decode cX12_comes 16 = .ok (.iaload, 1) := by decide +kernel
theorem dX12_comes_17 : decode cX12_comes 17 = .ok (.ishr, 1) := by decide +kernel
theorem dX12_comes_18 : decode cX12_comes 18 = .ok (.iconst 1, 1) := by decide +kernel
theorem dX12_comes_19 : decode cX12_comes 19 = .ok (.iand, 1) := by decide +kernel
theorem dX12_comes_20 : decode cX12_comes 20 = .ok (.iconst 1, 1) := by decide +kernel
theorem dX12_comes_21 : decode cX12_comes 21 = .ok (.if_icmp .ne 5, 3) := by decide +kernel
theorem dX12_comes_24 : decode cX12_comes 24 = .ok (.iconst 1, 1) := by decide +kernel
theorem dX12_comes_25 : decode cX12_comes 25 = .ok (.ireturn, 1) := by decide +kernel
theorem dX12_comes_26 : decode cX12_comes 26 = .ok (.aload_n 0, 1) := by decide +kernel
theorem dX12_comes_27 : decode cX12_comes 27 = .ok (.getfield 224, 3) := by decide +kernel
theorem dX12_comes_30 : decode cX12_comes 30 = .ok (.bipush 10, 2) := by decide +kernel
theorem dX12_comes_32 : decode cX12_comes 32 = .ok (.aload_n 0, 1) := by decide +kernel
theorem dX12_comes_33 : decode cX12_comes 33 = .ok (.getfield 17, 3) := by decide +kernel
theorem dX12_comes_36 : decode cX12_comes 36 = .ok (.iload_n 1, 1) := by decide +kernel
theorem dX12_comes_37 : decode cX12_comes 37 = .ok (.iaload, 1) := by decide +kernel
theorem dX12_comes_38 : decode cX12_comes 38 = .ok (.iadd, 1) := by decide +kernel
theorem dX12_comes_39 : decode cX12_comes 39 = .ok (.if_icmp .ne 11, 3) := by decide +kernel
theorem dX12_comes_42 : decode cX12_comes 42 = .ok (.aload_n 0, 1) := by decide +kernel
theorem dX12_comes_43 : decode cX12_comes 43 = .ok (.bipush 20, 2) := by decide +kernel
theorem dX12_comes_45 : decode cX12_comes 45 = .ok (.putfield 224, 3) := by decide +kernel
theorem dX12_comes_48 : decode cX12_comes 48 = .ok (.iconst 1, 1) := by decide +kernel
theorem dX12_comes_49 : decode cX12_comes 49 = .ok (.ireturn, 1) := by decide +kernel
theorem dX12_comes_50 : decode cX12_comes 50 = .ok (.aload_n 0, 1) := by decide +kernel
theorem dX12_comes_51 : decode cX12_comes 51 = .ok (.getfield 224, 3) := by decide +kernel
theorem dX12_comes_54 : decode cX12_comes 54 = .ok (.iconst 4, 1) := by decide +kernel
theorem dX12_comes_55 : decode cX12_comes 55 = .ok (.if_icmp .ge 41, 3) := by decide +kernel
theorem dX12_comes_58 : decode cX12_comes 58 = .ok (.aload_n 0, 1) := by decide +kernel
theorem dX12_comes_59 : decode cX12_comes 59 = .ok (.aload_n 0, 1) := by decide +kernel
theorem dX12_comes_60 : decode cX12_comes 60 = .ok (.getfield 224, 3) := by decide +kernel
theorem dX12_comes_63 : decode cX12_comes 63 = .ok (.iload_n 2, 1) := by decide +kernel
theorem dX12_comes_64 : decode cX12_comes 64 = .ok (.invokevirtual 227, 3) := by decide +kernel
theorem dX12_comes_67 : decode cX12_comes 67 = .ok (.ifCond .eq 29, 3) := by decide +kernel
theorem dX12_comes_70 : decode cX12_comes 70 = .ok (.aload_n 0, 1) := by decide +kernel
theorem dX12_comes_71 : decode cX12_comes 71 = .ok (.dup, 1) := by decide +kernel
theorem dX12_comes_72 : decode cX12_comes 72 = .ok (.getfield 231, 3) := by decide +kernel
theorem dX12_comes_75 : decode cX12_comes 75 = .ok (.aload_n 0, 1) := by decide +kernel
theorem dX12_comes_76 : decode cX12_comes 76 = .ok (.getfield 30, 3) := by decide +kernel
theorem dX12_comes_79 : decode cX12_comes 79 = .ok (.aload_n 0, 1) := by decide +kernel
theorem dX12_comes_80 : decode cX12_comes 80 = .ok (.getfield 224, 3) := by decide +kernel
theorem dX12_comes_83 : decode cX12_comes 83 = .ok (.iaload, 1) := by decide +kernel
theorem dX12_comes_84 : decode cX12_comes 84 = .ok (.iadd, 1) := by decide +kernel
theorem dX12_comes_85 : decode cX12_comes 85 = .ok (.putfield 231, 3) := by decide +kernel
theorem dX12_comes_88 : decode cX12_comes 88 = .ok (.aload_n 0, 1) := by decide +kernel
theorem dX12_comes_89 : decode cX12_comes 89 = .ok (.bipush 20, 2) := by decide +kernel
theorem dX12_comes_91 : decode cX12_comes 91 = .ok (.putfield 224, 3) := by decide +kernel
theorem dX12_comes_94 : decode cX12_comes 94 = .ok (.iconst 1, 1) := by decide +kernel
theorem dX12_comes_95 : decode cX12_comes 95 = .ok (.ireturn, 1) := by decide +kernel
theorem dX12_comes_96 : decode cX12_comes 96 = .ok (.iconst 0, 1) := by decide +kernel
theorem dX12_comes_97 : decode cX12_comes 97 = .ok (.ireturn, 1) := by decide +kernel
theorem dX12_firstAt_0 : decode cX12_firstAt 0 = .ok (.bipush (-9), 2) := by decide +kernel
theorem dX12_firstAt_2 : decode cX12_firstAt 2 = .ok (.istore_n 2, 1) := by decide +kernel
theorem dX12_firstAt_3 : decode cX12_firstAt 3 = .ok (.aload_n 0, 1) := by decide +kernel
theorem dX12_firstAt_4 : decode cX12_firstAt 4 = .ok (.getfield 136, 3) := by decide +kernel
theorem dX12_firstAt_7 : decode cX12_firstAt 7 = .ok (.iconst 1, 1) := by decide +kernel
theorem dX12_firstAt_8 : decode cX12_firstAt 8 = .ok (.isub, 1) := by decide +kernel
theorem dX12_firstAt_9 : decode cX12_firstAt 9 = .ok (.istore_n 3, 1) := by decide +kernel
theorem dX12_firstAt_10 : decode cX12_firstAt 10 = .ok (.iload_n 3, 1) := by decide +kernel
theorem dX12_firstAt_11 : decode cX12_firstAt 11 = .ok (.ifCond .lt 25, 3) := by decide +kernel
theorem dX12_firstAt_14 : decode cX12_firstAt 14 = .ok (.aload_n 0, 1) := by decide +kernel
theorem dX12_firstAt_15 : decode cX12_firstAt 15 = .ok (.getfield 20, 3) := by decide +kernel
theorem dX12_firstAt_18 : decode cX12_firstAt 18 = .ok (.iload_n 3, 1) := by decide +kernel
theorem dX12_firstAt_19 : decode cX12_firstAt 19 = .ok (.iaload, 1) := by decide +kernel
theorem dX12_firstAt_20 : decode cX12_firstAt 20 = .ok (.iload_n 1, 1) := by decide +kernel
theorem dX12_firstAt_21 : decode cX12_firstAt 21 = .ok (.if_icmp .ne 7, 3) := by decide +kernel
theorem dX12_firstAt_24 : decode cX12_firstAt 24 = .ok (.iload_n 3, 1) := by decide +kernel
theorem dX12_firstAt_25 : decode cX12_firstAt 25 = .ok (.goto 4, 3) := by decide +kernel
theorem dX12_firstAt_28 : decode cX12_firstAt 28 = .ok (.iload_n 2, 1) := by decide +kernel
theorem dX12_firstAt_29 : decode cX12_firstAt 29 = .ok (.istore_n 2, 1) := by decide +kernel
theorem dX12_firstAt_30 : decode cX12_firstAt 30 = .ok (.iinc 3 (-1), 3) := by decide +kernel
theorem dX12_firstAt_33 : decode cX12_firstAt 33 = .ok (.goto (-23), 3) := by decide +kernel
theorem dX12_firstAt_36 : decode cX12_firstAt 36 = .ok (.iload_n 2, 1) := by decide +kernel
theorem dX12_firstAt_37 : decode cX12_firstAt 37 = .ok (.ireturn, 1) := by decide +kernel
theorem dX12_leave_0 : decode cX12_leave 0 = .ok (.aload_n 0, 1) := by decide +kernel
theorem dX12_leave_1 : decode cX12_leave 1 = .ok (.iconst 1, 1) := by decide +kernel
theorem dX12_leave_2 : decode cX12_leave 2 = .ok (.putfield 234, 3) := by decide +kernel
theorem dX12_leave_5 : decode cX12_leave 5 = .ok (.iload_n 3, 1) := by decide +kernel
theorem dX12_leave_6 : decode cX12_leave 6 = .ok (.iconst 5, 1) := by decide +kernel
theorem dX12_leave_7 : decode cX12_leave 7 = .ok (.if_icmp .eq 17, 3) := by decide +kernel
theorem dX12_leave_10 : decode cX12_leave 10 = .ok (.iload_n 3, 1) := by decide +kernel
theorem dX12_leave_11 : decode cX12_leave 11 = .ok (.iconst 4, 1) := by decide +kernel
theorem dX12_leave_12 : decode cX12_leave 12 = .ok (.if_icmp .ge 16, 3) := by decide +kernel
theorem dX12_leave_15 : decode cX12_leave 15 = .ok (.aload_n 0, 1) := by decide +kernel
theorem dX12_leave_16 : decode cX12_leave 16 = .ok (.iload_n 3, 1) := by decide +kernel
theorem dX12_leave_17 : decode cX12_leave 17 = .ok (.iload_n 2, 1) := by decide +kernel
theorem dX12_leave_18 : decode cX12_leave 18 = .ok (.invokevirtual 227, 3) := by decide +kernel
theorem dX12_leave_21 : decode cX12_leave 21 = .ok (.ifCond .eq 7, 3) := by decide +kernel
theorem dX12_leave_24 : decode cX12_leave 24 = .ok (.iconst 1, 1) := by decide +kernel
theorem dX12_leave_25 : decode cX12_leave 25 = .ok (.goto 4, 3) := by decide +kernel
theorem dX12_leave_28 : decode cX12_leave 28 = .ok (.iconst 0, 1) := by decide +kernel
theorem dX12_leave_29 : decode cX12_leave 29 = .ok (.istore 5, 2) := by decide +kernel
theorem dX12_leave_31 : decode cX12_leave 31 = .ok (.aload_n 0, 1) := by decide +kernel
theorem dX12_leave_32 : decode cX12_leave 32 = .ok (.iload 5, 2) := by decide +kernel
theorem dX12_leave_34 : decode cX12_leave 34 = .ok (.putfield 238, 3) := by decide +kernel
theorem dX12_leave_37 : decode cX12_leave 37 = .ok (.iload 5, 2) := by decide +kernel
theorem dX12_leave_39 : decode cX12_leave 39 = .ok (.ifCond .eq 8, 3) := by decide +kernel
theorem dX12_leave_42 : decode cX12_leave 42 = .ok (.iload 4, 2) := by decide +kernel
theorem dX12_leave_44 : decode cX12_leave 44 = .ok (.ifCond .eq 19, 3) := by decide +kernel
theorem dX12_leave_47 : decode cX12_leave 47 = .ok (.aload_n 0, 1) := by decide +kernel
theorem dX12_leave_48 : decode cX12_leave 48 = .ok (.bipush 10, 2) := by decide +kernel
theorem dX12_leave_50 : decode cX12_leave 50 = .ok (.aload_n 0, 1) := by decide +kernel
theorem dX12_leave_51 : decode cX12_leave 51 = .ok (.getfield 17, 3) := by decide +kernel
theorem dX12_leave_54 : decode cX12_leave 54 = .ok (.iload_n 1, 1) := by decide +kernel
theorem dX12_leave_55 : decode cX12_leave 55 = .ok (.iaload, 1) := by decide +kernel
theorem dX12_leave_56 : decode cX12_leave 56 = .ok (.iadd, 1) := by decide +kernel
theorem dX12_leave_57 : decode cX12_leave 57 = .ok (.putfield 224, 3) := by decide +kernel
theorem dX12_leave_60 : decode cX12_leave 60 = .ok (.goto 106, 3) := by decide +kernel
theorem dX12_leave_63 : decode cX12_leave 63 = .ok (.iload_n 3, 1) := by decide +kernel
theorem dX12_leave_64 : decode cX12_leave 64 = .ok (.iconst 4, 1) := by decide +kernel
theorem dX12_leave_65 : decode cX12_leave 65 = .ok (.if_icmp .ge 26, 3) := by decide +kernel
theorem dX12_leave_68 : decode cX12_leave 68 = .ok (.aload_n 0, 1) := by decide +kernel
theorem dX12_leave_69 : decode cX12_leave 69 = .ok (.iload_n 3, 1) := by decide +kernel
theorem dX12_leave_70 : decode cX12_leave 70 = .ok (.putfield 224, 3) := by decide +kernel
theorem dX12_leave_73 : decode cX12_leave 73 = .ok (.aload_n 0, 1) := by decide +kernel
theorem dX12_leave_74 : decode cX12_leave 74 = .ok (.dup, 1) := by decide +kernel
theorem dX12_leave_75 : decode cX12_leave 75 = .ok (.getfield 231, 3) := by decide +kernel
theorem dX12_leave_78 : decode cX12_leave 78 = .ok (.aload_n 0, 1) := by decide +kernel
theorem dX12_leave_79 : decode cX12_leave 79 = .ok (.getfield 30, 3) := by decide +kernel
theorem dX12_leave_82 : decode cX12_leave 82 = .ok (.iload_n 3, 1) := by decide +kernel
theorem dX12_leave_83 : decode cX12_leave 83 = .ok (.iaload, 1) := by decide +kernel
theorem dX12_leave_84 : decode cX12_leave 84 = .ok (.iadd, 1) := by decide +kernel
theorem dX12_leave_85 : decode cX12_leave 85 = .ok (.putfield 231, 3) := by decide +kernel
theorem dX12_leave_88 : decode cX12_leave 88 = .ok (.goto 78, 3) := by decide +kernel
theorem dX12_leave_91 : decode cX12_leave 91 = .ok (.bipush (-9), 2) := by decide +kernel
theorem dX12_leave_93 : decode cX12_leave 93 = .ok (.istore 6, 2) := by decide +kernel
theorem dX12_leave_95 : decode cX12_leave 95 = .ok (.iconst 1, 1) := by decide +kernel
theorem dX12_leave_96 : decode cX12_leave 96 = .ok (.istore 7, 2) := by decide +kernel
theorem dX12_leave_98 : decode cX12_leave 98 = .ok (.iload 7, 2) := by decide +kernel
theorem dX12_leave_100 : decode cX12_leave 100 = .ok (.bipush 10, 2) := by decide +kernel
theorem dX12_leave_102 : decode cX12_leave 102 = .ok (.if_icmp .gt 29, 3) := by decide +kernel
theorem dX12_leave_105 : decode cX12_leave 105 = .ok (.iload 6, 2) := by decide +kernel
theorem dX12_leave_107 : decode cX12_leave 107 = .ok (.bipush (-9), 2) := by decide +kernel
theorem dX12_leave_109 : decode cX12_leave 109 = .ok (.if_icmp .ne 22, 3) := by decide +kernel
theorem dX12_leave_112 : decode cX12_leave 112 = .ok (.aload_n 0, 1) := by decide +kernel
theorem dX12_leave_113 : decode cX12_leave 113 = .ok (.iload_n 2, 1) := by decide +kernel
theorem dX12_leave_114 : decode cX12_leave 114 = .ok (.iload 7, 2) := by decide +kernel
theorem dX12_leave_116 : decode cX12_leave 116 = .ok (.iadd, 1) := by decide +kernel
theorem dX12_leave_117 : decode cX12_leave 117 = .ok (.bipush 10, 2) := by decide +kernel
theorem dX12_leave_119 : decode cX12_leave 119 = .ok (.irem, 1) := by decide +kernel
theorem dX12_leave_120 : decode cX12_leave 120 = .ok (.invokevirtual 241, 3) := by decide +kernel
theorem dX12_leave_123 : decode cX12_leave 123 = .ok (.istore 6, 2) := by decide +kernel
theorem dX12_leave_125 : decode cX12_leave 125 = .ok (.iinc 7 1, 3) := by decide +kernel
theorem dX12_leave_128 : decode cX12_leave 128 = .ok (.goto (-30), 3) := by decide +kernel
theorem dX12_leave_131 : decode cX12_leave 131 = .ok (.aload_n 0, 1) := by decide +kernel
theorem dX12_leave_132 : decode cX12_leave 132 = .ok (.bipush 10, 2) := by decide +kernel
theorem dX12_leave_134 : decode cX12_leave 134 = .ok (.aload_n 0, 1) := by decide +kernel
theorem dX12_leave_135 : decode cX12_leave 135 = .ok (.getfield 17, 3) := by decide +kernel
theorem dX12_leave_138 : decode cX12_leave 138 = .ok (.iload 6, 2) := by decide +kernel
theorem dX12_leave_140 : decode cX12_leave 140 = .ok (.iaload, 1) := by decide +kernel
theorem dX12_leave_141 : decode cX12_leave 141 = .ok (.iadd, 1) := by decide +kernel
theorem dX12_leave_142 : decode cX12_leave 142 = .ok (.putfield 224, 3) := by decide +kernel
theorem dX12_leave_145 : decode cX12_leave 145 = .ok (.aload_n 0, 1) := by decide +kernel
theorem dX12_leave_146 : decode cX12_leave 146 = .ok (.dup, 1) := by decide +kernel
theorem dX12_leave_147 : decode cX12_leave 147 = .ok (.getfield 231, 3) := by decide +kernel
theorem dX12_leave_150 : decode cX12_leave 150 = .ok (.aload_n 0, 1) := by decide +kernel
theorem dX12_leave_151 : decode cX12_leave 151 = .ok (.getfield 42, 3) := by decide +kernel
theorem dX12_leave_154 : decode cX12_leave 154 = .ok (.aload_n 0, 1) := by decide +kernel
theorem dX12_leave_155 : decode cX12_leave 155 = .ok (.getfield 17, 3) := by decide +kernel
theorem dX12_leave_158 : decode cX12_leave 158 = .ok (.iload 6, 2) := by decide +kernel
theorem dX12_leave_160 : decode cX12_leave 160 = .ok (.iaload, 1) := by decide +kernel
theorem dX12_leave_161 : decode cX12_leave 161 = .ok (.iaload, 1) := by decide +kernel
theorem dX12_leave_162 : decode cX12_leave 162 = .ok (.iadd, 1) := by decide +kernel
theorem dX12_leave_163 : decode cX12_leave 163 = .ok (.putfield 231, 3) := by decide +kernel
theorem dX12_leave_166 : decode cX12_leave 166 = .ok (.return_, 1) := by decide +kernel
theorem dX12_pass_0 : decode cX12_pass 0 = .ok (.aload_n 0, 1) := by decide +kernel
theorem dX12_pass_1 : decode cX12_pass 1 = .ok (.iconst 0, 1) := by decide +kernel
theorem dX12_pass_2 : decode cX12_pass 2 = .ok (.putfield 234, 3) := by decide +kernel
theorem dX12_pass_5 : decode cX12_pass 5 = .ok (.aload_n 0, 1) := by decide +kernel
theorem dX12_pass_6 : decode cX12_pass 6 = .ok (.iconst 0, 1) := by decide +kernel
theorem dX12_pass_7 : decode cX12_pass 7 = .ok (.putfield 238, 3) := by decide +kernel
theorem dX12_pass_10 : decode cX12_pass 10 = .ok (.aload_n 0, 1) := by decide +kernel
theorem dX12_pass_11 : decode cX12_pass 11 = .ok (.getfield 244, 3) := by decide +kernel
theorem dX12_pass_14 : decode cX12_pass 14 = .ok (.istore 4, 2) := by decide +kernel
theorem dX12_pass_16 : decode cX12_pass 16 = .ok (.iconst 0, 1) := by decide +kernel
theorem dX12_pass_17 : decode cX12_pass 17 = .ok (.istore 5, 2) := by decide +kernel
theorem dX12_pass_19 : decode cX12_pass 19 = .ok (.iload 5, 2) := by decide +kernel
theorem dX12_pass_21 : decode cX12_pass 21 = .ok (.aload_n 0, 1) := by decide +kernel
theorem dX12_pass_22 : decode cX12_pass 22 = .ok (.getfield 136, 3) := by decide +kernel
theorem dX12_pass_25 : decode cX12_pass 25 = .ok (.if_icmp .ge 33, 3) := by decide +kernel
theorem dX12_pass_28 : decode cX12_pass 28 = .ok (.iload 4, 2) := by decide +kernel
theorem dX12_pass_30 : decode cX12_pass 30 = .ok (.aload_n 0, 1) := by decide +kernel
theorem dX12_pass_31 : decode cX12_pass 31 = .ok (.getfield 20, 3) := by decide +kernel
theorem dX12_pass_34 : decode cX12_pass 34 = .ok (.iload 5, 2) := by decide +kernel
theorem dX12_pass_36 : decode cX12_pass 36 = .ok (.iaload, 1) := by decide +kernel
theorem dX12_pass_37 : decode cX12_pass 37 = .ok (.iload_n 1, 1) := by decide +kernel
theorem dX12_pass_38 : decode cX12_pass 38 = .ok (.if_icmp .ne 10, 3) := by decide +kernel
theorem dX12_pass_41 : decode cX12_pass 41 = .ok (.iconst 1, 1) := by decide +kernel
theorem dX12_pass_42 : decode cX12_pass 42 = .ok (.iload 5, 2) := by decide +kernel
theorem dX12_pass_44 : decode cX12_pass 44 = .ok (.ishl, 1) := by decide +kernel
theorem dX12_pass_45 : decode cX12_pass 45 = .ok (.goto 4, 3) := by decide +kernel
theorem dX12_pass_48 : decode cX12_pass 48 = .ok (.iconst 0, 1) := by decide +kernel
theorem dX12_pass_49 : decode cX12_pass 49 = .ok (.ior, 1) := by decide +kernel
theorem dX12_pass_50 : decode cX12_pass 50 = .ok (.istore 4, 2) := by decide +kernel
theorem dX12_pass_52 : decode cX12_pass 52 = .ok (.iinc 5 1, 3) := by decide +kernel
theorem dX12_pass_55 : decode cX12_pass 55 = .ok (.goto (-36), 3) := by decide +kernel
theorem dX12_pass_58 : decode cX12_pass 58 = .ok (.iconst 1, 1) := by decide +kernel
theorem dX12_pass_59 : decode cX12_pass 59 = .ok (.istore 5, 2) := by decide +kernel
theorem dX12_pass_61 : decode cX12_pass 61 = .ok (.iload 5, 2) := by decide +kernel
theorem dX12_pass_63 : decode cX12_pass 63 = .ok (.ifCond .eq 75, 3) := by decide +kernel
theorem dX12_pass_66 : decode cX12_pass 66 = .ok (.iconst 0, 1) := by decide +kernel
theorem dX12_pass_67 : decode cX12_pass 67 = .ok (.istore 5, 2) := by decide +kernel
theorem dX12_pass_69 : decode cX12_pass 69 = .ok (.iconst 0, 1) := by decide +kernel
theorem dX12_pass_70 : decode cX12_pass 70 = .ok (.istore 6, 2) := by decide +kernel
theorem dX12_pass_72 : decode cX12_pass 72 = .ok (.iload 6, 2) := by decide +kernel
theorem dX12_pass_74 : decode cX12_pass 74 = .ok (.aload_n 0, 1) := by decide +kernel
theorem dX12_pass_75 : decode cX12_pass 75 = .ok (.getfield 136, 3) := by decide +kernel
theorem dX12_pass_78 : decode cX12_pass 78 = .ok (.if_icmp .ge 57, 3) := by decide +kernel
theorem dX12_pass_81 : decode cX12_pass 81 = .ok (.iload 4, 2) := by decide +kernel
theorem dX12_pass_83 : decode cX12_pass 83 = .ok (.iload 6, 2) := by decide +kernel
theorem dX12_pass_85 : decode cX12_pass 85 = .ok (.ishr, 1) := by decide +kernel
theorem dX12_pass_86 : decode cX12_pass 86 = .ok (.iconst 1, 1) := by decide +kernel
theorem dX12_pass_87 : decode cX12_pass 87 = .ok (.iand, 1) := by decide +kernel
theorem dX12_pass_88 : decode cX12_pass 88 = .ok (.iconst 1, 1) := by decide +kernel
theorem dX12_pass_89 : decode cX12_pass 89 = .ok (.if_icmp .ne 40, 3) := by decide +kernel
theorem dX12_pass_92 : decode cX12_pass 92 = .ok (.aload_n 0, 1) := by decide +kernel
theorem dX12_pass_93 : decode cX12_pass 93 = .ok (.iload 6, 2) := by decide +kernel
theorem dX12_pass_95 : decode cX12_pass 95 = .ok (.iload_n 1, 1) := by decide +kernel
theorem dX12_pass_96 : decode cX12_pass 96 = .ok (.invokevirtual 247, 3) := by decide +kernel
theorem dX12_pass_99 : decode cX12_pass 99 = .ok (.ifCond .eq 30, 3) := by decide +kernel
theorem dX12_pass_102 : decode cX12_pass 102 = .ok (.aload_n 0, 1) := by decide +kernel
theorem dX12_pass_103 : decode cX12_pass 103 = .ok (.dup, 1) := by decide +kernel
theorem dX12_pass_104 : decode cX12_pass 104 = .ok (.getfield 222, 3) := by decide +kernel
theorem dX12_pass_107 : decode cX12_pass 107 = .ok (.iconst 1, 1) := by decide +kernel
theorem dX12_pass_108 : decode cX12_pass 108 = .ok (.iload 6, 2) := by decide +kernel
theorem dX12_pass_110 : decode cX12_pass 110 = .ok (.ishl, 1) := by decide +kernel
theorem dX12_pass_111 : decode cX12_pass 111 = .ok (.ior, 1) := by decide +kernel
theorem dX12_pass_112 : decode cX12_pass 112 = .ok (.putfield 222, 3) := by decide +kernel
theorem dX12_pass_115 : decode cX12_pass 115 = .ok (.iload 4, 2) := by decide +kernel
theorem dX12_pass_117 : decode cX12_pass 117 = .ok (.iconst 1, 1) := by decide +kernel
theorem dX12_pass_118 : decode cX12_pass 118 = .ok (.iload 6, 2) := by decide +kernel
theorem dX12_pass_120 : decode cX12_pass 120 = .ok (.ishl, 1) := by decide +kernel
theorem dX12_pass_121 : decode cX12_pass 121 = .ok (.iconst (-1), 1) := by decide +kernel
theorem dX12_pass_122 : decode cX12_pass 122 = .ok (.ixor, 1) := by decide +kernel
theorem dX12_pass_123 : decode cX12_pass 123 = .ok (.iand, 1) := by decide +kernel
theorem dX12_pass_124 : decode cX12_pass 124 = .ok (.istore 4, 2) := by decide +kernel
theorem dX12_pass_126 : decode cX12_pass 126 = .ok (.iconst 1, 1) := by decide +kernel
theorem dX12_pass_127 : decode cX12_pass 127 = .ok (.istore 5, 2) := by decide +kernel
theorem dX12_pass_129 : decode cX12_pass 129 = .ok (.iinc 6 1, 3) := by decide +kernel
theorem dX12_pass_132 : decode cX12_pass 132 = .ok (.goto (-60), 3) := by decide +kernel
theorem dX12_pass_135 : decode cX12_pass 135 = .ok (.goto (-74), 3) := by decide +kernel
theorem dX12_pass_138 : decode cX12_pass 138 = .ok (.aload_n 0, 1) := by decide +kernel
theorem dX12_pass_139 : decode cX12_pass 139 = .ok (.iload 4, 2) := by decide +kernel
theorem dX12_pass_141 : decode cX12_pass 141 = .ok (.putfield 244, 3) := by decide +kernel
theorem dX12_pass_144 : decode cX12_pass 144 = .ok (.aload_n 0, 1) := by decide +kernel
theorem dX12_pass_145 : decode cX12_pass 145 = .ok (.aload_n 0, 1) := by decide +kernel
theorem dX12_pass_146 : decode cX12_pass 146 = .ok (.getfield 244, 3) := by decide +kernel
theorem dX12_pass_149 : decode cX12_pass 149 = .ok (.putfield 250, 3) := by decide +kernel
theorem dX12_pass_152 : decode cX12_pass 152 = .ok (.iconst 0, 1) := by decide +kernel
theorem dX12_pass_153 : decode cX12_pass 153 = .ok (.istore 6, 2) := by decide +kernel
theorem dX12_pass_155 : decode cX12_pass 155 = .ok (.iconst 0, 1) := by decide +kernel
theorem dX12_pass_156 : decode cX12_pass 156 = .ok (.istore 7, 2) := by decide +kernel
theorem dX12_pass_158 : decode cX12_pass 158 = .ok (.iload 7, 2) := by decide +kernel
theorem dX12_pass_160 : decode cX12_pass 160 = .ok (.aload_n 0, 1) := by decide +kernel
theorem dX12_pass_161 : decode cX12_pass 161 = .ok (.getfield 136, 3) := by decide +kernel
theorem dX12_pass_164 : decode cX12_pass 164 = .ok (.if_icmp .ge 23, 3) := by decide +kernel
theorem dX12_pass_167 : decode cX12_pass 167 = .ok (.iload 6, 2) := by decide +kernel
theorem dX12_pass_169 : decode cX12_pass 169 = .ok (.aload_n 0, 1) := by decide +kernel
theorem dX12_pass_170 : decode cX12_pass 170 = .ok (.getfield 244, 3) := by decide +kernel
theorem dX12_pass_173 : decode cX12_pass 173 = .ok (.iload 7, 2) := by decide +kernel
theorem dX12_pass_175 : decode cX12_pass 175 = .ok (.ishr, 1) := by decide +kernel
theorem dX12_pass_176 : decode cX12_pass 176 = .ok (.iconst 1, 1) := by decide +kernel
theorem dX12_pass_177 : decode cX12_pass 177 = .ok (.iand, 1) := by decide +kernel
theorem dX12_pass_178 : decode cX12_pass 178 = .ok (.iadd, 1) := by decide +kernel
theorem dX12_pass_179 : decode cX12_pass 179 = .ok (.istore 6, 2) := by decide +kernel
theorem dX12_pass_181 : decode cX12_pass 181 = .ok (.iinc 7 1, 3) := by decide +kernel
theorem dX12_pass_184 : decode cX12_pass 184 = .ok (.goto (-26), 3) := by decide +kernel
theorem dX12_pass_187 : decode cX12_pass 187 = .ok (.aload_n 0, 1) := by decide +kernel
theorem dX12_pass_188 : decode cX12_pass 188 = .ok (.dup, 1) := by decide +kernel
theorem dX12_pass_189 : decode cX12_pass 189 = .ok (.getfield 253, 3) := by decide +kernel
theorem dX12_pass_192 : decode cX12_pass 192 = .ok (.iload 6, 2) := by decide +kernel
theorem dX12_pass_194 : decode cX12_pass 194 = .ok (.iadd, 1) := by decide +kernel
theorem dX12_pass_195 : decode cX12_pass 195 = .ok (.putfield 253, 3) := by decide +kernel
theorem dX12_pass_198 : decode cX12_pass 198 = .ok (.aload_n 0, 1) := by decide +kernel
theorem dX12_pass_199 : decode cX12_pass 199 = .ok (.dup, 1) := by decide +kernel
theorem dX12_pass_200 : decode cX12_pass 200 = .ok (.getfield 256, 3) := by decide +kernel
theorem dX12_pass_203 : decode cX12_pass 203 = .ok (.aload_n 0, 1) := by decide +kernel
theorem dX12_pass_204 : decode cX12_pass 204 = .ok (.getfield 224, 3) := by decide +kernel
theorem dX12_pass_207 : decode cX12_pass 207 = .ok (.iconst 4, 1) := by decide +kernel
theorem dX12_pass_208 : decode cX12_pass 208 = .ok (.if_icmp .ge 15, 3) := by decide +kernel
theorem dX12_pass_211 : decode cX12_pass 211 = .ok (.aload_n 0, 1) := by decide +kernel
theorem dX12_pass_212 : decode cX12_pass 212 = .ok (.getfield 33, 3) := by decide +kernel
theorem dX12_pass_215 : decode cX12_pass 215 = .ok (.aload_n 0, 1) := by decide +kernel
theorem dX12_pass_216 : decode cX12_pass 216 = .ok (.getfield 224, 3) := by decide +kernel
theorem dX12_pass_219 : decode cX12_pass 219 = .ok (.iaload, 1) := by decide +kernel
theorem dX12_pass_220 : decode cX12_pass 220 = .ok (.goto 4, 3) := by decide +kernel
theorem dX12_pass_223 : decode cX12_pass 223 = .ok (.iconst 0, 1) := by decide +kernel
theorem dX12_pass_224 : decode cX12_pass 224 = .ok (.iadd, 1) := by decide +kernel
theorem dX12_pass_225 : decode cX12_pass 225 = .ok (.putfield 256, 3) := by decide +kernel
theorem dX12_pass_228 : decode cX12_pass 228 = .ok (.iconst 0, 1) := by decide +kernel
theorem dX12_pass_229 : decode cX12_pass 229 = .ok (.istore 7, 2) := by decide +kernel
theorem dX12_pass_231 : decode cX12_pass 231 = .ok (.iconst 0, 1) := by decide +kernel
theorem dX12_pass_232 : decode cX12_pass 232 = .ok (.istore 8, 2) := by decide +kernel
theorem dX12_pass_234 : decode cX12_pass 234 = .ok (.iload 8, 2) := by decide +kernel
theorem dX12_pass_236 : decode cX12_pass 236 = .ok (.aload_n 0, 1) := by decide +kernel
theorem dX12_pass_237 : decode cX12_pass 237 = .ok (.getfield 136, 3) := by decide +kernel
theorem dX12_pass_240 : decode cX12_pass 240 = .ok (.if_icmp .ge 33, 3) := by decide +kernel
theorem dX12_pass_243 : decode cX12_pass 243 = .ok (.iload 7, 2) := by decide +kernel
theorem dX12_pass_245 : decode cX12_pass 245 = .ok (.aload_n 0, 1) := by decide +kernel
theorem dX12_pass_246 : decode cX12_pass 246 = .ok (.getfield 23, 3) := by decide +kernel
theorem dX12_pass_249 : decode cX12_pass 249 = .ok (.iload 8, 2) := by decide +kernel
theorem dX12_pass_251 : decode cX12_pass 251 = .ok (.iaload, 1) := by decide +kernel
theorem dX12_pass_252 : decode cX12_pass 252 = .ok (.iload_n 1, 1) := by decide +kernel
theorem dX12_pass_253 : decode cX12_pass 253 = .ok (.if_icmp .ne 10, 3) := by decide +kernel
theorem dX12_pass_256 : decode cX12_pass 256 = .ok (.iconst 1, 1) := by decide +kernel
theorem dX12_pass_257 : decode cX12_pass 257 = .ok (.iload 8, 2) := by decide +kernel
theorem dX12_pass_259 : decode cX12_pass 259 = .ok (.ishl, 1) := by decide +kernel
theorem dX12_pass_260 : decode cX12_pass 260 = .ok (.goto 4, 3) := by decide +kernel
theorem dX12_pass_263 : decode cX12_pass 263 = .ok (.iconst 0, 1) := by decide +kernel
theorem dX12_pass_264 : decode cX12_pass 264 = .ok (.ior, 1) := by decide +kernel
theorem dX12_pass_265 : decode cX12_pass 265 = .ok (.istore 7, 2) := by decide +kernel
theorem dX12_pass_267 : decode cX12_pass 267 = .ok (.iinc 8 1, 3) := by decide +kernel
theorem dX12_pass_270 : decode cX12_pass 270 = .ok (.goto (-36), 3) := by decide +kernel
theorem dX12_pass_273 : decode cX12_pass 273 = .ok (.bipush (-9), 2) := by decide +kernel
theorem dX12_pass_275 : decode cX12_pass 275 = .ok (.istore 8, 2) := by decide +kernel
theorem dX12_pass_277 : decode cX12_pass 277 = .ok (.aload_n 0, 1) := by decide +kernel
theorem dX12_pass_278 : decode cX12_pass 278 = .ok (.getfield 136, 3) := by decide +kernel
theorem dX12_pass_281 : decode cX12_pass 281 = .ok (.iconst 1, 1) := by decide +kernel
theorem dX12_pass_282 : decode cX12_pass 282 = .ok (.isub, 1) := by decide +kernel
theorem dX12_pass_283 : decode cX12_pass 283 = .ok (.istore 9, 2) := by decide +kernel
theorem dX12_pass_285 : decode cX12_pass 285 = .ok (.iload 9, 2) := by decide +kernel
theorem dX12_pass_287 : decode cX12_pass 287 = .ok (.ifCond .lt 33, 3) := by decide +kernel
theorem dX12_pass_290 : decode cX12_pass 290 = .ok (.aload_n 0, 1) := by decide +kernel
theorem dX12_pass_291 : decode cX12_pass 291 = .ok (.getfield 222, 3) := by decide +kernel
theorem dX12_pass_294 : decode cX12_pass 294 = .ok (.iload 7, 2) := by decide +kernel
theorem dX12_pass_296 : decode cX12_pass 296 = .ok (.iand, 1) := by decide +kernel
theorem dX12_pass_297 : decode cX12_pass 297 = .ok (.iconst 1, 1) := by decide +kernel
theorem dX12_pass_298 : decode cX12_pass 298 = .ok (.iload 9, 2) := by decide +kernel
theorem dX12_pass_300 : decode cX12_pass 300 = .ok (.ishl, 1) := by decide +kernel
theorem dX12_pass_301 : decode cX12_pass 301 = .ok (.iand, 1) := by decide +kernel
theorem dX12_pass_302 : decode cX12_pass 302 = .ok (.ifCond .eq 8, 3) := by decide +kernel
theorem dX12_pass_305 : decode cX12_pass 305 = .ok (.iload 9, 2) := by decide +kernel
theorem dX12_pass_307 : decode cX12_pass 307 = .ok (.goto 5, 3) := by decide +kernel
theorem dX12_pass_310 : decode cX12_pass 310 = .ok (.iload 8, 2) := by decide +kernel
theorem dX12_pass_312 : decode cX12_pass 312 = .ok (.istore 8, 2) := by decide +kernel
theorem dX12_pass_314 : decode cX12_pass 314 = .ok (.iinc 9 (-1), 3) := by decide +kernel
theorem dX12_pass_317 : decode cX12_pass 317 = .ok (.goto (-32), 3) := by decide +kernel
theorem dX12_pass_320 : decode cX12_pass 320 = .ok (.aload_n 0, 1) := by decide +kernel
theorem dX12_pass_321 : decode cX12_pass 321 = .ok (.dup, 1) := by decide +kernel
theorem dX12_pass_322 : decode cX12_pass 322 = .ok (.getfield 222, 3) := by decide +kernel
theorem dX12_pass_325 : decode cX12_pass 325 = .ok (.iload 7, 2) := by decide +kernel
theorem dX12_pass_327 : decode cX12_pass 327 = .ok (.iconst (-1), 1) := by decide +kernel
theorem dX12_pass_328 : decode cX12_pass 328 = .ok (.ixor, 1) := by decide +kernel
theorem dX12_pass_329 : decode cX12_pass 329 = .ok (.iand, 1) := by decide +kernel
theorem dX12_pass_330 : decode cX12_pass 330 = .ok (.putfield 222, 3) := by decide +kernel
theorem dX12_pass_333 : decode cX12_pass 333 = .ok (.aload_n 0, 1) := by decide +kernel
theorem dX12_pass_334 : decode cX12_pass 334 = .ok (.dup, 1) := by decide +kernel
theorem dX12_pass_335 : decode cX12_pass 335 = .ok (.getfield 244, 3) := by decide +kernel
theorem dX12_pass_338 : decode cX12_pass 338 = .ok (.iload 7, 2) := by decide +kernel
theorem dX12_pass_340 : decode cX12_pass 340 = .ok (.iconst (-1), 1) := by decide +kernel
theorem dX12_pass_341 : decode cX12_pass 341 = .ok (.ixor, 1) := by decide +kernel
theorem dX12_pass_342 : decode cX12_pass 342 = .ok (.iand, 1) := by decide +kernel
theorem dX12_pass_343 : decode cX12_pass 343 = .ok (.putfield 244, 3) := by decide +kernel
theorem dX12_pass_346 : decode cX12_pass 346 = .ok (.aload_n 0, 1) := by decide +kernel
theorem dX12_pass_347 : decode cX12_pass 347 = .ok (.getfield 224, 3) := by decide +kernel
theorem dX12_pass_350 : decode cX12_pass 350 = .ok (.bipush 20, 2) := by decide +kernel
theorem dX12_pass_352 : decode cX12_pass 352 = .ok (.if_icmp .ne 55, 3) := by decide +kernel
theorem dX12_pass_355 : decode cX12_pass 355 = .ok (.aload_n 0, 1) := by decide +kernel
theorem dX12_pass_356 : decode cX12_pass 356 = .ok (.getfield 222, 3) := by decide +kernel
theorem dX12_pass_359 : decode cX12_pass 359 = .ok (.ifCond .ne 48, 3) := by decide +kernel
theorem dX12_pass_362 : decode cX12_pass 362 = .ok (.aload_n 0, 1) := by decide +kernel
theorem dX12_pass_363 : decode cX12_pass 363 = .ok (.iload_n 1, 1) := by decide +kernel
theorem dX12_pass_364 : decode cX12_pass 364 = .ok (.iconst 1, 1) := by decide +kernel
theorem dX12_pass_365 : decode cX12_pass 365 = .ok (.iadd, 1) := by decide +kernel
theorem dX12_pass_366 : decode cX12_pass 366 = .ok (.bipush 10, 2) := by decide +kernel
theorem dX12_pass_368 : decode cX12_pass 368 = .ok (.irem, 1) := by decide +kernel
theorem dX12_pass_369 : decode cX12_pass 369 = .ok (.invokevirtual 241, 3) := by decide +kernel
theorem dX12_pass_372 : decode cX12_pass 372 = .ok (.istore 9, 2) := by decide +kernel
theorem dX12_pass_374 : decode cX12_pass 374 = .ok (.iload 9, 2) := by decide +kernel
theorem dX12_pass_376 : decode cX12_pass 376 = .ok (.bipush (-9), 2) := by decide +kernel
theorem dX12_pass_378 : decode cX12_pass 378 = .ok (.if_icmp .eq 20, 3) := by decide +kernel
theorem dX12_pass_381 : decode cX12_pass 381 = .ok (.aload_n 0, 1) := by decide +kernel
theorem dX12_pass_382 : decode cX12_pass 382 = .ok (.bipush 10, 2) := by decide +kernel
theorem dX12_pass_384 : decode cX12_pass 384 = .ok (.aload_n 0, 1) := by decide +kernel
theorem dX12_pass_385 : decode cX12_pass 385 = .ok (.getfield 17, 3) := by decide +kernel
theorem dX12_pass_388 : decode cX12_pass 388 = .ok (.iload 9, 2) := by decide +kernel
theorem dX12_pass_390 : decode cX12_pass 390 = .ok (.iaload, 1) := by decide +kernel
theorem dX12_pass_391 : decode cX12_pass 391 = .ok (.iadd, 1) := by decide +kernel
theorem dX12_pass_392 : decode cX12_pass 392 = .ok (.putfield 224, 3) := by decide +kernel
theorem dX12_pass_395 : decode cX12_pass 395 = .ok (.goto 12, 3) := by decide +kernel
theorem dX12_pass_398 : decode cX12_pass 398 = .ok (.aload_n 0, 1) := by decide +kernel
theorem dX12_pass_399 : decode cX12_pass 399 = .ok (.iload 8, 2) := by decide +kernel
theorem dX12_pass_401 : decode cX12_pass 401 = .ok (.iload_n 1, 1) := by decide +kernel
theorem dX12_pass_402 : decode cX12_pass 402 = .ok (.iload_n 2, 1) := by decide +kernel
theorem dX12_pass_403 : decode cX12_pass 403 = .ok (.iload_n 3, 1) := by decide +kernel
theorem dX12_pass_404 : decode cX12_pass 404 = .ok (.invokevirtual 259, 3) := by decide +kernel
theorem dX12_pass_407 : decode cX12_pass 407 = .ok (.iload 6, 2) := by decide +kernel
theorem dX12_pass_409 : decode cX12_pass 409 = .ok (.ireturn, 1) := by decide +kernel
theorem dX12_start_0 : decode cX12_start 0 = .ok (.aload_n 0, 1) := by decide +kernel
theorem dX12_start_1 : decode cX12_start 1 = .ok (.iload_n 1, 1) := by decide +kernel
theorem dX12_start_2 : decode cX12_start 2 = .ok (.putfield 224, 3) := by decide +kernel
theorem dX12_start_5 : decode cX12_start 5 = .ok (.aload_n 0, 1) := by decide +kernel
theorem dX12_start_6 : decode cX12_start 6 = .ok (.iconst 0, 1) := by decide +kernel
theorem dX12_start_7 : decode cX12_start 7 = .ok (.putfield 222, 3) := by decide +kernel
theorem dX12_start_10 : decode cX12_start 10 = .ok (.aload_n 0, 1) := by decide +kernel
theorem dX12_start_11 : decode cX12_start 11 = .ok (.iconst 0, 1) := by decide +kernel
theorem dX12_start_12 : decode cX12_start 12 = .ok (.putfield 244, 3) := by decide +kernel
theorem dX12_start_15 : decode cX12_start 15 = .ok (.aload_n 0, 1) := by decide +kernel
theorem dX12_start_16 : decode cX12_start 16 = .ok (.iconst 0, 1) := by decide +kernel
theorem dX12_start_17 : decode cX12_start 17 = .ok (.putfield 231, 3) := by decide +kernel
theorem dX12_start_20 : decode cX12_start 20 = .ok (.aload_n 0, 1) := by decide +kernel
theorem dX12_start_21 : decode cX12_start 21 = .ok (.iconst 0, 1) := by decide +kernel
theorem dX12_start_22 : decode cX12_start 22 = .ok (.putfield 256, 3) := by decide +kernel
theorem dX12_start_25 : decode cX12_start 25 = .ok (.aload_n 0, 1) := by decide +kernel
theorem dX12_start_26 : decode cX12_start 26 = .ok (.iconst 0, 1) := by decide +kernel
theorem dX12_start_27 : decode cX12_start 27 = .ok (.putfield 253, 3) := by decide +kernel
theorem dX12_start_30 : decode cX12_start 30 = .ok (.return_, 1) := by decide +kernel
theorem dX12_go_0 : decode cX12_go 0 = .ok (.aload_n 0, 1) := by decide +kernel
theorem dX12_go_1 : decode cX12_go 1 = .ok (.iload_n 2, 1) := by decide +kernel
theorem dX12_go_2 : decode cX12_go 2 = .ok (.invokevirtual 263, 3) := by decide +kernel
theorem dX12_go_5 : decode cX12_go 5 = .ok (.iconst 0, 1) := by decide +kernel
theorem dX12_go_6 : decode cX12_go 6 = .ok (.istore 4, 2) := by decide +kernel
theorem dX12_go_8 : decode cX12_go 8 = .ok (.iload 4, 2) := by decide +kernel
theorem dX12_go_10 : decode cX12_go 10 = .ok (.iload_n 3, 1) := by decide +kernel
theorem dX12_go_11 : decode cX12_go 11 = .ok (.if_icmp .ge 29, 3) := by decide +kernel
theorem dX12_go_14 : decode cX12_go 14 = .ok (.aload_n 0, 1) := by decide +kernel
theorem dX12_go_15 : decode cX12_go 15 = .ok (.iload 4, 2) := by decide +kernel
theorem dX12_go_17 : decode cX12_go 17 = .ok (.aload_n 0, 1) := by decide +kernel
theorem dX12_go_18 : decode cX12_go 18 = .ok (.getfield 75, 3) := by decide +kernel
theorem dX12_go_21 : decode cX12_go 21 = .ok (.bipush 10, 2) := by decide +kernel
theorem dX12_go_23 : decode cX12_go 23 = .ok (.iload_n 1, 1) := by decide +kernel
theorem dX12_go_24 : decode cX12_go 24 = .ok (.imul, 1) := by decide +kernel
theorem dX12_go_25 : decode cX12_go 25 = .ok (.iload 4, 2) := by decide +kernel
theorem dX12_go_27 : decode cX12_go 27 = .ok (.iadd, 1) := by decide +kernel
theorem dX12_go_28 : decode cX12_go 28 = .ok (.iaload, 1) := by decide +kernel
theorem dX12_go_29 : decode cX12_go 29 = .ok (.iconst 0, 1) := by decide +kernel
theorem dX12_go_30 : decode cX12_go 30 = .ok (.invokevirtual 267, 3) := by decide +kernel
theorem dX12_go_33 : decode cX12_go 33 = .ok (.pop, 1) := by decide +kernel
theorem dX12_go_34 : decode cX12_go 34 = .ok (.iinc 4 1, 3) := by decide +kernel
theorem dX12_go_37 : decode cX12_go 37 = .ok (.goto (-29), 3) := by decide +kernel
theorem dX12_go_40 : decode cX12_go 40 = .ok (.return_, 1) := by decide +kernel
theorem dX12_load_0 : decode cX12_load 0 = .ok (.aload_n 0, 1) := by decide +kernel
theorem dX12_load_1 : decode cX12_load 1 = .ok (.aload_n 0, 1) := by decide +kernel
theorem dX12_load_2 : decode cX12_load 2 = .ok (.getfield 81, 3) := by decide +kernel
theorem dX12_load_5 : decode cX12_load 5 = .ok (.iconst 1, 1) := by decide +kernel
theorem dX12_load_6 : decode cX12_load 6 = .ok (.iaload, 1) := by decide +kernel
theorem dX12_load_7 : decode cX12_load 7 = .ok (.putfield 224, 3) := by decide +kernel
theorem dX12_load_10 : decode cX12_load 10 = .ok (.aload_n 0, 1) := by decide +kernel
theorem dX12_load_11 : decode cX12_load 11 = .ok (.aload_n 0, 1) := by decide +kernel
theorem dX12_load_12 : decode cX12_load 12 = .ok (.getfield 81, 3) := by decide +kernel
theorem dX12_load_15 : decode cX12_load 15 = .ok (.iconst 2, 1) := by decide +kernel
theorem dX12_load_16 : decode cX12_load 16 = .ok (.iaload, 1) := by decide +kernel
theorem dX12_load_17 : decode cX12_load 17 = .ok (.putfield 222, 3) := by decide +kernel
theorem dX12_load_20 : decode cX12_load 20 = .ok (.aload_n 0, 1) := by decide +kernel
theorem dX12_load_21 : decode cX12_load 21 = .ok (.aload_n 0, 1) := by decide +kernel
theorem dX12_load_22 : decode cX12_load 22 = .ok (.getfield 81, 3) := by decide +kernel
theorem dX12_load_25 : decode cX12_load 25 = .ok (.iconst 3, 1) := by decide +kernel
theorem dX12_load_26 : decode cX12_load 26 = .ok (.iaload, 1) := by decide +kernel
theorem dX12_load_27 : decode cX12_load 27 = .ok (.putfield 244, 3) := by decide +kernel
theorem dX12_load_30 : decode cX12_load 30 = .ok (.aload_n 0, 1) := by decide +kernel
theorem dX12_load_31 : decode cX12_load 31 = .ok (.aload_n 0, 1) := by decide +kernel
theorem dX12_load_32 : decode cX12_load 32 = .ok (.getfield 81, 3) := by decide +kernel
theorem dX12_load_35 : decode cX12_load 35 = .ok (.iconst 4, 1) := by decide +kernel
theorem dX12_load_36 : decode cX12_load 36 = .ok (.iaload, 1) := by decide +kernel
theorem dX12_load_37 : decode cX12_load 37 = .ok (.putfield 231, 3) := by decide +kernel
theorem dX12_load_40 : decode cX12_load 40 = .ok (.aload_n 0, 1) := by decide +kernel
theorem dX12_load_41 : decode cX12_load 41 = .ok (.aload_n 0, 1) := by decide +kernel
theorem dX12_load_42 : decode cX12_load 42 = .ok (.getfield 81, 3) := by decide +kernel
theorem dX12_load_45 : decode cX12_load 45 = .ok (.iconst 5, 1) := by decide +kernel
theorem dX12_load_46 : decode cX12_load 46 = .ok (.iaload, 1) := by decide +kernel
theorem dX12_load_47 : decode cX12_load 47 = .ok (.putfield 256, 3) := by decide +kernel
theorem dX12_load_50 : decode cX12_load 50 = .ok (.aload_n 0, 1) := by decide +kernel
theorem dX12_load_51 : decode cX12_load 51 = .ok (.aload_n 0, 1) := by decide +kernel
theorem dX12_load_52 : decode cX12_load 52 = .ok (.getfield 81, 3) := by decide +kernel
theorem dX12_load_55 : decode cX12_load 55 = .ok (.bipush 6, 2) := by decide +kernel
theorem dX12_load_57 : decode cX12_load 57 = .ok (.iaload, 1) := by decide +kernel
theorem dX12_load_58 : decode cX12_load 58 = .ok (.putfield 253, 3) := by decide +kernel
theorem dX12_load_61 : decode cX12_load 61 = .ok (.return_, 1) := by decide +kernel
theorem dX12_hour_0 : decode cX12_hour 0 = .ok (.aload_n 0, 1) := by decide +kernel
theorem dX12_hour_1 : decode cX12_hour 1 = .ok (.iconst 0, 1) := by decide +kernel
theorem dX12_hour_2 : decode cX12_hour 2 = .ok (.putfield 118, 3) := by decide +kernel
theorem dX12_hour_5 : decode cX12_hour 5 = .ok (.iload_n 1, 1) := by decide +kernel
theorem dX12_hour_6 : decode cX12_hour 6 = .ok (.invokestatic 213, 3) := by decide +kernel
theorem dX12_hour_9 : decode cX12_hour 9 = .ok (.ifCond .eq 5, 3) := by decide +kernel
theorem dX12_hour_12 : decode cX12_hour 12 = .ok (.iconst (-1), 1) := by decide +kernel
theorem dX12_hour_13 : decode cX12_hour 13 = .ok (.ireturn, 1) := by decide +kernel
theorem dX12_hour_14 : decode cX12_hour 14 = .ok (.aload_n 0, 1) := by decide +kernel
theorem dX12_hour_15 : decode cX12_hour 15 = .ok (.invokevirtual 271, 3) := by decide +kernel
theorem dX12_hour_18 : decode cX12_hour 18 = .ok (.aload_n 0, 1) := by decide +kernel
theorem dX12_hour_19 : decode cX12_hour 19 = .ok (.aload_n 0, 1) := by decide +kernel
theorem dX12_hour_20 : decode cX12_hour 20 = .ok (.getfield 81, 3) := by decide +kernel
theorem dX12_hour_23 : decode cX12_hour 23 = .ok (.iconst 0, 1) := by decide +kernel
theorem dX12_hour_24 : decode cX12_hour 24 = .ok (.iaload, 1) := by decide +kernel
theorem dX12_hour_25 : decode cX12_hour 25 = .ok (.aload_n 0, 1) := by decide +kernel
theorem dX12_hour_26 : decode cX12_hour 26 = .ok (.getfield 75, 3) := by decide +kernel
theorem dX12_hour_29 : decode cX12_hour 29 = .ok (.bipush 10, 2) := by decide +kernel
theorem dX12_hour_31 : decode cX12_hour 31 = .ok (.iload_n 1, 1) := by decide +kernel
theorem dX12_hour_32 : decode cX12_hour 32 = .ok (.imul, 1) := by decide +kernel
theorem dX12_hour_33 : decode cX12_hour 33 = .ok (.aload_n 0, 1) := by decide +kernel
theorem dX12_hour_34 : decode cX12_hour 34 = .ok (.getfield 81, 3) := by decide +kernel
theorem dX12_hour_37 : decode cX12_hour 37 = .ok (.iconst 0, 1) := by decide +kernel
theorem dX12_hour_38 : decode cX12_hour 38 = .ok (.iaload, 1) := by decide +kernel
theorem dX12_hour_39 : decode cX12_hour 39 = .ok (.iadd, 1) := by decide +kernel
theorem dX12_hour_40 : decode cX12_hour 40 = .ok (.iaload, 1) := by decide +kernel
theorem dX12_hour_41 : decode cX12_hour 41 = .ok (.iconst 0, 1) := by decide +kernel
theorem dX12_hour_42 : decode cX12_hour 42 = .ok (.invokevirtual 267, 3) := by decide +kernel
theorem dX12_hour_45 : decode cX12_hour 45 = .ok (.istore_n 2, 1) := by decide +kernel
theorem dX12_hour_46 : decode cX12_hour 46 = .ok (.aload_n 0, 1) := by decide +kernel
theorem dX12_hour_47 : decode cX12_hour 47 = .ok (.getfield 81, 3) := by decide +kernel
theorem dX12_hour_50 : decode cX12_hour 50 = .ok (.iconst 0, 1) := by decide +kernel
theorem dX12_hour_51 : decode cX12_hour 51 = .ok (.aload_n 0, 1) := by decide +kernel
theorem dX12_hour_52 : decode cX12_hour 52 = .ok (.getfield 81, 3) := by decide +kernel
theorem dX12_hour_55 : decode cX12_hour 55 = .ok (.iconst 0, 1) := by decide +kernel
theorem dX12_hour_56 : decode cX12_hour 56 = .ok (.iaload, 1) := by decide +kernel
theorem dX12_hour_57 : decode cX12_hour 57 = .ok (.iconst 1, 1) := by decide +kernel
theorem dX12_hour_58 : decode cX12_hour 58 = .ok (.iadd, 1) := by decide +kernel
theorem dX12_hour_59 : decode cX12_hour 59 = .ok (.bipush 10, 2) := by decide +kernel
theorem dX12_hour_61 : decode cX12_hour 61 = .ok (.irem, 1) := by decide +kernel
theorem dX12_hour_62 : decode cX12_hour 62 = .ok (.iastore, 1) := by decide +kernel
theorem dX12_hour_63 : decode cX12_hour 63 = .ok (.aload_n 0, 1) := by decide +kernel
theorem dX12_hour_64 : decode cX12_hour 64 = .ok (.getfield 81, 3) := by decide +kernel
theorem dX12_hour_67 : decode cX12_hour 67 = .ok (.iconst 1, 1) := by decide +kernel
theorem dX12_hour_68 : decode cX12_hour 68 = .ok (.aload_n 0, 1) := by decide +kernel
theorem dX12_hour_69 : decode cX12_hour 69 = .ok (.getfield 224, 3) := by decide +kernel
theorem dX12_hour_72 : decode cX12_hour 72 = .ok (.iastore, 1) := by decide +kernel
theorem dX12_hour_73 : decode cX12_hour 73 = .ok (.aload_n 0, 1) := by decide +kernel
theorem dX12_hour_74 : decode cX12_hour 74 = .ok (.getfield 81, 3) := by decide +kernel
theorem dX12_hour_77 : decode cX12_hour 77 = .ok (.iconst 2, 1) := by decide +kernel
theorem dX12_hour_78 : decode cX12_hour 78 = .ok (.aload_n 0, 1) := by decide +kernel
theorem dX12_hour_79 : decode cX12_hour 79 = .ok (.getfield 222, 3) := by decide +kernel
theorem dX12_hour_82 : decode cX12_hour 82 = .ok (.iastore, 1) := by decide +kernel
theorem dX12_hour_83 : decode cX12_hour 83 = .ok (.aload_n 0, 1) := by decide +kernel
theorem dX12_hour_84 : decode cX12_hour 84 = .ok (.getfield 81, 3) := by decide +kernel
theorem dX12_hour_87 : decode cX12_hour 87 = .ok (.iconst 3, 1) := by decide +kernel
theorem dX12_hour_88 : decode cX12_hour 88 = .ok (.aload_n 0, 1) := by decide +kernel
theorem dX12_hour_89 : decode cX12_hour 89 = .ok (.getfield 244, 3) := by decide +kernel
theorem dX12_hour_92 : decode cX12_hour 92 = .ok (.iastore, 1) := by decide +kernel
theorem dX12_hour_93 : decode cX12_hour 93 = .ok (.aload_n 0, 1) := by decide +kernel
theorem dX12_hour_94 : decode cX12_hour 94 = .ok (.getfield 81, 3) := by decide +kernel
theorem dX12_hour_97 : decode cX12_hour 97 = .ok (.iconst 4, 1) := by decide +kernel
theorem dX12_hour_98 : decode cX12_hour 98 = .ok (.aload_n 0, 1) := by decide +kernel
theorem dX12_hour_99 : decode cX12_hour 99 = .ok (.getfield 231, 3) := by decide +kernel
theorem dX12_hour_102 : decode cX12_hour 102 = .ok (.iastore, 1) := by decide +kernel
theorem dX12_hour_103 : decode cX12_hour 103 = .ok (.aload_n 0, 1) := by decide +kernel
theorem dX12_hour_104 : decode cX12_hour 104 = .ok (.getfield 81, 3) := by decide +kernel
theorem dX12_hour_107 : decode cX12_hour 107 = .ok (.iconst 5, 1) := by decide +kernel
theorem dX12_hour_108 : decode cX12_hour 108 = .ok (.aload_n 0, 1) := by decide +kernel
theorem dX12_hour_109 : decode cX12_hour 109 = .ok (.getfield 256, 3) := by decide +kernel
theorem dX12_hour_112 : decode cX12_hour 112 = .ok (.iastore, 1) := by decide +kernel
theorem dX12_hour_113 : decode cX12_hour 113 = .ok (.aload_n 0, 1) := by decide +kernel
theorem dX12_hour_114 : decode cX12_hour 114 = .ok (.getfield 81, 3) := by decide +kernel
theorem dX12_hour_117 : decode cX12_hour 117 = .ok (.bipush 6, 2) := by decide +kernel
theorem dX12_hour_119 : decode cX12_hour 119 = .ok (.aload_n 0, 1) := by decide +kernel
theorem dX12_hour_120 : decode cX12_hour 120 = .ok (.getfield 253, 3) := by decide +kernel
theorem dX12_hour_123 : decode cX12_hour 123 = .ok (.iastore, 1) := by decide +kernel
theorem dX12_hour_124 : decode cX12_hour 124 = .ok (.iload_n 2, 1) := by decide +kernel
theorem dX12_hour_125 : decode cX12_hour 125 = .ok (.ireturn, 1) := by decide +kernel
