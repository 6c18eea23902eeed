theorem dX11_init_0 : decode cX11_init 0 = .ok (.aload_n 0, 1) := by decide +kernel
theorem dX11_init_1 : decode cX11_init 1 = .ok (.invokespecial 3, 3) := by decide +kernel
theorem dX11_init_4 : decode cX11_init 4 = .ok (.aload_n 0, 1) := by decide +kernel
theorem dX11_init_5 : decode cX11_init 5 = .ok (.bipush 64, 2) := by decide +kernel
theorem dX11_init_7 : decode cX11_init 7 = .ok (.newarray .byte, 2) := by decide +kernel
theorem dX11_init_9 : decode cX11_init 9 = .ok (.putfield 9, 3) := by decide +kernel
theorem dX11_init_12 : decode cX11_init 12 = .ok (.aload_n 0, 1) := by decide +kernel
theorem dX11_init_13 : decode cX11_init 13 = .ok (.iconst 0, 1) := by decide +kernel
theorem dX11_init_14 : decode cX11_init 14 = .ok (.putfield 13, 3) := by decide +kernel
theorem dX11_init_17 : decode cX11_init 17 = .ok (.aload_n 0, 1) := by decide +kernel
theorem dX11_init_18 : decode cX11_init 18 = .ok (.new 17, 3) := by decide +kernel
theorem dX11_init_21 : decode cX11_init 21 = .ok (.dup, 1) := by decide +kernel
theorem dX11_init_22 : decode cX11_init 22 = .ok (.invokespecial 19, 3) := by decide +kernel
theorem dX11_init_25 : decode cX11_init 25 = .ok (.putfield 20, 3) := by decide +kernel
theorem dX11_init_28 : decode cX11_init 28 = .ok (.aload_n 0, 1) := by decide +kernel
theorem dX11_init_29 : decode cX11_init 29 = .ok (.new 17, 3) := by decide +kernel
theorem dX11_init_32 : decode cX11_init 32 = .ok (.dup, 1) := by decide +kernel
theorem dX11_init_33 : decode cX11_init 33 = .ok (.invokespecial 19, 3) := by decide +kernel
theorem dX11_init_36 : decode cX11_init 36 = .ok (.putfield 24, 3) := by decide +kernel
theorem dX11_init_39 : decode cX11_init 39 = .ok (.aload_n 0, 1) := by decide +kernel
theorem dX11_init_40 : decode cX11_init 40 = .ok (.new 27, 3) := by decide +kernel
theorem dX11_init_43 : decode cX11_init 43 = .ok (.dup, 1) := by decide +kernel
theorem dX11_init_44 : decode cX11_init 44 = .ok (.invokespecial 29, 3) := by decide +kernel
theorem dX11_init_47 : decode cX11_init 47 = .ok (.putfield 30, 3) := by decide +kernel
theorem dX11_init_50 : decode cX11_init 50 = .ok (.aload_n 0, 1) := by decide +kernel
theorem dX11_init_51 : decode cX11_init 51 = .ok (.iconst 3, 1) := by decide +kernel
theorem dX11_init_52 : decode cX11_init 52 = .ok (.anewarray 34, 3) := by decide +kernel
theorem dX11_init_55 : decode cX11_init 55 = .ok (.putfield 36, 3) := by decide +kernel
theorem dX11_init_58 : decode cX11_init 58 = .ok (.aload_n 0, 1) := by decide +kernel
theorem dX11_init_59 : decode cX11_init 59 = .ok (.new 34, 3) := by decide +kernel
theorem dX11_init_62 : decode cX11_init 62 = .ok (.dup, 1) := by decide +kernel
theorem dX11_init_63 : decode cX11_init 63 = .ok (.invokespecial 40, 3) := by decide +kernel
theorem dX11_init_66 : decode cX11_init 66 = .ok (.putfield 41, 3) := by decide +kernel
theorem dX11_init_69 : decode cX11_init 69 = .ok (.aload_n 0, 1) := by decide +kernel
theorem dX11_init_70 : decode cX11_init 70 = .ok (.new 45, 3) := by decide +kernel
theorem dX11_init_73 : decode cX11_init 73 = .ok (.dup, 1) := by decide +kernel
theorem dX11_init_74 : decode cX11_init 74 = .ok (.invokespecial 47, 3) := by decide +kernel
theorem dX11_init_77 : decode cX11_init 77 = .ok (.putfield 48, 3) := by decide +kernel
theorem dX11_init_80 : decode cX11_init 80 = .ok (.aload_n 0, 1) := by decide +kernel
theorem dX11_init_81 : decode cX11_init 81 = .ok (.new 52, 3) := by decide +kernel
theorem dX11_init_84 : decode cX11_init 84 = .ok (.dup, 1) := by decide +kernel
theorem dX11_init_85 : decode cX11_init 85 = .ok (.invokespecial 54, 3) := by decide +kernel
theorem dX11_init_88 : decode cX11_init 88 = .ok (.putfield 55, 3) := by decide +kernel
theorem dX11_init_91 : decode cX11_init 91 = .ok (.aload_n 0, 1) := by decide +kernel
theorem dX11_init_92 : decode cX11_init 92 = .ok (.iconst 2, 1) := by decide +kernel
theorem dX11_init_93 : decode cX11_init 93 = .ok (.anewarray 52, 3) := by decide +kernel
theorem dX11_init_96 : decode cX11_init 96 = .ok (.putfield 59, 3) := by decide +kernel
theorem dX11_init_99 : decode cX11_init 99 = .ok (.aload_n 0, 1) := by decide +kernel
theorem dX11_init_100 : decode cX11_init 100 = .ok (.iconst 2, 1) := by decide +kernel
theorem dX11_init_101 : decode cX11_init 101 = .ok (.newarray .boolean, 2) := by decide +kernel
theorem dX11_init_103 : decode cX11_init 103 = .ok (.putfield 63, 3) := by decide +kernel
theorem dX11_init_106 : decode cX11_init 106 = .ok (.aload_n 0, 1) := by decide +kernel
theorem dX11_init_107 : decode cX11_init 107 = .ok (.bipush 10, 2) := by decide +kernel
theorem dX11_init_109 : decode cX11_init 109 = .ok (.newarray .int, 2) := by decide +kernel
theorem dX11_init_111 : decode cX11_init 111 = .ok (.putfield 67, 3) := by decide +kernel
theorem dX11_init_114 : decode cX11_init 114 = .ok (.aload_n 0, 1) := by decide +kernel
theorem dX11_init_115 : decode cX11_init 115 = .ok (.new 71, 3) := by decide +kernel
theorem dX11_init_118 : decode cX11_init 118 = .ok (.dup, 1) := by decide +kernel
theorem dX11_init_119 : decode cX11_init 119 = .ok (.invokespecial 73, 3) := by decide +kernel
theorem dX11_init_122 : decode cX11_init 122 = .ok (.putfield 74, 3) := by decide +kernel
theorem dX11_init_125 : decode cX11_init 125 = .ok (.aload_n 0, 1) := by decide +kernel
theorem dX11_init_126 : decode cX11_init 126 = .ok (.new 78, 3) := by decide +kernel
theorem dX11_init_129 : decode cX11_init 129 = .ok (.dup, 1) := by decide +kernel
theorem dX11_init_130 : decode cX11_init 130 = .ok (.invokespecial 80, 3) := by decide +kernel
theorem dX11_init_133 : decode cX11_init 133 = .ok (.putfield 81, 3) := by decide +kernel
theorem dX11_init_136 : decode cX11_init 136 = .ok (.aload_n 0, 1) := by decide +kernel
theorem dX11_init_137 : decode cX11_init 137 = .ok (.new 85, 3) := by decide +kernel
theorem dX11_init_140 : decode cX11_init 140 = .ok (.dup, 1) := by decide +kernel
theorem dX11_init_141 : decode cX11_init 141 = .ok (.invokespecial 87, 3) := by decide +kernel
theorem dX11_init_144 : decode cX11_init 144 = .ok (.putfield 88, 3) := by decide +kernel
theorem dX11_init_147 : decode cX11_init 147 = .ok (.aload_n 0, 1) := by decide +kernel
theorem dX11_init_148 : decode cX11_init 148 = .ok (.new 92, 3) := by decide +kernel
theorem dX11_init_151 : decode cX11_init 151 = .ok (.dup, 1) := by decide +kernel
theorem dX11_init_152 : decode cX11_init 152 = .ok (.aload_n 0, 1) := by decide +kernel
theorem dX11_init_153 : decode cX11_init 153 = .ok (.getfield 88, 3) := by decide +kernel
theorem dX11_init_156 : decode cX11_init 156 = .ok (.invokespecial 94, 3) := by decide +kernel
theorem dX11_init_159 : decode cX11_init 159 = .ok (.putfield 97, 3) := by decide +kernel
theorem dX11_init_162 : decode cX11_init 162 = .ok (.aload_n 0, 1) := by decide +kernel
theorem dX11_init_163 : decode cX11_init 163 = .ok (.new 101, 3) := by decide +kernel
theorem dX11_init_166 : decode cX11_init 166 = .ok (.dup, 1) := by decide +kernel
theorem dX11_init_167 : decode cX11_init 167 = .ok (.aload_n 0, 1) := by decide +kernel
theorem dX11_init_168 : decode cX11_init 168 = .ok (.getfield 88, 3) := by decide +kernel
theorem dX11_init_171 : decode cX11_init 171 = .ok (.invokespecial 103, 3) := by decide +kernel
theorem dX11_init_174 : decode cX11_init 174 = .ok (.putfield 104, 3) := by decide +kernel
theorem dX11_init_177 : decode cX11_init 177 = .ok (.aload_n 0, 1) := by decide +kernel
theorem dX11_init_178 : decode cX11_init 178 = .ok (.new 108, 3) := by decide +kernel
theorem dX11_init_181 : decode cX11_init 181 = .ok (.dup, 1) := by decide +kernel
theorem dX11_init_182 : decode cX11_init 182 = .ok (.invokespecial 110, 3) := by decide +kernel
theorem dX11_init_185 : decode cX11_init 185 = .ok (.putfield 111, 3) := by decide +kernel
theorem dX11_init_188 : decode cX11_init 188 = .ok (.iconst 0, 1) := by decide +kernel
theorem dX11_init_189 : decode cX11_init 189 = .ok (.istore_n 1, 1) := by decide +kernel
theorem dX11_init_190 : decode cX11_init 190 = .ok (.iload_n 1, 1) := by decide +kernel
theorem dX11_init_191 : decode cX11_init 191 = .ok (.iconst 3, 1) := by decide +kernel
theorem dX11_init_192 : decode cX11_init 192 = .ok (.if_icmp .ge 22, 3) := by decide +kernel
theorem dX11_init_195 : decode cX11_init 195 = .ok (.aload_n 0, 1) := by decide +kernel
theorem dX11_init_196 : decode cX11_init 196 = .ok (.getfield 36, 3) := by decide +kernel
theorem dX11_init_199 : decode cX11_init 199 = .ok (.iload_n 1, 1) := by decide +kernel
theorem dX11_init_200 : decode cX11_init 200 = .ok (.new 34, 3) := by decide +kernel
theorem dX11_init_203 : decode cX11_init 203 = .ok (.dup, 1) := by decide +kernel
theorem dX11_init_204 : decode cX11_init 204 = .ok (.invokespecial 40, 3) := by decide +kernel
theorem dX11_init_207 : decode cX11_init 207 = .ok (.aastore, 1) := by decide +kernel
theorem dX11_init_208 : decode cX11_init 208 = .ok (.iinc 1 1, 3) := by decide +kernel
theorem dX11_init_211 : decode cX11_init 211 = .ok (.goto (-21), 3) := by decide +kernel
theorem dX11_init_214 : decode cX11_init 214 = .ok (.iconst 0, 1) := by decide +kernel
theorem dX11_init_215 : decode cX11_init 215 = .ok (.istore_n 1, 1) := by decide +kernel
theorem dX11_init_216 : decode cX11_init 216 = .ok (.iload_n 1, 1) := by decide +kernel
theorem dX11_init_217 : decode cX11_init 217 = .ok (.iconst 2, 1) := by decide +kernel
theorem dX11_init_218 : decode cX11_init 218 = .ok (.if_icmp .ge 22, 3) := by decide +kernel
theorem dX11_init_221 : decode cX11_init 221 = .ok (.aload_n 0, 1) := by decide +kernel
theorem dX11_init_222 : decode cX11_init 222 = .ok (.getfield 59, 3) := by decide +kernel
theorem dX11_init_225 : decode cX11_init 225 = .ok (.iload_n 1, 1) := by decide +kernel
theorem dX11_init_226 : decode cX11_init 226 = .ok (.new 52, 3) := by decide +kernel
theorem dX11_init_229 : decode cX11_init 229 = .ok (.dup, 1) := by decide +kernel
theorem dX11_init_230 : decode cX11_init 230 = .ok (.invokespecial 54, 3) := by decide +kernel
theorem dX11_init_233 : decode cX11_init 233 = .ok (.aastore, 1) := by decide +kernel
theorem dX11_init_234 : decode cX11_init 234 = .ok (.iinc 1 1, 3) := by decide +kernel
theorem dX11_init_237 : decode cX11_init 237 = .ok (.goto (-21), 3) := by decide +kernel
theorem dX11_init_240 : decode cX11_init 240 = .ok (.aload_n 0, 1) := by decide +kernel
theorem dX11_init_241 : decode cX11_init 241 = .ok (.getfield 55, 3) := by decide +kernel
theorem dX11_init_244 : decode cX11_init 244 = .ok (.bipush 10, 2) := by decide +kernel
theorem dX11_init_246 : decode cX11_init 246 = .ok (.invokevirtual 115, 3) := by decide +kernel
theorem dX11_init_249 : decode cX11_init 249 = .ok (.aload_n 0, 1) := by decide +kernel
theorem dX11_init_250 : decode cX11_init 250 = .ok (.getfield 67, 3) := by decide +kernel
theorem dX11_init_253 : decode cX11_init 253 = .ok (.bipush 99, 2) := by decide +kernel
theorem dX11_init_255 : decode cX11_init 255 = .ok (.invokestatic 119, 3) := by decide +kernel
theorem dX11_init_258 : decode cX11_init 258 = .ok (.return_, 1) := by decide +kernel
theorem dX11_write_0 : decode cX11_write 0 = .ok (.iload_n 1, 1) := by decide +kernel
theorem dX11_write_1 : decode cX11_write 1 = .ok (.iconst 1, 1) := by decide +kernel
theorem dX11_write_2 : decode cX11_write 2 = .ok (.if_icmp .lt 9, 3) := by decide +kernel
theorem dX11_write_5 : decode cX11_write 5 = .ok (.iload_n 1, 1) := by decide +kernel
theorem dX11_write_6 : decode cX11_write 6 = .ok (.bipush 8, 2) := by decide +kernel
theorem dX11_write_8 : decode cX11_write 8 = .ok (.if_icmp .le 6, 3) := by decide +kernel
theorem dX11_write_11 : decode cX11_write 11 = .ok (.bipush (-2), 2) := by decide +kernel
theorem dX11_write_13 : decode cX11_write 13 = .ok (.ireturn, 1) := by decide +kernel
theorem dX11_write_14 : decode cX11_write 14 = .ok (.aload_n 0, 1) := by decide +kernel
theorem dX11_write_15 : decode cX11_write 15 = .ok (.getfield 13, 3) := by decide +kernel
theorem dX11_write_18 : decode cX11_write 18 = .ok (.iload_n 1, 1) := by decide +kernel
theorem dX11_write_19 : decode cX11_write 19 = .ok (.iadd, 1) := by decide +kernel
theorem dX11_write_20 : decode cX11_write 20 = .ok (.bipush 64, 2) := by decide +kernel
theorem dX11_write_22 : decode cX11_write 22 = .ok (.if_icmp .le 6, 3) := by decide +kernel
theorem dX11_write_25 : decode cX11_write 25 = .ok (.bipush (-4), 2) := by decide +kernel
theorem dX11_write_27 : decode cX11_write 27 = .ok (.ireturn, 1) := by decide +kernel
theorem dX11_write_28 : decode cX11_write 28 = .ok (.iload_n 1, 1) := by decide +kernel
theorem dX11_write_29 : decode cX11_write 29 = .ok (.iconst 1, 1) := by decide +kernel
theorem dX11_write_30 : decode cX11_write 30 = .ok (.isub, 1) := by decide +kernel
theorem dX11_write_31 : decode cX11_write 31 = .ok (.istore 4, 2) := by decide +kernel
theorem dX11_write_33 : decode cX11_write 33 = .ok (.iload 4, 2) := by decide +kernel
theorem dX11_write_35 : decode cX11_write 35 = .ok (.ifCond .lt 37, 3) := by decide +kernel
theorem dX11_write_38 : decode cX11_write 38 = .ok (.aload_n 0, 1) := by decide +kernel
theorem dX11_write_39 : decode cX11_write 39 = .ok (.getfield 9, 3) := by decide +kernel
theorem dX11_write_42 : decode cX11_write 42 = .ok (.aload_n 0, 1) := by decide +kernel
theorem dX11_write_43 : decode cX11_write 43 = .ok (.getfield 13, 3) := by decide +kernel
theorem dX11_write_46 : decode cX11_write 46 = .ok (.lload_n 2, 1) := by decide +kernel
theorem dX11_write_47 : decode cX11_write 47 = .ok (.bipush 8, 2) := by decide +kernel
theorem dX11_write_49 : decode cX11_write 49 = .ok (.iload 4, 2) := by decide +kernel
theorem dX11_write_51 : decode cX11_write 51 = .ok (.imul, 1) := by decide +kernel
theorem dX11_write_52 : decode cX11_write 52 = .ok (.lushr, 1) := by decide +kernel
theorem dX11_write_53 : decode cX11_write 53 = .ok (.l2i, 1) := by decide +kernel
theorem dX11_write_54 : decode cX11_write 54 = .ok (.i2b, 1) := by decide +kernel
theorem dX11_write_55 : decode cX11_write 55 = .ok (.bastore, 1) := by decide +kernel
theorem dX11_write_56 : decode cX11_write 56 = .ok (.aload_n 0, 1) := by decide +kernel
theorem dX11_write_57 : decode cX11_write 57 = .ok (.dup, 1) := by decide +kernel
theorem dX11_write_58 : decode cX11_write 58 = .ok (.getfield 13, 3) := by decide +kernel
theorem dX11_write_61 : decode cX11_write 61 = .ok (.iconst 1, 1) := by decide +kernel
theorem dX11_write_62 : decode cX11_write 62 = .ok (.iadd, 1) := by decide +kernel
theorem dX11_write_63 : decode cX11_write 63 = .ok (.putfield 13, 3) := by decide +kernel
theorem dX11_write_66 : decode cX11_write 66 = .ok (.iinc 4 (-1), 3) := by decide +kernel
theorem dX11_write_69 : decode cX11_write 69 = .ok (.goto (-36), 3) := by decide +kernel
theorem dX11_write_72 : decode cX11_write 72 = .ok (.aload_n 0, 1) := by decide +kernel
theorem dX11_write_73 : decode cX11_write 73 = .ok (.getfield 13, 3) := by decide +kernel
theorem dX11_write_76 : decode cX11_write 76 = .ok (.ireturn, 1) := by decide +kernel
theorem dX11_wipe_0 : decode cX11_wipe 0 = .ok (.aload_n 0, 1) := by decide +kernel
theorem dX11_wipe_1 : decode cX11_wipe 1 = .ok (.getfield 13, 3) := by decide +kernel
theorem dX11_wipe_4 : decode cX11_wipe 4 = .ok (.istore_n 1, 1) := by decide +kernel
theorem dX11_wipe_5 : decode cX11_wipe 5 = .ok (.aload_n 0, 1) := by decide +kernel
theorem dX11_wipe_6 : decode cX11_wipe 6 = .ok (.iconst 0, 1) := by decide +kernel
theorem dX11_wipe_7 : decode cX11_wipe 7 = .ok (.putfield 13, 3) := by decide +kernel
theorem dX11_wipe_10 : decode cX11_wipe 10 = .ok (.iload_n 1, 1) := by decide +kernel
theorem dX11_wipe_11 : decode cX11_wipe 11 = .ok (.ireturn, 1) := by decide +kernel
theorem dX11_fault_0 : decode cX11_fault 0 = .ok (.iload_n 1, 1) := by decide +kernel
theorem dX11_fault_1 : decode cX11_fault 1 = .ok (.ifCond .eq 25, 3) := by decide +kernel
theorem dX11_fault_4 : decode cX11_fault 4 = .ok (.aload_n 0, 1) := by decide +kernel
theorem dX11_fault_5 : decode cX11_fault 5 = .ok (.getfield 48, 3) := by decide +kernel
theorem dX11_fault_8 : decode cX11_fault 8 = .ok (.aload_n 0, 1) := by decide +kernel
theorem dX11_fault_9 : decode cX11_fault 9 = .ok (.getfield 9, 3) := by decide +kernel
theorem dX11_fault_12 : decode cX11_fault 12 = .ok (.aload_n 0, 1) := by decide +kernel
theorem dX11_fault_13 : decode cX11_fault 13 = .ok (.getfield 13, 3) := by decide +kernel
theorem dX11_fault_16 : decode cX11_fault 16 = .ok (.aload_n 0, 1) := by decide +kernel
theorem dX11_fault_17 : decode cX11_fault 17 = .ok (.getfield 41, 3) := by decide +kernel
theorem dX11_fault_20 : decode cX11_fault 20 = .ok (.invokevirtual 125, 3) := by decide +kernel
theorem dX11_fault_23 : decode cX11_fault 23 = .ok (.goto 22, 3) := by decide +kernel
theorem dX11_fault_26 : decode cX11_fault 26 = .ok (.aload_n 0, 1) := by decide +kernel
theorem dX11_fault_27 : decode cX11_fault 27 = .ok (.getfield 30, 3) := by decide +kernel
theorem dX11_fault_30 : decode cX11_fault 30 = .ok (.aload_n 0, 1) := by decide +kernel
theorem dX11_fault_31 : decode cX11_fault 31 = .ok (.getfield 9, 3) := by decide +kernel
theorem dX11_fault_34 : decode cX11_fault 34 = .ok (.aload_n 0, 1) := by decide +kernel
theorem dX11_fault_35 : decode cX11_fault 35 = .ok (.getfield 13, 3) := by decide +kernel
theorem dX11_fault_38 : decode cX11_fault 38 = .ok (.aload_n 0, 1) := by decide +kernel
theorem dX11_fault_39 : decode cX11_fault 39 = .ok (.getfield 24, 3) := by decide +kernel
theorem dX11_fault_42 : decode cX11_fault 42 = .ok (.invokevirtual 129, 3) := by decide +kernel
theorem dX11_fault_45 : decode cX11_fault 45 = .ok (.ireturn, 1) := by decide +kernel
theorem dX11_make_0 : decode cX11_make 0 = .ok (.aload_n 0, 1) := by decide +kernel
theorem dX11_make_1 : decode cX11_make 1 = .ok (.getfield 30, 3) := by decide +kernel
theorem dX11_make_4 : decode cX11_make 4 = .ok (.aload_n 0, 1) := by decide +kernel
theorem dX11_make_5 : decode cX11_make 5 = .ok (.getfield 9, 3) := by decide +kernel
theorem dX11_make_8 : decode cX11_make 8 = .ok (.aload_n 0, 1) := by decide +kernel
theorem dX11_make_9 : decode cX11_make 9 = .ok (.getfield 13, 3) := by decide +kernel
theorem dX11_make_12 : decode cX11_make 12 = .ok (.aload_n 0, 1) := by decide +kernel
theorem dX11_make_13 : decode cX11_make 13 = .ok (.getfield 24, 3) := by decide +kernel
theorem dX11_make_16 : decode cX11_make 16 = .ok (.invokevirtual 129, 3) := by decide +kernel
theorem dX11_make_19 : decode cX11_make 19 = .ok (.bipush (-9), 2) := by decide +kernel
theorem dX11_make_21 : decode cX11_make 21 = .ok (.if_icmp .eq 6, 3) := by decide +kernel
theorem dX11_make_24 : decode cX11_make 24 = .ok (.bipush (-3), 2) := by decide +kernel
theorem dX11_make_26 : decode cX11_make 26 = .ok (.ireturn, 1) := by decide +kernel
theorem dX11_make_27 : decode cX11_make 27 = .ok (.aload_n 0, 1) := by decide +kernel
theorem dX11_make_28 : decode cX11_make 28 = .ok (.getfield 20, 3) := by decide +kernel
theorem dX11_make_31 : decode cX11_make 31 = .ok (.astore_n 1, 1) := by decide +kernel
theorem dX11_make_32 : decode cX11_make 32 = .ok (.aload_n 0, 1) := by decide +kernel
theorem dX11_make_33 : decode cX11_make 33 = .ok (.aload_n 0, 1) := by decide +kernel
theorem dX11_make_34 : decode cX11_make 34 = .ok (.getfield 24, 3) := by decide +kernel
theorem dX11_make_37 : decode cX11_make 37 = .ok (.putfield 20, 3) := by decide +kernel
theorem dX11_make_40 : decode cX11_make 40 = .ok (.aload_n 0, 1) := by decide +kernel
theorem dX11_make_41 : decode cX11_make 41 = .ok (.aload_n 1, 1) := by decide +kernel
theorem dX11_make_42 : decode cX11_make 42 = .ok (.putfield 24, 3) := by decide +kernel
theorem dX11_make_45 : decode cX11_make 45 = .ok (.iconst 0, 1) := by decide +kernel
theorem dX11_make_46 : decode cX11_make 46 = .ok (.istore_n 2, 1) := by decide +kernel
theorem dX11_make_47 : decode cX11_make 47 = .ok (.iload_n 2, 1) := by decide +kernel
theorem dX11_make_48 : decode cX11_make 48 = .ok (.iconst 2, 1) := by decide +kernel
theorem dX11_make_49 : decode cX11_make 49 = .ok (.if_icmp .ge 16, 3) := by decide +kernel
theorem dX11_make_52 : decode cX11_make 52 = .ok (.aload_n 0, 1) := by decide +kernel
theorem dX11_make_53 : decode cX11_make 53 = .ok (.getfield 63, 3) := by decide +kernel
theorem dX11_make_56 : decode cX11_make 56 = .ok (.iload_n 2, 1) := by decide +kernel
theorem dX11_make_57 : decode cX11_make 57 = .ok (.iconst 0, 1) := by decide +kernel
theorem dX11_make_58 : decode cX11_make 58 = .ok (.bastore, 1) := by decide +kernel
theorem dX11_make_59 : decode cX11_make 59 = .ok (.iinc 2 1, 3) := by decide +kernel
theorem dX11_make_62 : decode cX11_make 62 = .ok (.goto (-15), 3) := by decide +kernel
theorem dX11_make_65 : decode cX11_make 65 = .ok (.aload_n 0, 1) := by decide +kernel
theorem dX11_make_66 : decode cX11_make 66 = .ok (.getfield 67, 3) := by decide +kernel
theorem dX11_make_69 : decode cX11_make 69 = .ok (.bipush 99, 2) := by decide +kernel
theorem dX11_make_71 : decode cX11_make 71 = .ok (.invokestatic 119, 3) := by decide +kernel
theorem dX11_make_74 : decode cX11_make 74 = .ok (.aload_n 0, 1) := by decide +kernel
theorem dX11_make_75 : decode cX11_make 75 = .ok (.getfield 55, 3) := by decide +kernel
theorem dX11_make_78 : decode cX11_make 78 = .ok (.bipush 10, 2) := by decide +kernel
theorem dX11_make_80 : decode cX11_make 80 = .ok (.invokevirtual 115, 3) := by decide +kernel
theorem dX11_make_83 : decode cX11_make 83 = .ok (.aload_n 0, 1) := by decide +kernel
theorem dX11_make_84 : decode cX11_make 84 = .ok (.getfield 20, 3) := by decide +kernel
theorem dX11_make_87 : decode cX11_make 87 = .ok (.getfield 132, 3) := by decide +kernel
theorem dX11_make_90 : decode cX11_make 90 = .ok (.ireturn, 1) := by decide +kernel
theorem dX11_rule_0 : decode cX11_rule 0 = .ok (.iload_n 1, 1) := by decide +kernel
theorem dX11_rule_1 : decode cX11_rule 1 = .ok (.invokestatic 135, 3) := by decide +kernel
theorem dX11_rule_4 : decode cX11_rule 4 = .ok (.ifCond .ne 5, 3) := by decide +kernel
theorem dX11_rule_7 : decode cX11_rule 7 = .ok (.iconst (-1), 1) := by decide +kernel
theorem dX11_rule_8 : decode cX11_rule 8 = .ok (.ireturn, 1) := by decide +kernel
theorem dX11_rule_9 : decode cX11_rule 9 = .ok (.aload_n 0, 1) := by decide +kernel
theorem dX11_rule_10 : decode cX11_rule 10 = .ok (.getfield 48, 3) := by decide +kernel
theorem dX11_rule_13 : decode cX11_rule 13 = .ok (.aload_n 0, 1) := by decide +kernel
theorem dX11_rule_14 : decode cX11_rule 14 = .ok (.getfield 9, 3) := by decide +kernel
theorem dX11_rule_17 : decode cX11_rule 17 = .ok (.aload_n 0, 1) := by decide +kernel
theorem dX11_rule_18 : decode cX11_rule 18 = .ok (.getfield 13, 3) := by decide +kernel
theorem dX11_rule_21 : decode cX11_rule 21 = .ok (.aload_n 0, 1) := by decide +kernel
theorem dX11_rule_22 : decode cX11_rule 22 = .ok (.getfield 41, 3) := by decide +kernel
theorem dX11_rule_25 : decode cX11_rule 25 = .ok (.invokevirtual 125, 3) := by decide +kernel
theorem dX11_rule_28 : decode cX11_rule 28 = .ok (.bipush (-9), 2) := by decide +kernel
theorem dX11_rule_30 : decode cX11_rule 30 = .ok (.if_icmp .eq 6, 3) := by decide +kernel
theorem dX11_rule_33 : decode cX11_rule 33 = .ok (.bipush (-3), 2) := by decide +kernel
theorem dX11_rule_35 : decode cX11_rule 35 = .ok (.ireturn, 1) := by decide +kernel
theorem dX11_rule_36 : decode cX11_rule 36 = .ok (.aload_n 0, 1) := by decide +kernel
theorem dX11_rule_37 : decode cX11_rule 37 = .ok (.getfield 36, 3) := by decide +kernel
theorem dX11_rule_40 : decode cX11_rule 40 = .ok (.iload_n 1, 1) := by decide +kernel
theorem dX11_rule_41 : decode cX11_rule 41 = .ok (.aaload, 1) := by decide +kernel
theorem dX11_rule_42 : decode cX11_rule 42 = .ok (.aload_n 0, 1) := by decide +kernel
theorem dX11_rule_43 : decode cX11_rule 43 = .ok (.getfield 41, 3) := by decide +kernel
theorem dX11_rule_46 : decode cX11_rule 46 = .ok (.invokevirtual 139, 3) := by decide +kernel
theorem dX11_rule_49 : decode cX11_rule 49 = .ok (.aload_n 0, 1) := by decide +kernel
theorem dX11_rule_50 : decode cX11_rule 50 = .ok (.getfield 41, 3) := by decide +kernel
theorem dX11_rule_53 : decode cX11_rule 53 = .ok (.getfield 143, 3) := by decide +kernel
theorem dX11_rule_56 : decode cX11_rule 56 = .ok (.ireturn, 1) := by decide +kernel
theorem dX11_ruled_0 : decode cX11_ruled 0 = .ok (.iload_n 1, 1) := by decide +kernel
theorem dX11_ruled_1 : decode cX11_ruled 1 = .ok (.invokestatic 135, 3) := by decide +kernel
theorem dX11_ruled_4 : decode cX11_ruled 4 = .ok (.ifCond .eq 10, 3) := by decide +kernel
theorem dX11_ruled_7 : decode cX11_ruled 7 = .ok (.iload_n 2, 1) := by decide +kernel
theorem dX11_ruled_8 : decode cX11_ruled 8 = .ok (.invokestatic 146, 3) := by decide +kernel
theorem dX11_ruled_11 : decode cX11_ruled 11 = .ok (.ifCond .ne 5, 3) := by decide +kernel
theorem dX11_ruled_14 : decode cX11_ruled 14 = .ok (.iconst (-1), 1) := by decide +kernel
theorem dX11_ruled_15 : decode cX11_ruled 15 = .ok (.ireturn, 1) := by decide +kernel
theorem dX11_ruled_16 : decode cX11_ruled 16 = .ok (.aload_n 0, 1) := by decide +kernel
theorem dX11_ruled_17 : decode cX11_ruled 17 = .ok (.getfield 36, 3) := by decide +kernel
theorem dX11_ruled_20 : decode cX11_ruled 20 = .ok (.iload_n 1, 1) := by decide +kernel
theorem dX11_ruled_21 : decode cX11_ruled 21 = .ok (.aaload, 1) := by decide +kernel
theorem dX11_ruled_22 : decode cX11_ruled 22 = .ok (.iload_n 2, 1) := by decide +kernel
theorem dX11_ruled_23 : decode cX11_ruled 23 = .ok (.invokevirtual 149, 3) := by decide +kernel
theorem dX11_ruled_26 : decode cX11_ruled 26 = .ok (.ireturn, 1) := by decide +kernel
theorem dX11_session_0 : decode cX11_session 0 = .ok (.aload_n 0, 1) := by decide +kernel
theorem dX11_session_1 : decode cX11_session 1 = .ok (.getfield 20, 3) := by decide +kernel
theorem dX11_session_4 : decode cX11_session 4 = .ok (.iload_n 1, 1) := by decide +kernel
theorem dX11_session_5 : decode cX11_session 5 = .ok (.invokevirtual 153, 3) := by decide +kernel
theorem dX11_session_8 : decode cX11_session 8 = .ok (.ifCond .ne 5, 3) := by decide +kernel
theorem dX11_session_11 : decode cX11_session 11 = .ok (.iconst (-1), 1) := by decide +kernel
theorem dX11_session_12 : decode cX11_session 12 = .ok (.ireturn, 1) := by decide +kernel
theorem dX11_session_13 : decode cX11_session 13 = .ok (.iload_n 2, 1) := by decide +kernel
theorem dX11_session_14 : decode cX11_session 14 = .ok (.tableswitch 56 0 2 #[26, 36, 46], 26) := by decide +kernel
theorem dX11_session_40 : decode cX11_session 40 = .ok (.aload_n 0, 1) := by decide +kernel
theorem dX11_session_41 : decode cX11_session 41 = .ok (.getfield 20, 3) := by decide +kernel
theorem dX11_session_44 : decode cX11_session 44 = .ok (.getfield 156, 3) := by decide +kernel
theorem dX11_session_47 : decode cX11_session 47 = .ok (.iload_n 1, 1) := by decide +kernel
theorem dX11_session_48 : decode cX11_session 48 = .ok (.iaload, 1) := by decide +kernel
theorem dX11_session_49 : decode cX11_session 49 = .ok (.ireturn, 1) := by decide +kernel
theorem dX11_session_50 : decode cX11_session 50 = .ok (.aload_n 0, 1) := by decide +kernel
theorem dX11_session_51 : decode cX11_session 51 = .ok (.getfield 20, 3) := by decide +kernel
theorem dX11_session_54 : decode cX11_session 54 = .ok (.getfield 159, 3) := by decide +kernel
theorem dX11_session_57 : decode cX11_session 57 = .ok (.iload_n 1, 1) := by decide +kernel
theorem dX11_session_58 : decode cX11_session 58 = .ok (.iaload, 1) := by decide +kernel
theorem dX11_session_59 : decode cX11_session 59 = .ok (.ireturn, 1) := by decide +kernel
theorem dX11_session_60 : decode cX11_session 60 = .ok (.aload_n 0, 1) := by decide +kernel
theorem dX11_session_61 : decode cX11_session 61 = .ok (.getfield 20, 3) := by decide +kernel
theorem dX11_session_64 : decode cX11_session 64 = .ok (.getfield 162, 3) := by decide +kernel
theorem dX11_session_67 : decode cX11_session 67 = .ok (.iload_n 1, 1) := by decide +kernel
theorem dX11_session_68 : decode cX11_session 68 = .ok (.iaload, 1) := by decide +kernel
theorem dX11_session_69 : decode cX11_session 69 = .ok (.ireturn, 1) := by decide +kernel
theorem dX11_session_70 : decode cX11_session 70 = .ok (.bipush (-2), 2) := by decide +kernel
theorem dX11_session_72 : decode cX11_session 72 = .ok (.ireturn, 1) := by decide +kernel
theorem dX11_place_0 : decode cX11_place 0 = .ok (.aload_n 0, 1) := by decide +kernel
theorem dX11_place_1 : decode cX11_place 1 = .ok (.getfield 20, 3) := by decide +kernel
theorem dX11_place_4 : decode cX11_place 4 = .ok (.iload_n 1, 1) := by decide +kernel
theorem dX11_place_5 : decode cX11_place 5 = .ok (.invokevirtual 165, 3) := by decide +kernel
theorem dX11_place_8 : decode cX11_place 8 = .ok (.ifCond .ne 5, 3) := by decide +kernel
theorem dX11_place_11 : decode cX11_place 11 = .ok (.iconst (-1), 1) := by decide +kernel
theorem dX11_place_12 : decode cX11_place 12 = .ok (.ireturn, 1) := by decide +kernel
theorem dX11_place_13 : decode cX11_place 13 = .ok (.iload_n 2, 1) := by decide +kernel
theorem dX11_place_14 : decode cX11_place 14 = .ok (.tableswitch 70 0 3 #[30, 40, 50, 60], 30) := by decide +kernel
theorem dX11_place_44 : decode cX11_place 44 = .ok (.aload_n 0, 1) := by decide +kernel
theorem dX11_place_45 : decode cX11_place 45 = .ok (.getfield 20, 3) := by decide +kernel
theorem dX11_place_48 : decode cX11_place 48 = .ok (.getfield 168, 3) := by decide +kernel
theorem dX11_place_51 : decode cX11_place 51 = .ok (.iload_n 1, 1) := by decide +kernel
theorem dX11_place_52 : decode cX11_place 52 = .ok (.iaload, 1) := by decide +kernel
theorem dX11_place_53 : decode cX11_place 53 = .ok (.ireturn, 1) := by decide +kernel
theorem dX11_place_54 : decode cX11_place 54 = .ok (.aload_n 0, 1) := by decide +kernel
theorem dX11_place_55 : decode cX11_place 55 = .ok (.getfield 20, 3) := by decide +kernel
theorem dX11_place_58 : decode cX11_place 58 = .ok (.getfield 171, 3) := by decide +kernel
theorem dX11_place_61 : decode cX11_place 61 = .ok (.iload_n 1, 1) := by decide +kernel
theorem dX11_place_62 : decode cX11_place 62 = .ok (.iaload, 1) := by decide +kernel
theorem dX11_place_63 : decode cX11_place 63 = .ok (.ireturn, 1) := by decide +kernel
theorem dX11_place_64 : decode cX11_place 64 = .ok (.aload_n 0, 1) := by decide +kernel
theorem dX11_place_65 : decode cX11_place 65 = .ok (.getfield 20, 3) := by decide +kernel
theorem dX11_place_68 : decode cX11_place 68 = .ok (.getfield 174, 3) := by decide +kernel
theorem dX11_place_71 : decode cX11_place 71 = .ok (.iload_n 1, 1) := by decide +kernel
theorem dX11_place_72 : decode cX11_place 72 = .ok (.iaload, 1) := by decide +kernel
theorem dX11_place_73 : decode cX11_place 73 = .ok (.ireturn, 1) := by decide +kernel
theorem dX11_place_74 : decode cX11_place 74 = .ok (.aload_n 0, 1) := by decide +kernel
theorem dX11_place_75 : decode cX11_place 75 = .ok (.getfield 20, 3) := by decide +kernel
theorem dX11_place_78 : decode cX11_place 78 = .ok (.getfield 177, 3) := by decide +kernel
theorem dX11_place_81 : decode cX11_place 81 = .ok (.iload_n 1, 1) := by decide +kernel
theorem dX11_place_82 : decode cX11_place 82 = .ok (.iaload, 1) := by decide +kernel
theorem dX11_place_83 : decode cX11_place 83 = .ok (.ireturn, 1) := by decide +kernel
theorem dX11_place_84 : decode cX11_place 84 = .ok (.bipush (-2), 2) := by decide +kernel
theorem dX11_place_86 : decode cX11_place 86 = .ok (.ireturn, 1) := by decide +kernel
theorem dX11_home_0 : decode cX11_home 0 = .ok (.aload_n 0, 1) := by decide +kernel
theorem dX11_home_1 : decode cX11_home 1 = .ok (.getfield 20, 3) := by decide +kernel
theorem dX11_home_4 : decode cX11_home 4 = .ok (.iload_n 1, 1) := by decide +kernel
theorem dX11_home_5 : decode cX11_home 5 = .ok (.invokevirtual 180, 3) := by decide +kernel
theorem dX11_home_8 : decode cX11_home 8 = .ok (.ifCond .ne 5, 3) := by decide +kernel
theorem dX11_home_11 : decode cX11_home 11 = .ok (.iconst (-1), 1) := by decide +kernel
theorem dX11_home_12 : decode cX11_home 12 = .ok (.ireturn, 1) := by decide +kernel
theorem dX11_home_13 : decode cX11_home 13 = .ok (.aload_n 0, 1) := by decide +kernel
theorem dX11_home_14 : decode cX11_home 14 = .ok (.getfield 20, 3) := by decide +kernel
theorem dX11_home_17 : decode cX11_home 17 = .ok (.getfield 183, 3) := by decide +kernel
theorem dX11_home_20 : decode cX11_home 20 = .ok (.iload_n 1, 1) := by decide +kernel
theorem dX11_home_21 : decode cX11_home 21 = .ok (.iaload, 1) := by decide +kernel
theorem dX11_home_22 : decode cX11_home 22 = .ok (.ireturn, 1) := by decide +kernel
theorem dX11_own_0 : decode cX11_own 0 = .ok (.iload_n 1, 1) := by decide +kernel
theorem dX11_own_1 : decode cX11_own 1 = .ok (.ifCond .lt 16, 3) := by decide +kernel
theorem dX11_own_4 : decode cX11_own 4 = .ok (.iload_n 1, 1) := by decide +kernel
theorem dX11_own_5 : decode cX11_own 5 = .ok (.iconst 1, 1) := by decide +kernel
theorem dX11_own_6 : decode cX11_own 6 = .ok (.aload_n 0, 1) := by decide +kernel
theorem dX11_own_7 : decode cX11_own 7 = .ok (.getfield 20, 3) := by decide +kernel
theorem dX11_own_10 : decode cX11_own 10 = .ok (.getfield 132, 3) := by decide +kernel
theorem dX11_own_13 : decode cX11_own 13 = .ok (.ishl, 1) := by decide +kernel
theorem dX11_own_14 : decode cX11_own 14 = .ok (.if_icmp .lt 6, 3) := by decide +kernel
theorem dX11_own_17 : decode cX11_own 17 = .ok (.bipush (-2), 2) := by decide +kernel
theorem dX11_own_19 : decode cX11_own 19 = .ok (.ireturn, 1) := by decide +kernel
theorem dX11_own_20 : decode cX11_own 20 = .ok (.aload_n 0, 1) := by decide +kernel
theorem dX11_own_21 : decode cX11_own 21 = .ok (.getfield 20, 3) := by decide +kernel
theorem dX11_own_24 : decode cX11_own 24 = .ok (.getfield 186, 3) := by decide +kernel
theorem dX11_own_27 : decode cX11_own 27 = .ok (.istore_n 2, 1) := by decide +kernel
theorem dX11_own_28 : decode cX11_own 28 = .ok (.aload_n 0, 1) := by decide +kernel
theorem dX11_own_29 : decode cX11_own 29 = .ok (.getfield 20, 3) := by decide +kernel
theorem dX11_own_32 : decode cX11_own 32 = .ok (.iload_n 1, 1) := by decide +kernel
theorem dX11_own_33 : decode cX11_own 33 = .ok (.putfield 186, 3) := by decide +kernel
theorem dX11_own_36 : decode cX11_own 36 = .ok (.iload_n 2, 1) := by decide +kernel
theorem dX11_own_37 : decode cX11_own 37 = .ok (.ireturn, 1) := by decide +kernel
theorem dX11_hour_0 : decode cX11_hour 0 = .ok (.iload_n 1, 1) := by decide +kernel
theorem dX11_hour_1 : decode cX11_hour 1 = .ok (.invokestatic 135, 3) := by decide +kernel
theorem dX11_hour_4 : decode cX11_hour 4 = .ok (.ifCond .ne 5, 3) := by decide +kernel
theorem dX11_hour_7 : decode cX11_hour 7 = .ok (.iconst (-1), 1) := by decide +kernel
theorem dX11_hour_8 : decode cX11_hour 8 = .ok (.ireturn, 1) := by decide +kernel
theorem dX11_hour_9 : decode cX11_hour 9 = .ok (.aload_n 0, 1) := by decide +kernel
theorem dX11_hour_10 : decode cX11_hour 10 = .ok (.getfield 55, 3) := by decide +kernel
theorem dX11_hour_13 : decode cX11_hour 13 = .ok (.aload_n 0, 1) := by decide +kernel
theorem dX11_hour_14 : decode cX11_hour 14 = .ok (.getfield 20, 3) := by decide +kernel
theorem dX11_hour_17 : decode cX11_hour 17 = .ok (.aload_n 0, 1) := by decide +kernel
theorem dX11_hour_18 : decode cX11_hour 18 = .ok (.getfield 36, 3) := by decide +kernel
theorem dX11_hour_21 : decode cX11_hour 21 = .ok (.iload_n 1, 1) := by decide +kernel
theorem dX11_hour_22 : decode cX11_hour 22 = .ok (.aaload, 1) := by decide +kernel
theorem dX11_hour_23 : decode cX11_hour 23 = .ok (.aload_n 0, 1) := by decide +kernel
theorem dX11_hour_24 : decode cX11_hour 24 = .ok (.getfield 55, 3) := by decide +kernel
theorem dX11_hour_27 : decode cX11_hour 27 = .ok (.getfield 189, 3) := by decide +kernel
theorem dX11_hour_30 : decode cX11_hour 30 = .ok (.invokevirtual 149, 3) := by decide +kernel
theorem dX11_hour_33 : decode cX11_hour 33 = .ok (.iconst 0, 1) := by decide +kernel
theorem dX11_hour_34 : decode cX11_hour 34 = .ok (.invokevirtual 192, 3) := by decide +kernel
theorem dX11_hour_37 : decode cX11_hour 37 = .ok (.aload_n 0, 1) := by decide +kernel
theorem dX11_hour_38 : decode cX11_hour 38 = .ok (.getfield 55, 3) := by decide +kernel
theorem dX11_hour_41 : decode cX11_hour 41 = .ok (.getfield 196, 3) := by decide +kernel
theorem dX11_hour_44 : decode cX11_hour 44 = .ok (.invokestatic 199, 3) := by decide +kernel
theorem dX11_hour_47 : decode cX11_hour 47 = .ok (.ireturn, 1) := by decide +kernel
theorem dX11_where_0 : decode cX11_where 0 = .ok (.aload_n 0, 1) := by decide +kernel
theorem dX11_where_1 : decode cX11_where 1 = .ok (.getfield 55, 3) := by decide +kernel
theorem dX11_where_4 : decode cX11_where 4 = .ok (.getfield 204, 3) := by decide +kernel
theorem dX11_where_7 : decode cX11_where 7 = .ok (.ireturn, 1) := by decide +kernel
theorem dX11_bring_0 : decode cX11_bring 0 = .ok (.aload_n 0, 1) := by decide +kernel
theorem dX11_bring_1 : decode cX11_bring 1 = .ok (.getfield 20, 3) := by decide +kernel
theorem dX11_bring_4 : decode cX11_bring 4 = .ok (.iload_n 1, 1) := by decide +kernel
theorem dX11_bring_5 : decode cX11_bring 5 = .ok (.invokevirtual 207, 3) := by decide +kernel
theorem dX11_bring_8 : decode cX11_bring 8 = .ok (.ifCond .ne 5, 3) := by decide +kernel
theorem dX11_bring_11 : decode cX11_bring 11 = .ok (.iconst (-1), 1) := by decide +kernel
theorem dX11_bring_12 : decode cX11_bring 12 = .ok (.ireturn, 1) := by decide +kernel
theorem dX11_bring_13 : decode cX11_bring 13 = .ok (.aload_n 0, 1) := by decide +kernel
theorem dX11_bring_14 : decode cX11_bring 14 = .ok (.getfield 55, 3) := by decide +kernel
theorem dX11_bring_17 : decode cX11_bring 17 = .ok (.getfield 204, 3) := by decide +kernel
theorem dX11_bring_20 : decode cX11_bring 20 = .ok (.bipush 20, 2) := by decide +kernel
theorem dX11_bring_22 : decode cX11_bring 22 = .ok (.if_icmp .ne 6, 3) := by decide +kernel
theorem dX11_bring_25 : decode cX11_bring 25 = .ok (.bipush (-3), 2) := by decide +kernel
theorem dX11_bring_27 : decode cX11_bring 27 = .ok (.ireturn, 1) := by decide +kernel
theorem dX11_bring_28 : decode cX11_bring 28 = .ok (.aload_n 0, 1) := by decide +kernel
theorem dX11_bring_29 : decode cX11_bring 29 = .ok (.getfield 55, 3) := by decide +kernel
theorem dX11_bring_32 : decode cX11_bring 32 = .ok (.getfield 204, 3) := by decide +kernel
theorem dX11_bring_35 : decode cX11_bring 35 = .ok (.istore_n 2, 1) := by decide +kernel
theorem dX11_bring_36 : decode cX11_bring 36 = .ok (.aload_n 0, 1) := by decide +kernel
theorem dX11_bring_37 : decode cX11_bring 37 = .ok (.getfield 55, 3) := by decide +kernel
theorem dX11_bring_40 : decode cX11_bring 40 = .ok (.iload_n 1, 1) := by decide +kernel
theorem dX11_bring_41 : decode cX11_bring 41 = .ok (.putfield 204, 3) := by decide +kernel
theorem dX11_bring_44 : decode cX11_bring 44 = .ok (.iload_n 2, 1) := by decide +kernel
theorem dX11_bring_45 : decode cX11_bring 45 = .ok (.ireturn, 1) := by decide +kernel
theorem dX11_live_0 : decode cX11_live 0 = .ok (.iload_n 1, 1) := by decide +kernel
theorem dX11_live_1 : decode cX11_live 1 = .ok (.tableswitch 87 0 5 #[39, 47, 55, 63, 71, 79], 39) := by decide +kernel
theorem dX11_live_40 : decode cX11_live 40 = .ok (.aload_n 0, 1) := by decide +kernel
theorem dX11_live_41 : decode cX11_live 41 = .ok (.getfield 55, 3) := by decide +kernel
theorem dX11_live_44 : decode cX11_live 44 = .ok (.getfield 189, 3) := by decide +kernel
theorem dX11_live_47 : decode cX11_live 47 = .ok (.ireturn, 1) := by decide +kernel
theorem dX11_live_48 : decode cX11_live 48 = .ok (.aload_n 0, 1) := by decide +kernel
theorem dX11_live_49 : decode cX11_live 49 = .ok (.getfield 55, 3) := by decide +kernel
theorem dX11_live_52 : decode cX11_live 52 = .ok (.getfield 210, 3) := by decide +kernel
theorem dX11_live_55 : decode cX11_live 55 = .ok (.ireturn, 1) := by decide +kernel
theorem dX11_live_56 : decode cX11_live 56 = .ok (.aload_n 0, 1) := by decide +kernel
theorem dX11_live_57 : decode cX11_live 57 = .ok (.getfield 55, 3) := by decide +kernel
theorem dX11_live_60 : decode cX11_live 60 = .ok (.getfield 213, 3) := by decide +kernel
theorem dX11_live_63 : decode cX11_live 63 = .ok (.ireturn, 1) := by decide +kernel
theorem dX11_live_64 : decode cX11_live 64 = .ok (.aload_n 0, 1) := by decide +kernel
theorem dX11_live_65 : decode cX11_live 65 = .ok (.getfield 55, 3) := by decide +kernel
theorem dX11_live_68 : decode cX11_live 68 = .ok (.getfield 216, 3) := by decide +kernel
theorem dX11_live_71 : decode cX11_live 71 = .ok (.ireturn, 1) := by decide +kernel
theorem dX11_live_72 : decode cX11_live 72 = .ok (.aload_n 0, 1) := by decide +kernel
theorem dX11_live_73 : decode cX11_live 73 = .ok (.getfield 55, 3) := by decide +kernel
theorem dX11_live_76 : decode cX11_live 76 = .ok (.getfield 219, 3) := by decide +kernel
theorem dX11_live_79 : decode cX11_live 79 = .ok (.ireturn, 1) := by decide +kernel
theorem dX11_live_80 : decode cX11_live 80 = .ok (.aload_n 0, 1) := by decide +kernel
theorem dX11_live_81 : decode cX11_live 81 = .ok (.getfield 55, 3) := by decide +kernel
theorem dX11_live_84 : decode cX11_live 84 = .ok (.getfield 221, 3) := by decide +kernel
theorem dX11_live_87 : decode cX11_live 87 = .ok (.ireturn, 1) := by decide +kernel
theorem dX11_live_88 : decode cX11_live 88 = .ok (.bipush (-2), 2) := by decide +kernel
theorem dX11_live_90 : decode cX11_live 90 = .ok (.ireturn, 1) := by decide +kernel
theorem dX11_keep_0 : decode cX11_keep 0 = .ok (.iload_n 1, 1) := by decide +kernel
theorem dX11_keep_1 : decode cX11_keep 1 = .ok (.invokestatic 224, 3) := by decide +kernel
theorem dX11_keep_4 : decode cX11_keep 4 = .ok (.ifCond .ne 5, 3) := by decide +kernel
theorem dX11_keep_7 : decode cX11_keep 7 = .ok (.iconst (-1), 1) := by decide +kernel
theorem dX11_keep_8 : decode cX11_keep 8 = .ok (.ireturn, 1) := by decide +kernel
theorem dX11_keep_9 : decode cX11_keep 9 = .ok (.aload_n 0, 1) := by decide +kernel
theorem dX11_keep_10 : decode cX11_keep 10 = .ok (.getfield 63, 3) := by decide +kernel
theorem dX11_keep_13 : decode cX11_keep 13 = .ok (.iload_n 1, 1) := by decide +kernel
theorem dX11_keep_14 : decode cX11_keep 14 = .ok (.baload, 1) := by decide +kernel
theorem dX11_keep_15 : decode cX11_keep 15 = .ok (.ifCond .eq 7, 3) := by decide +kernel
theorem dX11_keep_18 : decode cX11_keep 18 = .ok (.iconst 0, 1) := by decide +kernel
theorem dX11_keep_19 : decode cX11_keep 19 = .ok (.goto 4, 3) := by decide +kernel
theorem dX11_keep_22 : decode cX11_keep 22 = .ok (.iconst 1, 1) := by decide +kernel
theorem dX11_keep_23 : decode cX11_keep 23 = .ok (.istore_n 2, 1) := by decide +kernel
theorem dX11_keep_24 : decode cX11_keep 24 = .ok (.aload_n 0, 1) := by decide +kernel
theorem dX11_keep_25 : decode cX11_keep 25 = .ok (.getfield 59, 3) := by decide +kernel
theorem dX11_keep_28 : decode cX11_keep 28 = .ok (.iload_n 1, 1) := by decide +kernel
theorem dX11_keep_29 : decode cX11_keep 29 = .ok (.aaload, 1) := by decide +kernel
theorem dX11_keep_30 : decode cX11_keep 30 = .ok (.aload_n 0, 1) := by decide +kernel
theorem dX11_keep_31 : decode cX11_keep 31 = .ok (.getfield 55, 3) := by decide +kernel
theorem dX11_keep_34 : decode cX11_keep 34 = .ok (.invokevirtual 227, 3) := by decide +kernel
theorem dX11_keep_37 : decode cX11_keep 37 = .ok (.aload_n 0, 1) := by decide +kernel
theorem dX11_keep_38 : decode cX11_keep 38 = .ok (.getfield 63, 3) := by decide +kernel
theorem dX11_keep_41 : decode cX11_keep 41 = .ok (.iload_n 1, 1) := by decide +kernel
theorem dX11_keep_42 : decode cX11_keep 42 = .ok (.iconst 1, 1) := by decide +kernel
theorem dX11_keep_43 : decode cX11_keep 43 = .ok (.bastore, 1) := by decide +kernel
theorem dX11_keep_44 : decode cX11_keep 44 = .ok (.iload_n 2, 1) := by decide +kernel
theorem dX11_keep_45 : decode cX11_keep 45 = .ok (.ireturn, 1) := by decide +kernel
theorem dX11_again_0 : decode cX11_again 0 = .ok (.iload_n 1, 1) := by decide +kernel
theorem dX11_again_1 : decode cX11_again 1 = .ok (.invokestatic 224, 3) := by decide +kernel
theorem dX11_again_4 : decode cX11_again 4 = .ok (.ifCond .ne 5, 3) := by decide +kernel
theorem dX11_again_7 : decode cX11_again 7 = .ok (.iconst (-1), 1) := by decide +kernel
theorem dX11_again_8 : decode cX11_again 8 = .ok (.ireturn, 1) := by decide +kernel
theorem dX11_again_9 : decode cX11_again 9 = .ok (.aload_n 0, 1) := by decide +kernel
theorem dX11_again_10 : decode cX11_again 10 = .ok (.getfield 63, 3) := by decide +kernel
theorem dX11_again_13 : decode cX11_again 13 = .ok (.iload_n 1, 1) := by decide +kernel
theorem dX11_again_14 : decode cX11_again 14 = .ok (.baload, 1) := by decide +kernel
theorem dX11_again_15 : decode cX11_again 15 = .ok (.ifCond .ne 6, 3) := by decide +kernel
theorem dX11_again_18 : decode cX11_again 18 = .ok (.bipush (-3), 2) := by decide +kernel
theorem dX11_again_20 : decode cX11_again 20 = .ok (.ireturn, 1) := by decide +kernel
theorem dX11_again_21 : decode cX11_again 21 = .ok (.aload_n 0, 1) := by decide +kernel
theorem dX11_again_22 : decode cX11_again 22 = .ok (.getfield 55, 3) := by decide +kernel
theorem dX11_again_25 : decode cX11_again 25 = .ok (.aload_n 0, 1) := by decide +kernel
theorem dX11_again_26 : decode cX11_again 26 = .ok (.getfield 59, 3) := by decide +kernel
theorem dX11_again_29 : decode cX11_again 29 = .ok (.iload_n 1, 1) := by decide +kernel
theorem dX11_again_30 : decode cX11_again 30 = .ok (.aaload, 1) := by decide +kernel
theorem dX11_again_31 : decode cX11_again 31 = .ok (.invokevirtual 227, 3) := by decide +kernel
theorem dX11_again_34 : decode cX11_again 34 = .ok (.aload_n 0, 1) := by decide +kernel
theorem dX11_again_35 : decode cX11_again 35 = .ok (.getfield 55, 3) := by decide +kernel
theorem dX11_again_38 : decode cX11_again 38 = .ok (.getfield 189, 3) := by decide +kernel
theorem dX11_again_41 : decode cX11_again 41 = .ok (.ireturn, 1) := by decide +kernel
theorem dX11_week_0 : decode cX11_week 0 = .ok (.aload_n 0, 1) := by decide +kernel
theorem dX11_week_1 : decode cX11_week 1 = .ok (.iload_n 1, 1) := by decide +kernel
theorem dX11_week_2 : decode cX11_week 2 = .ok (.iload_n 2, 1) := by decide +kernel
theorem dX11_week_3 : decode cX11_week 3 = .ok (.invokevirtual 230, 3) := by decide +kernel
theorem dX11_week_6 : decode cX11_week 6 = .ok (.ifCond .ne 5, 3) := by decide +kernel
theorem dX11_week_9 : decode cX11_week 9 = .ok (.iconst (-1), 1) := by decide +kernel
theorem dX11_week_10 : decode cX11_week 10 = .ok (.ireturn, 1) := by decide +kernel
theorem dX11_week_11 : decode cX11_week 11 = .ok (.iload_n 3, 1) := by decide +kernel
theorem dX11_week_12 : decode cX11_week 12 = .ok (.ifCond .lt 8, 3) := by decide +kernel
theorem dX11_week_15 : decode cX11_week 15 = .ok (.iload_n 3, 1) := by decide +kernel
theorem dX11_week_16 : decode cX11_week 16 = .ok (.iconst 3, 1) := by decide +kernel
theorem dX11_week_17 : decode cX11_week 17 = .ok (.if_icmp .le 6, 3) := by decide +kernel
theorem dX11_week_20 : decode cX11_week 20 = .ok (.bipush (-2), 2) := by decide +kernel
theorem dX11_week_22 : decode cX11_week 22 = .ok (.ireturn, 1) := by decide +kernel
theorem dX11_week_23 : decode cX11_week 23 = .ok (.aload_n 0, 1) := by decide +kernel
theorem dX11_week_24 : decode cX11_week 24 = .ok (.getfield 74, 3) := by decide +kernel
theorem dX11_week_27 : decode cX11_week 27 = .ok (.aload_n 0, 1) := by decide +kernel
theorem dX11_week_28 : decode cX11_week 28 = .ok (.getfield 20, 3) := by decide +kernel
theorem dX11_week_31 : decode cX11_week 31 = .ok (.aload_n 0, 1) := by decide +kernel
theorem dX11_week_32 : decode cX11_week 32 = .ok (.getfield 36, 3) := by decide +kernel
theorem dX11_week_35 : decode cX11_week 35 = .ok (.iload_n 1, 1) := by decide +kernel
theorem dX11_week_36 : decode cX11_week 36 = .ok (.aaload, 1) := by decide +kernel
theorem dX11_week_37 : decode cX11_week 37 = .ok (.iload_n 2, 1) := by decide +kernel
theorem dX11_week_38 : decode cX11_week 38 = .ok (.iconst 0, 1) := by decide +kernel
theorem dX11_week_39 : decode cX11_week 39 = .ok (.invokevirtual 234, 3) := by decide +kernel
theorem dX11_week_42 : decode cX11_week 42 = .ok (.iload_n 3, 1) := by decide +kernel
theorem dX11_week_43 : decode cX11_week 43 = .ok (.tableswitch 58 0 2 #[25, 36, 47], 25) := by decide +kernel
theorem dX11_week_68 : decode cX11_week 68 = .ok (.aload_n 0, 1) := by decide +kernel
theorem dX11_week_69 : decode cX11_week 69 = .ok (.getfield 74, 3) := by decide +kernel
theorem dX11_week_72 : decode cX11_week 72 = .ok (.getfield 238, 3) := by decide +kernel
theorem dX11_week_75 : decode cX11_week 75 = .ok (.getfield 216, 3) := by decide +kernel
theorem dX11_week_78 : decode cX11_week 78 = .ok (.ireturn, 1) := by decide +kernel
theorem dX11_week_79 : decode cX11_week 79 = .ok (.aload_n 0, 1) := by decide +kernel
theorem dX11_week_80 : decode cX11_week 80 = .ok (.getfield 74, 3) := by decide +kernel
theorem dX11_week_83 : decode cX11_week 83 = .ok (.getfield 238, 3) := by decide +kernel
theorem dX11_week_86 : decode cX11_week 86 = .ok (.getfield 219, 3) := by decide +kernel
theorem dX11_week_89 : decode cX11_week 89 = .ok (.ireturn, 1) := by decide +kernel
theorem dX11_week_90 : decode cX11_week 90 = .ok (.aload_n 0, 1) := by decide +kernel
theorem dX11_week_91 : decode cX11_week 91 = .ok (.getfield 74, 3) := by decide +kernel
theorem dX11_week_94 : decode cX11_week 94 = .ok (.getfield 238, 3) := by decide +kernel
theorem dX11_week_97 : decode cX11_week 97 = .ok (.getfield 221, 3) := by decide +kernel
theorem dX11_week_100 : decode cX11_week 100 = .ok (.ireturn, 1) := by decide +kernel
theorem dX11_week_101 : decode cX11_week 101 = .ok (.aload_n 0, 1) := by decide +kernel
theorem dX11_week_102 : decode cX11_week 102 = .ok (.getfield 74, 3) := by decide +kernel
theorem dX11_week_105 : decode cX11_week 105 = .ok (.getfield 238, 3) := by decide +kernel
theorem dX11_week_108 : decode cX11_week 108 = .ok (.getfield 204, 3) := by decide +kernel
theorem dX11_week_111 : decode cX11_week 111 = .ok (.ireturn, 1) := by decide +kernel
theorem dX11_ahead_0 : decode cX11_ahead 0 = .ok (.aload_n 0, 1) := by decide +kernel
theorem dX11_ahead_1 : decode cX11_ahead 1 = .ok (.iload_n 1, 1) := by decide +kernel
theorem dX11_ahead_2 : decode cX11_ahead 2 = .ok (.iload_n 2, 1) := by decide +kernel
theorem dX11_ahead_3 : decode cX11_ahead 3 = .ok (.invokevirtual 230, 3) := by decide +kernel
theorem dX11_ahead_6 : decode cX11_ahead 6 = .ok (.ifCond .eq 10, 3) := by decide +kernel
theorem dX11_ahead_9 : decode cX11_ahead 9 = .ok (.iload_n 3, 1) := by decide +kernel
theorem dX11_ahead_10 : decode cX11_ahead 10 = .ok (.invokestatic 146, 3) := by decide +kernel
theorem dX11_ahead_13 : decode cX11_ahead 13 = .ok (.ifCond .ne 5, 3) := by decide +kernel
theorem dX11_ahead_16 : decode cX11_ahead 16 = .ok (.iconst (-1), 1) := by decide +kernel
theorem dX11_ahead_17 : decode cX11_ahead 17 = .ok (.ireturn, 1) := by decide +kernel
theorem dX11_ahead_18 : decode cX11_ahead 18 = .ok (.aload_n 0, 1) := by decide +kernel
theorem dX11_ahead_19 : decode cX11_ahead 19 = .ok (.getfield 74, 3) := by decide +kernel
theorem dX11_ahead_22 : decode cX11_ahead 22 = .ok (.aload_n 0, 1) := by decide +kernel
theorem dX11_ahead_23 : decode cX11_ahead 23 = .ok (.getfield 20, 3) := by decide +kernel
theorem dX11_ahead_26 : decode cX11_ahead 26 = .ok (.aload_n 0, 1) := by decide +kernel
theorem dX11_ahead_27 : decode cX11_ahead 27 = .ok (.getfield 36, 3) := by decide +kernel
theorem dX11_ahead_30 : decode cX11_ahead 30 = .ok (.iload_n 1, 1) := by decide +kernel
theorem dX11_ahead_31 : decode cX11_ahead 31 = .ok (.aaload, 1) := by decide +kernel
theorem dX11_ahead_32 : decode cX11_ahead 32 = .ok (.iload_n 2, 1) := by decide +kernel
theorem dX11_ahead_33 : decode cX11_ahead 33 = .ok (.iconst 0, 1) := by decide +kernel
theorem dX11_ahead_34 : decode cX11_ahead 34 = .ok (.invokevirtual 234, 3) := by decide +kernel
theorem dX11_ahead_37 : decode cX11_ahead 37 = .ok (.aload_n 0, 1) := by decide +kernel
theorem dX11_ahead_38 : decode cX11_ahead 38 = .ok (.getfield 74, 3) := by decide +kernel
theorem dX11_ahead_41 : decode cX11_ahead 41 = .ok (.getfield 241, 3) := by decide +kernel
theorem dX11_ahead_44 : decode cX11_ahead 44 = .ok (.iload_n 3, 1) := by decide +kernel
theorem dX11_ahead_45 : decode cX11_ahead 45 = .ok (.iaload, 1) := by decide +kernel
theorem dX11_ahead_46 : decode cX11_ahead 46 = .ok (.ireturn, 1) := by decide +kernel
theorem dX11_outside_0 : decode cX11_outside 0 = .ok (.aload_n 0, 1) := by decide +kernel
theorem dX11_outside_1 : decode cX11_outside 1 = .ok (.iload_n 1, 1) := by decide +kernel
theorem dX11_outside_2 : decode cX11_outside 2 = .ok (.iload_n 2, 1) := by decide +kernel
theorem dX11_outside_3 : decode cX11_outside 3 = .ok (.invokevirtual 230, 3) := by decide +kernel
theorem dX11_outside_6 : decode cX11_outside 6 = .ok (.ifCond .eq 10, 3) := by decide +kernel
theorem dX11_outside_9 : decode cX11_outside 9 = .ok (.iload_n 3, 1) := by decide +kernel
theorem dX11_outside_10 : decode cX11_outside 10 = .ok (.invokestatic 146, 3) := by decide +kernel
theorem dX11_outside_13 : decode cX11_outside 13 = .ok (.ifCond .ne 5, 3) := by decide +kernel
theorem dX11_outside_16 : decode cX11_outside 16 = .ok (.iconst (-1), 1) := by decide +kernel
theorem dX11_outside_17 : decode cX11_outside 17 = .ok (.ireturn, 1) := by decide +kernel
theorem dX11_outside_18 : decode cX11_outside 18 = .ok (.aload_n 0, 1) := by decide +kernel
theorem dX11_outside_19 : decode cX11_outside 19 = .ok (.getfield 74, 3) := by decide +kernel
theorem dX11_outside_22 : decode cX11_outside 22 = .ok (.aload_n 0, 1) := by decide +kernel
theorem dX11_outside_23 : decode cX11_outside 23 = .ok (.getfield 20, 3) := by decide +kernel
theorem dX11_outside_26 : decode cX11_outside 26 = .ok (.aload_n 0, 1) := by decide +kernel
theorem dX11_outside_27 : decode cX11_outside 27 = .ok (.getfield 36, 3) := by decide +kernel
theorem dX11_outside_30 : decode cX11_outside 30 = .ok (.iload_n 1, 1) := by decide +kernel
theorem dX11_outside_31 : decode cX11_outside 31 = .ok (.aaload, 1) := by decide +kernel
theorem dX11_outside_32 : decode cX11_outside 32 = .ok (.iload_n 2, 1) := by decide +kernel
theorem dX11_outside_33 : decode cX11_outside 33 = .ok (.iconst 0, 1) := by decide +kernel
theorem dX11_outside_34 : decode cX11_outside 34 = .ok (.invokevirtual 234, 3) := by decide +kernel
theorem dX11_outside_37 : decode cX11_outside 37 = .ok (.aload_n 0, 1) := by decide +kernel
theorem dX11_outside_38 : decode cX11_outside 38 = .ok (.getfield 74, 3) := by decide +kernel
theorem dX11_outside_41 : decode cX11_outside 41 = .ok (.getfield 244, 3) := by decide +kernel
theorem dX11_outside_44 : decode cX11_outside 44 = .ok (.iload_n 3, 1) := by decide +kernel
theorem dX11_outside_45 : decode cX11_outside 45 = .ok (.iaload, 1) := by decide +kernel
theorem dX11_outside_46 : decode cX11_outside 46 = .ok (.ireturn, 1) := by decide +kernel
theorem dX11_ever_0 : decode cX11_ever 0 = .ok (.aload_n 0, 1) := by decide +kernel
theorem dX11_ever_1 : decode cX11_ever 1 = .ok (.iload_n 1, 1) := by decide +kernel
theorem dX11_ever_2 : decode cX11_ever 2 = .ok (.iload_n 2, 1) := by decide +kernel
theorem dX11_ever_3 : decode cX11_ever 3 = .ok (.invokevirtual 230, 3) := by decide +kernel
theorem dX11_ever_6 : decode cX11_ever 6 = .ok (.ifCond .ne 5, 3) := by decide +kernel
theorem dX11_ever_9 : decode cX11_ever 9 = .ok (.iconst (-1), 1) := by decide +kernel
theorem dX11_ever_10 : decode cX11_ever 10 = .ok (.ireturn, 1) := by decide +kernel
theorem dX11_ever_11 : decode cX11_ever 11 = .ok (.iload_n 3, 1) := by decide +kernel
theorem dX11_ever_12 : decode cX11_ever 12 = .ok (.ifCond .lt 8, 3) := by decide +kernel
theorem dX11_ever_15 : decode cX11_ever 15 = .ok (.iload_n 3, 1) := by decide +kernel
theorem dX11_ever_16 : decode cX11_ever 16 = .ok (.iconst 4, 1) := by decide +kernel
theorem dX11_ever_17 : decode cX11_ever 17 = .ok (.if_icmp .le 6, 3) := by decide +kernel
theorem dX11_ever_20 : decode cX11_ever 20 = .ok (.bipush (-2), 2) := by decide +kernel
theorem dX11_ever_22 : decode cX11_ever 22 = .ok (.ireturn, 1) := by decide +kernel
theorem dX11_ever_23 : decode cX11_ever 23 = .ok (.aload_n 0, 1) := by decide +kernel
theorem dX11_ever_24 : decode cX11_ever 24 = .ok (.getfield 81, 3) := by decide +kernel
theorem dX11_ever_27 : decode cX11_ever 27 = .ok (.aload_n 0, 1) := by decide +kernel
theorem dX11_ever_28 : decode cX11_ever 28 = .ok (.getfield 20, 3) := by decide +kernel
theorem dX11_ever_31 : decode cX11_ever 31 = .ok (.aload_n 0, 1) := by decide +kernel
theorem dX11_ever_32 : decode cX11_ever 32 = .ok (.getfield 36, 3) := by decide +kernel
theorem dX11_ever_35 : decode cX11_ever 35 = .ok (.iload_n 1, 1) := by decide +kernel
theorem dX11_ever_36 : decode cX11_ever 36 = .ok (.aaload, 1) := by decide +kernel
theorem dX11_ever_37 : decode cX11_ever 37 = .ok (.iload_n 2, 1) := by decide +kernel
theorem dX11_ever_38 : decode cX11_ever 38 = .ok (.invokevirtual 247, 3) := by decide +kernel
theorem dX11_ever_41 : decode cX11_ever 41 = .ok (.iload_n 3, 1) := by decide +kernel
theorem dX11_ever_42 : decode cX11_ever 42 = .ok (.tableswitch 62 0 3 #[30, 38, 46, 54], 30) := by decide +kernel
theorem dX11_ever_72 : decode cX11_ever 72 = .ok (.aload_n 0, 1) := by decide +kernel
theorem dX11_ever_73 : decode cX11_ever 73 = .ok (.getfield 81, 3) := by decide +kernel
theorem dX11_ever_76 : decode cX11_ever 76 = .ok (.getfield 250, 3) := by decide +kernel
theorem dX11_ever_79 : decode cX11_ever 79 = .ok (.ireturn, 1) := by decide +kernel
theorem dX11_ever_80 : decode cX11_ever 80 = .ok (.aload_n 0, 1) := by decide +kernel
theorem dX11_ever_81 : decode cX11_ever 81 = .ok (.getfield 81, 3) := by decide +kernel
theorem dX11_ever_84 : decode cX11_ever 84 = .ok (.getfield 253, 3) := by decide +kernel
theorem dX11_ever_87 : decode cX11_ever 87 = .ok (.ireturn, 1) := by decide +kernel
theorem dX11_ever_88 : decode cX11_ever 88 = .ok (.aload_n 0, 1) := by decide +kernel
theorem dX11_ever_89 : decode cX11_ever 89 = .ok (.getfield 81, 3) := by decide +kernel
theorem dX11_ever_92 : decode cX11_ever 92 = .ok (.getfield 256, 3) := by decide +kernel
theorem dX11_ever_95 : decode cX11_ever 95 = .ok (.ireturn, 1) := by decide +kernel
theorem dX11_ever_96 : decode cX11_ever 96 = .ok (.aload_n 0, 1) := by decide +kernel
theorem dX11_ever_97 : decode cX11_ever 97 = .ok (.getfield 81, 3) := by decide +kernel
theorem dX11_ever_100 : decode cX11_ever 100 = .ok (.getfield 257, 3) := by decide +kernel
theorem dX11_ever_103 : decode cX11_ever 103 = .ok (.ireturn, 1) := by decide +kernel
theorem dX11_ever_104 : decode cX11_ever 104 = .ok (.aload_n 0, 1) := by decide +kernel
theorem dX11_ever_105 : decode cX11_ever 105 = .ok (.getfield 81, 3) := by decide +kernel
theorem dX11_ever_108 : decode cX11_ever 108 = .ok (.getfield 258, 3) := by decide +kernel
theorem dX11_ever_111 : decode cX11_ever 111 = .ok (.ireturn, 1) := by decide +kernel
theorem dX11_never_0 : decode cX11_never 0 = .ok (.aload_n 0, 1) := by decide +kernel
theorem dX11_never_1 : decode cX11_never 1 = .ok (.iload_n 1, 1) := by decide +kernel
theorem dX11_never_2 : decode cX11_never 2 = .ok (.iload_n 2, 1) := by decide +kernel
theorem dX11_never_3 : decode cX11_never 3 = .ok (.invokevirtual 230, 3) := by decide +kernel
theorem dX11_never_6 : decode cX11_never 6 = .ok (.ifCond .ne 5, 3) := by decide +kernel
theorem dX11_never_9 : decode cX11_never 9 = .ok (.iconst (-1), 1) := by decide +kernel
theorem dX11_never_10 : decode cX11_never 10 = .ok (.ireturn, 1) := by decide +kernel
theorem dX11_never_11 : decode cX11_never 11 = .ok (.aload_n 0, 1) := by decide +kernel
theorem dX11_never_12 : decode cX11_never 12 = .ok (.getfield 81, 3) := by decide +kernel
theorem dX11_never_15 : decode cX11_never 15 = .ok (.aload_n 0, 1) := by decide +kernel
theorem dX11_never_16 : decode cX11_never 16 = .ok (.getfield 20, 3) := by decide +kernel
theorem dX11_never_19 : decode cX11_never 19 = .ok (.aload_n 0, 1) := by decide +kernel
theorem dX11_never_20 : decode cX11_never 20 = .ok (.getfield 36, 3) := by decide +kernel
theorem dX11_never_23 : decode cX11_never 23 = .ok (.iload_n 1, 1) := by decide +kernel
theorem dX11_never_24 : decode cX11_never 24 = .ok (.aaload, 1) := by decide +kernel
theorem dX11_never_25 : decode cX11_never 25 = .ok (.iload_n 2, 1) := by decide +kernel
theorem dX11_never_26 : decode cX11_never 26 = .ok (.invokevirtual 259, 3) := by decide +kernel
theorem dX11_never_29 : decode cX11_never 29 = .ok (.ifCond .eq 7, 3) := by decide +kernel
theorem dX11_never_32 : decode cX11_never 32 = .ok (.iconst 1, 1) := by decide +kernel
theorem dX11_never_33 : decode cX11_never 33 = .ok (.goto 4, 3) := by decide +kernel
theorem dX11_never_36 : decode cX11_never 36 = .ok (.iconst 0, 1) := by decide +kernel
theorem dX11_never_37 : decode cX11_never 37 = .ok (.ireturn, 1) := by decide +kernel
theorem dX11_tell_0 : decode cX11_tell 0 = .ok (.iload_n 1, 1) := by decide +kernel
theorem dX11_tell_1 : decode cX11_tell 1 = .ok (.invokestatic 146, 3) := by decide +kernel
theorem dX11_tell_4 : decode cX11_tell 4 = .ok (.ifCond .ne 5, 3) := by decide +kernel
theorem dX11_tell_7 : decode cX11_tell 7 = .ok (.iconst (-1), 1) := by decide +kernel
theorem dX11_tell_8 : decode cX11_tell 8 = .ok (.ireturn, 1) := by decide +kernel
theorem dX11_tell_9 : decode cX11_tell 9 = .ok (.iload_n 2, 1) := by decide +kernel
theorem dX11_tell_10 : decode cX11_tell 10 = .ok (.bipush 99, 2) := by decide +kernel
theorem dX11_tell_12 : decode cX11_tell 12 = .ok (.if_icmp .eq 13, 3) := by decide +kernel
theorem dX11_tell_15 : decode cX11_tell 15 = .ok (.iload_n 2, 1) := by decide +kernel
theorem dX11_tell_16 : decode cX11_tell 16 = .ok (.invokestatic 263, 3) := by decide +kernel
theorem dX11_tell_19 : decode cX11_tell 19 = .ok (.ifCond .ge 6, 3) := by decide +kernel
theorem dX11_tell_22 : decode cX11_tell 22 = .ok (.bipush (-2), 2) := by decide +kernel
theorem dX11_tell_24 : decode cX11_tell 24 = .ok (.ireturn, 1) := by decide +kernel
theorem dX11_tell_25 : decode cX11_tell 25 = .ok (.aload_n 0, 1) := by decide +kernel
theorem dX11_tell_26 : decode cX11_tell 26 = .ok (.getfield 67, 3) := by decide +kernel
theorem dX11_tell_29 : decode cX11_tell 29 = .ok (.iload_n 1, 1) := by decide +kernel
theorem dX11_tell_30 : decode cX11_tell 30 = .ok (.iaload, 1) := by decide +kernel
theorem dX11_tell_31 : decode cX11_tell 31 = .ok (.istore_n 3, 1) := by decide +kernel
theorem dX11_tell_32 : decode cX11_tell 32 = .ok (.aload_n 0, 1) := by decide +kernel
theorem dX11_tell_33 : decode cX11_tell 33 = .ok (.getfield 67, 3) := by decide +kernel
theorem dX11_tell_36 : decode cX11_tell 36 = .ok (.iload_n 1, 1) := by decide +kernel
theorem dX11_tell_37 : decode cX11_tell 37 = .ok (.iload_n 2, 1) := by decide +kernel
theorem dX11_tell_38 : decode cX11_tell 38 = .ok (.iastore, 1) := by decide +kernel
theorem dX11_tell_39 : decode cX11_tell 39 = .ok (.iload_n 3, 1) := by decide +kernel
theorem dX11_tell_40 : decode cX11_tell 40 = .ok (.ireturn, 1) := by decide +kernel
theorem dX11_judge_0 : decode cX11_judge 0 = .ok (.aload_n 0, 1) := by decide +kernel
theorem dX11_judge_1 : decode cX11_judge 1 = .ok (.iload_n 1, 1) := by decide +kernel
theorem dX11_judge_2 : decode cX11_judge 2 = .ok (.iload_n 2, 1) := by decide +kernel
theorem dX11_judge_3 : decode cX11_judge 3 = .ok (.invokevirtual 230, 3) := by decide +kernel
theorem dX11_judge_6 : decode cX11_judge 6 = .ok (.ifCond .ne 5, 3) := by decide +kernel
theorem dX11_judge_9 : decode cX11_judge 9 = .ok (.iconst (-1), 1) := by decide +kernel
theorem dX11_judge_10 : decode cX11_judge 10 = .ok (.ireturn, 1) := by decide +kernel
theorem dX11_judge_11 : decode cX11_judge 11 = .ok (.aload_n 0, 1) := by decide +kernel
theorem dX11_judge_12 : decode cX11_judge 12 = .ok (.getfield 74, 3) := by decide +kernel
theorem dX11_judge_15 : decode cX11_judge 15 = .ok (.aload_n 0, 1) := by decide +kernel
theorem dX11_judge_16 : decode cX11_judge 16 = .ok (.getfield 20, 3) := by decide +kernel
theorem dX11_judge_19 : decode cX11_judge 19 = .ok (.aload_n 0, 1) := by decide +kernel
theorem dX11_judge_20 : decode cX11_judge 20 = .ok (.getfield 36, 3) := by decide +kernel
theorem dX11_judge_23 : decode cX11_judge 23 = .ok (.iload_n 1, 1) := by decide +kernel
theorem dX11_judge_24 : decode cX11_judge 24 = .ok (.aaload, 1) := by decide +kernel
theorem dX11_judge_25 : decode cX11_judge 25 = .ok (.iload_n 2, 1) := by decide +kernel
theorem dX11_judge_26 : decode cX11_judge 26 = .ok (.iconst 0, 1) := by decide +kernel
theorem dX11_judge_27 : decode cX11_judge 27 = .ok (.invokevirtual 234, 3) := by decide +kernel
theorem dX11_judge_30 : decode cX11_judge 30 = .ok (.iconst 0, 1) := by decide +kernel
theorem dX11_judge_31 : decode cX11_judge 31 = .ok (.istore_n 3, 1) := by decide +kernel
theorem dX11_judge_32 : decode cX11_judge 32 = .ok (.iload_n 3, 1) := by decide +kernel
theorem dX11_judge_33 : decode cX11_judge 33 = .ok (.bipush 10, 2) := by decide +kernel
theorem dX11_judge_35 : decode cX11_judge 35 = .ok (.if_icmp .ge 40, 3) := by decide +kernel
theorem dX11_judge_38 : decode cX11_judge 38 = .ok (.aload_n 0, 1) := by decide +kernel
theorem dX11_judge_39 : decode cX11_judge 39 = .ok (.getfield 67, 3) := by decide +kernel
theorem dX11_judge_42 : decode cX11_judge 42 = .ok (.iload_n 3, 1) := by decide +kernel
theorem dX11_judge_43 : decode cX11_judge 43 = .ok (.iaload, 1) := by decide +kernel
theorem dX11_judge_44 : decode cX11_judge 44 = .ok (.bipush 99, 2) := by decide +kernel
theorem dX11_judge_46 : decode cX11_judge 46 = .ok (.if_icmp .eq 23, 3) := by decide +kernel
theorem dX11_judge_49 : decode cX11_judge 49 = .ok (.aload_n 0, 1) := by decide +kernel
theorem dX11_judge_50 : decode cX11_judge 50 = .ok (.getfield 67, 3) := by decide +kernel
theorem dX11_judge_53 : decode cX11_judge 53 = .ok (.iload_n 3, 1) := by decide +kernel
theorem dX11_judge_54 : decode cX11_judge 54 = .ok (.iaload, 1) := by decide +kernel
theorem dX11_judge_55 : decode cX11_judge 55 = .ok (.aload_n 0, 1) := by decide +kernel
theorem dX11_judge_56 : decode cX11_judge 56 = .ok (.getfield 74, 3) := by decide +kernel
theorem dX11_judge_59 : decode cX11_judge 59 = .ok (.getfield 241, 3) := by decide +kernel
theorem dX11_judge_62 : decode cX11_judge 62 = .ok (.iload_n 3, 1) := by decide +kernel
theorem dX11_judge_63 : decode cX11_judge 63 = .ok (.iaload, 1) := by decide +kernel
theorem dX11_judge_64 : decode cX11_judge 64 = .ok (.if_icmp .eq 5, 3) := by decide +kernel
theorem dX11_judge_67 : decode cX11_judge 67 = .ok (.iload_n 3, 1) := by decide +kernel
theorem dX11_judge_68 : decode cX11_judge 68 = .ok (.ireturn, 1) := by decide +kernel
theorem dX11_judge_69 : decode cX11_judge 69 = .ok (.iinc 3 1, 3) := by decide +kernel
theorem dX11_judge_72 : decode cX11_judge 72 = .ok (.goto (-40), 3) := by decide +kernel
theorem dX11_judge_75 : decode cX11_judge 75 = .ok (.bipush (-9), 2) := by decide +kernel
theorem dX11_judge_77 : decode cX11_judge 77 = .ok (.ireturn, 1) := by decide +kernel
theorem dX11_find_0 : decode cX11_find 0 = .ok (.iload_n 1, 1) := by decide +kernel
theorem dX11_find_1 : decode cX11_find 1 = .ok (.iload_n 2, 1) := by decide +kernel
theorem dX11_find_2 : decode cX11_find 2 = .ok (.invokestatic 266, 3) := by decide +kernel
theorem dX11_find_5 : decode cX11_find 5 = .ok (.ifCond .ne 6, 3) := by decide +kernel
theorem dX11_find_8 : decode cX11_find 8 = .ok (.bipush (-2), 2) := by decide +kernel
theorem dX11_find_10 : decode cX11_find 10 = .ok (.ireturn, 1) := by decide +kernel
theorem dX11_find_11 : decode cX11_find 11 = .ok (.aload_n 0, 1) := by decide +kernel
theorem dX11_find_12 : decode cX11_find 12 = .ok (.getfield 97, 3) := by decide +kernel
theorem dX11_find_15 : decode cX11_find 15 = .ok (.aload_n 0, 1) := by decide +kernel
theorem dX11_find_16 : decode cX11_find 16 = .ok (.getfield 20, 3) := by decide +kernel
theorem dX11_find_19 : decode cX11_find 19 = .ok (.iload_n 1, 1) := by decide +kernel
theorem dX11_find_20 : decode cX11_find 20 = .ok (.iload_n 2, 1) := by decide +kernel
theorem dX11_find_21 : decode cX11_find 21 = .ok (.invokevirtual 269, 3) := by decide +kernel
theorem dX11_find_24 : decode cX11_find 24 = .ok (.aload_n 0, 1) := by decide +kernel
theorem dX11_find_25 : decode cX11_find 25 = .ok (.getfield 97, 3) := by decide +kernel
theorem dX11_find_28 : decode cX11_find 28 = .ok (.getfield 273, 3) := by decide +kernel
theorem dX11_find_31 : decode cX11_find 31 = .ok (.ireturn, 1) := by decide +kernel
theorem dX11_from_0 : decode cX11_from 0 = .ok (.iload_n 1, 1) := by decide +kernel
theorem dX11_from_1 : decode cX11_from 1 = .ok (.iload_n 2, 1) := by decide +kernel
theorem dX11_from_2 : decode cX11_from 2 = .ok (.invokestatic 266, 3) := by decide +kernel
theorem dX11_from_5 : decode cX11_from 5 = .ok (.ifCond .ne 6, 3) := by decide +kernel
theorem dX11_from_8 : decode cX11_from 8 = .ok (.bipush (-2), 2) := by decide +kernel
theorem dX11_from_10 : decode cX11_from 10 = .ok (.ireturn, 1) := by decide +kernel
theorem dX11_from_11 : decode cX11_from 11 = .ok (.aload_n 0, 1) := by decide +kernel
theorem dX11_from_12 : decode cX11_from 12 = .ok (.getfield 97, 3) := by decide +kernel
theorem dX11_from_15 : decode cX11_from 15 = .ok (.aload_n 0, 1) := by decide +kernel
theorem dX11_from_16 : decode cX11_from 16 = .ok (.getfield 20, 3) := by decide +kernel
theorem dX11_from_19 : decode cX11_from 19 = .ok (.iload_n 1, 1) := by decide +kernel
theorem dX11_from_20 : decode cX11_from 20 = .ok (.iload_n 2, 1) := by decide +kernel
theorem dX11_from_21 : decode cX11_from 21 = .ok (.invokevirtual 269, 3) := by decide +kernel
theorem dX11_from_24 : decode cX11_from 24 = .ok (.aload_n 0, 1) := by decide +kernel
theorem dX11_from_25 : decode cX11_from 25 = .ok (.getfield 97, 3) := by decide +kernel
theorem dX11_from_28 : decode cX11_from 28 = .ok (.getfield 276, 3) := by decide +kernel
theorem dX11_from_31 : decode cX11_from 31 = .ok (.ireturn, 1) := by decide +kernel
theorem dX11_way_0 : decode cX11_way 0 = .ok (.iload_n 1, 1) := by decide +kernel
theorem dX11_way_1 : decode cX11_way 1 = .ok (.iload_n 2, 1) := by decide +kernel
theorem dX11_way_2 : decode cX11_way 2 = .ok (.invokestatic 266, 3) := by decide +kernel
theorem dX11_way_5 : decode cX11_way 5 = .ok (.ifCond .ne 6, 3) := by decide +kernel
theorem dX11_way_8 : decode cX11_way 8 = .ok (.bipush (-2), 2) := by decide +kernel
theorem dX11_way_10 : decode cX11_way 10 = .ok (.ireturn, 1) := by decide +kernel
theorem dX11_way_11 : decode cX11_way 11 = .ok (.iload_n 3, 1) := by decide +kernel
theorem dX11_way_12 : decode cX11_way 12 = .ok (.invokestatic 146, 3) := by decide +kernel
theorem dX11_way_15 : decode cX11_way 15 = .ok (.ifCond .ne 5, 3) := by decide +kernel
theorem dX11_way_18 : decode cX11_way 18 = .ok (.iconst (-1), 1) := by decide +kernel
theorem dX11_way_19 : decode cX11_way 19 = .ok (.ireturn, 1) := by decide +kernel
theorem dX11_way_20 : decode cX11_way 20 = .ok (.aload_n 0, 1) := by decide +kernel
theorem dX11_way_21 : decode cX11_way 21 = .ok (.getfield 97, 3) := by decide +kernel
theorem dX11_way_24 : decode cX11_way 24 = .ok (.aload_n 0, 1) := by decide +kernel
theorem dX11_way_25 : decode cX11_way 25 = .ok (.getfield 20, 3) := by decide +kernel
theorem dX11_way_28 : decode cX11_way 28 = .ok (.iload_n 1, 1) := by decide +kernel
theorem dX11_way_29 : decode cX11_way 29 = .ok (.iload_n 2, 1) := by decide +kernel
theorem dX11_way_30 : decode cX11_way 30 = .ok (.invokevirtual 269, 3) := by decide +kernel
theorem dX11_way_33 : decode cX11_way 33 = .ok (.aload_n 0, 1) := by decide +kernel
theorem dX11_way_34 : decode cX11_way 34 = .ok (.getfield 97, 3) := by decide +kernel
theorem dX11_way_37 : decode cX11_way 37 = .ok (.getfield 279, 3) := by decide +kernel
theorem dX11_way_40 : decode cX11_way 40 = .ok (.iload_n 3, 1) := by decide +kernel
theorem dX11_way_41 : decode cX11_way 41 = .ok (.iaload, 1) := by decide +kernel
theorem dX11_way_42 : decode cX11_way 42 = .ok (.ireturn, 1) := by decide +kernel
theorem dX11_bar_0 : decode cX11_bar 0 = .ok (.aload_n 0, 1) := by decide +kernel
theorem dX11_bar_1 : decode cX11_bar 1 = .ok (.getfield 97, 3) := by decide +kernel
theorem dX11_bar_4 : decode cX11_bar 4 = .ok (.aload_n 0, 1) := by decide +kernel
theorem dX11_bar_5 : decode cX11_bar 5 = .ok (.getfield 20, 3) := by decide +kernel
theorem dX11_bar_8 : decode cX11_bar 8 = .ok (.invokevirtual 282, 3) := by decide +kernel
theorem dX11_bar_11 : decode cX11_bar 11 = .ok (.ireturn, 1) := by decide +kernel
theorem dX11_brief_0 : decode cX11_brief 0 = .ok (.aload_n 0, 1) := by decide +kernel
theorem dX11_brief_1 : decode cX11_brief 1 = .ok (.getfield 20, 3) := by decide +kernel
theorem dX11_brief_4 : decode cX11_brief 4 = .ok (.iload_n 1, 1) := by decide +kernel
theorem dX11_brief_5 : decode cX11_brief 5 = .ok (.invokevirtual 207, 3) := by decide +kernel
theorem dX11_brief_8 : decode cX11_brief 8 = .ok (.ifCond .ne 5, 3) := by decide +kernel
theorem dX11_brief_11 : decode cX11_brief 11 = .ok (.iconst (-1), 1) := by decide +kernel
theorem dX11_brief_12 : decode cX11_brief 12 = .ok (.ireturn, 1) := by decide +kernel
theorem dX11_brief_13 : decode cX11_brief 13 = .ok (.iload_n 2, 1) := by decide +kernel
theorem dX11_brief_14 : decode cX11_brief 14 = .ok (.iload_n 3, 1) := by decide +kernel
theorem dX11_brief_15 : decode cX11_brief 15 = .ok (.invokestatic 266, 3) := by decide +kernel
theorem dX11_brief_18 : decode cX11_brief 18 = .ok (.ifCond .ne 6, 3) := by decide +kernel
theorem dX11_brief_21 : decode cX11_brief 21 = .ok (.bipush (-2), 2) := by decide +kernel
theorem dX11_brief_23 : decode cX11_brief 23 = .ok (.ireturn, 1) := by decide +kernel
theorem dX11_brief_24 : decode cX11_brief 24 = .ok (.aload_n 0, 1) := by decide +kernel
theorem dX11_brief_25 : decode cX11_brief 25 = .ok (.getfield 104, 3) := by decide +kernel
theorem dX11_brief_28 : decode cX11_brief 28 = .ok (.aload_n 0, 1) := by decide +kernel
theorem dX11_brief_29 : decode cX11_brief 29 = .ok (.getfield 20, 3) := by decide +kernel
theorem dX11_brief_32 : decode cX11_brief 32 = .ok (.iload_n 1, 1) := by decide +kernel
theorem dX11_brief_33 : decode cX11_brief 33 = .ok (.iload_n 2, 1) := by decide +kernel
theorem dX11_brief_34 : decode cX11_brief 34 = .ok (.iload_n 3, 1) := by decide +kernel
theorem dX11_brief_35 : decode cX11_brief 35 = .ok (.invokevirtual 286, 3) := by decide +kernel
theorem dX11_brief_38 : decode cX11_brief 38 = .ok (.aload_n 0, 1) := by decide +kernel
theorem dX11_brief_39 : decode cX11_brief 39 = .ok (.getfield 104, 3) := by decide +kernel
theorem dX11_brief_42 : decode cX11_brief 42 = .ok (.getfield 289, 3) := by decide +kernel
theorem dX11_brief_45 : decode cX11_brief 45 = .ok (.ireturn, 1) := by decide +kernel
theorem dX11_briefPrice_0 : decode cX11_briefPrice 0 = .ok (.aload_n 0, 1) := by decide +kernel
theorem dX11_briefPrice_1 : decode cX11_briefPrice 1 = .ok (.getfield 20, 3) := by decide +kernel
theorem dX11_briefPrice_4 : decode cX11_briefPrice 4 = .ok (.iload_n 1, 1) := by decide +kernel
theorem dX11_briefPrice_5 : decode cX11_briefPrice 5 = .ok (.invokevirtual 207, 3) := by decide +kernel
theorem dX11_briefPrice_8 : decode cX11_briefPrice 8 = .ok (.ifCond .ne 7, 3) := by decide +kernel
theorem dX11_briefPrice_11 : decode cX11_briefPrice 11 = .ok (.ldc2_w 292, 3) := by decide +kernel
theorem dX11_briefPrice_14 : decode cX11_briefPrice 14 = .ok (.lreturn, 1) := by decide +kernel
theorem dX11_briefPrice_15 : decode cX11_briefPrice 15 = .ok (.iload_n 2, 1) := by decide +kernel
theorem dX11_briefPrice_16 : decode cX11_briefPrice 16 = .ok (.iload_n 3, 1) := by decide +kernel
theorem dX11_briefPrice_17 : decode cX11_briefPrice 17 = .ok (.invokestatic 266, 3) := by decide +kernel
theorem dX11_briefPrice_20 : decode cX11_briefPrice 20 = .ok (.ifCond .ne 7, 3) := by decide +kernel
theorem dX11_briefPrice_23 : decode cX11_briefPrice 23 = .ok (.ldc2_w 294, 3) := by decide +kernel
theorem dX11_briefPrice_26 : decode cX11_briefPrice 26 = .ok (.lreturn, 1) := by decide +kernel
theorem dX11_briefPrice_27 : decode cX11_briefPrice 27 = .ok (.aload_n 0, 1) := by decide +kernel
theorem dX11_briefPrice_28 : decode cX11_briefPrice 28 = .ok (.getfield 104, 3) := by decide +kernel
theorem dX11_briefPrice_31 : decode cX11_briefPrice 31 = .ok (.aload_n 0, 1) := by decide +kernel
theorem dX11_briefPrice_32 : decode cX11_briefPrice 32 = .ok (.getfield 20, 3) := by decide +kernel
theorem dX11_briefPrice_35 : decode cX11_briefPrice 35 = .ok (.iload_n 1, 1) := by decide +kernel
theorem dX11_briefPrice_36 : decode cX11_briefPrice 36 = .ok (.iload_n 2, 1) := by decide +kernel
theorem dX11_briefPrice_37 : decode cX11_briefPrice 37 = .ok (.iload_n 3, 1) := by decide +kernel
theorem dX11_briefPrice_38 : decode cX11_briefPrice 38 = .ok (.invokevirtual 286, 3) := by decide +kernel
theorem dX11_briefPrice_41 : decode cX11_briefPrice 41 = .ok (.aload_n 0, 1) := by decide +kernel
theorem dX11_briefPrice_42 : decode cX11_briefPrice 42 = .ok (.getfield 104, 3) := by decide +kernel
theorem dX11_briefPrice_45 : decode cX11_briefPrice 45 = .ok (.getfield 289, 3) := by decide +kernel
theorem dX11_briefPrice_48 : decode cX11_briefPrice 48 = .ok (.bipush (-9), 2) := by decide +kernel
theorem dX11_briefPrice_50 : decode cX11_briefPrice 50 = .ok (.if_icmp .ne 7, 3) := by decide +kernel
theorem dX11_briefPrice_53 : decode cX11_briefPrice 53 = .ok (.ldc2_w 296, 3) := by decide +kernel
theorem dX11_briefPrice_56 : decode cX11_briefPrice 56 = .ok (.lreturn, 1) := by decide +kernel
theorem dX11_briefPrice_57 : decode cX11_briefPrice 57 = .ok (.aload_n 0, 1) := by decide +kernel
theorem dX11_briefPrice_58 : decode cX11_briefPrice 58 = .ok (.getfield 104, 3) := by decide +kernel
theorem dX11_briefPrice_61 : decode cX11_briefPrice 61 = .ok (.getfield 298, 3) := by decide +kernel
theorem dX11_briefPrice_64 : decode cX11_briefPrice 64 = .ok (.i2l, 1) := by decide +kernel
theorem dX11_briefPrice_65 : decode cX11_briefPrice 65 = .ok (.aload_n 0, 1) := by decide +kernel
theorem dX11_briefPrice_66 : decode cX11_briefPrice 66 = .ok (.getfield 104, 3) := by decide +kernel
theorem dX11_briefPrice_69 : decode cX11_briefPrice 69 = .ok (.getfield 299, 3) := by decide +kernel
theorem dX11_briefPrice_72 : decode cX11_briefPrice 72 = .ok (.i2l, 1) := by decide +kernel
theorem dX11_briefPrice_73 : decode cX11_briefPrice 73 = .ok (.iload 4, 2) := by decide +kernel
theorem dX11_briefPrice_75 : decode cX11_briefPrice 75 = .ok (.invokestatic 300, 3) := by decide +kernel
theorem dX11_briefPrice_78 : decode cX11_briefPrice 78 = .ok (.lreturn, 1) := by decide +kernel
theorem dX11_put_0 : decode cX11_put 0 = .ok (.iload_n 1, 1) := by decide +kernel
theorem dX11_put_1 : decode cX11_put 1 = .ok (.invokestatic 135, 3) := by decide +kernel
theorem dX11_put_4 : decode cX11_put 4 = .ok (.ifCond .ne 5, 3) := by decide +kernel
theorem dX11_put_7 : decode cX11_put 7 = .ok (.iconst (-1), 1) := by decide +kernel
theorem dX11_put_8 : decode cX11_put 8 = .ok (.ireturn, 1) := by decide +kernel
theorem dX11_put_9 : decode cX11_put 9 = .ok (.iload_n 2, 1) := by decide +kernel
theorem dX11_put_10 : decode cX11_put 10 = .ok (.ifCond .lt 10, 3) := by decide +kernel
theorem dX11_put_13 : decode cX11_put 13 = .ok (.iload_n 2, 1) := by decide +kernel
theorem dX11_put_14 : decode cX11_put 14 = .ok (.sipush 366, 3) := by decide +kernel
theorem dX11_put_17 : decode cX11_put 17 = .ok (.if_icmp .lt 6, 3) := by decide +kernel
theorem dX11_put_20 : decode cX11_put 20 = .ok (.bipush (-2), 2) := by decide +kernel
theorem dX11_put_22 : decode cX11_put 22 = .ok (.ireturn, 1) := by decide +kernel
theorem dX11_put_23 : decode cX11_put 23 = .ok (.aload_n 0, 1) := by decide +kernel
theorem dX11_put_24 : decode cX11_put 24 = .ok (.getfield 36, 3) := by decide +kernel
theorem dX11_put_27 : decode cX11_put 27 = .ok (.iload_n 1, 1) := by decide +kernel
theorem dX11_put_28 : decode cX11_put 28 = .ok (.aaload, 1) := by decide +kernel
theorem dX11_put_29 : decode cX11_put 29 = .ok (.iload_n 2, 1) := by decide +kernel
theorem dX11_put_30 : decode cX11_put 30 = .ok (.invokevirtual 304, 3) := by decide +kernel
theorem dX11_put_33 : decode cX11_put 33 = .ok (.aload_n 0, 1) := by decide +kernel
theorem dX11_put_34 : decode cX11_put 34 = .ok (.getfield 36, 3) := by decide +kernel
theorem dX11_put_37 : decode cX11_put 37 = .ok (.iload_n 1, 1) := by decide +kernel
theorem dX11_put_38 : decode cX11_put 38 = .ok (.aaload, 1) := by decide +kernel
theorem dX11_put_39 : decode cX11_put 39 = .ok (.getfield 143, 3) := by decide +kernel
theorem dX11_put_42 : decode cX11_put 42 = .ok (.ireturn, 1) := by decide +kernel
theorem dX11_keys_0 : decode cX11_keys 0 = .ok (.aload_n 0, 1) := by decide +kernel
theorem dX11_keys_1 : decode cX11_keys 1 = .ok (.iload_n 1, 1) := by decide +kernel
theorem dX11_keys_2 : decode cX11_keys 2 = .ok (.iload_n 2, 1) := by decide +kernel
theorem dX11_keys_3 : decode cX11_keys 3 = .ok (.invokevirtual 230, 3) := by decide +kernel
theorem dX11_keys_6 : decode cX11_keys 6 = .ok (.ifCond .ne 5, 3) := by decide +kernel
theorem dX11_keys_9 : decode cX11_keys 9 = .ok (.iconst (-1), 1) := by decide +kernel
theorem dX11_keys_10 : decode cX11_keys 10 = .ok (.ireturn, 1) := by decide +kernel
theorem dX11_keys_11 : decode cX11_keys 11 = .ok (.aload_n 0, 1) := by decide +kernel
theorem dX11_keys_12 : decode cX11_keys 12 = .ok (.getfield 20, 3) := by decide +kernel
theorem dX11_keys_15 : decode cX11_keys 15 = .ok (.getfield 186, 3) := by decide +kernel
theorem dX11_keys_18 : decode cX11_keys 18 = .ok (.istore_n 3, 1) := by decide +kernel
theorem dX11_keys_19 : decode cX11_keys 19 = .ok (.aload_n 0, 1) := by decide +kernel
theorem dX11_keys_20 : decode cX11_keys 20 = .ok (.aload_n 0, 1) := by decide +kernel
theorem dX11_keys_21 : decode cX11_keys 21 = .ok (.getfield 36, 3) := by decide +kernel
theorem dX11_keys_24 : decode cX11_keys 24 = .ok (.iload_n 1, 1) := by decide +kernel
theorem dX11_keys_25 : decode cX11_keys 25 = .ok (.aaload, 1) := by decide +kernel
theorem dX11_keys_26 : decode cX11_keys 26 = .ok (.iload_n 2, 1) := by decide +kernel
theorem dX11_keys_27 : decode cX11_keys 27 = .ok (.invokevirtual 307, 3) := by decide +kernel
theorem dX11_keys_30 : decode cX11_keys 30 = .ok (.istore 4, 2) := by decide +kernel
theorem dX11_keys_32 : decode cX11_keys 32 = .ok (.aload_n 0, 1) := by decide +kernel
theorem dX11_keys_33 : decode cX11_keys 33 = .ok (.getfield 20, 3) := by decide +kernel
theorem dX11_keys_36 : decode cX11_keys 36 = .ok (.iload_n 3, 1) := by decide +kernel
theorem dX11_keys_37 : decode cX11_keys 37 = .ok (.putfield 186, 3) := by decide +kernel
theorem dX11_keys_40 : decode cX11_keys 40 = .ok (.iload 4, 2) := by decide +kernel
theorem dX11_keys_42 : decode cX11_keys 42 = .ok (.ireturn, 1) := by decide +kernel
theorem dX11_move_0 : decode cX11_move 0 = .ok (.aload_n 0, 1) := by decide +kernel
theorem dX11_move_1 : decode cX11_move 1 = .ok (.iload_n 1, 1) := by decide +kernel
theorem dX11_move_2 : decode cX11_move 2 = .ok (.iload_n 2, 1) := by decide +kernel
theorem dX11_move_3 : decode cX11_move 3 = .ok (.invokevirtual 230, 3) := by decide +kernel
theorem dX11_move_6 : decode cX11_move 6 = .ok (.ifCond .ne 5, 3) := by decide +kernel
theorem dX11_move_9 : decode cX11_move 9 = .ok (.iconst (-1), 1) := by decide +kernel
theorem dX11_move_10 : decode cX11_move 10 = .ok (.ireturn, 1) := by decide +kernel
theorem dX11_move_11 : decode cX11_move 11 = .ok (.aload_n 0, 1) := by decide +kernel
theorem dX11_move_12 : decode cX11_move 12 = .ok (.getfield 81, 3) := by decide +kernel
theorem dX11_move_15 : decode cX11_move 15 = .ok (.aload_n 0, 1) := by decide +kernel
theorem dX11_move_16 : decode cX11_move 16 = .ok (.getfield 20, 3) := by decide +kernel
theorem dX11_move_19 : decode cX11_move 19 = .ok (.aload_n 0, 1) := by decide +kernel
theorem dX11_move_20 : decode cX11_move 20 = .ok (.getfield 36, 3) := by decide +kernel
theorem dX11_move_23 : decode cX11_move 23 = .ok (.iload_n 1, 1) := by decide +kernel
theorem dX11_move_24 : decode cX11_move 24 = .ok (.aaload, 1) := by decide +kernel
theorem dX11_move_25 : decode cX11_move 25 = .ok (.iload_n 2, 1) := by decide +kernel
theorem dX11_move_26 : decode cX11_move 26 = .ok (.invokevirtual 259, 3) := by decide +kernel
theorem dX11_move_29 : decode cX11_move 29 = .ok (.ifCond .eq 6, 3) := by decide +kernel
theorem dX11_move_32 : decode cX11_move 32 = .ok (.bipush 100, 2) := by decide +kernel
theorem dX11_move_34 : decode cX11_move 34 = .ok (.ireturn, 1) := by decide +kernel
theorem dX11_move_35 : decode cX11_move 35 = .ok (.iconst 0, 1) := by decide +kernel
theorem dX11_move_36 : decode cX11_move 36 = .ok (.istore_n 3, 1) := by decide +kernel
theorem dX11_move_37 : decode cX11_move 37 = .ok (.iload_n 3, 1) := by decide +kernel
theorem dX11_move_38 : decode cX11_move 38 = .ok (.getstatic 311, 3) := by decide +kernel
theorem dX11_move_41 : decode cX11_move 41 = .ok (.arraylength, 1) := by decide +kernel
theorem dX11_move_42 : decode cX11_move 42 = .ok (.if_icmp .ge 65, 3) := by decide +kernel
theorem dX11_move_45 : decode cX11_move 45 = .ok (.iconst 0, 1) := by decide +kernel
theorem dX11_move_46 : decode cX11_move 46 = .ok (.istore 4, 2) := by decide +kernel
theorem dX11_move_48 : decode cX11_move 48 = .ok (.iload 4, 2) := by decide +kernel
theorem dX11_move_50 : decode cX11_move 50 = .ok (.aload_n 0, 1) := by decide +kernel
theorem dX11_move_51 : decode cX11_move 51 = .ok (.getfield 20, 3) := by decide +kernel
theorem dX11_move_54 : decode cX11_move 54 = .ok (.getfield 314, 3) := by decide +kernel
theorem dX11_move_57 : decode cX11_move 57 = .ok (.if_icmp .ge 44, 3) := by decide +kernel
theorem dX11_move_60 : decode cX11_move 60 = .ok (.aload_n 0, 1) := by decide +kernel
theorem dX11_move_61 : decode cX11_move 61 = .ok (.iload 4, 2) := by decide +kernel
theorem dX11_move_63 : decode cX11_move 63 = .ok (.getstatic 311, 3) := by decide +kernel
theorem dX11_move_66 : decode cX11_move 66 = .ok (.iload_n 3, 1) := by decide +kernel
theorem dX11_move_67 : decode cX11_move 67 = .ok (.iaload, 1) := by decide +kernel
theorem dX11_move_68 : decode cX11_move 68 = .ok (.aload_n 0, 1) := by decide +kernel
theorem dX11_move_69 : decode cX11_move 69 = .ok (.getfield 36, 3) := by decide +kernel
theorem dX11_move_72 : decode cX11_move 72 = .ok (.iload_n 1, 1) := by decide +kernel
theorem dX11_move_73 : decode cX11_move 73 = .ok (.aaload, 1) := by decide +kernel
theorem dX11_move_74 : decode cX11_move 74 = .ok (.iload_n 2, 1) := by decide +kernel
theorem dX11_move_75 : decode cX11_move 75 = .ok (.invokevirtual 317, 3) := by decide +kernel
theorem dX11_move_78 : decode cX11_move 78 = .ok (.ifCond .eq 17, 3) := by decide +kernel
theorem dX11_move_81 : decode cX11_move 81 = .ok (.bipush 10, 2) := by decide +kernel
theorem dX11_move_83 : decode cX11_move 83 = .ok (.iload 4, 2) := by decide +kernel
theorem dX11_move_85 : decode cX11_move 85 = .ok (.imul, 1) := by decide +kernel
theorem dX11_move_86 : decode cX11_move 86 = .ok (.iconst 2, 1) := by decide +kernel
theorem dX11_move_87 : decode cX11_move 87 = .ok (.iadd, 1) := by decide +kernel
theorem dX11_move_88 : decode cX11_move 88 = .ok (.getstatic 311, 3) := by decide +kernel
theorem dX11_move_91 : decode cX11_move 91 = .ok (.iload_n 3, 1) := by decide +kernel
theorem dX11_move_92 : decode cX11_move 92 = .ok (.iaload, 1) := by decide +kernel
theorem dX11_move_93 : decode cX11_move 93 = .ok (.iadd, 1) := by decide +kernel
theorem dX11_move_94 : decode cX11_move 94 = .ok (.ireturn, 1) := by decide +kernel
theorem dX11_move_95 : decode cX11_move 95 = .ok (.iinc 4 1, 3) := by decide +kernel
theorem dX11_move_98 : decode cX11_move 98 = .ok (.goto (-50), 3) := by decide +kernel
theorem dX11_move_101 : decode cX11_move 101 = .ok (.iinc 3 1, 3) := by decide +kernel
theorem dX11_move_104 : decode cX11_move 104 = .ok (.goto (-67), 3) := by decide +kernel
theorem dX11_move_107 : decode cX11_move 107 = .ok (.bipush (-9), 2) := by decide +kernel
theorem dX11_move_109 : decode cX11_move 109 = .ok (.ireturn, 1) := by decide +kernel
theorem dX11_fits_0 : decode cX11_fits 0 = .ok (.aload_n 0, 1) := by decide +kernel
theorem dX11_fits_1 : decode cX11_fits 1 = .ok (.getfield 20, 3) := by decide +kernel
theorem dX11_fits_4 : decode cX11_fits 4 = .ok (.iload_n 1, 1) := by decide +kernel
theorem dX11_fits_5 : decode cX11_fits 5 = .ok (.invokevirtual 153, 3) := by decide +kernel
theorem dX11_fits_8 : decode cX11_fits 8 = .ok (.ifCond .eq 10, 3) := by decide +kernel
theorem dX11_fits_11 : decode cX11_fits 11 = .ok (.iload_n 2, 1) := by decide +kernel
theorem dX11_fits_12 : decode cX11_fits 12 = .ok (.invokestatic 146, 3) := by decide +kernel
theorem dX11_fits_15 : decode cX11_fits 15 = .ok (.ifCond .ne 5, 3) := by decide +kernel
theorem dX11_fits_18 : decode cX11_fits 18 = .ok (.iconst (-1), 1) := by decide +kernel
theorem dX11_fits_19 : decode cX11_fits 19 = .ok (.ireturn, 1) := by decide +kernel
theorem dX11_fits_20 : decode cX11_fits 20 = .ok (.aload_n 0, 1) := by decide +kernel
theorem dX11_fits_21 : decode cX11_fits 21 = .ok (.getfield 20, 3) := by decide +kernel
theorem dX11_fits_24 : decode cX11_fits 24 = .ok (.iload_n 1, 1) := by decide +kernel
theorem dX11_fits_25 : decode cX11_fits 25 = .ok (.iload_n 2, 1) := by decide +kernel
theorem dX11_fits_26 : decode cX11_fits 26 = .ok (.invokevirtual 321, 3) := by decide +kernel
theorem dX11_fits_29 : decode cX11_fits 29 = .ok (.ifCond .eq 7, 3) := by decide +kernel
theorem dX11_fits_32 : decode cX11_fits 32 = .ok (.iconst 1, 1) := by decide +kernel
theorem dX11_fits_33 : decode cX11_fits 33 = .ok (.goto 4, 3) := by decide +kernel
theorem dX11_fits_36 : decode cX11_fits 36 = .ok (.iconst 0, 1) := by decide +kernel
theorem dX11_fits_37 : decode cX11_fits 37 = .ok (.ireturn, 1) := by decide +kernel
theorem dX11_shift_0 : decode cX11_shift 0 = .ok (.aload_n 0, 1) := by decide +kernel
theorem dX11_shift_1 : decode cX11_shift 1 = .ok (.getfield 20, 3) := by decide +kernel
theorem dX11_shift_4 : decode cX11_shift 4 = .ok (.iload_n 1, 1) := by decide +kernel
theorem dX11_shift_5 : decode cX11_shift 5 = .ok (.invokevirtual 153, 3) := by decide +kernel
theorem dX11_shift_8 : decode cX11_shift 8 = .ok (.ifCond .eq 10, 3) := by decide +kernel
theorem dX11_shift_11 : decode cX11_shift 11 = .ok (.iload_n 2, 1) := by decide +kernel
theorem dX11_shift_12 : decode cX11_shift 12 = .ok (.invokestatic 146, 3) := by decide +kernel
theorem dX11_shift_15 : decode cX11_shift 15 = .ok (.ifCond .ne 5, 3) := by decide +kernel
theorem dX11_shift_18 : decode cX11_shift 18 = .ok (.iconst (-1), 1) := by decide +kernel
theorem dX11_shift_19 : decode cX11_shift 19 = .ok (.ireturn, 1) := by decide +kernel
theorem dX11_shift_20 : decode cX11_shift 20 = .ok (.aload_n 0, 1) := by decide +kernel
theorem dX11_shift_21 : decode cX11_shift 21 = .ok (.getfield 20, 3) := by decide +kernel
theorem dX11_shift_24 : decode cX11_shift 24 = .ok (.iload_n 1, 1) := by decide +kernel
theorem dX11_shift_25 : decode cX11_shift 25 = .ok (.iload_n 2, 1) := by decide +kernel
theorem dX11_shift_26 : decode cX11_shift 26 = .ok (.invokevirtual 321, 3) := by decide +kernel
theorem dX11_shift_29 : decode cX11_shift 29 = .ok (.ifCond .ne 6, 3) := by decide +kernel
theorem dX11_shift_32 : decode cX11_shift 32 = .ok (.bipush (-2), 2) := by decide +kernel
theorem dX11_shift_34 : decode cX11_shift 34 = .ok (.ireturn, 1) := by decide +kernel
theorem dX11_shift_35 : decode cX11_shift 35 = .ok (.aload_n 0, 1) := by decide +kernel
theorem dX11_shift_36 : decode cX11_shift 36 = .ok (.getfield 55, 3) := by decide +kernel
theorem dX11_shift_39 : decode cX11_shift 39 = .ok (.getfield 210, 3) := by decide +kernel
theorem dX11_shift_42 : decode cX11_shift 42 = .ok (.ifCond .ne 13, 3) := by decide +kernel
theorem dX11_shift_45 : decode cX11_shift 45 = .ok (.aload_n 0, 1) := by decide +kernel
theorem dX11_shift_46 : decode cX11_shift 46 = .ok (.getfield 55, 3) := by decide +kernel
theorem dX11_shift_49 : decode cX11_shift 49 = .ok (.getfield 213, 3) := by decide +kernel
theorem dX11_shift_52 : decode cX11_shift 52 = .ok (.ifCond .eq 6, 3) := by decide +kernel
theorem dX11_shift_55 : decode cX11_shift 55 = .ok (.bipush (-3), 2) := by decide +kernel
theorem dX11_shift_57 : decode cX11_shift 57 = .ok (.ireturn, 1) := by decide +kernel
theorem dX11_shift_58 : decode cX11_shift 58 = .ok (.aload_n 0, 1) := by decide +kernel
theorem dX11_shift_59 : decode cX11_shift 59 = .ok (.getfield 20, 3) := by decide +kernel
theorem dX11_shift_62 : decode cX11_shift 62 = .ok (.getfield 159, 3) := by decide +kernel
theorem dX11_shift_65 : decode cX11_shift 65 = .ok (.iload_n 1, 1) := by decide +kernel
theorem dX11_shift_66 : decode cX11_shift 66 = .ok (.iaload, 1) := by decide +kernel
theorem dX11_shift_67 : decode cX11_shift 67 = .ok (.istore_n 3, 1) := by decide +kernel
theorem dX11_shift_68 : decode cX11_shift 68 = .ok (.aload_n 0, 1) := by decide +kernel
theorem dX11_shift_69 : decode cX11_shift 69 = .ok (.getfield 20, 3) := by decide +kernel
theorem dX11_shift_72 : decode cX11_shift 72 = .ok (.iload_n 1, 1) := by decide +kernel
theorem dX11_shift_73 : decode cX11_shift 73 = .ok (.iload_n 2, 1) := by decide +kernel
theorem dX11_shift_74 : decode cX11_shift 74 = .ok (.invokevirtual 324, 3) := by decide +kernel
theorem dX11_shift_77 : decode cX11_shift 77 = .ok (.iload_n 3, 1) := by decide +kernel
theorem dX11_shift_78 : decode cX11_shift 78 = .ok (.ireturn, 1) := by decide +kernel
theorem dX11_mean_0 : decode cX11_mean 0 = .ok (.aload_n 0, 1) := by decide +kernel
theorem dX11_mean_1 : decode cX11_mean 1 = .ok (.iload_n 1, 1) := by decide +kernel
theorem dX11_mean_2 : decode cX11_mean 2 = .ok (.iload_n 2, 1) := by decide +kernel
theorem dX11_mean_3 : decode cX11_mean 3 = .ok (.invokevirtual 230, 3) := by decide +kernel
theorem dX11_mean_6 : decode cX11_mean 6 = .ok (.ifCond .ne 7, 3) := by decide +kernel
theorem dX11_mean_9 : decode cX11_mean 9 = .ok (.ldc2_w 292, 3) := by decide +kernel
theorem dX11_mean_12 : decode cX11_mean 12 = .ok (.lreturn, 1) := by decide +kernel
theorem dX11_mean_13 : decode cX11_mean 13 = .ok (.aload_n 0, 1) := by decide +kernel
theorem dX11_mean_14 : decode cX11_mean 14 = .ok (.getfield 111, 3) := by decide +kernel
theorem dX11_mean_17 : decode cX11_mean 17 = .ok (.aload_n 0, 1) := by decide +kernel
theorem dX11_mean_18 : decode cX11_mean 18 = .ok (.getfield 20, 3) := by decide +kernel
theorem dX11_mean_21 : decode cX11_mean 21 = .ok (.aload_n 0, 1) := by decide +kernel
theorem dX11_mean_22 : decode cX11_mean 22 = .ok (.getfield 36, 3) := by decide +kernel
theorem dX11_mean_25 : decode cX11_mean 25 = .ok (.iload_n 1, 1) := by decide +kernel
theorem dX11_mean_26 : decode cX11_mean 26 = .ok (.aaload, 1) := by decide +kernel
theorem dX11_mean_27 : decode cX11_mean 27 = .ok (.iload_n 2, 1) := by decide +kernel
theorem dX11_mean_28 : decode cX11_mean 28 = .ok (.iconst 0, 1) := by decide +kernel
theorem dX11_mean_29 : decode cX11_mean 29 = .ok (.invokevirtual 328, 3) := by decide +kernel
theorem dX11_mean_32 : decode cX11_mean 32 = .ok (.aload_n 0, 1) := by decide +kernel
theorem dX11_mean_33 : decode cX11_mean 33 = .ok (.getfield 111, 3) := by decide +kernel
theorem dX11_mean_36 : decode cX11_mean 36 = .ok (.getfield 331, 3) := by decide +kernel
theorem dX11_mean_39 : decode cX11_mean 39 = .ok (.ldc2_w 334, 3) := by decide +kernel
theorem dX11_mean_42 : decode cX11_mean 42 = .ok (.iload_n 3, 1) := by decide +kernel
theorem dX11_mean_43 : decode cX11_mean 43 = .ok (.invokestatic 300, 3) := by decide +kernel
theorem dX11_mean_46 : decode cX11_mean 46 = .ok (.lreturn, 1) := by decide +kernel
theorem dX11_dry_0 : decode cX11_dry 0 = .ok (.aload_n 0, 1) := by decide +kernel
theorem dX11_dry_1 : decode cX11_dry 1 = .ok (.iload_n 1, 1) := by decide +kernel
theorem dX11_dry_2 : decode cX11_dry 2 = .ok (.iload_n 2, 1) := by decide +kernel
theorem dX11_dry_3 : decode cX11_dry 3 = .ok (.invokevirtual 230, 3) := by decide +kernel
theorem dX11_dry_6 : decode cX11_dry 6 = .ok (.ifCond .ne 7, 3) := by decide +kernel
theorem dX11_dry_9 : decode cX11_dry 9 = .ok (.ldc2_w 292, 3) := by decide +kernel
theorem dX11_dry_12 : decode cX11_dry 12 = .ok (.lreturn, 1) := by decide +kernel
theorem dX11_dry_13 : decode cX11_dry 13 = .ok (.aload_n 0, 1) := by decide +kernel
theorem dX11_dry_14 : decode cX11_dry 14 = .ok (.getfield 111, 3) := by decide +kernel
theorem dX11_dry_17 : decode cX11_dry 17 = .ok (.aload_n 0, 1) := by decide +kernel
theorem dX11_dry_18 : decode cX11_dry 18 = .ok (.getfield 20, 3) := by decide +kernel
theorem dX11_dry_21 : decode cX11_dry 21 = .ok (.aload_n 0, 1) := by decide +kernel
theorem dX11_dry_22 : decode cX11_dry 22 = .ok (.getfield 36, 3) := by decide +kernel
theorem dX11_dry_25 : decode cX11_dry 25 = .ok (.iload_n 1, 1) := by decide +kernel
theorem dX11_dry_26 : decode cX11_dry 26 = .ok (.aaload, 1) := by decide +kernel
theorem dX11_dry_27 : decode cX11_dry 27 = .ok (.iload_n 2, 1) := by decide +kernel
theorem dX11_dry_28 : decode cX11_dry 28 = .ok (.iconst 0, 1) := by decide +kernel
theorem dX11_dry_29 : decode cX11_dry 29 = .ok (.invokevirtual 328, 3) := by decide +kernel
theorem dX11_dry_32 : decode cX11_dry 32 = .ok (.aload_n 0, 1) := by decide +kernel
theorem dX11_dry_33 : decode cX11_dry 33 = .ok (.getfield 111, 3) := by decide +kernel
theorem dX11_dry_36 : decode cX11_dry 36 = .ok (.getfield 336, 3) := by decide +kernel
theorem dX11_dry_39 : decode cX11_dry 39 = .ok (.ldc2_w 334, 3) := by decide +kernel
theorem dX11_dry_42 : decode cX11_dry 42 = .ok (.iload_n 3, 1) := by decide +kernel
theorem dX11_dry_43 : decode cX11_dry 43 = .ok (.invokestatic 300, 3) := by decide +kernel
theorem dX11_dry_46 : decode cX11_dry 46 = .ok (.lreturn, 1) := by decide +kernel
theorem dX11_chance_0 : decode cX11_chance 0 = .ok (.aload_n 0, 1) := by decide +kernel
theorem dX11_chance_1 : decode cX11_chance 1 = .ok (.iload_n 1, 1) := by decide +kernel
theorem dX11_chance_2 : decode cX11_chance 2 = .ok (.iload_n 2, 1) := by decide +kernel
theorem dX11_chance_3 : decode cX11_chance 3 = .ok (.invokevirtual 230, 3) := by decide +kernel
theorem dX11_chance_6 : decode cX11_chance 6 = .ok (.ifCond .eq 10, 3) := by decide +kernel
theorem dX11_chance_9 : decode cX11_chance 9 = .ok (.iload_n 3, 1) := by decide +kernel
theorem dX11_chance_10 : decode cX11_chance 10 = .ok (.invokestatic 146, 3) := by decide +kernel
theorem dX11_chance_13 : decode cX11_chance 13 = .ok (.ifCond .ne 7, 3) := by decide +kernel
theorem dX11_chance_16 : decode cX11_chance 16 = .ok (.ldc2_w 292, 3) := by decide +kernel
theorem dX11_chance_19 : decode cX11_chance 19 = .ok (.lreturn, 1) := by decide +kernel
theorem dX11_chance_20 : decode cX11_chance 20 = .ok (.iload 4, 2) := by decide +kernel
theorem dX11_chance_22 : decode cX11_chance 22 = .ok (.invokestatic 263, 3) := by decide +kernel
theorem dX11_chance_25 : decode cX11_chance 25 = .ok (.istore 6, 2) := by decide +kernel
theorem dX11_chance_27 : decode cX11_chance 27 = .ok (.iload 6, 2) := by decide +kernel
theorem dX11_chance_29 : decode cX11_chance 29 = .ok (.ifCond .ge 7, 3) := by decide +kernel
theorem dX11_chance_32 : decode cX11_chance 32 = .ok (.ldc2_w 294, 3) := by decide +kernel
theorem dX11_chance_35 : decode cX11_chance 35 = .ok (.lreturn, 1) := by decide +kernel
theorem dX11_chance_36 : decode cX11_chance 36 = .ok (.aload_n 0, 1) := by decide +kernel
theorem dX11_chance_37 : decode cX11_chance 37 = .ok (.getfield 111, 3) := by decide +kernel
theorem dX11_chance_40 : decode cX11_chance 40 = .ok (.aload_n 0, 1) := by decide +kernel
theorem dX11_chance_41 : decode cX11_chance 41 = .ok (.getfield 20, 3) := by decide +kernel
theorem dX11_chance_44 : decode cX11_chance 44 = .ok (.aload_n 0, 1) := by decide +kernel
theorem dX11_chance_45 : decode cX11_chance 45 = .ok (.getfield 36, 3) := by decide +kernel
theorem dX11_chance_48 : decode cX11_chance 48 = .ok (.iload_n 1, 1) := by decide +kernel
theorem dX11_chance_49 : decode cX11_chance 49 = .ok (.aaload, 1) := by decide +kernel
theorem dX11_chance_50 : decode cX11_chance 50 = .ok (.iload_n 2, 1) := by decide +kernel
theorem dX11_chance_51 : decode cX11_chance 51 = .ok (.iload_n 3, 1) := by decide +kernel
theorem dX11_chance_52 : decode cX11_chance 52 = .ok (.invokevirtual 328, 3) := by decide +kernel
theorem dX11_chance_55 : decode cX11_chance 55 = .ok (.aload_n 0, 1) := by decide +kernel
theorem dX11_chance_56 : decode cX11_chance 56 = .ok (.getfield 111, 3) := by decide +kernel
theorem dX11_chance_59 : decode cX11_chance 59 = .ok (.getfield 339, 3) := by decide +kernel
theorem dX11_chance_62 : decode cX11_chance 62 = .ok (.iload 6, 2) := by decide +kernel
theorem dX11_chance_64 : decode cX11_chance 64 = .ok (.laload, 1) := by decide +kernel
theorem dX11_chance_65 : decode cX11_chance 65 = .ok (.ldc2_w 334, 3) := by decide +kernel
theorem dX11_chance_68 : decode cX11_chance 68 = .ok (.iload 5, 2) := by decide +kernel
theorem dX11_chance_70 : decode cX11_chance 70 = .ok (.invokestatic 300, 3) := by decide +kernel
theorem dX11_chance_73 : decode cX11_chance 73 = .ok (.lreturn, 1) := by decide +kernel
theorem dX11_look_0 : decode cX11_look 0 = .ok (.aload_n 0, 1) := by decide +kernel
theorem dX11_look_1 : decode cX11_look 1 = .ok (.iload_n 1, 1) := by decide +kernel
theorem dX11_look_2 : decode cX11_look 2 = .ok (.iload_n 2, 1) := by decide +kernel
theorem dX11_look_3 : decode cX11_look 3 = .ok (.invokevirtual 230, 3) := by decide +kernel
theorem dX11_look_6 : decode cX11_look 6 = .ok (.ifCond .eq 10, 3) := by decide +kernel
theorem dX11_look_9 : decode cX11_look 9 = .ok (.iload_n 3, 1) := by decide +kernel
theorem dX11_look_10 : decode cX11_look 10 = .ok (.invokestatic 146, 3) := by decide +kernel
theorem dX11_look_13 : decode cX11_look 13 = .ok (.ifCond .ne 5, 3) := by decide +kernel
theorem dX11_look_16 : decode cX11_look 16 = .ok (.iconst (-1), 1) := by decide +kernel
theorem dX11_look_17 : decode cX11_look 17 = .ok (.ireturn, 1) := by decide +kernel
theorem dX11_look_18 : decode cX11_look 18 = .ok (.aload_n 0, 1) := by decide +kernel
theorem dX11_look_19 : decode cX11_look 19 = .ok (.getfield 111, 3) := by decide +kernel
theorem dX11_look_22 : decode cX11_look 22 = .ok (.aload_n 0, 1) := by decide +kernel
theorem dX11_look_23 : decode cX11_look 23 = .ok (.getfield 20, 3) := by decide +kernel
theorem dX11_look_26 : decode cX11_look 26 = .ok (.aload_n 0, 1) := by decide +kernel
theorem dX11_look_27 : decode cX11_look 27 = .ok (.getfield 36, 3) := by decide +kernel
theorem dX11_look_30 : decode cX11_look 30 = .ok (.iload_n 1, 1) := by decide +kernel
theorem dX11_look_31 : decode cX11_look 31 = .ok (.aaload, 1) := by decide +kernel
theorem dX11_look_32 : decode cX11_look 32 = .ok (.iload_n 2, 1) := by decide +kernel
theorem dX11_look_33 : decode cX11_look 33 = .ok (.iload_n 3, 1) := by decide +kernel
theorem dX11_look_34 : decode cX11_look 34 = .ok (.invokevirtual 328, 3) := by decide +kernel
theorem dX11_look_37 : decode cX11_look 37 = .ok (.aload_n 0, 1) := by decide +kernel
theorem dX11_look_38 : decode cX11_look 38 = .ok (.getfield 111, 3) := by decide +kernel
theorem dX11_look_41 : decode cX11_look 41 = .ok (.aload_n 0, 1) := by decide +kernel
theorem dX11_look_42 : decode cX11_look 42 = .ok (.getfield 20, 3) := by decide +kernel
theorem dX11_look_45 : decode cX11_look 45 = .ok (.iload_n 3, 1) := by decide +kernel
theorem dX11_look_46 : decode cX11_look 46 = .ok (.iload 4, 2) := by decide +kernel
theorem dX11_look_48 : decode cX11_look 48 = .ok (.invokevirtual 343, 3) := by decide +kernel
theorem dX11_look_51 : decode cX11_look 51 = .ok (.ireturn, 1) := by decide +kernel
theorem dX11_count_0 : decode cX11_count 0 = .ok (.iload_n 1, 1) := by decide +kernel
theorem dX11_count_1 : decode cX11_count 1 = .ok (.tableswitch 75 0 4 #[35, 43, 51, 62, 70], 35) := by decide +kernel
theorem dX11_count_36 : decode cX11_count 36 = .ok (.aload_n 0, 1) := by decide +kernel
theorem dX11_count_37 : decode cX11_count 37 = .ok (.getfield 20, 3) := by decide +kernel
theorem dX11_count_40 : decode cX11_count 40 = .ok (.getfield 132, 3) := by decide +kernel
theorem dX11_count_43 : decode cX11_count 43 = .ok (.ireturn, 1) := by decide +kernel
theorem dX11_count_44 : decode cX11_count 44 = .ok (.aload_n 0, 1) := by decide +kernel
theorem dX11_count_45 : decode cX11_count 45 = .ok (.getfield 20, 3) := by decide +kernel
theorem dX11_count_48 : decode cX11_count 48 = .ok (.getfield 314, 3) := by decide +kernel
theorem dX11_count_51 : decode cX11_count 51 = .ok (.ireturn, 1) := by decide +kernel
theorem dX11_count_52 : decode cX11_count 52 = .ok (.aload_n 0, 1) := by decide +kernel
theorem dX11_count_53 : decode cX11_count 53 = .ok (.getfield 20, 3) := by decide +kernel
theorem dX11_count_56 : decode cX11_count 56 = .ok (.getfield 347, 3) := by decide +kernel
theorem dX11_count_59 : decode cX11_count 59 = .ok (.invokestatic 199, 3) := by decide +kernel
theorem dX11_count_62 : decode cX11_count 62 = .ok (.ireturn, 1) := by decide +kernel
theorem dX11_count_63 : decode cX11_count 63 = .ok (.aload_n 0, 1) := by decide +kernel
theorem dX11_count_64 : decode cX11_count 64 = .ok (.getfield 20, 3) := by decide +kernel
theorem dX11_count_67 : decode cX11_count 67 = .ok (.getfield 350, 3) := by decide +kernel
theorem dX11_count_70 : decode cX11_count 70 = .ok (.ireturn, 1) := by decide +kernel
theorem dX11_count_71 : decode cX11_count 71 = .ok (.aload_n 0, 1) := by decide +kernel
theorem dX11_count_72 : decode cX11_count 72 = .ok (.getfield 13, 3) := by decide +kernel
theorem dX11_count_75 : decode cX11_count 75 = .ok (.ireturn, 1) := by decide +kernel
theorem dX11_count_76 : decode cX11_count 76 = .ok (.bipush (-2), 2) := by decide +kernel
theorem dX11_count_78 : decode cX11_count 78 = .ok (.ireturn, 1) := by decide +kernel
theorem dX11_canBegin_0 : decode cX11_canBegin 0 = .ok (.iload_n 1, 1) := by decide +kernel
theorem dX11_canBegin_1 : decode cX11_canBegin 1 = .ok (.invokestatic 135, 3) := by decide +kernel
theorem dX11_canBegin_4 : decode cX11_canBegin 4 = .ok (.ifCond .eq 18, 3) := by decide +kernel
theorem dX11_canBegin_7 : decode cX11_canBegin 7 = .ok (.aload_n 0, 1) := by decide +kernel
theorem dX11_canBegin_8 : decode cX11_canBegin 8 = .ok (.getfield 20, 3) := by decide +kernel
theorem dX11_canBegin_11 : decode cX11_canBegin 11 = .ok (.iload_n 2, 1) := by decide +kernel
theorem dX11_canBegin_12 : decode cX11_canBegin 12 = .ok (.invokevirtual 207, 3) := by decide +kernel
theorem dX11_canBegin_15 : decode cX11_canBegin 15 = .ok (.ifCond .eq 7, 3) := by decide +kernel
theorem dX11_canBegin_18 : decode cX11_canBegin 18 = .ok (.iconst 1, 1) := by decide +kernel
theorem dX11_canBegin_19 : decode cX11_canBegin 19 = .ok (.goto 4, 3) := by decide +kernel
theorem dX11_canBegin_22 : decode cX11_canBegin 22 = .ok (.iconst 0, 1) := by decide +kernel
theorem dX11_canBegin_23 : decode cX11_canBegin 23 = .ok (.ireturn, 1) := by decide +kernel
theorem dX11_fewestKeys_0 : decode cX11_fewestKeys 0 = .ok (.iconst 1, 1) := by decide +kernel
theorem dX11_fewestKeys_1 : decode cX11_fewestKeys 1 = .ok (.aload_n 0, 1) := by decide +kernel
theorem dX11_fewestKeys_2 : decode cX11_fewestKeys 2 = .ok (.getfield 20, 3) := by decide +kernel
theorem dX11_fewestKeys_5 : decode cX11_fewestKeys 5 = .ok (.getfield 132, 3) := by decide +kernel
theorem dX11_fewestKeys_8 : decode cX11_fewestKeys 8 = .ok (.ishl, 1) := by decide +kernel
theorem dX11_fewestKeys_9 : decode cX11_fewestKeys 9 = .ok (.istore_n 3, 1) := by decide +kernel
theorem dX11_fewestKeys_10 : decode cX11_fewestKeys 10 = .ok (.iconst 0, 1) := by decide +kernel
theorem dX11_fewestKeys_11 : decode cX11_fewestKeys 11 = .ok (.istore 4, 2) := by decide +kernel
theorem dX11_fewestKeys_13 : decode cX11_fewestKeys 13 = .ok (.iload 4, 2) := by decide +kernel
theorem dX11_fewestKeys_15 : decode cX11_fewestKeys 15 = .ok (.aload_n 0, 1) := by decide +kernel
theorem dX11_fewestKeys_16 : decode cX11_fewestKeys 16 = .ok (.getfield 20, 3) := by decide +kernel
theorem dX11_fewestKeys_19 : decode cX11_fewestKeys 19 = .ok (.getfield 132, 3) := by decide +kernel
theorem dX11_fewestKeys_22 : decode cX11_fewestKeys 22 = .ok (.if_icmp .gt 62, 3) := by decide +kernel
theorem dX11_fewestKeys_25 : decode cX11_fewestKeys 25 = .ok (.iconst 0, 1) := by decide +kernel
theorem dX11_fewestKeys_26 : decode cX11_fewestKeys 26 = .ok (.istore 5, 2) := by decide +kernel
theorem dX11_fewestKeys_28 : decode cX11_fewestKeys 28 = .ok (.iload 5, 2) := by decide +kernel
theorem dX11_fewestKeys_30 : decode cX11_fewestKeys 30 = .ok (.iload_n 3, 1) := by decide +kernel
theorem dX11_fewestKeys_31 : decode cX11_fewestKeys 31 = .ok (.if_icmp .ge 47, 3) := by decide +kernel
theorem dX11_fewestKeys_34 : decode cX11_fewestKeys 34 = .ok (.iload 5, 2) := by decide +kernel
theorem dX11_fewestKeys_36 : decode cX11_fewestKeys 36 = .ok (.invokestatic 199, 3) := by decide +kernel
theorem dX11_fewestKeys_39 : decode cX11_fewestKeys 39 = .ok (.iload 4, 2) := by decide +kernel
theorem dX11_fewestKeys_41 : decode cX11_fewestKeys 41 = .ok (.if_icmp .ne 31, 3) := by decide +kernel
theorem dX11_fewestKeys_44 : decode cX11_fewestKeys 44 = .ok (.aload_n 0, 1) := by decide +kernel
theorem dX11_fewestKeys_45 : decode cX11_fewestKeys 45 = .ok (.getfield 20, 3) := by decide +kernel
theorem dX11_fewestKeys_48 : decode cX11_fewestKeys 48 = .ok (.iload 5, 2) := by decide +kernel
theorem dX11_fewestKeys_50 : decode cX11_fewestKeys 50 = .ok (.putfield 186, 3) := by decide +kernel
theorem dX11_fewestKeys_53 : decode cX11_fewestKeys 53 = .ok (.aload_n 0, 1) := by decide +kernel
theorem dX11_fewestKeys_54 : decode cX11_fewestKeys 54 = .ok (.getfield 81, 3) := by decide +kernel
theorem dX11_fewestKeys_57 : decode cX11_fewestKeys 57 = .ok (.aload_n 0, 1) := by decide +kernel
theorem dX11_fewestKeys_58 : decode cX11_fewestKeys 58 = .ok (.getfield 20, 3) := by decide +kernel
theorem dX11_fewestKeys_61 : decode cX11_fewestKeys 61 = .ok (.aload_n 1, 1) := by decide +kernel
theorem dX11_fewestKeys_62 : decode cX11_fewestKeys 62 = .ok (.iload_n 2, 1) := by decide +kernel
theorem dX11_fewestKeys_63 : decode cX11_fewestKeys 63 = .ok (.invokevirtual 259, 3) := by decide +kernel
theorem dX11_fewestKeys_66 : decode cX11_fewestKeys 66 = .ok (.ifCond .eq 6, 3) := by decide +kernel
theorem dX11_fewestKeys_69 : decode cX11_fewestKeys 69 = .ok (.iload 5, 2) := by decide +kernel
theorem dX11_fewestKeys_71 : decode cX11_fewestKeys 71 = .ok (.ireturn, 1) := by decide +kernel
theorem dX11_fewestKeys_72 : decode cX11_fewestKeys 72 = .ok (.iinc 5 1, 3) := by decide +kernel
theorem dX11_fewestKeys_75 : decode cX11_fewestKeys 75 = .ok (.goto (-47), 3) := by decide +kernel
theorem dX11_fewestKeys_78 : decode cX11_fewestKeys 78 = .ok (.iinc 4 1, 3) := by decide +kernel
theorem dX11_fewestKeys_81 : decode cX11_fewestKeys 81 = .ok (.goto (-68), 3) := by decide +kernel
theorem dX11_fewestKeys_84 : decode cX11_fewestKeys 84 = .ok (.iload_n 3, 1) := by decide +kernel
theorem dX11_fewestKeys_85 : decode cX11_fewestKeys 85 = .ok (.iconst 1, 1) := by decide +kernel
theorem dX11_fewestKeys_86 : decode cX11_fewestKeys 86 = .ok (.isub, 1) := by decide +kernel
theorem dX11_fewestKeys_87 : decode cX11_fewestKeys 87 = .ok (.ireturn, 1) := by decide +kernel
theorem dX11_helpsToMove_0 : decode cX11_helpsToMove 0 = .ok (.aload_n 0, 1) := by decide +kernel
theorem dX11_helpsToMove_1 : decode cX11_helpsToMove 1 = .ok (.getfield 20, 3) := by decide +kernel
theorem dX11_helpsToMove_4 : decode cX11_helpsToMove 4 = .ok (.getfield 159, 3) := by decide +kernel
theorem dX11_helpsToMove_7 : decode cX11_helpsToMove 7 = .ok (.iload_n 1, 1) := by decide +kernel
theorem dX11_helpsToMove_8 : decode cX11_helpsToMove 8 = .ok (.iaload, 1) := by decide +kernel
theorem dX11_helpsToMove_9 : decode cX11_helpsToMove 9 = .ok (.istore 5, 2) := by decide +kernel
theorem dX11_helpsToMove_11 : decode cX11_helpsToMove 11 = .ok (.aload_n 0, 1) := by decide +kernel
theorem dX11_helpsToMove_12 : decode cX11_helpsToMove 12 = .ok (.getfield 20, 3) := by decide +kernel
theorem dX11_helpsToMove_15 : decode cX11_helpsToMove 15 = .ok (.iload_n 1, 1) := by decide +kernel
theorem dX11_helpsToMove_16 : decode cX11_helpsToMove 16 = .ok (.iload 5, 2) := by decide +kernel
theorem dX11_helpsToMove_18 : decode cX11_helpsToMove 18 = .ok (.iload_n 2, 1) := by decide +kernel
theorem dX11_helpsToMove_19 : decode cX11_helpsToMove 19 = .ok (.iadd, 1) := by decide +kernel
theorem dX11_helpsToMove_20 : decode cX11_helpsToMove 20 = .ok (.invokevirtual 321, 3) := by decide +kernel
theorem dX11_helpsToMove_23 : decode cX11_helpsToMove 23 = .ok (.ifCond .ne 5, 3) := by decide +kernel
theorem dX11_helpsToMove_26 : decode cX11_helpsToMove 26 = .ok (.iconst 0, 1) := by decide +kernel
theorem dX11_helpsToMove_27 : decode cX11_helpsToMove 27 = .ok (.ireturn, 1) := by decide +kernel
theorem dX11_helpsToMove_28 : decode cX11_helpsToMove 28 = .ok (.aload_n 0, 1) := by decide +kernel
theorem dX11_helpsToMove_29 : decode cX11_helpsToMove 29 = .ok (.getfield 20, 3) := by decide +kernel
theorem dX11_helpsToMove_32 : decode cX11_helpsToMove 32 = .ok (.iload_n 1, 1) := by decide +kernel
theorem dX11_helpsToMove_33 : decode cX11_helpsToMove 33 = .ok (.iload 5, 2) := by decide +kernel
theorem dX11_helpsToMove_35 : decode cX11_helpsToMove 35 = .ok (.iload_n 2, 1) := by decide +kernel
theorem dX11_helpsToMove_36 : decode cX11_helpsToMove 36 = .ok (.iadd, 1) := by decide +kernel
theorem dX11_helpsToMove_37 : decode cX11_helpsToMove 37 = .ok (.invokevirtual 324, 3) := by decide +kernel
theorem dX11_helpsToMove_40 : decode cX11_helpsToMove 40 = .ok (.aload_n 0, 1) := by decide +kernel
theorem dX11_helpsToMove_41 : decode cX11_helpsToMove 41 = .ok (.getfield 81, 3) := by decide +kernel
theorem dX11_helpsToMove_44 : decode cX11_helpsToMove 44 = .ok (.aload_n 0, 1) := by decide +kernel
theorem dX11_helpsToMove_45 : decode cX11_helpsToMove 45 = .ok (.getfield 20, 3) := by decide +kernel
theorem dX11_helpsToMove_48 : decode cX11_helpsToMove 48 = .ok (.aload_n 3, 1) := by decide +kernel
theorem dX11_helpsToMove_49 : decode cX11_helpsToMove 49 = .ok (.iload 4, 2) := by decide +kernel
theorem dX11_helpsToMove_51 : decode cX11_helpsToMove 51 = .ok (.invokevirtual 259, 3) := by decide +kernel
theorem dX11_helpsToMove_54 : decode cX11_helpsToMove 54 = .ok (.istore 6, 2) := by decide +kernel
theorem dX11_helpsToMove_56 : decode cX11_helpsToMove 56 = .ok (.aload_n 0, 1) := by decide +kernel
theorem dX11_helpsToMove_57 : decode cX11_helpsToMove 57 = .ok (.getfield 20, 3) := by decide +kernel
theorem dX11_helpsToMove_60 : decode cX11_helpsToMove 60 = .ok (.iload_n 1, 1) := by decide +kernel
theorem dX11_helpsToMove_61 : decode cX11_helpsToMove 61 = .ok (.iload 5, 2) := by decide +kernel
theorem dX11_helpsToMove_63 : decode cX11_helpsToMove 63 = .ok (.invokevirtual 324, 3) := by decide +kernel
theorem dX11_helpsToMove_66 : decode cX11_helpsToMove 66 = .ok (.iload 6, 2) := by decide +kernel
theorem dX11_helpsToMove_68 : decode cX11_helpsToMove 68 = .ok (.ireturn, 1) := by decide +kernel
theorem dX11_isHour_0 : decode cX11_isHour 0 = .ok (.iload_n 0, 1) := by decide +kernel
theorem dX11_isHour_1 : decode cX11_isHour 1 = .ok (.ifCond .lt 13, 3) := by decide +kernel
theorem dX11_isHour_4 : decode cX11_isHour 4 = .ok (.iload_n 0, 1) := by decide +kernel
theorem dX11_isHour_5 : decode cX11_isHour 5 = .ok (.bipush 10, 2) := by decide +kernel
theorem dX11_isHour_7 : decode cX11_isHour 7 = .ok (.if_icmp .ge 7, 3) := by decide +kernel
theorem dX11_isHour_10 : decode cX11_isHour 10 = .ok (.iconst 1, 1) := by decide +kernel
theorem dX11_isHour_11 : decode cX11_isHour 11 = .ok (.goto 4, 3) := by decide +kernel
theorem dX11_isHour_14 : decode cX11_isHour 14 = .ok (.iconst 0, 1) := by decide +kernel
theorem dX11_isHour_15 : decode cX11_isHour 15 = .ok (.ireturn, 1) := by decide +kernel
theorem dX11_isRule_0 : decode cX11_isRule 0 = .ok (.iload_n 0, 1) := by decide +kernel
theorem dX11_isRule_1 : decode cX11_isRule 1 = .ok (.ifCond .lt 12, 3) := by decide +kernel
theorem dX11_isRule_4 : decode cX11_isRule 4 = .ok (.iload_n 0, 1) := by decide +kernel
theorem dX11_isRule_5 : decode cX11_isRule 5 = .ok (.iconst 3, 1) := by decide +kernel
theorem dX11_isRule_6 : decode cX11_isRule 6 = .ok (.if_icmp .ge 7, 3) := by decide +kernel
theorem dX11_isRule_9 : decode cX11_isRule 9 = .ok (.iconst 1, 1) := by decide +kernel
theorem dX11_isRule_10 : decode cX11_isRule 10 = .ok (.goto 4, 3) := by decide +kernel
theorem dX11_isRule_13 : decode cX11_isRule 13 = .ok (.iconst 0, 1) := by decide +kernel
theorem dX11_isRule_14 : decode cX11_isRule 14 = .ok (.ireturn, 1) := by decide +kernel
theorem dX11_isSlot_0 : decode cX11_isSlot 0 = .ok (.iload_n 0, 1) := by decide +kernel
theorem dX11_isSlot_1 : decode cX11_isSlot 1 = .ok (.ifCond .lt 12, 3) := by decide +kernel
theorem dX11_isSlot_4 : decode cX11_isSlot 4 = .ok (.iload_n 0, 1) := by decide +kernel
theorem dX11_isSlot_5 : decode cX11_isSlot 5 = .ok (.iconst 2, 1) := by decide +kernel
theorem dX11_isSlot_6 : decode cX11_isSlot 6 = .ok (.if_icmp .ge 7, 3) := by decide +kernel
theorem dX11_isSlot_9 : decode cX11_isSlot 9 = .ok (.iconst 1, 1) := by decide +kernel
theorem dX11_isSlot_10 : decode cX11_isSlot 10 = .ok (.goto 4, 3) := by decide +kernel
theorem dX11_isSlot_13 : decode cX11_isSlot 13 = .ok (.iconst 0, 1) := by decide +kernel
theorem dX11_isSlot_14 : decode cX11_isSlot 14 = .ok (.ireturn, 1) := by decide +kernel
theorem dX11_arePrices_0 : decode cX11_arePrices 0 = .ok (.iload_n 0, 1) := by decide +kernel
theorem dX11_arePrices_1 : decode cX11_arePrices 1 = .ok (.ifCond .lt 23, 3) := by decide +kernel
theorem dX11_arePrices_4 : decode cX11_arePrices 4 = .ok (.iload_n 0, 1) := by decide +kernel
theorem dX11_arePrices_5 : decode cX11_arePrices 5 = .ok (.bipush 9, 2) := by decide +kernel
theorem dX11_arePrices_7 : decode cX11_arePrices 7 = .ok (.if_icmp .gt 17, 3) := by decide +kernel
theorem dX11_arePrices_10 : decode cX11_arePrices 10 = .ok (.iload_n 1, 1) := by decide +kernel
theorem dX11_arePrices_11 : decode cX11_arePrices 11 = .ok (.ifCond .lt 13, 3) := by decide +kernel
theorem dX11_arePrices_14 : decode cX11_arePrices 14 = .ok (.iload_n 1, 1) := by decide +kernel
theorem dX11_arePrices_15 : decode cX11_arePrices 15 = .ok (.bipush 9, 2) := by decide +kernel
theorem dX11_arePrices_17 : decode cX11_arePrices 17 = .ok (.if_icmp .gt 7, 3) := by decide +kernel
theorem dX11_arePrices_20 : decode cX11_arePrices 20 = .ok (.iconst 1, 1) := by decide +kernel
theorem dX11_arePrices_21 : decode cX11_arePrices 21 = .ok (.goto 4, 3) := by decide +kernel
theorem dX11_arePrices_24 : decode cX11_arePrices 24 = .ok (.iconst 0, 1) := by decide +kernel
theorem dX11_arePrices_25 : decode cX11_arePrices 25 = .ok (.ireturn, 1) := by decide +kernel
theorem dX11_hourAfter_0 : decode cX11_hourAfter 0 = .ok (.iload_n 0, 1) := by decide +kernel
theorem dX11_hourAfter_1 : decode cX11_hourAfter 1 = .ok (.iconst 1, 1) := by decide +kernel
theorem dX11_hourAfter_2 : decode cX11_hourAfter 2 = .ok (.iadd, 1) := by decide +kernel
theorem dX11_hourAfter_3 : decode cX11_hourAfter 3 = .ok (.bipush 10, 2) := by decide +kernel
theorem dX11_hourAfter_5 : decode cX11_hourAfter 5 = .ok (.if_icmp .ge 9, 3) := by decide +kernel
theorem dX11_hourAfter_8 : decode cX11_hourAfter 8 = .ok (.iload_n 0, 1) := by decide +kernel
theorem dX11_hourAfter_9 : decode cX11_hourAfter 9 = .ok (.iconst 1, 1) := by decide +kernel
theorem dX11_hourAfter_10 : decode cX11_hourAfter 10 = .ok (.iadd, 1) := by decide +kernel
theorem dX11_hourAfter_11 : decode cX11_hourAfter 11 = .ok (.goto 4, 3) := by decide +kernel
theorem dX11_hourAfter_14 : decode cX11_hourAfter 14 = .ok (.iconst 0, 1) := by decide +kernel
theorem dX11_hourAfter_15 : decode cX11_hourAfter 15 = .ok (.ireturn, 1) := by decide +kernel
theorem dX11_spotOf_0 : decode cX11_spotOf 0 = .ok (.iload_n 0, 1) := by decide +kernel
theorem dX11_spotOf_1 : decode cX11_spotOf 1 = .ok (.ifCond .lt 10, 3) := by decide +kernel
theorem dX11_spotOf_4 : decode cX11_spotOf 4 = .ok (.iload_n 0, 1) := by decide +kernel
theorem dX11_spotOf_5 : decode cX11_spotOf 5 = .ok (.iconst 4, 1) := by decide +kernel
theorem dX11_spotOf_6 : decode cX11_spotOf 6 = .ok (.if_icmp .ge 5, 3) := by decide +kernel
theorem dX11_spotOf_9 : decode cX11_spotOf 9 = .ok (.iload_n 0, 1) := by decide +kernel
theorem dX11_spotOf_10 : decode cX11_spotOf 10 = .ok (.ireturn, 1) := by decide +kernel
theorem dX11_spotOf_11 : decode cX11_spotOf 11 = .ok (.iload_n 0, 1) := by decide +kernel
theorem dX11_spotOf_12 : decode cX11_spotOf 12 = .ok (.bipush 10, 2) := by decide +kernel
theorem dX11_spotOf_14 : decode cX11_spotOf 14 = .ok (.if_icmp .lt 16, 3) := by decide +kernel
theorem dX11_spotOf_17 : decode cX11_spotOf 17 = .ok (.iload_n 0, 1) := by decide +kernel
theorem dX11_spotOf_18 : decode cX11_spotOf 18 = .ok (.bipush 16, 2) := by decide +kernel
theorem dX11_spotOf_20 : decode cX11_spotOf 20 = .ok (.if_icmp .ge 10, 3) := by decide +kernel
theorem dX11_spotOf_23 : decode cX11_spotOf 23 = .ok (.iload_n 0, 1) := by decide +kernel
theorem dX11_spotOf_24 : decode cX11_spotOf 24 = .ok (.bipush 10, 2) := by decide +kernel
theorem dX11_spotOf_26 : decode cX11_spotOf 26 = .ok (.isub, 1) := by decide +kernel
theorem dX11_spotOf_27 : decode cX11_spotOf 27 = .ok (.iconst 4, 1) := by decide +kernel
theorem dX11_spotOf_28 : decode cX11_spotOf 28 = .ok (.iadd, 1) := by decide +kernel
theorem dX11_spotOf_29 : decode cX11_spotOf 29 = .ok (.ireturn, 1) := by decide +kernel
theorem dX11_spotOf_30 : decode cX11_spotOf 30 = .ok (.iload_n 0, 1) := by decide +kernel
theorem dX11_spotOf_31 : decode cX11_spotOf 31 = .ok (.bipush 20, 2) := by decide +kernel
theorem dX11_spotOf_33 : decode cX11_spotOf 33 = .ok (.if_icmp .ne 8, 3) := by decide +kernel
theorem dX11_spotOf_36 : decode cX11_spotOf 36 = .ok (.bipush 10, 2) := by decide +kernel
theorem dX11_spotOf_38 : decode cX11_spotOf 38 = .ok (.goto 4, 3) := by decide +kernel
theorem dX11_spotOf_41 : decode cX11_spotOf 41 = .ok (.iconst (-1), 1) := by decide +kernel
theorem dX11_spotOf_42 : decode cX11_spotOf 42 = .ok (.ireturn, 1) := by decide +kernel
theorem dX11_whereAt_0 : decode cX11_whereAt 0 = .ok (.iload_n 0, 1) := by decide +kernel
theorem dX11_whereAt_1 : decode cX11_whereAt 1 = .ok (.iconst 4, 1) := by decide +kernel
theorem dX11_whereAt_2 : decode cX11_whereAt 2 = .ok (.if_icmp .ge 5, 3) := by decide +kernel
theorem dX11_whereAt_5 : decode cX11_whereAt 5 = .ok (.iload_n 0, 1) := by decide +kernel
theorem dX11_whereAt_6 : decode cX11_whereAt 6 = .ok (.ireturn, 1) := by decide +kernel
theorem dX11_whereAt_7 : decode cX11_whereAt 7 = .ok (.iload_n 0, 1) := by decide +kernel
theorem dX11_whereAt_8 : decode cX11_whereAt 8 = .ok (.bipush 10, 2) := by decide +kernel
theorem dX11_whereAt_10 : decode cX11_whereAt 10 = .ok (.if_icmp .ge 12, 3) := by decide +kernel
theorem dX11_whereAt_13 : decode cX11_whereAt 13 = .ok (.iload_n 0, 1) := by decide +kernel
theorem dX11_whereAt_14 : decode cX11_whereAt 14 = .ok (.iconst 4, 1) := by decide +kernel
theorem dX11_whereAt_15 : decode cX11_whereAt 15 = .ok (.isub, 1) := by decide +kernel
theorem dX11_whereAt_16 : decode cX11_whereAt 16 = .ok (.bipush 10, 2) := by decide +kernel
theorem dX11_whereAt_18 : decode cX11_whereAt 18 = .ok (.iadd, 1) := by decide +kernel
theorem dX11_whereAt_19 : decode cX11_whereAt 19 = .ok (.goto 5, 3) := by decide +kernel
theorem dX11_whereAt_22 : decode cX11_whereAt 22 = .ok (.bipush 20, 2) := by decide +kernel
theorem dX11_whereAt_24 : decode cX11_whereAt 24 = .ok (.ireturn, 1) := by decide +kernel
theorem dX11_fraction_0 : decode cX11_fraction 0 = .ok (.lload_n 0, 1) := by decide +kernel
theorem dX11_fraction_1 : decode cX11_fraction 1 = .ok (.lload_n 2, 1) := by decide +kernel
theorem dX11_fraction_2 : decode cX11_fraction 2 = .ok (.invokestatic 353, 3) := by decide +kernel
theorem dX11_fraction_5 : decode cX11_fraction 5 = .ok (.lstore 5, 2) := by decide +kernel
theorem dX11_fraction_7 : decode cX11_fraction 7 = .ok (.lload 5, 2) := by decide +kernel
theorem dX11_fraction_9 : decode cX11_fraction 9 = .ok (.lconst 0, 1) := by decide +kernel
theorem dX11_fraction_10 : decode cX11_fraction 10 = .ok (.lcmp, 1) := by decide +kernel
theorem dX11_fraction_11 : decode cX11_fraction 11 = .ok (.ifCond .ne 5, 3) := by decide +kernel
theorem dX11_fraction_14 : decode cX11_fraction 14 = .ok (.lconst 0, 1) := by decide +kernel
theorem dX11_fraction_15 : decode cX11_fraction 15 = .ok (.lreturn, 1) := by decide +kernel
theorem dX11_fraction_16 : decode cX11_fraction 16 = .ok (.iload 4, 2) := by decide +kernel
theorem dX11_fraction_18 : decode cX11_fraction 18 = .ok (.ifCond .eq 7, 3) := by decide +kernel
theorem dX11_fraction_21 : decode cX11_fraction 21 = .ok (.lload_n 0, 1) := by decide +kernel
theorem dX11_fraction_22 : decode cX11_fraction 22 = .ok (.goto 4, 3) := by decide +kernel
theorem dX11_fraction_25 : decode cX11_fraction 25 = .ok (.lload_n 2, 1) := by decide +kernel
theorem dX11_fraction_26 : decode cX11_fraction 26 = .ok (.lload 5, 2) := by decide +kernel
theorem dX11_fraction_28 : decode cX11_fraction 28 = .ok (.ldiv, 1) := by decide +kernel
theorem dX11_fraction_29 : decode cX11_fraction 29 = .ok (.lreturn, 1) := by decide +kernel
theorem dX11_greatestDivisor_0 : decode cX11_greatestDivisor 0 = .ok (.lload_n 0, 1) := by decide +kernel
theorem dX11_greatestDivisor_1 : decode cX11_greatestDivisor 1 = .ok (.lstore 4, 2) := by decide +kernel
theorem dX11_greatestDivisor_3 : decode cX11_greatestDivisor 3 = .ok (.lload_n 2, 1) := by decide +kernel
theorem dX11_greatestDivisor_4 : decode cX11_greatestDivisor 4 = .ok (.lstore 6, 2) := by decide +kernel
theorem dX11_greatestDivisor_6 : decode cX11_greatestDivisor 6 = .ok (.iconst 0, 1) := by decide +kernel
theorem dX11_greatestDivisor_7 : decode cX11_greatestDivisor 7 = .ok (.istore 8, 2) := by decide +kernel
theorem dX11_greatestDivisor_9 : decode cX11_greatestDivisor 9 = .ok (.iload 8, 2) := by decide +kernel
theorem dX11_greatestDivisor_11 : decode cX11_greatestDivisor 11 = .ok (.sipush 200, 3) := by decide +kernel
theorem dX11_greatestDivisor_14 : decode cX11_greatestDivisor 14 = .ok (.if_icmp .ge 31, 3) := by decide +kernel
theorem dX11_greatestDivisor_17 : decode cX11_greatestDivisor 17 = .ok (.lload 6, 2) := by decide +kernel
theorem dX11_greatestDivisor_19 : decode cX11_greatestDivisor 19 = .ok (.lconst 0, 1) := by decide +kernel
theorem dX11_greatestDivisor_20 : decode cX11_greatestDivisor 20 = .ok (.lcmp, 1) := by decide +kernel
theorem dX11_greatestDivisor_21 : decode cX11_greatestDivisor 21 = .ok (.ifCond .eq 24, 3) := by decide +kernel
theorem dX11_greatestDivisor_24 : decode cX11_greatestDivisor 24 = .ok (.lload 4, 2) := by decide +kernel
theorem dX11_greatestDivisor_26 : decode cX11_greatestDivisor 26 = .ok (.lload 6, 2) := by decide +kernel
theorem dX11_greatestDivisor_28 : decode cX11_greatestDivisor 28 = .ok (.lrem, 1) := by decide +kernel
theorem dX11_greatestDivisor_29 : decode cX11_greatestDivisor 29 = .ok (.lstore 9, 2) := by decide +kernel
theorem dX11_greatestDivisor_31 : decode cX11_greatestDivisor 31 = .ok (.lload 6, 2) := by decide +kernel
theorem dX11_greatestDivisor_33 : decode cX11_greatestDivisor 33 = .ok (.lstore 4, 2) := by decide +kernel
theorem dX11_greatestDivisor_35 : decode cX11_greatestDivisor 35 = .ok (.lload 9, 2) := by decide +kernel
theorem dX11_greatestDivisor_37 : decode cX11_greatestDivisor 37 = .ok (.lstore 6, 2) := by decide +kernel
theorem dX11_greatestDivisor_39 : decode cX11_greatestDivisor 39 = .ok (.iinc 8 1, 3) := by decide +kernel
theorem dX11_greatestDivisor_42 : decode cX11_greatestDivisor 42 = .ok (.goto (-33), 3) := by decide +kernel
theorem dX11_greatestDivisor_45 : decode cX11_greatestDivisor 45 = .ok (.lload 4, 2) := by decide +kernel
theorem dX11_greatestDivisor_47 : decode cX11_greatestDivisor 47 = .ok (.lreturn, 1) := by decide +kernel
