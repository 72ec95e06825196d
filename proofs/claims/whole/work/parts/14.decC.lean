-- decode rows (printed)
theorem dX12_init_0 : decode cX12_init 0 = .ok (.aload_n 0, 1) := by decide +kernel
theorem dX12_init_1 : decode cX12_init 1 = .ok (.invokespecial 1, 3) := by decide +kernel
theorem dX12_init_4 : decode cX12_init 4 = .ok (.aload_n 0, 1) := by decide +kernel
theorem dX12_init_5 : decode cX12_init 5 = .ok (.bipush 6, 2) := by decide +kernel
theorem dX12_init_7 : decode cX12_init 7 = .ok (.newarray .int, 2) := by decide +kernel
theorem dX12_init_9 : decode cX12_init 9 = .ok (.putfield 7, 3) := by decide +kernel
theorem dX12_init_12 : decode cX12_init 12 = .ok (.aload_n 0, 1) := by decide +kernel
theorem dX12_init_13 : decode cX12_init 13 = .ok (.bipush 6, 2) := by decide +kernel
theorem dX12_init_15 : decode cX12_init 15 = .ok (.newarray .int, 2) := by decide +kernel
theorem dX12_init_17 : decode cX12_init 17 = .ok (.putfield 13, 3) := by decide +kernel
theorem dX12_init_20 : decode cX12_init 20 = .ok (.aload_n 0, 1) := by decide +kernel
theorem dX12_init_21 : decode cX12_init 21 = .ok (.sipush 360, 3) := by decide +kernel
theorem dX12_init_24 : decode cX12_init 24 = .ok (.newarray .int, 2) := by decide +kernel
theorem dX12_init_26 : decode cX12_init 26 = .ok (.putfield 16, 3) := by decide +kernel
theorem dX12_init_29 : decode cX12_init 29 = .ok (.aload_n 0, 1) := by decide +kernel
theorem dX12_init_30 : decode cX12_init 30 = .ok (.bipush 60, 2) := by decide +kernel
theorem dX12_init_32 : decode cX12_init 32 = .ok (.newarray .int, 2) := by decide +kernel
theorem dX12_init_34 : decode cX12_init 34 = .ok (.putfield 19, 3) := by decide +kernel
theorem dX12_init_37 : decode cX12_init 37 = .ok (.aload_n 0, 1) := by decide +kernel
theorem dX12_init_38 : decode cX12_init 38 = .ok (.iconst 4, 1) := by decide +kernel
theorem dX12_init_39 : decode cX12_init 39 = .ok (.newarray .int, 2) := by decide +kernel
theorem dX12_init_41 : decode cX12_init 41 = .ok (.putfield 22, 3) := by decide +kernel
theorem dX12_init_44 : decode cX12_init 44 = .ok (.aload_n 0, 1) := by decide +kernel
theorem dX12_init_45 : decode cX12_init 45 = .ok (.sipush 240, 3) := by decide +kernel
theorem dX12_init_48 : decode cX12_init 48 = .ok (.newarray .byte, 2) := by decide +kernel
theorem dX12_init_50 : decode cX12_init 50 = .ok (.putfield 25, 3) := by decide +kernel
theorem dX12_init_53 : decode cX12_init 53 = .ok (.aload_n 0, 1) := by decide +kernel
theorem dX12_init_54 : decode cX12_init 54 = .ok (.bipush 8, 2) := by decide +kernel
theorem dX12_init_56 : decode cX12_init 56 = .ok (.newarray .int, 2) := by decide +kernel
theorem dX12_init_58 : decode cX12_init 58 = .ok (.putfield 29, 3) := by decide +kernel
theorem dX12_init_61 : decode cX12_init 61 = .ok (.aload_n 0, 1) := by decide +kernel
theorem dX12_init_62 : decode cX12_init 62 = .ok (.bipush 7, 2) := by decide +kernel
theorem dX12_init_64 : decode cX12_init 64 = .ok (.newarray .int, 2) := by decide +kernel
theorem dX12_init_66 : decode cX12_init 66 = .ok (.putfield 32, 3) := by decide +kernel
theorem dX12_init_69 : decode cX12_init 69 = .ok (.aload_n 0, 1) := by decide +kernel
theorem dX12_init_70 : decode cX12_init 70 = .ok (.bipush 7, 2) := by decide +kernel
theorem dX12_init_72 : decode cX12_init 72 = .ok (.newarray .int, 2) := by decide +kernel
theorem dX12_init_74 : decode cX12_init 74 = .ok (.putfield 35, 3) := by decide +kernel
theorem dX12_init_77 : decode cX12_init 77 = .ok (.aload_n 0, 1) := by decide +kernel
theorem dX12_init_78 : decode cX12_init 78 = .ok (.bipush 7, 2) := by decide +kernel
theorem dX12_init_80 : decode cX12_init 80 = .ok (.newarray .int, 2) := by decide +kernel
theorem dX12_init_82 : decode cX12_init 82 = .ok (.putfield 38, 3) := by decide +kernel
theorem dX12_init_85 : decode cX12_init 85 = .ok (.aload_n 0, 1) := by decide +kernel
theorem dX12_init_86 : decode cX12_init 86 = .ok (.bipush 8, 2) := by decide +kernel
theorem dX12_init_88 : decode cX12_init 88 = .ok (.newarray .int, 2) := by decide +kernel
theorem dX12_init_90 : decode cX12_init 90 = .ok (.putfield 41, 3) := by decide +kernel
theorem dX12_init_93 : decode cX12_init 93 = .ok (.aload_n 0, 1) := by decide +kernel
theorem dX12_init_94 : decode cX12_init 94 = .ok (.bipush 40, 2) := by decide +kernel
theorem dX12_init_96 : decode cX12_init 96 = .ok (.newarray .int, 2) := by decide +kernel
theorem dX12_init_98 : decode cX12_init 98 = .ok (.putfield 44, 3) := by decide +kernel
theorem dX12_init_101 : decode cX12_init 101 = .ok (.aload_n 0, 1) := by decide +kernel
theorem dX12_init_102 : decode cX12_init 102 = .ok (.bipush 8, 2) := by decide +kernel
theorem dX12_init_104 : decode cX12_init 104 = .ok (.newarray .int, 2) := by decide +kernel
theorem dX12_init_106 : decode cX12_init 106 = .ok (.putfield 47, 3) := by decide +kernel
theorem dX12_init_109 : decode cX12_init 109 = .ok (.aload_n 0, 1) := by decide +kernel
theorem dX12_init_110 : decode cX12_init 110 = .ok (.bipush 7, 2) := by decide +kernel
theorem dX12_init_112 : decode cX12_init 112 = .ok (.newarray .int, 2) := by decide +kernel
theorem dX12_init_114 : decode cX12_init 114 = .ok (.putfield 50, 3) := by decide +kernel
theorem dX12_init_117 : decode cX12_init 117 = .ok (.aload_n 0, 1) := by decide +kernel
theorem dX12_init_118 : decode cX12_init 118 = .ok (.bipush 7, 2) := by decide +kernel
theorem dX12_init_120 : decode cX12_init 120 = .ok (.newarray .int, 2) := by decide +kernel
theorem dX12_init_122 : decode cX12_init 122 = .ok (.putfield 53, 3) := by decide +kernel
theorem dX12_init_125 : decode cX12_init 125 = .ok (.aload_n 0, 1) := by decide +kernel
theorem dX12_init_126 : decode cX12_init 126 = .ok (.bipush 7, 2) := by decide +kernel
theorem dX12_init_128 : decode cX12_init 128 = .ok (.newarray .int, 2) := by decide +kernel
theorem dX12_init_130 : decode cX12_init 130 = .ok (.putfield 56, 3) := by decide +kernel
theorem dX12_init_133 : decode cX12_init 133 = .ok (.aload_n 0, 1) := by decide +kernel
theorem dX12_init_134 : decode cX12_init 134 = .ok (.bipush 8, 2) := by decide +kernel
theorem dX12_init_136 : decode cX12_init 136 = .ok (.newarray .int, 2) := by decide +kernel
theorem dX12_init_138 : decode cX12_init 138 = .ok (.putfield 59, 3) := by decide +kernel
theorem dX12_init_141 : decode cX12_init 141 = .ok (.aload_n 0, 1) := by decide +kernel
theorem dX12_init_142 : decode cX12_init 142 = .ok (.bipush 8, 2) := by decide +kernel
theorem dX12_init_144 : decode cX12_init 144 = .ok (.newarray .int, 2) := by decide +kernel
theorem dX12_init_146 : decode cX12_init 146 = .ok (.putfield 62, 3) := by decide +kernel
theorem dX12_init_149 : decode cX12_init 149 = .ok (.aload_n 0, 1) := by decide +kernel
theorem dX12_init_150 : decode cX12_init 150 = .ok (.sipush 480, 3) := by decide +kernel
theorem dX12_init_153 : decode cX12_init 153 = .ok (.newarray .int, 2) := by decide +kernel
theorem dX12_init_155 : decode cX12_init 155 = .ok (.putfield 65, 3) := by decide +kernel
theorem dX12_init_158 : decode cX12_init 158 = .ok (.aload_n 0, 1) := by decide +kernel
theorem dX12_init_159 : decode cX12_init 159 = .ok (.iconst 3, 1) := by decide +kernel
theorem dX12_init_160 : decode cX12_init 160 = .ok (.newarray .boolean, 2) := by decide +kernel
theorem dX12_init_162 : decode cX12_init 162 = .ok (.putfield 68, 3) := by decide +kernel
theorem dX12_init_165 : decode cX12_init 165 = .ok (.aload_n 0, 1) := by decide +kernel
theorem dX12_init_166 : decode cX12_init 166 = .ok (.bipush 21, 2) := by decide +kernel
theorem dX12_init_168 : decode cX12_init 168 = .ok (.newarray .int, 2) := by decide +kernel
theorem dX12_init_170 : decode cX12_init 170 = .ok (.putfield 72, 3) := by decide +kernel
theorem dX12_init_173 : decode cX12_init 173 = .ok (.aload_n 0, 1) := by decide +kernel
theorem dX12_init_174 : decode cX12_init 174 = .ok (.bipush 7, 2) := by decide +kernel
theorem dX12_init_176 : decode cX12_init 176 = .ok (.newarray .int, 2) := by decide +kernel
theorem dX12_init_178 : decode cX12_init 178 = .ok (.putfield 75, 3) := by decide +kernel
theorem dX12_init_181 : decode cX12_init 181 = .ok (.aload_n 0, 1) := by decide +kernel
theorem dX12_init_182 : decode cX12_init 182 = .ok (.bipush 7, 2) := by decide +kernel
theorem dX12_init_184 : decode cX12_init 184 = .ok (.newarray .int, 2) := by decide +kernel
theorem dX12_init_186 : decode cX12_init 186 = .ok (.putfield 78, 3) := by decide +kernel
theorem dX12_init_189 : decode cX12_init 189 = .ok (.aload_n 0, 1) := by decide +kernel
theorem dX12_init_190 : decode cX12_init 190 = .ok (.bipush 7, 2) := by decide +kernel
theorem dX12_init_192 : decode cX12_init 192 = .ok (.newarray .int, 2) := by decide +kernel
theorem dX12_init_194 : decode cX12_init 194 = .ok (.putfield 81, 3) := by decide +kernel
theorem dX12_init_197 : decode cX12_init 197 = .ok (.aload_n 0, 1) := by decide +kernel
theorem dX12_init_198 : decode cX12_init 198 = .ok (.bipush 7, 2) := by decide +kernel
theorem dX12_init_200 : decode cX12_init 200 = .ok (.newarray .int, 2) := by decide +kernel
theorem dX12_init_202 : decode cX12_init 202 = .ok (.putfield 84, 3) := by decide +kernel
theorem dX12_init_205 : decode cX12_init 205 = .ok (.aload_n 0, 1) := by decide +kernel
theorem dX12_init_206 : decode cX12_init 206 = .ok (.iconst 4, 1) := by decide +kernel
theorem dX12_init_207 : decode cX12_init 207 = .ok (.newarray .int, 2) := by decide +kernel
theorem dX12_init_209 : decode cX12_init 209 = .ok (.putfield 87, 3) := by decide +kernel
theorem dX12_init_212 : decode cX12_init 212 = .ok (.aload_n 0, 1) := by decide +kernel
theorem dX12_init_213 : decode cX12_init 213 = .ok (.iconst 4, 1) := by decide +kernel
theorem dX12_init_214 : decode cX12_init 214 = .ok (.newarray .int, 2) := by decide +kernel
theorem dX12_init_216 : decode cX12_init 216 = .ok (.putfield 90, 3) := by decide +kernel
theorem dX12_init_219 : decode cX12_init 219 = .ok (.aload_n 0, 1) := by decide +kernel
theorem dX12_init_220 : decode cX12_init 220 = .ok (.iconst 4, 1) := by decide +kernel
theorem dX12_init_221 : decode cX12_init 221 = .ok (.newarray .int, 2) := by decide +kernel
theorem dX12_init_223 : decode cX12_init 223 = .ok (.putfield 93, 3) := by decide +kernel
theorem dX12_init_226 : decode cX12_init 226 = .ok (.aload_n 0, 1) := by decide +kernel
theorem dX12_init_227 : decode cX12_init 227 = .ok (.iconst 4, 1) := by decide +kernel
theorem dX12_init_228 : decode cX12_init 228 = .ok (.newarray .int, 2) := by decide +kernel
theorem dX12_init_230 : decode cX12_init 230 = .ok (.putfield 96, 3) := by decide +kernel
theorem dX12_init_233 : decode cX12_init 233 = .ok (.aload_n 0, 1) := by decide +kernel
theorem dX12_init_234 : decode cX12_init 234 = .ok (.bipush 8, 2) := by decide +kernel
theorem dX12_init_236 : decode cX12_init 236 = .ok (.newarray .int, 2) := by decide +kernel
theorem dX12_init_238 : decode cX12_init 238 = .ok (.putfield 99, 3) := by decide +kernel
theorem dX12_init_241 : decode cX12_init 241 = .ok (.aload_n 0, 1) := by decide +kernel
theorem dX12_init_242 : decode cX12_init 242 = .ok (.lconst 1, 1) := by decide +kernel
theorem dX12_init_243 : decode cX12_init 243 = .ok (.putfield 102, 3) := by decide +kernel
theorem dX12_init_246 : decode cX12_init 246 = .ok (.aload_n 0, 1) := by decide +kernel
theorem dX12_init_247 : decode cX12_init 247 = .ok (.iconst 1, 1) := by decide +kernel
theorem dX12_init_248 : decode cX12_init 248 = .ok (.putfield 106, 3) := by decide +kernel
theorem dX12_init_251 : decode cX12_init 251 = .ok (.iconst 0, 1) := by decide +kernel
theorem dX12_init_252 : decode cX12_init 252 = .ok (.istore_n 1, 1) := by decide +kernel
theorem dX12_init_253 : decode cX12_init 253 = .ok (.iload_n 1, 1) := by decide +kernel
theorem dX12_init_254 : decode cX12_init 254 = .ok (.bipush 6, 2) := by decide +kernel
theorem dX12_init_256 : decode cX12_init 256 = .ok (.if_icmp .ge 16, 3) := by decide +kernel
theorem dX12_init_259 : decode cX12_init 259 = .ok (.aload_n 0, 1) := by decide +kernel
theorem dX12_init_260 : decode cX12_init 260 = .ok (.getfield 13, 3) := by decide +kernel
theorem dX12_init_263 : decode cX12_init 263 = .ok (.iload_n 1, 1) := by decide +kernel
theorem dX12_init_264 : decode cX12_init 264 = .ok (.iconst (-1), 1) := by decide +kernel
theorem dX12_init_265 : decode cX12_init 265 = .ok (.iastore, 1) := by decide +kernel
theorem dX12_init_266 : decode cX12_init 266 = .ok (.iinc 1 1, 3) := by decide +kernel
theorem dX12_init_269 : decode cX12_init 269 = .ok (.goto (-16), 3) := by decide +kernel
theorem dX12_init_272 : decode cX12_init 272 = .ok (.iconst 0, 1) := by decide +kernel
theorem dX12_init_273 : decode cX12_init 273 = .ok (.istore_n 1, 1) := by decide +kernel
theorem dX12_init_274 : decode cX12_init 274 = .ok (.iload_n 1, 1) := by decide +kernel
theorem dX12_init_275 : decode cX12_init 275 = .ok (.iconst 4, 1) := by decide +kernel
theorem dX12_init_276 : decode cX12_init 276 = .ok (.if_icmp .ge 16, 3) := by decide +kernel
theorem dX12_init_279 : decode cX12_init 279 = .ok (.aload_n 0, 1) := by decide +kernel
theorem dX12_init_280 : decode cX12_init 280 = .ok (.getfield 22, 3) := by decide +kernel
theorem dX12_init_283 : decode cX12_init 283 = .ok (.iload_n 1, 1) := by decide +kernel
theorem dX12_init_284 : decode cX12_init 284 = .ok (.iconst (-1), 1) := by decide +kernel
theorem dX12_init_285 : decode cX12_init 285 = .ok (.iastore, 1) := by decide +kernel
theorem dX12_init_286 : decode cX12_init 286 = .ok (.iinc 1 1, 3) := by decide +kernel
theorem dX12_init_289 : decode cX12_init 289 = .ok (.goto (-15), 3) := by decide +kernel
theorem dX12_init_292 : decode cX12_init 292 = .ok (.return_, 1) := by decide +kernel
theorem dX12_in_0 : decode cX12_in 0 = .ok (.iload_n 0, 1) := by decide +kernel
theorem dX12_in_1 : decode cX12_in 1 = .ok (.iload_n 1, 1) := by decide +kernel
theorem dX12_in_2 : decode cX12_in 2 = .ok (.if_icmp .lt 12, 3) := by decide +kernel
theorem dX12_in_5 : decode cX12_in 5 = .ok (.iload_n 0, 1) := by decide +kernel
theorem dX12_in_6 : decode cX12_in 6 = .ok (.iload_n 2, 1) := by decide +kernel
theorem dX12_in_7 : decode cX12_in 7 = .ok (.if_icmp .gt 7, 3) := by decide +kernel
theorem dX12_in_10 : decode cX12_in 10 = .ok (.iconst 1, 1) := by decide +kernel
theorem dX12_in_11 : decode cX12_in 11 = .ok (.goto 4, 3) := by decide +kernel
theorem dX12_in_14 : decode cX12_in 14 = .ok (.iconst 0, 1) := by decide +kernel
theorem dX12_in_15 : decode cX12_in 15 = .ok (.ireturn, 1) := by decide +kernel
theorem dX12_has_0 : decode cX12_has 0 = .ok (.iload_n 0, 1) := by decide +kernel
theorem dX12_has_1 : decode cX12_has 1 = .ok (.iload_n 1, 1) := by decide +kernel
theorem dX12_has_2 : decode cX12_has 2 = .ok (.ishr, 1) := by decide +kernel
theorem dX12_has_3 : decode cX12_has 3 = .ok (.iconst 1, 1) := by decide +kernel
theorem dX12_has_4 : decode cX12_has 4 = .ok (.iand, 1) := by decide +kernel
theorem dX12_has_5 : decode cX12_has 5 = .ok (.iconst 1, 1) := by decide +kernel
theorem dX12_has_6 : decode cX12_has 6 = .ok (.if_icmp .ne 7, 3) := by decide +kernel
theorem dX12_has_9 : decode cX12_has 9 = .ok (.iconst 1, 1) := by decide +kernel
theorem dX12_has_10 : decode cX12_has 10 = .ok (.goto 4, 3) := by decide +kernel
theorem dX12_has_13 : decode cX12_has 13 = .ok (.iconst 0, 1) := by decide +kernel
theorem dX12_has_14 : decode cX12_has 14 = .ok (.ireturn, 1) := by decide +kernel
theorem dX12_bits_0 : decode cX12_bits 0 = .ok (.iconst 0, 1) := by decide +kernel
theorem dX12_bits_1 : decode cX12_bits 1 = .ok (.istore_n 1, 1) := by decide +kernel
theorem dX12_bits_2 : decode cX12_bits 2 = .ok (.iload_n 0, 1) := by decide +kernel
theorem dX12_bits_3 : decode cX12_bits 3 = .ok (.istore_n 2, 1) := by decide +kernel
theorem dX12_bits_4 : decode cX12_bits 4 = .ok (.iload_n 2, 1) := by decide +kernel
theorem dX12_bits_5 : decode cX12_bits 5 = .ok (.ifCond .eq 15, 3) := by decide +kernel
theorem dX12_bits_8 : decode cX12_bits 8 = .ok (.iinc 1 1, 3) := by decide +kernel
theorem dX12_bits_11 : decode cX12_bits 11 = .ok (.iload_n 2, 1) := by decide +kernel
theorem dX12_bits_12 : decode cX12_bits 12 = .ok (.iload_n 2, 1) := by decide +kernel
theorem dX12_bits_13 : decode cX12_bits 13 = .ok (.iconst 1, 1) := by decide +kernel
theorem dX12_bits_14 : decode cX12_bits 14 = .ok (.isub, 1) := by decide +kernel
theorem dX12_bits_15 : decode cX12_bits 15 = .ok (.iand, 1) := by decide +kernel
theorem dX12_bits_16 : decode cX12_bits 16 = .ok (.istore_n 2, 1) := by decide +kernel
theorem dX12_bits_17 : decode cX12_bits 17 = .ok (.goto (-13), 3) := by decide +kernel
theorem dX12_bits_20 : decode cX12_bits 20 = .ok (.iload_n 1, 1) := by decide +kernel
theorem dX12_bits_21 : decode cX12_bits 21 = .ok (.ireturn, 1) := by decide +kernel
theorem dX12_sizeOf_0 : decode cX12_sizeOf 0 = .ok (.iload_n 0, 1) := by decide +kernel
theorem dX12_sizeOf_1 : decode cX12_sizeOf 1 = .ok (.ifCond .ge 8, 3) := by decide +kernel
theorem dX12_sizeOf_4 : decode cX12_sizeOf 4 = .ok (.iload_n 0, 1) := by decide +kernel
theorem dX12_sizeOf_5 : decode cX12_sizeOf 5 = .ok (.ineg, 1) := by decide +kernel
theorem dX12_sizeOf_6 : decode cX12_sizeOf 6 = .ok (.goto 4, 3) := by decide +kernel
theorem dX12_sizeOf_9 : decode cX12_sizeOf 9 = .ok (.iload_n 0, 1) := by decide +kernel
theorem dX12_sizeOf_10 : decode cX12_sizeOf 10 = .ok (.ireturn, 1) := by decide +kernel
theorem dX12_greater_0 : decode cX12_greater 0 = .ok (.iload_n 0, 1) := by decide +kernel
theorem dX12_greater_1 : decode cX12_greater 1 = .ok (.iload_n 1, 1) := by decide +kernel
theorem dX12_greater_2 : decode cX12_greater 2 = .ok (.if_icmp .le 7, 3) := by decide +kernel
theorem dX12_greater_5 : decode cX12_greater 5 = .ok (.iload_n 0, 1) := by decide +kernel
theorem dX12_greater_6 : decode cX12_greater 6 = .ok (.goto 4, 3) := by decide +kernel
theorem dX12_greater_9 : decode cX12_greater 9 = .ok (.iload_n 1, 1) := by decide +kernel
theorem dX12_greater_10 : decode cX12_greater 10 = .ok (.ireturn, 1) := by decide +kernel
theorem dX12_meets_0 : decode cX12_meets 0 = .ok (.aload_n 0, 1) := by decide +kernel
theorem dX12_meets_1 : decode cX12_meets 1 = .ok (.iload_n 1, 1) := by decide +kernel
theorem dX12_meets_2 : decode cX12_meets 2 = .ok (.putfield 110, 3) := by decide +kernel
theorem dX12_meets_5 : decode cX12_meets 5 = .ok (.aload_n 0, 1) := by decide +kernel
theorem dX12_meets_6 : decode cX12_meets 6 = .ok (.getfield 7, 3) := by decide +kernel
theorem dX12_meets_9 : decode cX12_meets 9 = .ok (.iload_n 1, 1) := by decide +kernel
theorem dX12_meets_10 : decode cX12_meets 10 = .ok (.dup2, 1) := by decide +kernel
theorem dX12_meets_11 : decode cX12_meets 11 = .ok (.iaload, 1) := by decide +kernel
theorem dX12_meets_12 : decode cX12_meets 12 = .ok (.iconst 1, 1) := by decide +kernel
theorem dX12_meets_13 : decode cX12_meets 13 = .ok (.iadd, 1) := by decide +kernel
theorem dX12_meets_14 : decode cX12_meets 14 = .ok (.iastore, 1) := by decide +kernel
theorem dX12_meets_15 : decode cX12_meets 15 = .ok (.bipush (-3), 2) := by decide +kernel
theorem dX12_meets_17 : decode cX12_meets 17 = .ok (.ireturn, 1) := by decide +kernel
theorem dX12_finding_0 : decode cX12_finding 0 = .ok (.aload_n 0, 1) := by decide +kernel
theorem dX12_finding_1 : decode cX12_finding 1 = .ok (.getfield 110, 3) := by decide +kernel
theorem dX12_finding_4 : decode cX12_finding 4 = .ok (.ireturn, 1) := by decide +kernel
theorem dX12_findings_0 : decode cX12_findings 0 = .ok (.iload_n 1, 1) := by decide +kernel
theorem dX12_findings_1 : decode cX12_findings 1 = .ok (.iconst 1, 1) := by decide +kernel
theorem dX12_findings_2 : decode cX12_findings 2 = .ok (.iconst 5, 1) := by decide +kernel
theorem dX12_findings_3 : decode cX12_findings 3 = .ok (.invokestatic 113, 3) := by decide +kernel
theorem dX12_findings_6 : decode cX12_findings 6 = .ok (.ifCond .eq 12, 3) := by decide +kernel
theorem dX12_findings_9 : decode cX12_findings 9 = .ok (.aload_n 0, 1) := by decide +kernel
theorem dX12_findings_10 : decode cX12_findings 10 = .ok (.getfield 7, 3) := by decide +kernel
theorem dX12_findings_13 : decode cX12_findings 13 = .ok (.iload_n 1, 1) := by decide +kernel
theorem dX12_findings_14 : decode cX12_findings 14 = .ok (.iaload, 1) := by decide +kernel
theorem dX12_findings_15 : decode cX12_findings 15 = .ok (.goto 4, 3) := by decide +kernel
theorem dX12_findings_18 : decode cX12_findings 18 = .ok (.iconst (-1), 1) := by decide +kernel
theorem dX12_findings_19 : decode cX12_findings 19 = .ok (.ireturn, 1) := by decide +kernel
theorem dX12_tells_0 : decode cX12_tells 0 = .ok (.aload_n 0, 1) := by decide +kernel
theorem dX12_tells_1 : decode cX12_tells 1 = .ok (.iload_n 1, 1) := by decide +kernel
theorem dX12_tells_2 : decode cX12_tells 2 = .ok (.putfield 117, 3) := by decide +kernel
theorem dX12_tells_5 : decode cX12_tells 5 = .ok (.iload_n 2, 1) := by decide +kernel
theorem dX12_tells_6 : decode cX12_tells 6 = .ok (.ireturn, 1) := by decide +kernel
theorem dX12_asked_0 : decode cX12_asked 0 = .ok (.aload_n 0, 1) := by decide +kernel
theorem dX12_asked_1 : decode cX12_asked 1 = .ok (.getfield 117, 3) := by decide +kernel
theorem dX12_asked_4 : decode cX12_asked 4 = .ok (.ireturn, 1) := by decide +kernel
theorem dX12_fraction_0 : decode cX12_fraction 0 = .ok (.iload_n 1, 1) := by decide +kernel
theorem dX12_fraction_1 : decode cX12_fraction 1 = .ok (.istore 4, 2) := by decide +kernel
theorem dX12_fraction_3 : decode cX12_fraction 3 = .ok (.iload_n 2, 1) := by decide +kernel
theorem dX12_fraction_4 : decode cX12_fraction 4 = .ok (.istore 5, 2) := by decide +kernel
theorem dX12_fraction_6 : decode cX12_fraction 6 = .ok (.iload 5, 2) := by decide +kernel
theorem dX12_fraction_8 : decode cX12_fraction 8 = .ok (.ifCond .eq 21, 3) := by decide +kernel
theorem dX12_fraction_11 : decode cX12_fraction 11 = .ok (.iload 4, 2) := by decide +kernel
theorem dX12_fraction_13 : decode cX12_fraction 13 = .ok (.iload 5, 2) := by decide +kernel
theorem dX12_fraction_15 : decode cX12_fraction 15 = .ok (.irem, 1) := by decide +kernel
theorem dX12_fraction_16 : decode cX12_fraction 16 = .ok (.istore 6, 2) := by decide +kernel
theorem dX12_fraction_18 : decode cX12_fraction 18 = .ok (.iload 5, 2) := by decide +kernel
theorem dX12_fraction_20 : decode cX12_fraction 20 = .ok (.istore 4, 2) := by decide +kernel
theorem dX12_fraction_22 : decode cX12_fraction 22 = .ok (.iload 6, 2) := by decide +kernel
theorem dX12_fraction_24 : decode cX12_fraction 24 = .ok (.istore 5, 2) := by decide +kernel
theorem dX12_fraction_26 : decode cX12_fraction 26 = .ok (.goto (-20), 3) := by decide +kernel
theorem dX12_fraction_29 : decode cX12_fraction 29 = .ok (.aload_n 0, 1) := by decide +kernel
theorem dX12_fraction_30 : decode cX12_fraction 30 = .ok (.iload_n 1, 1) := by decide +kernel
theorem dX12_fraction_31 : decode cX12_fraction 31 = .ok (.iload 4, 2) := by decide +kernel
theorem dX12_fraction_33 : decode cX12_fraction 33 = .ok (.idiv, 1) := by decide +kernel
theorem dX12_fraction_34 : decode cX12_fraction 34 = .ok (.i2l, 1) := by decide +kernel
theorem dX12_fraction_35 : decode cX12_fraction 35 = .ok (.putfield 120, 3) := by decide +kernel
theorem dX12_fraction_38 : decode cX12_fraction 38 = .ok (.aload_n 0, 1) := by decide +kernel
theorem dX12_fraction_39 : decode cX12_fraction 39 = .ok (.iload_n 2, 1) := by decide +kernel
theorem dX12_fraction_40 : decode cX12_fraction 40 = .ok (.iload 4, 2) := by decide +kernel
theorem dX12_fraction_42 : decode cX12_fraction 42 = .ok (.idiv, 1) := by decide +kernel
theorem dX12_fraction_43 : decode cX12_fraction 43 = .ok (.i2l, 1) := by decide +kernel
theorem dX12_fraction_44 : decode cX12_fraction 44 = .ok (.putfield 102, 3) := by decide +kernel
theorem dX12_fraction_47 : decode cX12_fraction 47 = .ok (.iload_n 3, 1) := by decide +kernel
theorem dX12_fraction_48 : decode cX12_fraction 48 = .ok (.ireturn, 1) := by decide +kernel
theorem dX12_upper_0 : decode cX12_upper 0 = .ok (.aload_n 0, 1) := by decide +kernel
theorem dX12_upper_1 : decode cX12_upper 1 = .ok (.getfield 120, 3) := by decide +kernel
theorem dX12_upper_4 : decode cX12_upper 4 = .ok (.lreturn, 1) := by decide +kernel
theorem dX12_lower_0 : decode cX12_lower 0 = .ok (.aload_n 0, 1) := by decide +kernel
theorem dX12_lower_1 : decode cX12_lower 1 = .ok (.getfield 102, 3) := by decide +kernel
theorem dX12_lower_4 : decode cX12_lower 4 = .ok (.lreturn, 1) := by decide +kernel
theorem dX12_isRow_0 : decode cX12_isRow 0 = .ok (.iload_n 0, 1) := by decide +kernel
theorem dX12_isRow_1 : decode cX12_isRow 1 = .ok (.iconst 0, 1) := by decide +kernel
theorem dX12_isRow_2 : decode cX12_isRow 2 = .ok (.iconst 5, 1) := by decide +kernel
theorem dX12_isRow_3 : decode cX12_isRow 3 = .ok (.invokestatic 113, 3) := by decide +kernel
theorem dX12_isRow_6 : decode cX12_isRow 6 = .ok (.ireturn, 1) := by decide +kernel
theorem dX12_rowAt_0 : decode cX12_rowAt 0 = .ok (.aload_n 0, 1) := by decide +kernel
theorem dX12_rowAt_1 : decode cX12_rowAt 1 = .ok (.getfield 16, 3) := by decide +kernel
theorem dX12_rowAt_4 : decode cX12_rowAt 4 = .ok (.bipush 60, 2) := by decide +kernel
theorem dX12_rowAt_6 : decode cX12_rowAt 6 = .ok (.iload_n 1, 1) := by decide +kernel
theorem dX12_rowAt_7 : decode cX12_rowAt 7 = .ok (.imul, 1) := by decide +kernel
theorem dX12_rowAt_8 : decode cX12_rowAt 8 = .ok (.iload_n 2, 1) := by decide +kernel
theorem dX12_rowAt_9 : decode cX12_rowAt 9 = .ok (.iadd, 1) := by decide +kernel
theorem dX12_rowAt_10 : decode cX12_rowAt 10 = .ok (.iaload, 1) := by decide +kernel
theorem dX12_rowAt_11 : decode cX12_rowAt 11 = .ok (.ireturn, 1) := by decide +kernel
theorem dX12_row_0 : decode cX12_row 0 = .ok (.iload_n 1, 1) := by decide +kernel
theorem dX12_row_1 : decode cX12_row 1 = .ok (.invokestatic 123, 3) := by decide +kernel
theorem dX12_row_4 : decode cX12_row 4 = .ok (.ifCond .eq 9, 3) := by decide +kernel
theorem dX12_row_7 : decode cX12_row 7 = .ok (.iload_n 2, 1) := by decide +kernel
theorem dX12_row_8 : decode cX12_row 8 = .ok (.bipush 60, 2) := by decide +kernel
theorem dX12_row_10 : decode cX12_row 10 = .ok (.if_icmp .le 5, 3) := by decide +kernel
theorem dX12_row_13 : decode cX12_row 13 = .ok (.iconst (-1), 1) := by decide +kernel
theorem dX12_row_14 : decode cX12_row 14 = .ok (.ireturn, 1) := by decide +kernel
theorem dX12_row_15 : decode cX12_row 15 = .ok (.iload_n 2, 1) := by decide +kernel
theorem dX12_row_16 : decode cX12_row 16 = .ok (.ifCond .ge 9, 3) := by decide +kernel
theorem dX12_row_19 : decode cX12_row 19 = .ok (.aload_n 0, 1) := by decide +kernel
theorem dX12_row_20 : decode cX12_row 20 = .ok (.iconst 5, 1) := by decide +kernel
theorem dX12_row_21 : decode cX12_row 21 = .ok (.invokevirtual 127, 3) := by decide +kernel
theorem dX12_row_24 : decode cX12_row 24 = .ok (.ireturn, 1) := by decide +kernel
theorem dX12_row_25 : decode cX12_row 25 = .ok (.aload_n 0, 1) := by decide +kernel
theorem dX12_row_26 : decode cX12_row 26 = .ok (.getfield 13, 3) := by decide +kernel
theorem dX12_row_29 : decode cX12_row 29 = .ok (.iload_n 1, 1) := by decide +kernel
theorem dX12_row_30 : decode cX12_row 30 = .ok (.iload_n 2, 1) := by decide +kernel
theorem dX12_row_31 : decode cX12_row 31 = .ok (.iastore, 1) := by decide +kernel
theorem dX12_row_32 : decode cX12_row 32 = .ok (.iconst 0, 1) := by decide +kernel
theorem dX12_row_33 : decode cX12_row 33 = .ok (.istore_n 3, 1) := by decide +kernel
theorem dX12_row_34 : decode cX12_row 34 = .ok (.iload_n 3, 1) := by decide +kernel
theorem dX12_row_35 : decode cX12_row 35 = .ok (.bipush 60, 2) := by decide +kernel
theorem dX12_row_37 : decode cX12_row 37 = .ok (.if_icmp .ge 21, 3) := by decide +kernel
theorem dX12_row_40 : decode cX12_row 40 = .ok (.aload_n 0, 1) := by decide +kernel
theorem dX12_row_41 : decode cX12_row 41 = .ok (.getfield 16, 3) := by decide +kernel
theorem dX12_row_44 : decode cX12_row 44 = .ok (.bipush 60, 2) := by decide +kernel
theorem dX12_row_46 : decode cX12_row 46 = .ok (.iload_n 1, 1) := by decide +kernel
theorem dX12_row_47 : decode cX12_row 47 = .ok (.imul, 1) := by decide +kernel
theorem dX12_row_48 : decode cX12_row 48 = .ok (.iload_n 3, 1) := by decide +kernel
theorem dX12_row_49 : decode cX12_row 49 = .ok (.iadd, 1) := by decide +kernel
theorem dX12_row_50 : decode cX12_row 50 = .ok (.iconst 0, 1) := by decide +kernel
theorem dX12_row_51 : decode cX12_row 51 = .ok (.iastore, 1) := by decide +kernel
theorem dX12_row_52 : decode cX12_row 52 = .ok (.iinc 3 1, 3) := by decide +kernel
theorem dX12_row_55 : decode cX12_row 55 = .ok (.goto (-21), 3) := by decide +kernel
theorem dX12_row_58 : decode cX12_row 58 = .ok (.iload_n 2, 1) := by decide +kernel
theorem dX12_row_59 : decode cX12_row 59 = .ok (.ireturn, 1) := by decide +kernel
theorem dX12_lay_0 : decode cX12_lay 0 = .ok (.iload_n 1, 1) := by decide +kernel
theorem dX12_lay_1 : decode cX12_lay 1 = .ok (.invokestatic 123, 3) := by decide +kernel
theorem dX12_lay_4 : decode cX12_lay 4 = .ok (.ifCond .ne 5, 3) := by decide +kernel
theorem dX12_lay_7 : decode cX12_lay 7 = .ok (.iconst (-1), 1) := by decide +kernel
theorem dX12_lay_8 : decode cX12_lay 8 = .ok (.ireturn, 1) := by decide +kernel
theorem dX12_lay_9 : decode cX12_lay 9 = .ok (.aload_n 0, 1) := by decide +kernel
theorem dX12_lay_10 : decode cX12_lay 10 = .ok (.getfield 13, 3) := by decide +kernel
theorem dX12_lay_13 : decode cX12_lay 13 = .ok (.iload_n 1, 1) := by decide +kernel
theorem dX12_lay_14 : decode cX12_lay 14 = .ok (.iaload, 1) := by decide +kernel
theorem dX12_lay_15 : decode cX12_lay 15 = .ok (.ifCond .ge 9, 3) := by decide +kernel
theorem dX12_lay_18 : decode cX12_lay 18 = .ok (.aload_n 0, 1) := by decide +kernel
theorem dX12_lay_19 : decode cX12_lay 19 = .ok (.iconst 1, 1) := by decide +kernel
theorem dX12_lay_20 : decode cX12_lay 20 = .ok (.invokevirtual 127, 3) := by decide +kernel
theorem dX12_lay_23 : decode cX12_lay 23 = .ok (.ireturn, 1) := by decide +kernel
theorem dX12_lay_24 : decode cX12_lay 24 = .ok (.iload_n 2, 1) := by decide +kernel
theorem dX12_lay_25 : decode cX12_lay 25 = .ok (.iconst 0, 1) := by decide +kernel
theorem dX12_lay_26 : decode cX12_lay 26 = .ok (.aload_n 0, 1) := by decide +kernel
theorem dX12_lay_27 : decode cX12_lay 27 = .ok (.getfield 13, 3) := by decide +kernel
theorem dX12_lay_30 : decode cX12_lay 30 = .ok (.iload_n 1, 1) := by decide +kernel
theorem dX12_lay_31 : decode cX12_lay 31 = .ok (.iaload, 1) := by decide +kernel
theorem dX12_lay_32 : decode cX12_lay 32 = .ok (.iconst 1, 1) := by decide +kernel
theorem dX12_lay_33 : decode cX12_lay 33 = .ok (.isub, 1) := by decide +kernel
theorem dX12_lay_34 : decode cX12_lay 34 = .ok (.invokestatic 113, 3) := by decide +kernel
theorem dX12_lay_37 : decode cX12_lay 37 = .ok (.ifCond .ne 9, 3) := by decide +kernel
theorem dX12_lay_40 : decode cX12_lay 40 = .ok (.aload_n 0, 1) := by decide +kernel
theorem dX12_lay_41 : decode cX12_lay 41 = .ok (.iconst 2, 1) := by decide +kernel
theorem dX12_lay_42 : decode cX12_lay 42 = .ok (.invokevirtual 127, 3) := by decide +kernel
theorem dX12_lay_45 : decode cX12_lay 45 = .ok (.ireturn, 1) := by decide +kernel
theorem dX12_lay_46 : decode cX12_lay 46 = .ok (.aload_n 0, 1) := by decide +kernel
theorem dX12_lay_47 : decode cX12_lay 47 = .ok (.iload_n 1, 1) := by decide +kernel
theorem dX12_lay_48 : decode cX12_lay 48 = .ok (.iload_n 2, 1) := by decide +kernel
theorem dX12_lay_49 : decode cX12_lay 49 = .ok (.invokevirtual 131, 3) := by decide +kernel
theorem dX12_lay_52 : decode cX12_lay 52 = .ok (.istore 4, 2) := by decide +kernel
theorem dX12_lay_54 : decode cX12_lay 54 = .ok (.aload_n 0, 1) := by decide +kernel
theorem dX12_lay_55 : decode cX12_lay 55 = .ok (.getfield 16, 3) := by decide +kernel
theorem dX12_lay_58 : decode cX12_lay 58 = .ok (.bipush 60, 2) := by decide +kernel
theorem dX12_lay_60 : decode cX12_lay 60 = .ok (.iload_n 1, 1) := by decide +kernel
theorem dX12_lay_61 : decode cX12_lay 61 = .ok (.imul, 1) := by decide +kernel
theorem dX12_lay_62 : decode cX12_lay 62 = .ok (.iload_n 2, 1) := by decide +kernel
theorem dX12_lay_63 : decode cX12_lay 63 = .ok (.iadd, 1) := by decide +kernel
theorem dX12_lay_64 : decode cX12_lay 64 = .ok (.iload_n 3, 1) := by decide +kernel
theorem dX12_lay_65 : decode cX12_lay 65 = .ok (.iastore, 1) := by decide +kernel
theorem dX12_lay_66 : decode cX12_lay 66 = .ok (.aload_n 0, 1) := by decide +kernel
theorem dX12_lay_67 : decode cX12_lay 67 = .ok (.iload 4, 2) := by decide +kernel
theorem dX12_lay_69 : decode cX12_lay 69 = .ok (.iconst 1, 1) := by decide +kernel
theorem dX12_lay_70 : decode cX12_lay 70 = .ok (.invokevirtual 135, 3) := by decide +kernel
theorem dX12_lay_73 : decode cX12_lay 73 = .ok (.ireturn, 1) := by decide +kernel
theorem dX12_at_0 : decode cX12_at 0 = .ok (.iload_n 1, 1) := by decide +kernel
theorem dX12_at_1 : decode cX12_at 1 = .ok (.invokestatic 123, 3) := by decide +kernel
theorem dX12_at_4 : decode cX12_at 4 = .ok (.ifCond .ne 5, 3) := by decide +kernel
theorem dX12_at_7 : decode cX12_at 7 = .ok (.iconst (-1), 1) := by decide +kernel
theorem dX12_at_8 : decode cX12_at 8 = .ok (.ireturn, 1) := by decide +kernel
theorem dX12_at_9 : decode cX12_at 9 = .ok (.aload_n 0, 1) := by decide +kernel
theorem dX12_at_10 : decode cX12_at 10 = .ok (.getfield 13, 3) := by decide +kernel
theorem dX12_at_13 : decode cX12_at 13 = .ok (.iload_n 1, 1) := by decide +kernel
theorem dX12_at_14 : decode cX12_at 14 = .ok (.iaload, 1) := by decide +kernel
theorem dX12_at_15 : decode cX12_at 15 = .ok (.ifCond .ge 9, 3) := by decide +kernel
theorem dX12_at_18 : decode cX12_at 18 = .ok (.aload_n 0, 1) := by decide +kernel
theorem dX12_at_19 : decode cX12_at 19 = .ok (.iconst 1, 1) := by decide +kernel
theorem dX12_at_20 : decode cX12_at 20 = .ok (.invokevirtual 127, 3) := by decide +kernel
theorem dX12_at_23 : decode cX12_at 23 = .ok (.ireturn, 1) := by decide +kernel
theorem dX12_at_24 : decode cX12_at 24 = .ok (.iload_n 2, 1) := by decide +kernel
theorem dX12_at_25 : decode cX12_at 25 = .ok (.iconst 0, 1) := by decide +kernel
theorem dX12_at_26 : decode cX12_at 26 = .ok (.aload_n 0, 1) := by decide +kernel
theorem dX12_at_27 : decode cX12_at 27 = .ok (.getfield 13, 3) := by decide +kernel
theorem dX12_at_30 : decode cX12_at 30 = .ok (.iload_n 1, 1) := by decide +kernel
theorem dX12_at_31 : decode cX12_at 31 = .ok (.iaload, 1) := by decide +kernel
theorem dX12_at_32 : decode cX12_at 32 = .ok (.iconst 1, 1) := by decide +kernel
theorem dX12_at_33 : decode cX12_at 33 = .ok (.isub, 1) := by decide +kernel
theorem dX12_at_34 : decode cX12_at 34 = .ok (.invokestatic 113, 3) := by decide +kernel
theorem dX12_at_37 : decode cX12_at 37 = .ok (.ifCond .eq 17, 3) := by decide +kernel
theorem dX12_at_40 : decode cX12_at 40 = .ok (.aload_n 0, 1) := by decide +kernel
theorem dX12_at_41 : decode cX12_at 41 = .ok (.aload_n 0, 1) := by decide +kernel
theorem dX12_at_42 : decode cX12_at 42 = .ok (.iload_n 1, 1) := by decide +kernel
theorem dX12_at_43 : decode cX12_at 43 = .ok (.iload_n 2, 1) := by decide +kernel
theorem dX12_at_44 : decode cX12_at 44 = .ok (.invokevirtual 131, 3) := by decide +kernel
theorem dX12_at_47 : decode cX12_at 47 = .ok (.iconst 1, 1) := by decide +kernel
theorem dX12_at_48 : decode cX12_at 48 = .ok (.invokevirtual 135, 3) := by decide +kernel
theorem dX12_at_51 : decode cX12_at 51 = .ok (.goto 8, 3) := by decide +kernel
theorem dX12_at_54 : decode cX12_at 54 = .ok (.aload_n 0, 1) := by decide +kernel
theorem dX12_at_55 : decode cX12_at 55 = .ok (.iconst 2, 1) := by decide +kernel
theorem dX12_at_56 : decode cX12_at 56 = .ok (.invokevirtual 127, 3) := by decide +kernel
theorem dX12_at_59 : decode cX12_at 59 = .ok (.ireturn, 1) := by decide +kernel
theorem dX12_tear_0 : decode cX12_tear 0 = .ok (.iload_n 1, 1) := by decide +kernel
theorem dX12_tear_1 : decode cX12_tear 1 = .ok (.invokestatic 123, 3) := by decide +kernel
theorem dX12_tear_4 : decode cX12_tear 4 = .ok (.ifCond .ne 5, 3) := by decide +kernel
theorem dX12_tear_7 : decode cX12_tear 7 = .ok (.iconst (-1), 1) := by decide +kernel
theorem dX12_tear_8 : decode cX12_tear 8 = .ok (.ireturn, 1) := by decide +kernel
theorem dX12_tear_9 : decode cX12_tear 9 = .ok (.aload_n 0, 1) := by decide +kernel
theorem dX12_tear_10 : decode cX12_tear 10 = .ok (.getfield 13, 3) := by decide +kernel
theorem dX12_tear_13 : decode cX12_tear 13 = .ok (.iload_n 1, 1) := by decide +kernel
theorem dX12_tear_14 : decode cX12_tear 14 = .ok (.iaload, 1) := by decide +kernel
theorem dX12_tear_15 : decode cX12_tear 15 = .ok (.ifCond .ge 9, 3) := by decide +kernel
theorem dX12_tear_18 : decode cX12_tear 18 = .ok (.aload_n 0, 1) := by decide +kernel
theorem dX12_tear_19 : decode cX12_tear 19 = .ok (.iconst 1, 1) := by decide +kernel
theorem dX12_tear_20 : decode cX12_tear 20 = .ok (.invokevirtual 127, 3) := by decide +kernel
theorem dX12_tear_23 : decode cX12_tear 23 = .ok (.ireturn, 1) := by decide +kernel
theorem dX12_tear_24 : decode cX12_tear 24 = .ok (.aload_n 0, 1) := by decide +kernel
theorem dX12_tear_25 : decode cX12_tear 25 = .ok (.getfield 13, 3) := by decide +kernel
theorem dX12_tear_28 : decode cX12_tear 28 = .ok (.iload_n 1, 1) := by decide +kernel
theorem dX12_tear_29 : decode cX12_tear 29 = .ok (.iconst (-1), 1) := by decide +kernel
theorem dX12_tear_30 : decode cX12_tear 30 = .ok (.iastore, 1) := by decide +kernel
theorem dX12_tear_31 : decode cX12_tear 31 = .ok (.iconst 1, 1) := by decide +kernel
theorem dX12_tear_32 : decode cX12_tear 32 = .ok (.ireturn, 1) := by decide +kernel
theorem dX12_copy_0 : decode cX12_copy 0 = .ok (.iload_n 1, 1) := by decide +kernel
theorem dX12_copy_1 : decode cX12_copy 1 = .ok (.invokestatic 123, 3) := by decide +kernel
theorem dX12_copy_4 : decode cX12_copy 4 = .ok (.ifCond .eq 10, 3) := by decide +kernel
theorem dX12_copy_7 : decode cX12_copy 7 = .ok (.iload_n 3, 1) := by decide +kernel
theorem dX12_copy_8 : decode cX12_copy 8 = .ok (.invokestatic 123, 3) := by decide +kernel
theorem dX12_copy_11 : decode cX12_copy 11 = .ok (.ifCond .ne 5, 3) := by decide +kernel
theorem dX12_copy_14 : decode cX12_copy 14 = .ok (.iconst (-1), 1) := by decide +kernel
theorem dX12_copy_15 : decode cX12_copy 15 = .ok (.ireturn, 1) := by decide +kernel
theorem dX12_copy_16 : decode cX12_copy 16 = .ok (.iload 5, 2) := by decide +kernel
theorem dX12_copy_18 : decode cX12_copy 18 = .ok (.ifCond .ge 9, 3) := by decide +kernel
theorem dX12_copy_21 : decode cX12_copy 21 = .ok (.aload_n 0, 1) := by decide +kernel
theorem dX12_copy_22 : decode cX12_copy 22 = .ok (.iconst 5, 1) := by decide +kernel
theorem dX12_copy_23 : decode cX12_copy 23 = .ok (.invokevirtual 127, 3) := by decide +kernel
theorem dX12_copy_26 : decode cX12_copy 26 = .ok (.ireturn, 1) := by decide +kernel
theorem dX12_copy_27 : decode cX12_copy 27 = .ok (.aload_n 0, 1) := by decide +kernel
theorem dX12_copy_28 : decode cX12_copy 28 = .ok (.getfield 13, 3) := by decide +kernel
theorem dX12_copy_31 : decode cX12_copy 31 = .ok (.iload_n 1, 1) := by decide +kernel
theorem dX12_copy_32 : decode cX12_copy 32 = .ok (.iaload, 1) := by decide +kernel
theorem dX12_copy_33 : decode cX12_copy 33 = .ok (.ifCond .lt 12, 3) := by decide +kernel
theorem dX12_copy_36 : decode cX12_copy 36 = .ok (.aload_n 0, 1) := by decide +kernel
theorem dX12_copy_37 : decode cX12_copy 37 = .ok (.getfield 13, 3) := by decide +kernel
theorem dX12_copy_40 : decode cX12_copy 40 = .ok (.iload_n 3, 1) := by decide +kernel
theorem dX12_copy_41 : decode cX12_copy 41 = .ok (.iaload, 1) := by decide +kernel
theorem dX12_copy_42 : decode cX12_copy 42 = .ok (.ifCond .ge 9, 3) := by decide +kernel
theorem dX12_copy_45 : decode cX12_copy 45 = .ok (.aload_n 0, 1) := by decide +kernel
theorem dX12_copy_46 : decode cX12_copy 46 = .ok (.iconst 1, 1) := by decide +kernel
theorem dX12_copy_47 : decode cX12_copy 47 = .ok (.invokevirtual 127, 3) := by decide +kernel
theorem dX12_copy_50 : decode cX12_copy 50 = .ok (.ireturn, 1) := by decide +kernel
theorem dX12_copy_51 : decode cX12_copy 51 = .ok (.iload_n 2, 1) := by decide +kernel
theorem dX12_copy_52 : decode cX12_copy 52 = .ok (.ifCond .lt 43, 3) := by decide +kernel
theorem dX12_copy_55 : decode cX12_copy 55 = .ok (.iload 4, 2) := by decide +kernel
theorem dX12_copy_57 : decode cX12_copy 57 = .ok (.ifCond .lt 38, 3) := by decide +kernel
theorem dX12_copy_60 : decode cX12_copy 60 = .ok (.iload_n 2, 1) := by decide +kernel
theorem dX12_copy_61 : decode cX12_copy 61 = .ok (.i2l, 1) := by decide +kernel
theorem dX12_copy_62 : decode cX12_copy 62 = .ok (.iload 5, 2) := by decide +kernel
theorem dX12_copy_64 : decode cX12_copy 64 = .ok (.i2l, 1) := by decide +kernel
theorem dX12_copy_65 : decode cX12_copy 65 = .ok (.ladd, 1) := by decide +kernel
theorem dX12_copy_66 : decode cX12_copy 66 = .ok (.aload_n 0, 1) := by decide +kernel
theorem dX12_copy_67 : decode cX12_copy 67 = .ok (.getfield 13, 3) := by decide +kernel
theorem dX12_copy_70 : decode cX12_copy 70 = .ok (.iload_n 1, 1) := by decide +kernel
theorem dX12_copy_71 : decode cX12_copy 71 = .ok (.iaload, 1) := by decide +kernel
theorem dX12_copy_72 : decode cX12_copy 72 = .ok (.i2l, 1) := by decide +kernel
theorem dX12_copy_73 : decode cX12_copy 73 = .ok (.lcmp, 1) := by decide +kernel
theorem dX12_copy_74 : decode cX12_copy 74 = .ok (.ifCond .gt 21, 3) := by decide +kernel
theorem dX12_copy_77 : decode cX12_copy 77 = .ok (.iload 4, 2) := by decide +kernel
theorem dX12_copy_79 : decode cX12_copy 79 = .ok (.i2l, 1) := by decide +kernel
theorem dX12_copy_80 : decode cX12_copy 80 = .ok (.iload 5, 2) := by decide +kernel
theorem dX12_copy_82 : decode cX12_copy 82 = .ok (.i2l, 1) := by decide +kernel
theorem dX12_copy_83 : decode cX12_copy 83 = .ok (.ladd, 1) := by decide +kernel
theorem dX12_copy_84 : decode cX12_copy 84 = .ok (.aload_n 0, 1) := by decide +kernel
theorem dX12_copy_85 : decode cX12_copy 85 = .ok (.getfield 13, 3) := by decide +kernel
theorem dX12_copy_88 : decode cX12_copy 88 = .ok (.iload_n 3, 1) := by decide +kernel
theorem dX12_copy_89 : decode cX12_copy 89 = .ok (.iaload, 1) := by decide +kernel
theorem dX12_copy_90 : decode cX12_copy 90 = .ok (.i2l, 1) := by decide +kernel
theorem dX12_copy_91 : decode cX12_copy 91 = .ok (.lcmp, 1) := by decide +kernel
theorem dX12_copy_92 : decode cX12_copy 92 = .ok (.ifCond .le 9, 3) := by decide +kernel
theorem dX12_copy_95 : decode cX12_copy 95 = .ok (.aload_n 0, 1) := by decide +kernel
theorem dX12_copy_96 : decode cX12_copy 96 = .ok (.iconst 2, 1) := by decide +kernel
theorem dX12_copy_97 : decode cX12_copy 97 = .ok (.invokevirtual 127, 3) := by decide +kernel
theorem dX12_copy_100 : decode cX12_copy 100 = .ok (.ireturn, 1) := by decide +kernel
theorem dX12_copy_101 : decode cX12_copy 101 = .ok (.iconst 0, 1) := by decide +kernel
theorem dX12_copy_102 : decode cX12_copy 102 = .ok (.istore 6, 2) := by decide +kernel
theorem dX12_copy_104 : decode cX12_copy 104 = .ok (.iload 6, 2) := by decide +kernel
theorem dX12_copy_106 : decode cX12_copy 106 = .ok (.iload 5, 2) := by decide +kernel
theorem dX12_copy_108 : decode cX12_copy 108 = .ok (.if_icmp .ge 25, 3) := by decide +kernel
theorem dX12_copy_111 : decode cX12_copy 111 = .ok (.aload_n 0, 1) := by decide +kernel
theorem dX12_copy_112 : decode cX12_copy 112 = .ok (.getfield 19, 3) := by decide +kernel
theorem dX12_copy_115 : decode cX12_copy 115 = .ok (.iload 6, 2) := by decide +kernel
theorem dX12_copy_117 : decode cX12_copy 117 = .ok (.aload_n 0, 1) := by decide +kernel
theorem dX12_copy_118 : decode cX12_copy 118 = .ok (.iload_n 1, 1) := by decide +kernel
theorem dX12_copy_119 : decode cX12_copy 119 = .ok (.iload_n 2, 1) := by decide +kernel
theorem dX12_copy_120 : decode cX12_copy 120 = .ok (.iload 6, 2) := by decide +kernel
theorem dX12_copy_122 : decode cX12_copy 122 = .ok (.iadd, 1) := by decide +kernel
theorem dX12_copy_123 : decode cX12_copy 123 = .ok (.invokevirtual 131, 3) := by decide +kernel
theorem dX12_copy_126 : decode cX12_copy 126 = .ok (.iastore, 1) := by decide +kernel
theorem dX12_copy_127 : decode cX12_copy 127 = .ok (.iinc 6 1, 3) := by decide +kernel
theorem dX12_copy_130 : decode cX12_copy 130 = .ok (.goto (-26), 3) := by decide +kernel
theorem dX12_copy_133 : decode cX12_copy 133 = .ok (.iconst 0, 1) := by decide +kernel
theorem dX12_copy_134 : decode cX12_copy 134 = .ok (.istore 6, 2) := by decide +kernel
theorem dX12_copy_136 : decode cX12_copy 136 = .ok (.iload 6, 2) := by decide +kernel
theorem dX12_copy_138 : decode cX12_copy 138 = .ok (.iload 5, 2) := by decide +kernel
theorem dX12_copy_140 : decode cX12_copy 140 = .ok (.if_icmp .ge 31, 3) := by decide +kernel
theorem dX12_copy_143 : decode cX12_copy 143 = .ok (.aload_n 0, 1) := by decide +kernel
theorem dX12_copy_144 : decode cX12_copy 144 = .ok (.getfield 16, 3) := by decide +kernel
theorem dX12_copy_147 : decode cX12_copy 147 = .ok (.bipush 60, 2) := by decide +kernel
theorem dX12_copy_149 : decode cX12_copy 149 = .ok (.iload_n 3, 1) := by decide +kernel
theorem dX12_copy_150 : decode cX12_copy 150 = .ok (.imul, 1) := by decide +kernel
theorem dX12_copy_151 : decode cX12_copy 151 = .ok (.iload 4, 2) := by decide +kernel
theorem dX12_copy_153 : decode cX12_copy 153 = .ok (.iadd, 1) := by decide +kernel
theorem dX12_copy_154 : decode cX12_copy 154 = .ok (.iload 6, 2) := by decide +kernel
theorem dX12_copy_156 : decode cX12_copy 156 = .ok (.iadd, 1) := by decide +kernel
theorem dX12_copy_157 : decode cX12_copy 157 = .ok (.aload_n 0, 1) := by decide +kernel
theorem dX12_copy_158 : decode cX12_copy 158 = .ok (.getfield 19, 3) := by decide +kernel
theorem dX12_copy_161 : decode cX12_copy 161 = .ok (.iload 6, 2) := by decide +kernel
theorem dX12_copy_163 : decode cX12_copy 163 = .ok (.iaload, 1) := by decide +kernel
theorem dX12_copy_164 : decode cX12_copy 164 = .ok (.iastore, 1) := by decide +kernel
theorem dX12_copy_165 : decode cX12_copy 165 = .ok (.iinc 6 1, 3) := by decide +kernel
theorem dX12_copy_168 : decode cX12_copy 168 = .ok (.goto (-32), 3) := by decide +kernel
theorem dX12_copy_171 : decode cX12_copy 171 = .ok (.iconst 1, 1) := by decide +kernel
theorem dX12_copy_172 : decode cX12_copy 172 = .ok (.ireturn, 1) := by decide +kernel
theorem dX12_mean_0 : decode cX12_mean 0 = .ok (.iload_n 1, 1) := by decide +kernel
theorem dX12_mean_1 : decode cX12_mean 1 = .ok (.invokestatic 123, 3) := by decide +kernel
theorem dX12_mean_4 : decode cX12_mean 4 = .ok (.ifCond .ne 5, 3) := by decide +kernel
theorem dX12_mean_7 : decode cX12_mean 7 = .ok (.iconst (-1), 1) := by decide +kernel
theorem dX12_mean_8 : decode cX12_mean 8 = .ok (.ireturn, 1) := by decide +kernel
theorem dX12_mean_9 : decode cX12_mean 9 = .ok (.aload_n 0, 1) := by decide +kernel
theorem dX12_mean_10 : decode cX12_mean 10 = .ok (.getfield 13, 3) := by decide +kernel
theorem dX12_mean_13 : decode cX12_mean 13 = .ok (.iload_n 1, 1) := by decide +kernel
theorem dX12_mean_14 : decode cX12_mean 14 = .ok (.iaload, 1) := by decide +kernel
theorem dX12_mean_15 : decode cX12_mean 15 = .ok (.ifCond .ge 9, 3) := by decide +kernel
theorem dX12_mean_18 : decode cX12_mean 18 = .ok (.aload_n 0, 1) := by decide +kernel
theorem dX12_mean_19 : decode cX12_mean 19 = .ok (.iconst 1, 1) := by decide +kernel
theorem dX12_mean_20 : decode cX12_mean 20 = .ok (.invokevirtual 127, 3) := by decide +kernel
theorem dX12_mean_23 : decode cX12_mean 23 = .ok (.ireturn, 1) := by decide +kernel
theorem dX12_mean_24 : decode cX12_mean 24 = .ok (.aload_n 0, 1) := by decide +kernel
theorem dX12_mean_25 : decode cX12_mean 25 = .ok (.getfield 13, 3) := by decide +kernel
theorem dX12_mean_28 : decode cX12_mean 28 = .ok (.iload_n 1, 1) := by decide +kernel
theorem dX12_mean_29 : decode cX12_mean 29 = .ok (.iaload, 1) := by decide +kernel
theorem dX12_mean_30 : decode cX12_mean 30 = .ok (.ifCond .ne 9, 3) := by decide +kernel
theorem dX12_mean_33 : decode cX12_mean 33 = .ok (.aload_n 0, 1) := by decide +kernel
theorem dX12_mean_34 : decode cX12_mean 34 = .ok (.iconst 4, 1) := by decide +kernel
theorem dX12_mean_35 : decode cX12_mean 35 = .ok (.invokevirtual 127, 3) := by decide +kernel
theorem dX12_mean_38 : decode cX12_mean 38 = .ok (.ireturn, 1) := by decide +kernel
theorem dX12_mean_39 : decode cX12_mean 39 = .ok (.lconst 0, 1) := by decide +kernel
theorem dX12_mean_40 : decode cX12_mean 40 = .ok (.lstore_n 2, 1) := by decide +kernel
theorem dX12_mean_41 : decode cX12_mean 41 = .ok (.iconst 0, 1) := by decide +kernel
theorem dX12_mean_42 : decode cX12_mean 42 = .ok (.istore 4, 2) := by decide +kernel
theorem dX12_mean_44 : decode cX12_mean 44 = .ok (.iload 4, 2) := by decide +kernel
theorem dX12_mean_46 : decode cX12_mean 46 = .ok (.aload_n 0, 1) := by decide +kernel
theorem dX12_mean_47 : decode cX12_mean 47 = .ok (.getfield 13, 3) := by decide +kernel
theorem dX12_mean_50 : decode cX12_mean 50 = .ok (.iload_n 1, 1) := by decide +kernel
theorem dX12_mean_51 : decode cX12_mean 51 = .ok (.iaload, 1) := by decide +kernel
theorem dX12_mean_52 : decode cX12_mean 52 = .ok (.if_icmp .ge 20, 3) := by decide +kernel
theorem dX12_mean_55 : decode cX12_mean 55 = .ok (.lload_n 2, 1) := by decide +kernel
theorem dX12_mean_56 : decode cX12_mean 56 = .ok (.aload_n 0, 1) := by decide +kernel
theorem dX12_mean_57 : decode cX12_mean 57 = .ok (.iload_n 1, 1) := by decide +kernel
theorem dX12_mean_58 : decode cX12_mean 58 = .ok (.iload 4, 2) := by decide +kernel
theorem dX12_mean_60 : decode cX12_mean 60 = .ok (.invokevirtual 131, 3) := by decide +kernel
theorem dX12_mean_63 : decode cX12_mean 63 = .ok (.i2l, 1) := by decide +kernel
theorem dX12_mean_64 : decode cX12_mean 64 = .ok (.ladd, 1) := by decide +kernel
theorem dX12_mean_65 : decode cX12_mean 65 = .ok (.lstore_n 2, 1) := by decide +kernel
theorem dX12_mean_66 : decode cX12_mean 66 = .ok (.iinc 4 1, 3) := by decide +kernel
theorem dX12_mean_69 : decode cX12_mean 69 = .ok (.goto (-25), 3) := by decide +kernel
theorem dX12_mean_72 : decode cX12_mean 72 = .ok (.aload_n 0, 1) := by decide +kernel
theorem dX12_mean_73 : decode cX12_mean 73 = .ok (.lload_n 2, 1) := by decide +kernel
theorem dX12_mean_74 : decode cX12_mean 74 = .ok (.aload_n 0, 1) := by decide +kernel
theorem dX12_mean_75 : decode cX12_mean 75 = .ok (.getfield 13, 3) := by decide +kernel
theorem dX12_mean_78 : decode cX12_mean 78 = .ok (.iload_n 1, 1) := by decide +kernel
theorem dX12_mean_79 : decode cX12_mean 79 = .ok (.iaload, 1) := by decide +kernel
theorem dX12_mean_80 : decode cX12_mean 80 = .ok (.i2l, 1) := by decide +kernel
theorem dX12_mean_81 : decode cX12_mean 81 = .ok (.ldiv, 1) := by decide +kernel
theorem dX12_mean_82 : decode cX12_mean 82 = .ok (.l2i, 1) := by decide +kernel
theorem dX12_mean_83 : decode cX12_mean 83 = .ok (.iconst 1, 1) := by decide +kernel
theorem dX12_mean_84 : decode cX12_mean 84 = .ok (.invokevirtual 135, 3) := by decide +kernel
theorem dX12_mean_87 : decode cX12_mean 87 = .ok (.ireturn, 1) := by decide +kernel
theorem dX12_isText_0 : decode cX12_isText 0 = .ok (.iload_n 0, 1) := by decide +kernel
theorem dX12_isText_1 : decode cX12_isText 1 = .ok (.iconst 0, 1) := by decide +kernel
theorem dX12_isText_2 : decode cX12_isText 2 = .ok (.iconst 3, 1) := by decide +kernel
theorem dX12_isText_3 : decode cX12_isText 3 = .ok (.invokestatic 113, 3) := by decide +kernel
theorem dX12_isText_6 : decode cX12_isText 6 = .ok (.ireturn, 1) := by decide +kernel
theorem dX12_text_0 : decode cX12_text 0 = .ok (.iload_n 1, 1) := by decide +kernel
theorem dX12_text_1 : decode cX12_text 1 = .ok (.invokestatic 138, 3) := by decide +kernel
theorem dX12_text_4 : decode cX12_text 4 = .ok (.ifCond .eq 9, 3) := by decide +kernel
theorem dX12_text_7 : decode cX12_text 7 = .ok (.iload_n 2, 1) := by decide +kernel
theorem dX12_text_8 : decode cX12_text 8 = .ok (.bipush 60, 2) := by decide +kernel
theorem dX12_text_10 : decode cX12_text 10 = .ok (.if_icmp .le 5, 3) := by decide +kernel
theorem dX12_text_13 : decode cX12_text 13 = .ok (.iconst (-1), 1) := by decide +kernel
theorem dX12_text_14 : decode cX12_text 14 = .ok (.ireturn, 1) := by decide +kernel
theorem dX12_text_15 : decode cX12_text 15 = .ok (.iload_n 2, 1) := by decide +kernel
theorem dX12_text_16 : decode cX12_text 16 = .ok (.ifCond .ge 9, 3) := by decide +kernel
theorem dX12_text_19 : decode cX12_text 19 = .ok (.aload_n 0, 1) := by decide +kernel
theorem dX12_text_20 : decode cX12_text 20 = .ok (.iconst 5, 1) := by decide +kernel
theorem dX12_text_21 : decode cX12_text 21 = .ok (.invokevirtual 127, 3) := by decide +kernel
theorem dX12_text_24 : decode cX12_text 24 = .ok (.ireturn, 1) := by decide +kernel
theorem dX12_text_25 : decode cX12_text 25 = .ok (.aload_n 0, 1) := by decide +kernel
theorem dX12_text_26 : decode cX12_text 26 = .ok (.getfield 22, 3) := by decide +kernel
theorem dX12_text_29 : decode cX12_text 29 = .ok (.iload_n 1, 1) := by decide +kernel
theorem dX12_text_30 : decode cX12_text 30 = .ok (.iload_n 2, 1) := by decide +kernel
theorem dX12_text_31 : decode cX12_text 31 = .ok (.iastore, 1) := by decide +kernel
theorem dX12_text_32 : decode cX12_text 32 = .ok (.iconst 0, 1) := by decide +kernel
theorem dX12_text_33 : decode cX12_text 33 = .ok (.istore_n 3, 1) := by decide +kernel
theorem dX12_text_34 : decode cX12_text 34 = .ok (.iload_n 3, 1) := by decide +kernel
theorem dX12_text_35 : decode cX12_text 35 = .ok (.bipush 60, 2) := by decide +kernel
theorem dX12_text_37 : decode cX12_text 37 = .ok (.if_icmp .ge 22, 3) := by decide +kernel
theorem dX12_text_40 : decode cX12_text 40 = .ok (.aload_n 0, 1) := by decide +kernel
theorem dX12_text_41 : decode cX12_text 41 = .ok (.getfield 25, 3) := by decide +kernel
theorem dX12_text_44 : decode cX12_text 44 = .ok (.bipush 60, 2) := by decide +kernel
theorem dX12_text_46 : decode cX12_text 46 = .ok (.iload_n 1, 1) := by decide +kernel
theorem dX12_text_47 : decode cX12_text 47 = .ok (.imul, 1) := by decide +kernel
theorem dX12_text_48 : decode cX12_text 48 = .ok (.iload_n 3, 1) := by decide +kernel
theorem dX12_text_49 : decode cX12_text 49 = .ok (.iadd, 1) := by decide +kernel
theorem dX12_text_50 : decode cX12_text 50 = .ok (.bipush 32, 2) := by decide +kernel
theorem dX12_text_52 : decode cX12_text 52 = .ok (.bastore, 1) := by decide +kernel
theorem dX12_text_53 : decode cX12_text 53 = .ok (.iinc 3 1, 3) := by decide +kernel
theorem dX12_text_56 : decode cX12_text 56 = .ok (.goto (-22), 3) := by decide +kernel
theorem dX12_text_59 : decode cX12_text 59 = .ok (.iload_n 2, 1) := by decide +kernel
theorem dX12_text_60 : decode cX12_text 60 = .ok (.ireturn, 1) := by decide +kernel
theorem dX12_put_0 : decode cX12_put 0 = .ok (.iload_n 1, 1) := by decide +kernel
theorem dX12_put_1 : decode cX12_put 1 = .ok (.invokestatic 138, 3) := by decide +kernel
theorem dX12_put_4 : decode cX12_put 4 = .ok (.ifCond .ne 5, 3) := by decide +kernel
theorem dX12_put_7 : decode cX12_put 7 = .ok (.iconst (-1), 1) := by decide +kernel
theorem dX12_put_8 : decode cX12_put 8 = .ok (.ireturn, 1) := by decide +kernel
theorem dX12_put_9 : decode cX12_put 9 = .ok (.aload_n 0, 1) := by decide +kernel
theorem dX12_put_10 : decode cX12_put 10 = .ok (.getfield 22, 3) := by decide +kernel
theorem dX12_put_13 : decode cX12_put 13 = .ok (.iload_n 1, 1) := by decide +kernel
theorem dX12_put_14 : decode cX12_put 14 = .ok (.iaload, 1) := by decide +kernel
theorem dX12_put_15 : decode cX12_put 15 = .ok (.ifCond .ge 9, 3) := by decide +kernel
theorem dX12_put_18 : decode cX12_put 18 = .ok (.aload_n 0, 1) := by decide +kernel
theorem dX12_put_19 : decode cX12_put 19 = .ok (.iconst 1, 1) := by decide +kernel
theorem dX12_put_20 : decode cX12_put 20 = .ok (.invokevirtual 127, 3) := by decide +kernel
theorem dX12_put_23 : decode cX12_put 23 = .ok (.ireturn, 1) := by decide +kernel
theorem dX12_put_24 : decode cX12_put 24 = .ok (.iload_n 2, 1) := by decide +kernel
theorem dX12_put_25 : decode cX12_put 25 = .ok (.iconst 0, 1) := by decide +kernel
theorem dX12_put_26 : decode cX12_put 26 = .ok (.aload_n 0, 1) := by decide +kernel
theorem dX12_put_27 : decode cX12_put 27 = .ok (.getfield 22, 3) := by decide +kernel
theorem dX12_put_30 : decode cX12_put 30 = .ok (.iload_n 1, 1) := by decide +kernel
theorem dX12_put_31 : decode cX12_put 31 = .ok (.iaload, 1) := by decide +kernel
theorem dX12_put_32 : decode cX12_put 32 = .ok (.iconst 1, 1) := by decide +kernel
theorem dX12_put_33 : decode cX12_put 33 = .ok (.isub, 1) := by decide +kernel
theorem dX12_put_34 : decode cX12_put 34 = .ok (.invokestatic 113, 3) := by decide +kernel
theorem dX12_put_37 : decode cX12_put 37 = .ok (.ifCond .ne 9, 3) := by decide +kernel
theorem dX12_put_40 : decode cX12_put 40 = .ok (.aload_n 0, 1) := by decide +kernel
theorem dX12_put_41 : decode cX12_put 41 = .ok (.iconst 2, 1) := by decide +kernel
theorem dX12_put_42 : decode cX12_put 42 = .ok (.invokevirtual 127, 3) := by decide +kernel
theorem dX12_put_45 : decode cX12_put 45 = .ok (.ireturn, 1) := by decide +kernel
theorem dX12_put_46 : decode cX12_put 46 = .ok (.aload_n 0, 1) := by decide +kernel
theorem dX12_put_47 : decode cX12_put 47 = .ok (.getfield 25, 3) := by decide +kernel
theorem dX12_put_50 : decode cX12_put 50 = .ok (.bipush 60, 2) := by decide +kernel
theorem dX12_put_52 : decode cX12_put 52 = .ok (.iload_n 1, 1) := by decide +kernel
theorem dX12_put_53 : decode cX12_put 53 = .ok (.imul, 1) := by decide +kernel
theorem dX12_put_54 : decode cX12_put 54 = .ok (.iload_n 2, 1) := by decide +kernel
theorem dX12_put_55 : decode cX12_put 55 = .ok (.iadd, 1) := by decide +kernel
theorem dX12_put_56 : decode cX12_put 56 = .ok (.baload, 1) := by decide +kernel
theorem dX12_put_57 : decode cX12_put 57 = .ok (.istore 4, 2) := by decide +kernel
theorem dX12_put_59 : decode cX12_put 59 = .ok (.aload_n 0, 1) := by decide +kernel
theorem dX12_put_60 : decode cX12_put 60 = .ok (.getfield 25, 3) := by decide +kernel
theorem dX12_put_63 : decode cX12_put 63 = .ok (.bipush 60, 2) := by decide +kernel
theorem dX12_put_65 : decode cX12_put 65 = .ok (.iload_n 1, 1) := by decide +kernel
theorem dX12_put_66 : decode cX12_put 66 = .ok (.imul, 1) := by decide +kernel
theorem dX12_put_67 : decode cX12_put 67 = .ok (.iload_n 2, 1) := by decide +kernel
theorem dX12_put_68 : decode cX12_put 68 = .ok (.iadd, 1) := by decide +kernel
theorem dX12_put_69 : decode cX12_put 69 = .ok (.iload_n 3, 1) := by decide +kernel
theorem dX12_put_70 : decode cX12_put 70 = .ok (.i2b, 1) := by decide +kernel
theorem dX12_put_71 : decode cX12_put 71 = .ok (.bastore, 1) := by decide +kernel
theorem dX12_put_72 : decode cX12_put 72 = .ok (.sipush 1000, 3) := by decide +kernel
theorem dX12_put_75 : decode cX12_put 75 = .ok (.iload 4, 2) := by decide +kernel
theorem dX12_put_77 : decode cX12_put 77 = .ok (.iadd, 1) := by decide +kernel
theorem dX12_put_78 : decode cX12_put 78 = .ok (.ireturn, 1) := by decide +kernel
theorem dX12_byteAt_0 : decode cX12_byteAt 0 = .ok (.iload_n 2, 1) := by decide +kernel
theorem dX12_byteAt_1 : decode cX12_byteAt 1 = .ok (.aload_n 0, 1) := by decide +kernel
theorem dX12_byteAt_2 : decode cX12_byteAt 2 = .ok (.getfield 22, 3) := by decide +kernel
theorem dX12_byteAt_5 : decode cX12_byteAt 5 = .ok (.iload_n 1, 1) := by decide +kernel
theorem dX12_byteAt_6 : decode cX12_byteAt 6 = .ok (.iaload, 1) := by decide +kernel
theorem dX12_byteAt_7 : decode cX12_byteAt 7 = .ok (.if_icmp .ge 17, 3) := by decide +kernel
theorem dX12_byteAt_10 : decode cX12_byteAt 10 = .ok (.aload_n 0, 1) := by decide +kernel
theorem dX12_byteAt_11 : decode cX12_byteAt 11 = .ok (.getfield 25, 3) := by decide +kernel
theorem dX12_byteAt_14 : decode cX12_byteAt 14 = .ok (.bipush 60, 2) := by decide +kernel
theorem dX12_byteAt_16 : decode cX12_byteAt 16 = .ok (.iload_n 1, 1) := by decide +kernel
theorem dX12_byteAt_17 : decode cX12_byteAt 17 = .ok (.imul, 1) := by decide +kernel
theorem dX12_byteAt_18 : decode cX12_byteAt 18 = .ok (.iload_n 2, 1) := by decide +kernel
theorem dX12_byteAt_19 : decode cX12_byteAt 19 = .ok (.iadd, 1) := by decide +kernel
theorem dX12_byteAt_20 : decode cX12_byteAt 20 = .ok (.baload, 1) := by decide +kernel
theorem dX12_byteAt_21 : decode cX12_byteAt 21 = .ok (.goto 4, 3) := by decide +kernel
theorem dX12_byteAt_24 : decode cX12_byteAt 24 = .ok (.iconst 0, 1) := by decide +kernel
theorem dX12_byteAt_25 : decode cX12_byteAt 25 = .ok (.ireturn, 1) := by decide +kernel
theorem dX12_kindOf_0 : decode cX12_kindOf 0 = .ok (.iload_n 0, 1) := by decide +kernel
theorem dX12_kindOf_1 : decode cX12_kindOf 1 = .ok (.lookupswitch 71 #[(97, 61), (99, 65), (103, 59), (104, 67), (107, 69), (117, 63)], 59) := by decide +kernel
theorem dX12_kindOf_60 : decode cX12_kindOf 60 = .ok (.iconst 0, 1) := by decide +kernel
theorem dX12_kindOf_61 : decode cX12_kindOf 61 = .ok (.ireturn, 1) := by decide +kernel
theorem dX12_kindOf_62 : decode cX12_kindOf 62 = .ok (.iconst 1, 1) := by decide +kernel
theorem dX12_kindOf_63 : decode cX12_kindOf 63 = .ok (.ireturn, 1) := by decide +kernel
theorem dX12_kindOf_64 : decode cX12_kindOf 64 = .ok (.iconst 2, 1) := by decide +kernel
theorem dX12_kindOf_65 : decode cX12_kindOf 65 = .ok (.ireturn, 1) := by decide +kernel
theorem dX12_kindOf_66 : decode cX12_kindOf 66 = .ok (.iconst 3, 1) := by decide +kernel
theorem dX12_kindOf_67 : decode cX12_kindOf 67 = .ok (.ireturn, 1) := by decide +kernel
theorem dX12_kindOf_68 : decode cX12_kindOf 68 = .ok (.iconst 4, 1) := by decide +kernel
theorem dX12_kindOf_69 : decode cX12_kindOf 69 = .ok (.ireturn, 1) := by decide +kernel
theorem dX12_kindOf_70 : decode cX12_kindOf 70 = .ok (.iconst 5, 1) := by decide +kernel
theorem dX12_kindOf_71 : decode cX12_kindOf 71 = .ok (.ireturn, 1) := by decide +kernel
theorem dX12_kindOf_72 : decode cX12_kindOf 72 = .ok (.bipush (-9), 2) := by decide +kernel
theorem dX12_kindOf_74 : decode cX12_kindOf 74 = .ok (.ireturn, 1) := by decide +kernel
theorem dX12_figure_0 : decode cX12_figure 0 = .ok (.aload_n 0, 1) := by decide +kernel
theorem dX12_figure_1 : decode cX12_figure 1 = .ok (.aload_n 0, 1) := by decide +kernel
theorem dX12_figure_2 : decode cX12_figure 2 = .ok (.iload_n 1, 1) := by decide +kernel
theorem dX12_figure_3 : decode cX12_figure 3 = .ok (.aload_n 0, 1) := by decide +kernel
theorem dX12_figure_4 : decode cX12_figure 4 = .ok (.getfield 141, 3) := by decide +kernel
theorem dX12_figure_7 : decode cX12_figure 7 = .ok (.invokevirtual 144, 3) := by decide +kernel
theorem dX12_figure_10 : decode cX12_figure 10 = .ok (.bipush 48, 2) := by decide +kernel
theorem dX12_figure_12 : decode cX12_figure 12 = .ok (.isub, 1) := by decide +kernel
theorem dX12_figure_13 : decode cX12_figure 13 = .ok (.putfield 147, 3) := by decide +kernel
theorem dX12_figure_16 : decode cX12_figure 16 = .ok (.aload_n 0, 1) := by decide +kernel
theorem dX12_figure_17 : decode cX12_figure 17 = .ok (.getfield 147, 3) := by decide +kernel
theorem dX12_figure_20 : decode cX12_figure 20 = .ok (.iload_n 2, 1) := by decide +kernel
theorem dX12_figure_21 : decode cX12_figure 21 = .ok (.iload_n 3, 1) := by decide +kernel
theorem dX12_figure_22 : decode cX12_figure 22 = .ok (.invokestatic 113, 3) := by decide +kernel
theorem dX12_figure_25 : decode cX12_figure 25 = .ok (.istore 4, 2) := by decide +kernel
theorem dX12_figure_27 : decode cX12_figure 27 = .ok (.aload_n 0, 1) := by decide +kernel
theorem dX12_figure_28 : decode cX12_figure 28 = .ok (.dup, 1) := by decide +kernel
theorem dX12_figure_29 : decode cX12_figure 29 = .ok (.getfield 141, 3) := by decide +kernel
theorem dX12_figure_32 : decode cX12_figure 32 = .ok (.iload 4, 2) := by decide +kernel
theorem dX12_figure_34 : decode cX12_figure 34 = .ok (.ifCond .eq 7, 3) := by decide +kernel
theorem dX12_figure_37 : decode cX12_figure 37 = .ok (.iconst 1, 1) := by decide +kernel
theorem dX12_figure_38 : decode cX12_figure 38 = .ok (.goto 4, 3) := by decide +kernel
theorem dX12_figure_41 : decode cX12_figure 41 = .ok (.iconst 0, 1) := by decide +kernel
theorem dX12_figure_42 : decode cX12_figure 42 = .ok (.iadd, 1) := by decide +kernel
theorem dX12_figure_43 : decode cX12_figure 43 = .ok (.putfield 141, 3) := by decide +kernel
theorem dX12_figure_46 : decode cX12_figure 46 = .ok (.iload 4, 2) := by decide +kernel
theorem dX12_figure_48 : decode cX12_figure 48 = .ok (.ireturn, 1) := by decide +kernel
theorem dX12_readsBench_0 : decode cX12_readsBench 0 = .ok (.aload_n 0, 1) := by decide +kernel
theorem dX12_readsBench_1 : decode cX12_readsBench 1 = .ok (.iload_n 1, 1) := by decide +kernel
theorem dX12_readsBench_2 : decode cX12_readsBench 2 = .ok (.aload_n 0, 1) := by decide +kernel
theorem dX12_readsBench_3 : decode cX12_readsBench 3 = .ok (.getfield 141, 3) := by decide +kernel
theorem dX12_readsBench_6 : decode cX12_readsBench 6 = .ok (.invokevirtual 144, 3) := by decide +kernel
theorem dX12_readsBench_9 : decode cX12_readsBench 9 = .ok (.istore_n 2, 1) := by decide +kernel
theorem dX12_readsBench_10 : decode cX12_readsBench 10 = .ok (.aload_n 0, 1) := by decide +kernel
theorem dX12_readsBench_11 : decode cX12_readsBench 11 = .ok (.getfield 150, 3) := by decide +kernel
theorem dX12_readsBench_14 : decode cX12_readsBench 14 = .ok (.ifCond .gt 12, 3) := by decide +kernel
theorem dX12_readsBench_17 : decode cX12_readsBench 17 = .ok (.aload_n 0, 1) := by decide +kernel
theorem dX12_readsBench_18 : decode cX12_readsBench 18 = .ok (.getfield 153, 3) := by decide +kernel
theorem dX12_readsBench_21 : decode cX12_readsBench 21 = .ok (.bipush 8, 2) := by decide +kernel
theorem dX12_readsBench_23 : decode cX12_readsBench 23 = .ok (.if_icmp .ne 5, 3) := by decide +kernel
theorem dX12_readsBench_26 : decode cX12_readsBench 26 = .ok (.iconst 0, 1) := by decide +kernel
theorem dX12_readsBench_27 : decode cX12_readsBench 27 = .ok (.ireturn, 1) := by decide +kernel
theorem dX12_readsBench_28 : decode cX12_readsBench 28 = .ok (.aload_n 0, 1) := by decide +kernel
theorem dX12_readsBench_29 : decode cX12_readsBench 29 = .ok (.dup, 1) := by decide +kernel
theorem dX12_readsBench_30 : decode cX12_readsBench 30 = .ok (.getfield 141, 3) := by decide +kernel
theorem dX12_readsBench_33 : decode cX12_readsBench 33 = .ok (.iconst 1, 1) := by decide +kernel
theorem dX12_readsBench_34 : decode cX12_readsBench 34 = .ok (.iadd, 1) := by decide +kernel
theorem dX12_readsBench_35 : decode cX12_readsBench 35 = .ok (.putfield 141, 3) := by decide +kernel
theorem dX12_readsBench_38 : decode cX12_readsBench 38 = .ok (.iload_n 2, 1) := by decide +kernel
theorem dX12_readsBench_39 : decode cX12_readsBench 39 = .ok (.bipush 109, 2) := by decide +kernel
theorem dX12_readsBench_41 : decode cX12_readsBench 41 = .ok (.if_icmp .eq 16, 3) := by decide +kernel
theorem dX12_readsBench_44 : decode cX12_readsBench 44 = .ok (.aload_n 0, 1) := by decide +kernel
theorem dX12_readsBench_45 : decode cX12_readsBench 45 = .ok (.iload_n 1, 1) := by decide +kernel
theorem dX12_readsBench_46 : decode cX12_readsBench 46 = .ok (.iconst 1, 1) := by decide +kernel
theorem dX12_readsBench_47 : decode cX12_readsBench 47 = .ok (.bipush 9, 2) := by decide +kernel
theorem dX12_readsBench_49 : decode cX12_readsBench 49 = .ok (.invokevirtual 156, 3) := by decide +kernel
theorem dX12_readsBench_52 : decode cX12_readsBench 52 = .ok (.ifCond .ne 5, 3) := by decide +kernel
theorem dX12_readsBench_55 : decode cX12_readsBench 55 = .ok (.iconst 0, 1) := by decide +kernel
theorem dX12_readsBench_56 : decode cX12_readsBench 56 = .ok (.ireturn, 1) := by decide +kernel
theorem dX12_readsBench_57 : decode cX12_readsBench 57 = .ok (.aload_n 0, 1) := by decide +kernel
theorem dX12_readsBench_58 : decode cX12_readsBench 58 = .ok (.getfield 47, 3) := by decide +kernel
theorem dX12_readsBench_61 : decode cX12_readsBench 61 = .ok (.aload_n 0, 1) := by decide +kernel
theorem dX12_readsBench_62 : decode cX12_readsBench 62 = .ok (.getfield 153, 3) := by decide +kernel
theorem dX12_readsBench_65 : decode cX12_readsBench 65 = .ok (.iload_n 2, 1) := by decide +kernel
theorem dX12_readsBench_66 : decode cX12_readsBench 66 = .ok (.bipush 109, 2) := by decide +kernel
theorem dX12_readsBench_68 : decode cX12_readsBench 68 = .ok (.if_icmp .ne 7, 3) := by decide +kernel
theorem dX12_readsBench_71 : decode cX12_readsBench 71 = .ok (.iconst 0, 1) := by decide +kernel
theorem dX12_readsBench_72 : decode cX12_readsBench 72 = .ok (.goto 21, 3) := by decide +kernel
theorem dX12_readsBench_75 : decode cX12_readsBench 75 = .ok (.iload_n 2, 1) := by decide +kernel
theorem dX12_readsBench_76 : decode cX12_readsBench 76 = .ok (.bipush 108, 2) := by decide +kernel
theorem dX12_readsBench_78 : decode cX12_readsBench 78 = .ok (.if_icmp .ne 11, 3) := by decide +kernel
theorem dX12_readsBench_81 : decode cX12_readsBench 81 = .ok (.aload_n 0, 1) := by decide +kernel
theorem dX12_readsBench_82 : decode cX12_readsBench 82 = .ok (.getfield 147, 3) := by decide +kernel
theorem dX12_readsBench_85 : decode cX12_readsBench 85 = .ok (.ineg, 1) := by decide +kernel
theorem dX12_readsBench_86 : decode cX12_readsBench 86 = .ok (.goto 7, 3) := by decide +kernel
theorem dX12_readsBench_89 : decode cX12_readsBench 89 = .ok (.aload_n 0, 1) := by decide +kernel
theorem dX12_readsBench_90 : decode cX12_readsBench 90 = .ok (.getfield 147, 3) := by decide +kernel
theorem dX12_readsBench_93 : decode cX12_readsBench 93 = .ok (.iastore, 1) := by decide +kernel
theorem dX12_readsBench_94 : decode cX12_readsBench 94 = .ok (.aload_n 0, 1) := by decide +kernel
theorem dX12_readsBench_95 : decode cX12_readsBench 95 = .ok (.dup, 1) := by decide +kernel
theorem dX12_readsBench_96 : decode cX12_readsBench 96 = .ok (.getfield 153, 3) := by decide +kernel
theorem dX12_readsBench_99 : decode cX12_readsBench 99 = .ok (.iconst 1, 1) := by decide +kernel
theorem dX12_readsBench_100 : decode cX12_readsBench 100 = .ok (.iadd, 1) := by decide +kernel
theorem dX12_readsBench_101 : decode cX12_readsBench 101 = .ok (.putfield 153, 3) := by decide +kernel
theorem dX12_readsBench_104 : decode cX12_readsBench 104 = .ok (.iconst 1, 1) := by decide +kernel
theorem dX12_readsBench_105 : decode cX12_readsBench 105 = .ok (.ireturn, 1) := by decide +kernel
theorem dX12_readsGuest_0 : decode cX12_readsGuest 0 = .ok (.aload_n 0, 1) := by decide +kernel
theorem dX12_readsGuest_1 : decode cX12_readsGuest 1 = .ok (.iload_n 1, 1) := by decide +kernel
theorem dX12_readsGuest_2 : decode cX12_readsGuest 2 = .ok (.aload_n 0, 1) := by decide +kernel
theorem dX12_readsGuest_3 : decode cX12_readsGuest 3 = .ok (.getfield 141, 3) := by decide +kernel
theorem dX12_readsGuest_6 : decode cX12_readsGuest 6 = .ok (.invokevirtual 144, 3) := by decide +kernel
theorem dX12_readsGuest_9 : decode cX12_readsGuest 9 = .ok (.invokestatic 159, 3) := by decide +kernel
theorem dX12_readsGuest_12 : decode cX12_readsGuest 12 = .ok (.istore_n 2, 1) := by decide +kernel
theorem dX12_readsGuest_13 : decode cX12_readsGuest 13 = .ok (.iload_n 2, 1) := by decide +kernel
theorem dX12_readsGuest_14 : decode cX12_readsGuest 14 = .ok (.bipush (-9), 2) := by decide +kernel
theorem dX12_readsGuest_16 : decode cX12_readsGuest 16 = .ok (.if_icmp .eq 19, 3) := by decide +kernel
theorem dX12_readsGuest_19 : decode cX12_readsGuest 19 = .ok (.aload_n 0, 1) := by decide +kernel
theorem dX12_readsGuest_20 : decode cX12_readsGuest 20 = .ok (.getfield 153, 3) := by decide +kernel
theorem dX12_readsGuest_23 : decode cX12_readsGuest 23 = .ok (.ifCond .eq 12, 3) := by decide +kernel
theorem dX12_readsGuest_26 : decode cX12_readsGuest 26 = .ok (.aload_n 0, 1) := by decide +kernel
theorem dX12_readsGuest_27 : decode cX12_readsGuest 27 = .ok (.getfield 150, 3) := by decide +kernel
theorem dX12_readsGuest_30 : decode cX12_readsGuest 30 = .ok (.bipush 7, 2) := by decide +kernel
theorem dX12_readsGuest_32 : decode cX12_readsGuest 32 = .ok (.if_icmp .ne 5, 3) := by decide +kernel
theorem dX12_readsGuest_35 : decode cX12_readsGuest 35 = .ok (.iconst 0, 1) := by decide +kernel
theorem dX12_readsGuest_36 : decode cX12_readsGuest 36 = .ok (.ireturn, 1) := by decide +kernel
theorem dX12_readsGuest_37 : decode cX12_readsGuest 37 = .ok (.aload_n 0, 1) := by decide +kernel
theorem dX12_readsGuest_38 : decode cX12_readsGuest 38 = .ok (.dup, 1) := by decide +kernel
theorem dX12_readsGuest_39 : decode cX12_readsGuest 39 = .ok (.getfield 141, 3) := by decide +kernel
theorem dX12_readsGuest_42 : decode cX12_readsGuest 42 = .ok (.iconst 1, 1) := by decide +kernel
theorem dX12_readsGuest_43 : decode cX12_readsGuest 43 = .ok (.iadd, 1) := by decide +kernel
theorem dX12_readsGuest_44 : decode cX12_readsGuest 44 = .ok (.putfield 141, 3) := by decide +kernel
theorem dX12_readsGuest_47 : decode cX12_readsGuest 47 = .ok (.aload_n 0, 1) := by decide +kernel
theorem dX12_readsGuest_48 : decode cX12_readsGuest 48 = .ok (.iload_n 1, 1) := by decide +kernel
theorem dX12_readsGuest_49 : decode cX12_readsGuest 49 = .ok (.iconst 1, 1) := by decide +kernel
theorem dX12_readsGuest_50 : decode cX12_readsGuest 50 = .ok (.bipush 9, 2) := by decide +kernel
theorem dX12_readsGuest_52 : decode cX12_readsGuest 52 = .ok (.invokevirtual 156, 3) := by decide +kernel
theorem dX12_readsGuest_55 : decode cX12_readsGuest 55 = .ok (.ifCond .ne 5, 3) := by decide +kernel
theorem dX12_readsGuest_58 : decode cX12_readsGuest 58 = .ok (.iconst 0, 1) := by decide +kernel
theorem dX12_readsGuest_59 : decode cX12_readsGuest 59 = .ok (.ireturn, 1) := by decide +kernel
theorem dX12_readsGuest_60 : decode cX12_readsGuest 60 = .ok (.aload_n 0, 1) := by decide +kernel
theorem dX12_readsGuest_61 : decode cX12_readsGuest 61 = .ok (.getfield 53, 3) := by decide +kernel
theorem dX12_readsGuest_64 : decode cX12_readsGuest 64 = .ok (.aload_n 0, 1) := by decide +kernel
theorem dX12_readsGuest_65 : decode cX12_readsGuest 65 = .ok (.getfield 150, 3) := by decide +kernel
theorem dX12_readsGuest_68 : decode cX12_readsGuest 68 = .ok (.aload_n 0, 1) := by decide +kernel
theorem dX12_readsGuest_69 : decode cX12_readsGuest 69 = .ok (.getfield 147, 3) := by decide +kernel
theorem dX12_readsGuest_72 : decode cX12_readsGuest 72 = .ok (.iastore, 1) := by decide +kernel
theorem dX12_readsGuest_73 : decode cX12_readsGuest 73 = .ok (.aload_n 0, 1) := by decide +kernel
theorem dX12_readsGuest_74 : decode cX12_readsGuest 74 = .ok (.iload_n 1, 1) := by decide +kernel
theorem dX12_readsGuest_75 : decode cX12_readsGuest 75 = .ok (.iconst 0, 1) := by decide +kernel
theorem dX12_readsGuest_76 : decode cX12_readsGuest 76 = .ok (.iconst 1, 1) := by decide +kernel
theorem dX12_readsGuest_77 : decode cX12_readsGuest 77 = .ok (.invokevirtual 156, 3) := by decide +kernel
theorem dX12_readsGuest_80 : decode cX12_readsGuest 80 = .ok (.ifCond .ne 5, 3) := by decide +kernel
theorem dX12_readsGuest_83 : decode cX12_readsGuest 83 = .ok (.iconst 0, 1) := by decide +kernel
theorem dX12_readsGuest_84 : decode cX12_readsGuest 84 = .ok (.ireturn, 1) := by decide +kernel
theorem dX12_readsGuest_85 : decode cX12_readsGuest 85 = .ok (.aload_n 0, 1) := by decide +kernel
theorem dX12_readsGuest_86 : decode cX12_readsGuest 86 = .ok (.getfield 56, 3) := by decide +kernel
theorem dX12_readsGuest_89 : decode cX12_readsGuest 89 = .ok (.aload_n 0, 1) := by decide +kernel
theorem dX12_readsGuest_90 : decode cX12_readsGuest 90 = .ok (.getfield 150, 3) := by decide +kernel
theorem dX12_readsGuest_93 : decode cX12_readsGuest 93 = .ok (.aload_n 0, 1) := by decide +kernel
theorem dX12_readsGuest_94 : decode cX12_readsGuest 94 = .ok (.getfield 147, 3) := by decide +kernel
theorem dX12_readsGuest_97 : decode cX12_readsGuest 97 = .ok (.iastore, 1) := by decide +kernel
theorem dX12_readsGuest_98 : decode cX12_readsGuest 98 = .ok (.aload_n 0, 1) := by decide +kernel
theorem dX12_readsGuest_99 : decode cX12_readsGuest 99 = .ok (.getfield 50, 3) := by decide +kernel
theorem dX12_readsGuest_102 : decode cX12_readsGuest 102 = .ok (.aload_n 0, 1) := by decide +kernel
theorem dX12_readsGuest_103 : decode cX12_readsGuest 103 = .ok (.getfield 150, 3) := by decide +kernel
theorem dX12_readsGuest_106 : decode cX12_readsGuest 106 = .ok (.iload_n 2, 1) := by decide +kernel
theorem dX12_readsGuest_107 : decode cX12_readsGuest 107 = .ok (.iastore, 1) := by decide +kernel
theorem dX12_readsGuest_108 : decode cX12_readsGuest 108 = .ok (.aload_n 0, 1) := by decide +kernel
theorem dX12_readsGuest_109 : decode cX12_readsGuest 109 = .ok (.dup, 1) := by decide +kernel
theorem dX12_readsGuest_110 : decode cX12_readsGuest 110 = .ok (.getfield 150, 3) := by decide +kernel
theorem dX12_readsGuest_113 : decode cX12_readsGuest 113 = .ok (.iconst 1, 1) := by decide +kernel
theorem dX12_readsGuest_114 : decode cX12_readsGuest 114 = .ok (.iadd, 1) := by decide +kernel
theorem dX12_readsGuest_115 : decode cX12_readsGuest 115 = .ok (.putfield 150, 3) := by decide +kernel
theorem dX12_readsGuest_118 : decode cX12_readsGuest 118 = .ok (.iconst 1, 1) := by decide +kernel
theorem dX12_readsGuest_119 : decode cX12_readsGuest 119 = .ok (.ireturn, 1) := by decide +kernel
theorem dX12_faultOf_0 : decode cX12_faultOf 0 = .ok (.aload_n 0, 1) := by decide +kernel
theorem dX12_faultOf_1 : decode cX12_faultOf 1 = .ok (.iconst 0, 1) := by decide +kernel
theorem dX12_faultOf_2 : decode cX12_faultOf 2 = .ok (.putfield 141, 3) := by decide +kernel
theorem dX12_faultOf_5 : decode cX12_faultOf 5 = .ok (.aload_n 0, 1) := by decide +kernel
theorem dX12_faultOf_6 : decode cX12_faultOf 6 = .ok (.iconst 0, 1) := by decide +kernel
theorem dX12_faultOf_7 : decode cX12_faultOf 7 = .ok (.putfield 153, 3) := by decide +kernel
theorem dX12_faultOf_10 : decode cX12_faultOf 10 = .ok (.aload_n 0, 1) := by decide +kernel
theorem dX12_faultOf_11 : decode cX12_faultOf 11 = .ok (.iconst 0, 1) := by decide +kernel
theorem dX12_faultOf_12 : decode cX12_faultOf 12 = .ok (.putfield 150, 3) := by decide +kernel
theorem dX12_faultOf_15 : decode cX12_faultOf 15 = .ok (.aload_n 0, 1) := by decide +kernel
theorem dX12_faultOf_16 : decode cX12_faultOf 16 = .ok (.getfield 141, 3) := by decide +kernel
theorem dX12_faultOf_19 : decode cX12_faultOf 19 = .ok (.aload_n 0, 1) := by decide +kernel
theorem dX12_faultOf_20 : decode cX12_faultOf 20 = .ok (.getfield 22, 3) := by decide +kernel
theorem dX12_faultOf_23 : decode cX12_faultOf 23 = .ok (.iload_n 1, 1) := by decide +kernel
theorem dX12_faultOf_24 : decode cX12_faultOf 24 = .ok (.iaload, 1) := by decide +kernel
theorem dX12_faultOf_25 : decode cX12_faultOf 25 = .ok (.if_icmp .ge 77, 3) := by decide +kernel
theorem dX12_faultOf_28 : decode cX12_faultOf 28 = .ok (.aload_n 0, 1) := by decide +kernel
theorem dX12_faultOf_29 : decode cX12_faultOf 29 = .ok (.iload_n 1, 1) := by decide +kernel
theorem dX12_faultOf_30 : decode cX12_faultOf 30 = .ok (.aload_n 0, 1) := by decide +kernel
theorem dX12_faultOf_31 : decode cX12_faultOf 31 = .ok (.getfield 141, 3) := by decide +kernel
theorem dX12_faultOf_34 : decode cX12_faultOf 34 = .ok (.invokevirtual 144, 3) := by decide +kernel
theorem dX12_faultOf_37 : decode cX12_faultOf 37 = .ok (.istore_n 2, 1) := by decide +kernel
theorem dX12_faultOf_38 : decode cX12_faultOf 38 = .ok (.iload_n 2, 1) := by decide +kernel
theorem dX12_faultOf_39 : decode cX12_faultOf 39 = .ok (.bipush 32, 2) := by decide +kernel
theorem dX12_faultOf_41 : decode cX12_faultOf 41 = .ok (.if_icmp .ne 16, 3) := by decide +kernel
theorem dX12_faultOf_44 : decode cX12_faultOf 44 = .ok (.aload_n 0, 1) := by decide +kernel
theorem dX12_faultOf_45 : decode cX12_faultOf 45 = .ok (.dup, 1) := by decide +kernel
theorem dX12_faultOf_46 : decode cX12_faultOf 46 = .ok (.getfield 141, 3) := by decide +kernel
theorem dX12_faultOf_49 : decode cX12_faultOf 49 = .ok (.iconst 1, 1) := by decide +kernel
theorem dX12_faultOf_50 : decode cX12_faultOf 50 = .ok (.iadd, 1) := by decide +kernel
theorem dX12_faultOf_51 : decode cX12_faultOf 51 = .ok (.putfield 141, 3) := by decide +kernel
theorem dX12_faultOf_54 : decode cX12_faultOf 54 = .ok (.goto 45, 3) := by decide +kernel
theorem dX12_faultOf_57 : decode cX12_faultOf 57 = .ok (.iload_n 2, 1) := by decide +kernel
theorem dX12_faultOf_58 : decode cX12_faultOf 58 = .ok (.bipush 108, 2) := by decide +kernel
theorem dX12_faultOf_60 : decode cX12_faultOf 60 = .ok (.if_icmp .eq 15, 3) := by decide +kernel
theorem dX12_faultOf_63 : decode cX12_faultOf 63 = .ok (.iload_n 2, 1) := by decide +kernel
theorem dX12_faultOf_64 : decode cX12_faultOf 64 = .ok (.bipush 114, 2) := by decide +kernel
theorem dX12_faultOf_66 : decode cX12_faultOf 66 = .ok (.if_icmp .eq 9, 3) := by decide +kernel
theorem dX12_faultOf_69 : decode cX12_faultOf 69 = .ok (.iload_n 2, 1) := by decide +kernel
theorem dX12_faultOf_70 : decode cX12_faultOf 70 = .ok (.bipush 109, 2) := by decide +kernel
theorem dX12_faultOf_72 : decode cX12_faultOf 72 = .ok (.if_icmp .ne 14, 3) := by decide +kernel
theorem dX12_faultOf_75 : decode cX12_faultOf 75 = .ok (.aload_n 0, 1) := by decide +kernel
theorem dX12_faultOf_76 : decode cX12_faultOf 76 = .ok (.iload_n 1, 1) := by decide +kernel
theorem dX12_faultOf_77 : decode cX12_faultOf 77 = .ok (.invokevirtual 162, 3) := by decide +kernel
theorem dX12_faultOf_80 : decode cX12_faultOf 80 = .ok (.ifCond .eq 14, 3) := by decide +kernel
theorem dX12_faultOf_83 : decode cX12_faultOf 83 = .ok (.goto 16, 3) := by decide +kernel
theorem dX12_faultOf_86 : decode cX12_faultOf 86 = .ok (.aload_n 0, 1) := by decide +kernel
theorem dX12_faultOf_87 : decode cX12_faultOf 87 = .ok (.iload_n 1, 1) := by decide +kernel
theorem dX12_faultOf_88 : decode cX12_faultOf 88 = .ok (.invokevirtual 165, 3) := by decide +kernel
theorem dX12_faultOf_91 : decode cX12_faultOf 91 = .ok (.ifCond .ne 8, 3) := by decide +kernel
theorem dX12_faultOf_94 : decode cX12_faultOf 94 = .ok (.aload_n 0, 1) := by decide +kernel
theorem dX12_faultOf_95 : decode cX12_faultOf 95 = .ok (.getfield 141, 3) := by decide +kernel
theorem dX12_faultOf_98 : decode cX12_faultOf 98 = .ok (.ireturn, 1) := by decide +kernel
theorem dX12_faultOf_99 : decode cX12_faultOf 99 = .ok (.goto (-84), 3) := by decide +kernel
theorem dX12_faultOf_102 : decode cX12_faultOf 102 = .ok (.aload_n 0, 1) := by decide +kernel
theorem dX12_faultOf_103 : decode cX12_faultOf 103 = .ok (.getfield 153, 3) := by decide +kernel
theorem dX12_faultOf_106 : decode cX12_faultOf 106 = .ok (.ifCond .ne 12, 3) := by decide +kernel
theorem dX12_faultOf_109 : decode cX12_faultOf 109 = .ok (.aload_n 0, 1) := by decide +kernel
theorem dX12_faultOf_110 : decode cX12_faultOf 110 = .ok (.getfield 22, 3) := by decide +kernel
theorem dX12_faultOf_113 : decode cX12_faultOf 113 = .ok (.iload_n 1, 1) := by decide +kernel
theorem dX12_faultOf_114 : decode cX12_faultOf 114 = .ok (.iaload, 1) := by decide +kernel
theorem dX12_faultOf_115 : decode cX12_faultOf 115 = .ok (.goto 5, 3) := by decide +kernel
theorem dX12_faultOf_118 : decode cX12_faultOf 118 = .ok (.bipush (-9), 2) := by decide +kernel
theorem dX12_faultOf_120 : decode cX12_faultOf 120 = .ok (.ireturn, 1) := by decide +kernel
theorem dX12_postureOf_0 : decode cX12_postureOf 0 = .ok (.iload_n 0, 1) := by decide +kernel
theorem dX12_postureOf_1 : decode cX12_postureOf 1 = .ok (.bipush 115, 2) := by decide +kernel
theorem dX12_postureOf_3 : decode cX12_postureOf 3 = .ok (.if_icmp .ne 7, 3) := by decide +kernel
theorem dX12_postureOf_6 : decode cX12_postureOf 6 = .ok (.iconst 0, 1) := by decide +kernel
theorem dX12_postureOf_7 : decode cX12_postureOf 7 = .ok (.goto 25, 3) := by decide +kernel
theorem dX12_postureOf_10 : decode cX12_postureOf 10 = .ok (.iload_n 0, 1) := by decide +kernel
theorem dX12_postureOf_11 : decode cX12_postureOf 11 = .ok (.bipush 116, 2) := by decide +kernel
theorem dX12_postureOf_13 : decode cX12_postureOf 13 = .ok (.if_icmp .ne 7, 3) := by decide +kernel
theorem dX12_postureOf_16 : decode cX12_postureOf 16 = .ok (.iconst 1, 1) := by decide +kernel
theorem dX12_postureOf_17 : decode cX12_postureOf 17 = .ok (.goto 15, 3) := by decide +kernel
theorem dX12_postureOf_20 : decode cX12_postureOf 20 = .ok (.iload_n 0, 1) := by decide +kernel
theorem dX12_postureOf_21 : decode cX12_postureOf 21 = .ok (.bipush 107, 2) := by decide +kernel
theorem dX12_postureOf_23 : decode cX12_postureOf 23 = .ok (.if_icmp .ne 7, 3) := by decide +kernel
theorem dX12_postureOf_26 : decode cX12_postureOf 26 = .ok (.iconst 2, 1) := by decide +kernel
theorem dX12_postureOf_27 : decode cX12_postureOf 27 = .ok (.goto 5, 3) := by decide +kernel
theorem dX12_postureOf_30 : decode cX12_postureOf 30 = .ok (.bipush (-9), 2) := by decide +kernel
theorem dX12_postureOf_32 : decode cX12_postureOf 32 = .ok (.ireturn, 1) := by decide +kernel
theorem dX12_riteFault_0 : decode cX12_riteFault 0 = .ok (.iconst 0, 1) := by decide +kernel
theorem dX12_riteFault_1 : decode cX12_riteFault 1 = .ok (.istore_n 2, 1) := by decide +kernel
theorem dX12_riteFault_2 : decode cX12_riteFault 2 = .ok (.iconst 0, 1) := by decide +kernel
theorem dX12_riteFault_3 : decode cX12_riteFault 3 = .ok (.istore_n 3, 1) := by decide +kernel
theorem dX12_riteFault_4 : decode cX12_riteFault 4 = .ok (.iload_n 3, 1) := by decide +kernel
theorem dX12_riteFault_5 : decode cX12_riteFault 5 = .ok (.aload_n 0, 1) := by decide +kernel
theorem dX12_riteFault_6 : decode cX12_riteFault 6 = .ok (.getfield 22, 3) := by decide +kernel
theorem dX12_riteFault_9 : decode cX12_riteFault 9 = .ok (.iload_n 1, 1) := by decide +kernel
theorem dX12_riteFault_10 : decode cX12_riteFault 10 = .ok (.iaload, 1) := by decide +kernel
theorem dX12_riteFault_11 : decode cX12_riteFault 11 = .ok (.if_icmp .ge 45, 3) := by decide +kernel
theorem dX12_riteFault_14 : decode cX12_riteFault 14 = .ok (.aload_n 0, 1) := by decide +kernel
theorem dX12_riteFault_15 : decode cX12_riteFault 15 = .ok (.iload_n 1, 1) := by decide +kernel
theorem dX12_riteFault_16 : decode cX12_riteFault 16 = .ok (.iload_n 3, 1) := by decide +kernel
theorem dX12_riteFault_17 : decode cX12_riteFault 17 = .ok (.invokevirtual 144, 3) := by decide +kernel
theorem dX12_riteFault_20 : decode cX12_riteFault 20 = .ok (.istore 4, 2) := by decide +kernel
theorem dX12_riteFault_22 : decode cX12_riteFault 22 = .ok (.iload 4, 2) := by decide +kernel
theorem dX12_riteFault_24 : decode cX12_riteFault 24 = .ok (.bipush 32, 2) := by decide +kernel
theorem dX12_riteFault_26 : decode cX12_riteFault 26 = .ok (.if_icmp .eq 24, 3) := by decide +kernel
theorem dX12_riteFault_29 : decode cX12_riteFault 29 = .ok (.iload 4, 2) := by decide +kernel
theorem dX12_riteFault_31 : decode cX12_riteFault 31 = .ok (.invokestatic 168, 3) := by decide +kernel
theorem dX12_riteFault_34 : decode cX12_riteFault 34 = .ok (.bipush (-9), 2) := by decide +kernel
theorem dX12_riteFault_36 : decode cX12_riteFault 36 = .ok (.if_icmp .eq 9, 3) := by decide +kernel
theorem dX12_riteFault_39 : decode cX12_riteFault 39 = .ok (.iload_n 2, 1) := by decide +kernel
theorem dX12_riteFault_40 : decode cX12_riteFault 40 = .ok (.bipush 40, 2) := by decide +kernel
theorem dX12_riteFault_42 : decode cX12_riteFault 42 = .ok (.if_icmp .ne 5, 3) := by decide +kernel
theorem dX12_riteFault_45 : decode cX12_riteFault 45 = .ok (.iload_n 3, 1) := by decide +kernel
theorem dX12_riteFault_46 : decode cX12_riteFault 46 = .ok (.ireturn, 1) := by decide +kernel
theorem dX12_riteFault_47 : decode cX12_riteFault 47 = .ok (.iinc 2 1, 3) := by decide +kernel
theorem dX12_riteFault_50 : decode cX12_riteFault 50 = .ok (.iinc 3 1, 3) := by decide +kernel
theorem dX12_riteFault_53 : decode cX12_riteFault 53 = .ok (.goto (-49), 3) := by decide +kernel
theorem dX12_riteFault_56 : decode cX12_riteFault 56 = .ok (.iload_n 2, 1) := by decide +kernel
theorem dX12_riteFault_57 : decode cX12_riteFault 57 = .ok (.ifCond .ne 12, 3) := by decide +kernel
theorem dX12_riteFault_60 : decode cX12_riteFault 60 = .ok (.aload_n 0, 1) := by decide +kernel
theorem dX12_riteFault_61 : decode cX12_riteFault 61 = .ok (.getfield 22, 3) := by decide +kernel
theorem dX12_riteFault_64 : decode cX12_riteFault 64 = .ok (.iload_n 1, 1) := by decide +kernel
theorem dX12_riteFault_65 : decode cX12_riteFault 65 = .ok (.iaload, 1) := by decide +kernel
theorem dX12_riteFault_66 : decode cX12_riteFault 66 = .ok (.goto 5, 3) := by decide +kernel
theorem dX12_riteFault_69 : decode cX12_riteFault 69 = .ok (.bipush (-9), 2) := by decide +kernel
theorem dX12_riteFault_71 : decode cX12_riteFault 71 = .ok (.ireturn, 1) := by decide +kernel
theorem dX12_fault_0 : decode cX12_fault 0 = .ok (.iload_n 1, 1) := by decide +kernel
theorem dX12_fault_1 : decode cX12_fault 1 = .ok (.invokestatic 138, 3) := by decide +kernel
theorem dX12_fault_4 : decode cX12_fault 4 = .ok (.ifCond .ne 5, 3) := by decide +kernel
theorem dX12_fault_7 : decode cX12_fault 7 = .ok (.iconst (-1), 1) := by decide +kernel
theorem dX12_fault_8 : decode cX12_fault 8 = .ok (.ireturn, 1) := by decide +kernel
theorem dX12_fault_9 : decode cX12_fault 9 = .ok (.aload_n 0, 1) := by decide +kernel
theorem dX12_fault_10 : decode cX12_fault 10 = .ok (.getfield 22, 3) := by decide +kernel
theorem dX12_fault_13 : decode cX12_fault 13 = .ok (.iload_n 1, 1) := by decide +kernel
theorem dX12_fault_14 : decode cX12_fault 14 = .ok (.iaload, 1) := by decide +kernel
theorem dX12_fault_15 : decode cX12_fault 15 = .ok (.ifCond .ge 11, 3) := by decide +kernel
theorem dX12_fault_18 : decode cX12_fault 18 = .ok (.aload_n 0, 1) := by decide +kernel
theorem dX12_fault_19 : decode cX12_fault 19 = .ok (.iconst 1, 1) := by decide +kernel
theorem dX12_fault_20 : decode cX12_fault 20 = .ok (.invokevirtual 127, 3) := by decide +kernel
theorem dX12_fault_23 : decode cX12_fault 23 = .ok (.goto 20, 3) := by decide +kernel
theorem dX12_fault_26 : decode cX12_fault 26 = .ok (.iload_n 2, 1) := by decide +kernel
theorem dX12_fault_27 : decode cX12_fault 27 = .ok (.ifCond .eq 11, 3) := by decide +kernel
theorem dX12_fault_30 : decode cX12_fault 30 = .ok (.aload_n 0, 1) := by decide +kernel
theorem dX12_fault_31 : decode cX12_fault 31 = .ok (.iload_n 1, 1) := by decide +kernel
theorem dX12_fault_32 : decode cX12_fault 32 = .ok (.invokevirtual 171, 3) := by decide +kernel
theorem dX12_fault_35 : decode cX12_fault 35 = .ok (.goto 8, 3) := by decide +kernel
theorem dX12_fault_38 : decode cX12_fault 38 = .ok (.aload_n 0, 1) := by decide +kernel
theorem dX12_fault_39 : decode cX12_fault 39 = .ok (.iload_n 1, 1) := by decide +kernel
theorem dX12_fault_40 : decode cX12_fault 40 = .ok (.invokevirtual 174, 3) := by decide +kernel
theorem dX12_fault_43 : decode cX12_fault 43 = .ok (.ireturn, 1) := by decide +kernel
theorem dX12_barge_0 : decode cX12_barge 0 = .ok (.iload_n 1, 1) := by decide +kernel
theorem dX12_barge_1 : decode cX12_barge 1 = .ok (.invokestatic 138, 3) := by decide +kernel
theorem dX12_barge_4 : decode cX12_barge 4 = .ok (.ifCond .ne 5, 3) := by decide +kernel
theorem dX12_barge_7 : decode cX12_barge 7 = .ok (.iconst (-1), 1) := by decide +kernel
theorem dX12_barge_8 : decode cX12_barge 8 = .ok (.ireturn, 1) := by decide +kernel
theorem dX12_barge_9 : decode cX12_barge 9 = .ok (.aload_n 0, 1) := by decide +kernel
theorem dX12_barge_10 : decode cX12_barge 10 = .ok (.getfield 22, 3) := by decide +kernel
theorem dX12_barge_13 : decode cX12_barge 13 = .ok (.iload_n 1, 1) := by decide +kernel
theorem dX12_barge_14 : decode cX12_barge 14 = .ok (.iaload, 1) := by decide +kernel
theorem dX12_barge_15 : decode cX12_barge 15 = .ok (.ifCond .ge 9, 3) := by decide +kernel
theorem dX12_barge_18 : decode cX12_barge 18 = .ok (.aload_n 0, 1) := by decide +kernel
theorem dX12_barge_19 : decode cX12_barge 19 = .ok (.iconst 1, 1) := by decide +kernel
theorem dX12_barge_20 : decode cX12_barge 20 = .ok (.invokevirtual 127, 3) := by decide +kernel
theorem dX12_barge_23 : decode cX12_barge 23 = .ok (.ireturn, 1) := by decide +kernel
theorem dX12_barge_24 : decode cX12_barge 24 = .ok (.aload_n 0, 1) := by decide +kernel
theorem dX12_barge_25 : decode cX12_barge 25 = .ok (.iload_n 1, 1) := by decide +kernel
theorem dX12_barge_26 : decode cX12_barge 26 = .ok (.invokevirtual 174, 3) := by decide +kernel
theorem dX12_barge_29 : decode cX12_barge 29 = .ok (.bipush (-9), 2) := by decide +kernel
theorem dX12_barge_31 : decode cX12_barge 31 = .ok (.if_icmp .eq 6, 3) := by decide +kernel
theorem dX12_barge_34 : decode cX12_barge 34 = .ok (.bipush (-4), 2) := by decide +kernel
theorem dX12_barge_36 : decode cX12_barge 36 = .ok (.ireturn, 1) := by decide +kernel
theorem dX12_barge_37 : decode cX12_barge 37 = .ok (.aload_n 0, 1) := by decide +kernel
theorem dX12_barge_38 : decode cX12_barge 38 = .ok (.aload_n 0, 1) := by decide +kernel
theorem dX12_barge_39 : decode cX12_barge 39 = .ok (.getfield 153, 3) := by decide +kernel
theorem dX12_barge_42 : decode cX12_barge 42 = .ok (.putfield 177, 3) := by decide +kernel
theorem dX12_barge_45 : decode cX12_barge 45 = .ok (.aload_n 0, 1) := by decide +kernel
theorem dX12_barge_46 : decode cX12_barge 46 = .ok (.aload_n 0, 1) := by decide +kernel
theorem dX12_barge_47 : decode cX12_barge 47 = .ok (.getfield 150, 3) := by decide +kernel
theorem dX12_barge_50 : decode cX12_barge 50 = .ok (.putfield 180, 3) := by decide +kernel
theorem dX12_barge_53 : decode cX12_barge 53 = .ok (.iconst 0, 1) := by decide +kernel
theorem dX12_barge_54 : decode cX12_barge 54 = .ok (.istore_n 2, 1) := by decide +kernel
theorem dX12_barge_55 : decode cX12_barge 55 = .ok (.iload_n 2, 1) := by decide +kernel
theorem dX12_barge_56 : decode cX12_barge 56 = .ok (.aload_n 0, 1) := by decide +kernel
theorem dX12_barge_57 : decode cX12_barge 57 = .ok (.getfield 177, 3) := by decide +kernel
theorem dX12_barge_60 : decode cX12_barge 60 = .ok (.if_icmp .ge 21, 3) := by decide +kernel
theorem dX12_barge_63 : decode cX12_barge 63 = .ok (.aload_n 0, 1) := by decide +kernel
theorem dX12_barge_64 : decode cX12_barge 64 = .ok (.getfield 29, 3) := by decide +kernel
theorem dX12_barge_67 : decode cX12_barge 67 = .ok (.iload_n 2, 1) := by decide +kernel
theorem dX12_barge_68 : decode cX12_barge 68 = .ok (.aload_n 0, 1) := by decide +kernel
theorem dX12_barge_69 : decode cX12_barge 69 = .ok (.getfield 47, 3) := by decide +kernel
theorem dX12_barge_72 : decode cX12_barge 72 = .ok (.iload_n 2, 1) := by decide +kernel
theorem dX12_barge_73 : decode cX12_barge 73 = .ok (.iaload, 1) := by decide +kernel
theorem dX12_barge_74 : decode cX12_barge 74 = .ok (.iastore, 1) := by decide +kernel
theorem dX12_barge_75 : decode cX12_barge 75 = .ok (.iinc 2 1, 3) := by decide +kernel
theorem dX12_barge_78 : decode cX12_barge 78 = .ok (.goto (-23), 3) := by decide +kernel
theorem dX12_barge_81 : decode cX12_barge 81 = .ok (.iconst 0, 1) := by decide +kernel
theorem dX12_barge_82 : decode cX12_barge 82 = .ok (.istore_n 2, 1) := by decide +kernel
theorem dX12_barge_83 : decode cX12_barge 83 = .ok (.iload_n 2, 1) := by decide +kernel
theorem dX12_barge_84 : decode cX12_barge 84 = .ok (.aload_n 0, 1) := by decide +kernel
theorem dX12_barge_85 : decode cX12_barge 85 = .ok (.getfield 180, 3) := by decide +kernel
theorem dX12_barge_88 : decode cX12_barge 88 = .ok (.if_icmp .ge 53, 3) := by decide +kernel
theorem dX12_barge_91 : decode cX12_barge 91 = .ok (.aload_n 0, 1) := by decide +kernel
theorem dX12_barge_92 : decode cX12_barge 92 = .ok (.getfield 32, 3) := by decide +kernel
theorem dX12_barge_95 : decode cX12_barge 95 = .ok (.iload_n 2, 1) := by decide +kernel
theorem dX12_barge_96 : decode cX12_barge 96 = .ok (.aload_n 0, 1) := by decide +kernel
theorem dX12_barge_97 : decode cX12_barge 97 = .ok (.getfield 50, 3) := by decide +kernel
theorem dX12_barge_100 : decode cX12_barge 100 = .ok (.iload_n 2, 1) := by decide +kernel
theorem dX12_barge_101 : decode cX12_barge 101 = .ok (.iaload, 1) := by decide +kernel
theorem dX12_barge_102 : decode cX12_barge 102 = .ok (.iastore, 1) := by decide +kernel
theorem dX12_barge_103 : decode cX12_barge 103 = .ok (.aload_n 0, 1) := by decide +kernel
theorem dX12_barge_104 : decode cX12_barge 104 = .ok (.getfield 35, 3) := by decide +kernel
theorem dX12_barge_107 : decode cX12_barge 107 = .ok (.iload_n 2, 1) := by decide +kernel
theorem dX12_barge_108 : decode cX12_barge 108 = .ok (.aload_n 0, 1) := by decide +kernel
theorem dX12_barge_109 : decode cX12_barge 109 = .ok (.getfield 53, 3) := by decide +kernel
theorem dX12_barge_112 : decode cX12_barge 112 = .ok (.iload_n 2, 1) := by decide +kernel
theorem dX12_barge_113 : decode cX12_barge 113 = .ok (.iaload, 1) := by decide +kernel
theorem dX12_barge_114 : decode cX12_barge 114 = .ok (.iastore, 1) := by decide +kernel
theorem dX12_barge_115 : decode cX12_barge 115 = .ok (.aload_n 0, 1) := by decide +kernel
theorem dX12_barge_116 : decode cX12_barge 116 = .ok (.getfield 38, 3) := by decide +kernel
theorem dX12_barge_119 : decode cX12_barge 119 = .ok (.iload_n 2, 1) := by decide +kernel
theorem dX12_barge_120 : decode cX12_barge 120 = .ok (.aload_n 0, 1) := by decide +kernel
theorem dX12_barge_121 : decode cX12_barge 121 = .ok (.getfield 56, 3) := by decide +kernel
theorem dX12_barge_124 : decode cX12_barge 124 = .ok (.iload_n 2, 1) := by decide +kernel
theorem dX12_barge_125 : decode cX12_barge 125 = .ok (.iaload, 1) := by decide +kernel
theorem dX12_barge_126 : decode cX12_barge 126 = .ok (.iastore, 1) := by decide +kernel
theorem dX12_barge_127 : decode cX12_barge 127 = .ok (.aload_n 0, 1) := by decide +kernel
theorem dX12_barge_128 : decode cX12_barge 128 = .ok (.getfield 41, 3) := by decide +kernel
theorem dX12_barge_131 : decode cX12_barge 131 = .ok (.iload_n 2, 1) := by decide +kernel
theorem dX12_barge_132 : decode cX12_barge 132 = .ok (.bipush (-9), 2) := by decide +kernel
theorem dX12_barge_134 : decode cX12_barge 134 = .ok (.iastore, 1) := by decide +kernel
theorem dX12_barge_135 : decode cX12_barge 135 = .ok (.iinc 2 1, 3) := by decide +kernel
theorem dX12_barge_138 : decode cX12_barge 138 = .ok (.goto (-55), 3) := by decide +kernel
theorem dX12_barge_141 : decode cX12_barge 141 = .ok (.iconst 0, 1) := by decide +kernel
theorem dX12_barge_142 : decode cX12_barge 142 = .ok (.istore_n 2, 1) := by decide +kernel
theorem dX12_barge_143 : decode cX12_barge 143 = .ok (.iload_n 2, 1) := by decide +kernel
theorem dX12_barge_144 : decode cX12_barge 144 = .ok (.iconst 3, 1) := by decide +kernel
theorem dX12_barge_145 : decode cX12_barge 145 = .ok (.if_icmp .ge 16, 3) := by decide +kernel
theorem dX12_barge_148 : decode cX12_barge 148 = .ok (.aload_n 0, 1) := by decide +kernel
theorem dX12_barge_149 : decode cX12_barge 149 = .ok (.getfield 68, 3) := by decide +kernel
theorem dX12_barge_152 : decode cX12_barge 152 = .ok (.iload_n 2, 1) := by decide +kernel
theorem dX12_barge_153 : decode cX12_barge 153 = .ok (.iconst 0, 1) := by decide +kernel
theorem dX12_barge_154 : decode cX12_barge 154 = .ok (.bastore, 1) := by decide +kernel
theorem dX12_barge_155 : decode cX12_barge 155 = .ok (.iinc 2 1, 3) := by decide +kernel
theorem dX12_barge_158 : decode cX12_barge 158 = .ok (.goto (-15), 3) := by decide +kernel
theorem dX12_barge_161 : decode cX12_barge 161 = .ok (.aload_n 0, 1) := by decide +kernel
theorem dX12_barge_162 : decode cX12_barge 162 = .ok (.iconst 0, 1) := by decide +kernel
theorem dX12_barge_163 : decode cX12_barge 163 = .ok (.putfield 183, 3) := by decide +kernel
theorem dX12_barge_166 : decode cX12_barge 166 = .ok (.aload_n 0, 1) := by decide +kernel
theorem dX12_barge_167 : decode cX12_barge 167 = .ok (.iconst 0, 1) := by decide +kernel
theorem dX12_barge_168 : decode cX12_barge 168 = .ok (.putfield 186, 3) := by decide +kernel
theorem dX12_barge_171 : decode cX12_barge 171 = .ok (.aload_n 0, 1) := by decide +kernel
theorem dX12_barge_172 : decode cX12_barge 172 = .ok (.getfield 177, 3) := by decide +kernel
theorem dX12_barge_175 : decode cX12_barge 175 = .ok (.ireturn, 1) := by decide +kernel
theorem dX12_rite_0 : decode cX12_rite 0 = .ok (.iload_n 1, 1) := by decide +kernel
theorem dX12_rite_1 : decode cX12_rite 1 = .ok (.invokestatic 138, 3) := by decide +kernel
theorem dX12_rite_4 : decode cX12_rite 4 = .ok (.ifCond .ne 5, 3) := by decide +kernel
theorem dX12_rite_7 : decode cX12_rite 7 = .ok (.iconst (-1), 1) := by decide +kernel
theorem dX12_rite_8 : decode cX12_rite 8 = .ok (.ireturn, 1) := by decide +kernel
theorem dX12_rite_9 : decode cX12_rite 9 = .ok (.aload_n 0, 1) := by decide +kernel
theorem dX12_rite_10 : decode cX12_rite 10 = .ok (.getfield 22, 3) := by decide +kernel
theorem dX12_rite_13 : decode cX12_rite 13 = .ok (.iload_n 1, 1) := by decide +kernel
theorem dX12_rite_14 : decode cX12_rite 14 = .ok (.iaload, 1) := by decide +kernel
theorem dX12_rite_15 : decode cX12_rite 15 = .ok (.ifCond .ge 9, 3) := by decide +kernel
theorem dX12_rite_18 : decode cX12_rite 18 = .ok (.aload_n 0, 1) := by decide +kernel
theorem dX12_rite_19 : decode cX12_rite 19 = .ok (.iconst 1, 1) := by decide +kernel
theorem dX12_rite_20 : decode cX12_rite 20 = .ok (.invokevirtual 127, 3) := by decide +kernel
theorem dX12_rite_23 : decode cX12_rite 23 = .ok (.ireturn, 1) := by decide +kernel
theorem dX12_rite_24 : decode cX12_rite 24 = .ok (.aload_n 0, 1) := by decide +kernel
theorem dX12_rite_25 : decode cX12_rite 25 = .ok (.iload_n 1, 1) := by decide +kernel
theorem dX12_rite_26 : decode cX12_rite 26 = .ok (.invokevirtual 171, 3) := by decide +kernel
theorem dX12_rite_29 : decode cX12_rite 29 = .ok (.bipush (-9), 2) := by decide +kernel
theorem dX12_rite_31 : decode cX12_rite 31 = .ok (.if_icmp .eq 6, 3) := by decide +kernel
theorem dX12_rite_34 : decode cX12_rite 34 = .ok (.bipush (-4), 2) := by decide +kernel
theorem dX12_rite_36 : decode cX12_rite 36 = .ok (.ireturn, 1) := by decide +kernel
theorem dX12_rite_37 : decode cX12_rite 37 = .ok (.aload_n 0, 1) := by decide +kernel
theorem dX12_rite_38 : decode cX12_rite 38 = .ok (.iconst 0, 1) := by decide +kernel
theorem dX12_rite_39 : decode cX12_rite 39 = .ok (.putfield 106, 3) := by decide +kernel
theorem dX12_rite_42 : decode cX12_rite 42 = .ok (.iconst 0, 1) := by decide +kernel
theorem dX12_rite_43 : decode cX12_rite 43 = .ok (.istore_n 2, 1) := by decide +kernel
theorem dX12_rite_44 : decode cX12_rite 44 = .ok (.iload_n 2, 1) := by decide +kernel
theorem dX12_rite_45 : decode cX12_rite 45 = .ok (.aload_n 0, 1) := by decide +kernel
theorem dX12_rite_46 : decode cX12_rite 46 = .ok (.getfield 22, 3) := by decide +kernel
theorem dX12_rite_49 : decode cX12_rite 49 = .ok (.iload_n 1, 1) := by decide +kernel
theorem dX12_rite_50 : decode cX12_rite 50 = .ok (.iaload, 1) := by decide +kernel
theorem dX12_rite_51 : decode cX12_rite 51 = .ok (.if_icmp .ge 48, 3) := by decide +kernel
theorem dX12_rite_54 : decode cX12_rite 54 = .ok (.aload_n 0, 1) := by decide +kernel
theorem dX12_rite_55 : decode cX12_rite 55 = .ok (.iload_n 1, 1) := by decide +kernel
theorem dX12_rite_56 : decode cX12_rite 56 = .ok (.iload_n 2, 1) := by decide +kernel
theorem dX12_rite_57 : decode cX12_rite 57 = .ok (.invokevirtual 144, 3) := by decide +kernel
theorem dX12_rite_60 : decode cX12_rite 60 = .ok (.bipush 32, 2) := by decide +kernel
theorem dX12_rite_62 : decode cX12_rite 62 = .ok (.if_icmp .eq 31, 3) := by decide +kernel
theorem dX12_rite_65 : decode cX12_rite 65 = .ok (.aload_n 0, 1) := by decide +kernel
theorem dX12_rite_66 : decode cX12_rite 66 = .ok (.getfield 44, 3) := by decide +kernel
theorem dX12_rite_69 : decode cX12_rite 69 = .ok (.aload_n 0, 1) := by decide +kernel
theorem dX12_rite_70 : decode cX12_rite 70 = .ok (.getfield 106, 3) := by decide +kernel
theorem dX12_rite_73 : decode cX12_rite 73 = .ok (.aload_n 0, 1) := by decide +kernel
theorem dX12_rite_74 : decode cX12_rite 74 = .ok (.iload_n 1, 1) := by decide +kernel
theorem dX12_rite_75 : decode cX12_rite 75 = .ok (.iload_n 2, 1) := by decide +kernel
theorem dX12_rite_76 : decode cX12_rite 76 = .ok (.invokevirtual 144, 3) := by decide +kernel
theorem dX12_rite_79 : decode cX12_rite 79 = .ok (.invokestatic 168, 3) := by decide +kernel
theorem dX12_rite_82 : decode cX12_rite 82 = .ok (.iastore, 1) := by decide +kernel
theorem dX12_rite_83 : decode cX12_rite 83 = .ok (.aload_n 0, 1) := by decide +kernel
theorem dX12_rite_84 : decode cX12_rite 84 = .ok (.dup, 1) := by decide +kernel
theorem dX12_rite_85 : decode cX12_rite 85 = .ok (.getfield 106, 3) := by decide +kernel
theorem dX12_rite_88 : decode cX12_rite 88 = .ok (.iconst 1, 1) := by decide +kernel
theorem dX12_rite_89 : decode cX12_rite 89 = .ok (.iadd, 1) := by decide +kernel
theorem dX12_rite_90 : decode cX12_rite 90 = .ok (.putfield 106, 3) := by decide +kernel
theorem dX12_rite_93 : decode cX12_rite 93 = .ok (.iinc 2 1, 3) := by decide +kernel
theorem dX12_rite_96 : decode cX12_rite 96 = .ok (.goto (-52), 3) := by decide +kernel
theorem dX12_rite_99 : decode cX12_rite 99 = .ok (.aload_n 0, 1) := by decide +kernel
theorem dX12_rite_100 : decode cX12_rite 100 = .ok (.getfield 106, 3) := by decide +kernel
theorem dX12_rite_103 : decode cX12_rite 103 = .ok (.ireturn, 1) := by decide +kernel
theorem dX12_isBench_0 : decode cX12_isBench 0 = .ok (.iload_n 1, 1) := by decide +kernel
theorem dX12_isBench_1 : decode cX12_isBench 1 = .ok (.iconst 0, 1) := by decide +kernel
theorem dX12_isBench_2 : decode cX12_isBench 2 = .ok (.aload_n 0, 1) := by decide +kernel
theorem dX12_isBench_3 : decode cX12_isBench 3 = .ok (.getfield 177, 3) := by decide +kernel
theorem dX12_isBench_6 : decode cX12_isBench 6 = .ok (.iconst 1, 1) := by decide +kernel
theorem dX12_isBench_7 : decode cX12_isBench 7 = .ok (.isub, 1) := by decide +kernel
theorem dX12_isBench_8 : decode cX12_isBench 8 = .ok (.invokestatic 113, 3) := by decide +kernel
theorem dX12_isBench_11 : decode cX12_isBench 11 = .ok (.ireturn, 1) := by decide +kernel
theorem dX12_isGuest_0 : decode cX12_isGuest 0 = .ok (.iload_n 1, 1) := by decide +kernel
theorem dX12_isGuest_1 : decode cX12_isGuest 1 = .ok (.iconst 0, 1) := by decide +kernel
theorem dX12_isGuest_2 : decode cX12_isGuest 2 = .ok (.aload_n 0, 1) := by decide +kernel
theorem dX12_isGuest_3 : decode cX12_isGuest 3 = .ok (.getfield 180, 3) := by decide +kernel
theorem dX12_isGuest_6 : decode cX12_isGuest 6 = .ok (.iconst 1, 1) := by decide +kernel
theorem dX12_isGuest_7 : decode cX12_isGuest 7 = .ok (.isub, 1) := by decide +kernel
theorem dX12_isGuest_8 : decode cX12_isGuest 8 = .ok (.invokestatic 113, 3) := by decide +kernel
theorem dX12_isGuest_11 : decode cX12_isGuest 11 = .ok (.ireturn, 1) := by decide +kernel
theorem dX12_weighs_0 : decode cX12_weighs 0 = .ok (.aload_n 0, 1) := by decide +kernel
theorem dX12_weighs_1 : decode cX12_weighs 1 = .ok (.getfield 32, 3) := by decide +kernel
theorem dX12_weighs_4 : decode cX12_weighs 4 = .ok (.iload_n 1, 1) := by decide +kernel
theorem dX12_weighs_5 : decode cX12_weighs 5 = .ok (.iaload, 1) := by decide +kernel
theorem dX12_weighs_6 : decode cX12_weighs 6 = .ok (.iconst 2, 1) := by decide +kernel
theorem dX12_weighs_7 : decode cX12_weighs 7 = .ok (.if_icmp .eq 13, 3) := by decide +kernel
theorem dX12_weighs_10 : decode cX12_weighs 10 = .ok (.aload_n 0, 1) := by decide +kernel
theorem dX12_weighs_11 : decode cX12_weighs 11 = .ok (.getfield 32, 3) := by decide +kernel
theorem dX12_weighs_14 : decode cX12_weighs 14 = .ok (.iload_n 1, 1) := by decide +kernel
theorem dX12_weighs_15 : decode cX12_weighs 15 = .ok (.iaload, 1) := by decide +kernel
theorem dX12_weighs_16 : decode cX12_weighs 16 = .ok (.iconst 5, 1) := by decide +kernel
theorem dX12_weighs_17 : decode cX12_weighs 17 = .ok (.if_icmp .ne 14, 3) := by decide +kernel
theorem dX12_weighs_20 : decode cX12_weighs 20 = .ok (.iconst 2, 1) := by decide +kernel
theorem dX12_weighs_21 : decode cX12_weighs 21 = .ok (.aload_n 0, 1) := by decide +kernel
theorem dX12_weighs_22 : decode cX12_weighs 22 = .ok (.getfield 35, 3) := by decide +kernel
theorem dX12_weighs_25 : decode cX12_weighs 25 = .ok (.iload_n 1, 1) := by decide +kernel
theorem dX12_weighs_26 : decode cX12_weighs 26 = .ok (.iaload, 1) := by decide +kernel
theorem dX12_weighs_27 : decode cX12_weighs 27 = .ok (.imul, 1) := by decide +kernel
theorem dX12_weighs_28 : decode cX12_weighs 28 = .ok (.goto 9, 3) := by decide +kernel
theorem dX12_weighs_31 : decode cX12_weighs 31 = .ok (.aload_n 0, 1) := by decide +kernel
theorem dX12_weighs_32 : decode cX12_weighs 32 = .ok (.getfield 35, 3) := by decide +kernel
theorem dX12_weighs_35 : decode cX12_weighs 35 = .ok (.iload_n 1, 1) := by decide +kernel
theorem dX12_weighs_36 : decode cX12_weighs 36 = .ok (.iaload, 1) := by decide +kernel
theorem dX12_weighs_37 : decode cX12_weighs 37 = .ok (.ireturn, 1) := by decide +kernel
theorem dX12_outOf_0 : decode cX12_outOf 0 = .ok (.aload_n 0, 1) := by decide +kernel
theorem dX12_outOf_1 : decode cX12_outOf 1 = .ok (.getfield 29, 3) := by decide +kernel
theorem dX12_outOf_4 : decode cX12_outOf 4 = .ok (.iload_n 2, 1) := by decide +kernel
theorem dX12_outOf_5 : decode cX12_outOf 5 = .ok (.iaload, 1) := by decide +kernel
theorem dX12_outOf_6 : decode cX12_outOf 6 = .ok (.istore 4, 2) := by decide +kernel
theorem dX12_outOf_8 : decode cX12_outOf 8 = .ok (.aload_n 0, 1) := by decide +kernel
theorem dX12_outOf_9 : decode cX12_outOf 9 = .ok (.getfield 32, 3) := by decide +kernel
theorem dX12_outOf_12 : decode cX12_outOf 12 = .ok (.iload_n 1, 1) := by decide +kernel
theorem dX12_outOf_13 : decode cX12_outOf 13 = .ok (.iaload, 1) := by decide +kernel
theorem dX12_outOf_14 : decode cX12_outOf 14 = .ok (.istore 5, 2) := by decide +kernel
theorem dX12_outOf_16 : decode cX12_outOf 16 = .ok (.iload 4, 2) := by decide +kernel
theorem dX12_outOf_18 : decode cX12_outOf 18 = .ok (.invokestatic 189, 3) := by decide +kernel
theorem dX12_outOf_21 : decode cX12_outOf 21 = .ok (.istore 6, 2) := by decide +kernel
theorem dX12_outOf_23 : decode cX12_outOf 23 = .ok (.iload_n 3, 1) := by decide +kernel
theorem dX12_outOf_24 : decode cX12_outOf 24 = .ok (.iconst 1, 1) := by decide +kernel
theorem dX12_outOf_25 : decode cX12_outOf 25 = .ok (.if_icmp .ne 29, 3) := by decide +kernel
theorem dX12_outOf_28 : decode cX12_outOf 28 = .ok (.iload 6, 2) := by decide +kernel
theorem dX12_outOf_30 : decode cX12_outOf 30 = .ok (.iload 5, 2) := by decide +kernel
theorem dX12_outOf_32 : decode cX12_outOf 32 = .ok (.iconst 1, 1) := by decide +kernel
theorem dX12_outOf_33 : decode cX12_outOf 33 = .ok (.if_icmp .ne 7, 3) := by decide +kernel
theorem dX12_outOf_36 : decode cX12_outOf 36 = .ok (.iconst 1, 1) := by decide +kernel
theorem dX12_outOf_37 : decode cX12_outOf 37 = .ok (.goto 14, 3) := by decide +kernel
theorem dX12_outOf_40 : decode cX12_outOf 40 = .ok (.iload 5, 2) := by decide +kernel
theorem dX12_outOf_42 : decode cX12_outOf 42 = .ok (.iconst 4, 1) := by decide +kernel
theorem dX12_outOf_43 : decode cX12_outOf 43 = .ok (.if_icmp .ne 7, 3) := by decide +kernel
theorem dX12_outOf_46 : decode cX12_outOf 46 = .ok (.iconst 2, 1) := by decide +kernel
theorem dX12_outOf_47 : decode cX12_outOf 47 = .ok (.goto 4, 3) := by decide +kernel
theorem dX12_outOf_50 : decode cX12_outOf 50 = .ok (.iconst 0, 1) := by decide +kernel
theorem dX12_outOf_51 : decode cX12_outOf 51 = .ok (.iadd, 1) := by decide +kernel
theorem dX12_outOf_52 : decode cX12_outOf 52 = .ok (.istore 6, 2) := by decide +kernel
theorem dX12_outOf_54 : decode cX12_outOf 54 = .ok (.iload_n 3, 1) := by decide +kernel
theorem dX12_outOf_55 : decode cX12_outOf 55 = .ok (.iconst 2, 1) := by decide +kernel
theorem dX12_outOf_56 : decode cX12_outOf 56 = .ok (.if_icmp .ne 33, 3) := by decide +kernel
theorem dX12_outOf_59 : decode cX12_outOf 59 = .ok (.iconst 0, 1) := by decide +kernel
theorem dX12_outOf_60 : decode cX12_outOf 60 = .ok (.iload 6, 2) := by decide +kernel
theorem dX12_outOf_62 : decode cX12_outOf 62 = .ok (.iload 5, 2) := by decide +kernel
theorem dX12_outOf_64 : decode cX12_outOf 64 = .ok (.iconst 2, 1) := by decide +kernel
theorem dX12_outOf_65 : decode cX12_outOf 65 = .ok (.if_icmp .ne 7, 3) := by decide +kernel
theorem dX12_outOf_68 : decode cX12_outOf 68 = .ok (.iconst 1, 1) := by decide +kernel
theorem dX12_outOf_69 : decode cX12_outOf 69 = .ok (.goto 14, 3) := by decide +kernel
theorem dX12_outOf_72 : decode cX12_outOf 72 = .ok (.iload 5, 2) := by decide +kernel
theorem dX12_outOf_74 : decode cX12_outOf 74 = .ok (.iconst 5, 1) := by decide +kernel
theorem dX12_outOf_75 : decode cX12_outOf 75 = .ok (.if_icmp .ne 7, 3) := by decide +kernel
theorem dX12_outOf_78 : decode cX12_outOf 78 = .ok (.iconst 2, 1) := by decide +kernel
theorem dX12_outOf_79 : decode cX12_outOf 79 = .ok (.goto 4, 3) := by decide +kernel
theorem dX12_outOf_82 : decode cX12_outOf 82 = .ok (.iconst 0, 1) := by decide +kernel
theorem dX12_outOf_83 : decode cX12_outOf 83 = .ok (.isub, 1) := by decide +kernel
theorem dX12_outOf_84 : decode cX12_outOf 84 = .ok (.invokestatic 192, 3) := by decide +kernel
theorem dX12_outOf_87 : decode cX12_outOf 87 = .ok (.istore 6, 2) := by decide +kernel
theorem dX12_outOf_89 : decode cX12_outOf 89 = .ok (.iload 4, 2) := by decide +kernel
theorem dX12_outOf_91 : decode cX12_outOf 91 = .ok (.ifCond .ne 7, 3) := by decide +kernel
theorem dX12_outOf_94 : decode cX12_outOf 94 = .ok (.iconst 0, 1) := by decide +kernel
theorem dX12_outOf_95 : decode cX12_outOf 95 = .ok (.goto 5, 3) := by decide +kernel
theorem dX12_outOf_98 : decode cX12_outOf 98 = .ok (.iload 6, 2) := by decide +kernel
theorem dX12_outOf_100 : decode cX12_outOf 100 = .ok (.ireturn, 1) := by decide +kernel
theorem dX12_momentOf_0 : decode cX12_momentOf 0 = .ok (.aload_n 0, 1) := by decide +kernel
theorem dX12_momentOf_1 : decode cX12_momentOf 1 = .ok (.getfield 29, 3) := by decide +kernel
theorem dX12_momentOf_4 : decode cX12_momentOf 4 = .ok (.iload_n 2, 1) := by decide +kernel
theorem dX12_momentOf_5 : decode cX12_momentOf 5 = .ok (.iaload, 1) := by decide +kernel
theorem dX12_momentOf_6 : decode cX12_momentOf 6 = .ok (.ifCond .ge 7, 3) := by decide +kernel
theorem dX12_momentOf_9 : decode cX12_momentOf 9 = .ok (.iconst (-1), 1) := by decide +kernel
theorem dX12_momentOf_10 : decode cX12_momentOf 10 = .ok (.goto 4, 3) := by decide +kernel
theorem dX12_momentOf_13 : decode cX12_momentOf 13 = .ok (.iconst 1, 1) := by decide +kernel
theorem dX12_momentOf_14 : decode cX12_momentOf 14 = .ok (.aload_n 0, 1) := by decide +kernel
theorem dX12_momentOf_15 : decode cX12_momentOf 15 = .ok (.iload_n 1, 1) := by decide +kernel
theorem dX12_momentOf_16 : decode cX12_momentOf 16 = .ok (.iload_n 2, 1) := by decide +kernel
theorem dX12_momentOf_17 : decode cX12_momentOf 17 = .ok (.iload_n 3, 1) := by decide +kernel
theorem dX12_momentOf_18 : decode cX12_momentOf 18 = .ok (.invokevirtual 195, 3) := by decide +kernel
theorem dX12_momentOf_21 : decode cX12_momentOf 21 = .ok (.imul, 1) := by decide +kernel
theorem dX12_momentOf_22 : decode cX12_momentOf 22 = .ok (.aload_n 0, 1) := by decide +kernel
theorem dX12_momentOf_23 : decode cX12_momentOf 23 = .ok (.iload_n 1, 1) := by decide +kernel
theorem dX12_momentOf_24 : decode cX12_momentOf 24 = .ok (.invokevirtual 199, 3) := by decide +kernel
theorem dX12_momentOf_27 : decode cX12_momentOf 27 = .ok (.imul, 1) := by decide +kernel
theorem dX12_momentOf_28 : decode cX12_momentOf 28 = .ok (.ireturn, 1) := by decide +kernel
theorem dX12_listOf_0 : decode cX12_listOf 0 = .ok (.iload_n 2, 1) := by decide +kernel
theorem dX12_listOf_1 : decode cX12_listOf 1 = .ok (.istore_n 3, 1) := by decide +kernel
theorem dX12_listOf_2 : decode cX12_listOf 2 = .ok (.iconst 0, 1) := by decide +kernel
theorem dX12_listOf_3 : decode cX12_listOf 3 = .ok (.istore 4, 2) := by decide +kernel
theorem dX12_listOf_5 : decode cX12_listOf 5 = .ok (.iload 4, 2) := by decide +kernel
theorem dX12_listOf_7 : decode cX12_listOf 7 = .ok (.aload_n 0, 1) := by decide +kernel
theorem dX12_listOf_8 : decode cX12_listOf 8 = .ok (.getfield 180, 3) := by decide +kernel
theorem dX12_listOf_11 : decode cX12_listOf 11 = .ok (.if_icmp .ge 42, 3) := by decide +kernel
theorem dX12_listOf_14 : decode cX12_listOf 14 = .ok (.iload_n 3, 1) := by decide +kernel
theorem dX12_listOf_15 : decode cX12_listOf 15 = .ok (.aload_n 0, 1) := by decide +kernel
theorem dX12_listOf_16 : decode cX12_listOf 16 = .ok (.getfield 41, 3) := by decide +kernel
theorem dX12_listOf_19 : decode cX12_listOf 19 = .ok (.iload 4, 2) := by decide +kernel
theorem dX12_listOf_21 : decode cX12_listOf 21 = .ok (.iaload, 1) := by decide +kernel
theorem dX12_listOf_22 : decode cX12_listOf 22 = .ok (.bipush (-9), 2) := by decide +kernel
theorem dX12_listOf_24 : decode cX12_listOf 24 = .ok (.if_icmp .ne 7, 3) := by decide +kernel
theorem dX12_listOf_27 : decode cX12_listOf 27 = .ok (.iconst 0, 1) := by decide +kernel
theorem dX12_listOf_28 : decode cX12_listOf 28 = .ok (.goto 17, 3) := by decide +kernel
theorem dX12_listOf_31 : decode cX12_listOf 31 = .ok (.aload_n 0, 1) := by decide +kernel
theorem dX12_listOf_32 : decode cX12_listOf 32 = .ok (.iload 4, 2) := by decide +kernel
theorem dX12_listOf_34 : decode cX12_listOf 34 = .ok (.aload_n 0, 1) := by decide +kernel
theorem dX12_listOf_35 : decode cX12_listOf 35 = .ok (.getfield 41, 3) := by decide +kernel
theorem dX12_listOf_38 : decode cX12_listOf 38 = .ok (.iload 4, 2) := by decide +kernel
theorem dX12_listOf_40 : decode cX12_listOf 40 = .ok (.iaload, 1) := by decide +kernel
theorem dX12_listOf_41 : decode cX12_listOf 41 = .ok (.iload_n 1, 1) := by decide +kernel
theorem dX12_listOf_42 : decode cX12_listOf 42 = .ok (.invokevirtual 202, 3) := by decide +kernel
theorem dX12_listOf_45 : decode cX12_listOf 45 = .ok (.iadd, 1) := by decide +kernel
theorem dX12_listOf_46 : decode cX12_listOf 46 = .ok (.istore_n 3, 1) := by decide +kernel
theorem dX12_listOf_47 : decode cX12_listOf 47 = .ok (.iinc 4 1, 3) := by decide +kernel
theorem dX12_listOf_50 : decode cX12_listOf 50 = .ok (.goto (-45), 3) := by decide +kernel
theorem dX12_listOf_53 : decode cX12_listOf 53 = .ok (.iload_n 3, 1) := by decide +kernel
theorem dX12_listOf_54 : decode cX12_listOf 54 = .ok (.ireturn, 1) := by decide +kernel
theorem dX12_isLevel_0 : decode cX12_isLevel 0 = .ok (.iload_n 1, 1) := by decide +kernel
theorem dX12_isLevel_1 : decode cX12_isLevel 1 = .ok (.invokestatic 189, 3) := by decide +kernel
theorem dX12_isLevel_4 : decode cX12_isLevel 4 = .ok (.aload_n 0, 1) := by decide +kernel
theorem dX12_isLevel_5 : decode cX12_isLevel 5 = .ok (.getfield 205, 3) := by decide +kernel
theorem dX12_isLevel_8 : decode cX12_isLevel 8 = .ok (.if_icmp .gt 7, 3) := by decide +kernel
theorem dX12_isLevel_11 : decode cX12_isLevel 11 = .ok (.iconst 1, 1) := by decide +kernel
theorem dX12_isLevel_12 : decode cX12_isLevel 12 = .ok (.goto 4, 3) := by decide +kernel
theorem dX12_isLevel_15 : decode cX12_isLevel 15 = .ok (.iconst 0, 1) := by decide +kernel
theorem dX12_isLevel_16 : decode cX12_isLevel 16 = .ok (.ireturn, 1) := by decide +kernel
theorem dX12_takenOn_0 : decode cX12_takenOn 0 = .ok (.iconst 0, 1) := by decide +kernel
theorem dX12_takenOn_1 : decode cX12_takenOn 1 = .ok (.istore_n 2, 1) := by decide +kernel
theorem dX12_takenOn_2 : decode cX12_takenOn 2 = .ok (.iconst 0, 1) := by decide +kernel
theorem dX12_takenOn_3 : decode cX12_takenOn 3 = .ok (.istore_n 3, 1) := by decide +kernel
theorem dX12_takenOn_4 : decode cX12_takenOn 4 = .ok (.iload_n 3, 1) := by decide +kernel
theorem dX12_takenOn_5 : decode cX12_takenOn 5 = .ok (.aload_n 0, 1) := by decide +kernel
theorem dX12_takenOn_6 : decode cX12_takenOn 6 = .ok (.getfield 180, 3) := by decide +kernel
theorem dX12_takenOn_9 : decode cX12_takenOn 9 = .ok (.if_icmp .ge 37, 3) := by decide +kernel
theorem dX12_takenOn_12 : decode cX12_takenOn 12 = .ok (.iload_n 2, 1) := by decide +kernel
theorem dX12_takenOn_13 : decode cX12_takenOn 13 = .ok (.aload_n 0, 1) := by decide +kernel
theorem dX12_takenOn_14 : decode cX12_takenOn 14 = .ok (.getfield 41, 3) := by decide +kernel
theorem dX12_takenOn_17 : decode cX12_takenOn 17 = .ok (.iload_n 3, 1) := by decide +kernel
theorem dX12_takenOn_18 : decode cX12_takenOn 18 = .ok (.iaload, 1) := by decide +kernel
theorem dX12_takenOn_19 : decode cX12_takenOn 19 = .ok (.iload_n 1, 1) := by decide +kernel
theorem dX12_takenOn_20 : decode cX12_takenOn 20 = .ok (.if_icmp .ne 17, 3) := by decide +kernel
theorem dX12_takenOn_23 : decode cX12_takenOn 23 = .ok (.aload_n 0, 1) := by decide +kernel
theorem dX12_takenOn_24 : decode cX12_takenOn 24 = .ok (.getfield 32, 3) := by decide +kernel
theorem dX12_takenOn_27 : decode cX12_takenOn 27 = .ok (.iload_n 3, 1) := by decide +kernel
theorem dX12_takenOn_28 : decode cX12_takenOn 28 = .ok (.iaload, 1) := by decide +kernel
theorem dX12_takenOn_29 : decode cX12_takenOn 29 = .ok (.iconst 3, 1) := by decide +kernel
theorem dX12_takenOn_30 : decode cX12_takenOn 30 = .ok (.if_icmp .eq 7, 3) := by decide +kernel
theorem dX12_takenOn_33 : decode cX12_takenOn 33 = .ok (.iconst 1, 1) := by decide +kernel
theorem dX12_takenOn_34 : decode cX12_takenOn 34 = .ok (.goto 4, 3) := by decide +kernel
theorem dX12_takenOn_37 : decode cX12_takenOn 37 = .ok (.iconst 0, 1) := by decide +kernel
theorem dX12_takenOn_38 : decode cX12_takenOn 38 = .ok (.iadd, 1) := by decide +kernel
theorem dX12_takenOn_39 : decode cX12_takenOn 39 = .ok (.istore_n 2, 1) := by decide +kernel
theorem dX12_takenOn_40 : decode cX12_takenOn 40 = .ok (.iinc 3 1, 3) := by decide +kernel
theorem dX12_takenOn_43 : decode cX12_takenOn 43 = .ok (.goto (-39), 3) := by decide +kernel
theorem dX12_takenOn_46 : decode cX12_takenOn 46 = .ok (.iload_n 2, 1) := by decide +kernel
theorem dX12_takenOn_47 : decode cX12_takenOn 47 = .ok (.ireturn, 1) := by decide +kernel
theorem dX12_setOn_0 : decode cX12_setOn 0 = .ok (.iconst 0, 1) := by decide +kernel
theorem dX12_setOn_1 : decode cX12_setOn 1 = .ok (.istore_n 2, 1) := by decide +kernel
theorem dX12_setOn_2 : decode cX12_setOn 2 = .ok (.iconst 0, 1) := by decide +kernel
theorem dX12_setOn_3 : decode cX12_setOn 3 = .ok (.istore_n 3, 1) := by decide +kernel
theorem dX12_setOn_4 : decode cX12_setOn 4 = .ok (.iload_n 3, 1) := by decide +kernel
theorem dX12_setOn_5 : decode cX12_setOn 5 = .ok (.aload_n 0, 1) := by decide +kernel
theorem dX12_setOn_6 : decode cX12_setOn 6 = .ok (.getfield 180, 3) := by decide +kernel
theorem dX12_setOn_9 : decode cX12_setOn 9 = .ok (.if_icmp .ge 29, 3) := by decide +kernel
theorem dX12_setOn_12 : decode cX12_setOn 12 = .ok (.iload_n 2, 1) := by decide +kernel
theorem dX12_setOn_13 : decode cX12_setOn 13 = .ok (.aload_n 0, 1) := by decide +kernel
theorem dX12_setOn_14 : decode cX12_setOn 14 = .ok (.getfield 41, 3) := by decide +kernel
theorem dX12_setOn_17 : decode cX12_setOn 17 = .ok (.iload_n 3, 1) := by decide +kernel
theorem dX12_setOn_18 : decode cX12_setOn 18 = .ok (.iaload, 1) := by decide +kernel
theorem dX12_setOn_19 : decode cX12_setOn 19 = .ok (.iload_n 1, 1) := by decide +kernel
theorem dX12_setOn_20 : decode cX12_setOn 20 = .ok (.if_icmp .ne 9, 3) := by decide +kernel
theorem dX12_setOn_23 : decode cX12_setOn 23 = .ok (.iconst 1, 1) := by decide +kernel
theorem dX12_setOn_24 : decode cX12_setOn 24 = .ok (.iload_n 3, 1) := by decide +kernel
theorem dX12_setOn_25 : decode cX12_setOn 25 = .ok (.ishl, 1) := by decide +kernel
theorem dX12_setOn_26 : decode cX12_setOn 26 = .ok (.goto 4, 3) := by decide +kernel
theorem dX12_setOn_29 : decode cX12_setOn 29 = .ok (.iconst 0, 1) := by decide +kernel
theorem dX12_setOn_30 : decode cX12_setOn 30 = .ok (.ior, 1) := by decide +kernel
theorem dX12_setOn_31 : decode cX12_setOn 31 = .ok (.istore_n 2, 1) := by decide +kernel
theorem dX12_setOn_32 : decode cX12_setOn 32 = .ok (.iinc 3 1, 3) := by decide +kernel
theorem dX12_setOn_35 : decode cX12_setOn 35 = .ok (.goto (-31), 3) := by decide +kernel
theorem dX12_setOn_38 : decode cX12_setOn 38 = .ok (.iload_n 2, 1) := by decide +kernel
theorem dX12_setOn_39 : decode cX12_setOn 39 = .ok (.ireturn, 1) := by decide +kernel
theorem dX12_weightOn_0 : decode cX12_weightOn 0 = .ok (.iconst 0, 1) := by decide +kernel
theorem dX12_weightOn_1 : decode cX12_weightOn 1 = .ok (.istore_n 2, 1) := by decide +kernel
theorem dX12_weightOn_2 : decode cX12_weightOn 2 = .ok (.iconst 0, 1) := by decide +kernel
theorem dX12_weightOn_3 : decode cX12_weightOn 3 = .ok (.istore_n 3, 1) := by decide +kernel
theorem dX12_weightOn_4 : decode cX12_weightOn 4 = .ok (.iload_n 3, 1) := by decide +kernel
theorem dX12_weightOn_5 : decode cX12_weightOn 5 = .ok (.aload_n 0, 1) := by decide +kernel
theorem dX12_weightOn_6 : decode cX12_weightOn 6 = .ok (.getfield 180, 3) := by decide +kernel
theorem dX12_weightOn_9 : decode cX12_weightOn 9 = .ok (.if_icmp .ge 31, 3) := by decide +kernel
theorem dX12_weightOn_12 : decode cX12_weightOn 12 = .ok (.iload_n 2, 1) := by decide +kernel
theorem dX12_weightOn_13 : decode cX12_weightOn 13 = .ok (.aload_n 0, 1) := by decide +kernel
theorem dX12_weightOn_14 : decode cX12_weightOn 14 = .ok (.getfield 41, 3) := by decide +kernel
theorem dX12_weightOn_17 : decode cX12_weightOn 17 = .ok (.iload_n 3, 1) := by decide +kernel
theorem dX12_weightOn_18 : decode cX12_weightOn 18 = .ok (.iaload, 1) := by decide +kernel
theorem dX12_weightOn_19 : decode cX12_weightOn 19 = .ok (.iload_n 1, 1) := by decide +kernel
theorem dX12_weightOn_20 : decode cX12_weightOn 20 = .ok (.if_icmp .ne 11, 3) := by decide +kernel
theorem dX12_weightOn_23 : decode cX12_weightOn 23 = .ok (.aload_n 0, 1) := by decide +kernel
theorem dX12_weightOn_24 : decode cX12_weightOn 24 = .ok (.iload_n 3, 1) := by decide +kernel
theorem dX12_weightOn_25 : decode cX12_weightOn 25 = .ok (.invokevirtual 199, 3) := by decide +kernel
theorem dX12_weightOn_28 : decode cX12_weightOn 28 = .ok (.goto 4, 3) := by decide +kernel
theorem dX12_weightOn_31 : decode cX12_weightOn 31 = .ok (.iconst 0, 1) := by decide +kernel
theorem dX12_weightOn_32 : decode cX12_weightOn 32 = .ok (.iadd, 1) := by decide +kernel
theorem dX12_weightOn_33 : decode cX12_weightOn 33 = .ok (.istore_n 2, 1) := by decide +kernel
theorem dX12_weightOn_34 : decode cX12_weightOn 34 = .ok (.iinc 3 1, 3) := by decide +kernel
theorem dX12_weightOn_37 : decode cX12_weightOn 37 = .ok (.goto (-33), 3) := by decide +kernel
theorem dX12_weightOn_40 : decode cX12_weightOn 40 = .ok (.iload_n 2, 1) := by decide +kernel
theorem dX12_weightOn_41 : decode cX12_weightOn 41 = .ok (.ireturn, 1) := by decide +kernel
theorem dX12_benchTells_0 : decode cX12_benchTells 0 = .ok (.iload_n 2, 1) := by decide +kernel
theorem dX12_benchTells_1 : decode cX12_benchTells 1 = .ok (.ifCond .ne 12, 3) := by decide +kernel
theorem dX12_benchTells_4 : decode cX12_benchTells 4 = .ok (.aload_n 0, 1) := by decide +kernel
theorem dX12_benchTells_5 : decode cX12_benchTells 5 = .ok (.getfield 29, 3) := by decide +kernel
theorem dX12_benchTells_8 : decode cX12_benchTells 8 = .ok (.iload_n 1, 1) := by decide +kernel
theorem dX12_benchTells_9 : decode cX12_benchTells 9 = .ok (.iaload, 1) := by decide +kernel
theorem dX12_benchTells_10 : decode cX12_benchTells 10 = .ok (.goto 34, 3) := by decide +kernel
theorem dX12_benchTells_13 : decode cX12_benchTells 13 = .ok (.iload_n 2, 1) := by decide +kernel
theorem dX12_benchTells_14 : decode cX12_benchTells 14 = .ok (.iconst 1, 1) := by decide +kernel
theorem dX12_benchTells_15 : decode cX12_benchTells 15 = .ok (.if_icmp .ne 11, 3) := by decide +kernel
theorem dX12_benchTells_18 : decode cX12_benchTells 18 = .ok (.aload_n 0, 1) := by decide +kernel
theorem dX12_benchTells_19 : decode cX12_benchTells 19 = .ok (.iload_n 1, 1) := by decide +kernel
theorem dX12_benchTells_20 : decode cX12_benchTells 20 = .ok (.invokevirtual 208, 3) := by decide +kernel
theorem dX12_benchTells_23 : decode cX12_benchTells 23 = .ok (.goto 21, 3) := by decide +kernel
theorem dX12_benchTells_26 : decode cX12_benchTells 26 = .ok (.iload_n 2, 1) := by decide +kernel
theorem dX12_benchTells_27 : decode cX12_benchTells 27 = .ok (.iconst 2, 1) := by decide +kernel
theorem dX12_benchTells_28 : decode cX12_benchTells 28 = .ok (.if_icmp .ne 11, 3) := by decide +kernel
theorem dX12_benchTells_31 : decode cX12_benchTells 31 = .ok (.aload_n 0, 1) := by decide +kernel
theorem dX12_benchTells_32 : decode cX12_benchTells 32 = .ok (.iload_n 1, 1) := by decide +kernel
theorem dX12_benchTells_33 : decode cX12_benchTells 33 = .ok (.invokevirtual 211, 3) := by decide +kernel
theorem dX12_benchTells_36 : decode cX12_benchTells 36 = .ok (.goto 8, 3) := by decide +kernel
theorem dX12_benchTells_39 : decode cX12_benchTells 39 = .ok (.aload_n 0, 1) := by decide +kernel
theorem dX12_benchTells_40 : decode cX12_benchTells 40 = .ok (.iload_n 1, 1) := by decide +kernel
theorem dX12_benchTells_41 : decode cX12_benchTells 41 = .ok (.invokevirtual 214, 3) := by decide +kernel
theorem dX12_benchTells_44 : decode cX12_benchTells 44 = .ok (.ireturn, 1) := by decide +kernel
theorem dX12_bench_0 : decode cX12_bench 0 = .ok (.aload_n 0, 1) := by decide +kernel
theorem dX12_bench_1 : decode cX12_bench 1 = .ok (.iload_n 1, 1) := by decide +kernel
theorem dX12_bench_2 : decode cX12_bench 2 = .ok (.invokevirtual 217, 3) := by decide +kernel
theorem dX12_bench_5 : decode cX12_bench 5 = .ok (.ifCond .eq 26, 3) := by decide +kernel
theorem dX12_bench_8 : decode cX12_bench 8 = .ok (.iload_n 2, 1) := by decide +kernel
theorem dX12_bench_9 : decode cX12_bench 9 = .ok (.iconst 0, 1) := by decide +kernel
theorem dX12_bench_10 : decode cX12_bench 10 = .ok (.iconst 3, 1) := by decide +kernel
theorem dX12_bench_11 : decode cX12_bench 11 = .ok (.invokestatic 113, 3) := by decide +kernel
theorem dX12_bench_14 : decode cX12_bench 14 = .ok (.ifCond .eq 17, 3) := by decide +kernel
theorem dX12_bench_17 : decode cX12_bench 17 = .ok (.aload_n 0, 1) := by decide +kernel
theorem dX12_bench_18 : decode cX12_bench 18 = .ok (.aload_n 0, 1) := by decide +kernel
theorem dX12_bench_19 : decode cX12_bench 19 = .ok (.iload_n 1, 1) := by decide +kernel
theorem dX12_bench_20 : decode cX12_bench 20 = .ok (.iload_n 2, 1) := by decide +kernel
theorem dX12_bench_21 : decode cX12_bench 21 = .ok (.invokevirtual 220, 3) := by decide +kernel
theorem dX12_bench_24 : decode cX12_bench 24 = .ok (.iconst 1, 1) := by decide +kernel
theorem dX12_bench_25 : decode cX12_bench 25 = .ok (.invokevirtual 135, 3) := by decide +kernel
theorem dX12_bench_28 : decode cX12_bench 28 = .ok (.goto 4, 3) := by decide +kernel
theorem dX12_bench_31 : decode cX12_bench 31 = .ok (.iconst (-1), 1) := by decide +kernel
theorem dX12_bench_32 : decode cX12_bench 32 = .ok (.ireturn, 1) := by decide +kernel
theorem dX12_guestTells_0 : decode cX12_guestTells 0 = .ok (.iload_n 2, 1) := by decide +kernel
theorem dX12_guestTells_1 : decode cX12_guestTells 1 = .ok (.tableswitch 59 0 3 #[31, 38, 45, 52], 31) := by decide +kernel
theorem dX12_guestTells_32 : decode cX12_guestTells 32 = .ok (.aload_n 0, 1) := by decide +kernel
theorem dX12_guestTells_33 : decode cX12_guestTells 33 = .ok (.getfield 32, 3) := by decide +kernel
theorem dX12_guestTells_36 : decode cX12_guestTells 36 = .ok (.iload_n 1, 1) := by decide +kernel
theorem dX12_guestTells_37 : decode cX12_guestTells 37 = .ok (.iaload, 1) := by decide +kernel
theorem dX12_guestTells_38 : decode cX12_guestTells 38 = .ok (.ireturn, 1) := by decide +kernel
theorem dX12_guestTells_39 : decode cX12_guestTells 39 = .ok (.aload_n 0, 1) := by decide +kernel
theorem dX12_guestTells_40 : decode cX12_guestTells 40 = .ok (.getfield 35, 3) := by decide +kernel
theorem dX12_guestTells_43 : decode cX12_guestTells 43 = .ok (.iload_n 1, 1) := by decide +kernel
theorem dX12_guestTells_44 : decode cX12_guestTells 44 = .ok (.iaload, 1) := by decide +kernel
theorem dX12_guestTells_45 : decode cX12_guestTells 45 = .ok (.ireturn, 1) := by decide +kernel
theorem dX12_guestTells_46 : decode cX12_guestTells 46 = .ok (.aload_n 0, 1) := by decide +kernel
theorem dX12_guestTells_47 : decode cX12_guestTells 47 = .ok (.getfield 38, 3) := by decide +kernel
theorem dX12_guestTells_50 : decode cX12_guestTells 50 = .ok (.iload_n 1, 1) := by decide +kernel
theorem dX12_guestTells_51 : decode cX12_guestTells 51 = .ok (.iaload, 1) := by decide +kernel
theorem dX12_guestTells_52 : decode cX12_guestTells 52 = .ok (.ireturn, 1) := by decide +kernel
theorem dX12_guestTells_53 : decode cX12_guestTells 53 = .ok (.aload_n 0, 1) := by decide +kernel
theorem dX12_guestTells_54 : decode cX12_guestTells 54 = .ok (.getfield 41, 3) := by decide +kernel
theorem dX12_guestTells_57 : decode cX12_guestTells 57 = .ok (.iload_n 1, 1) := by decide +kernel
theorem dX12_guestTells_58 : decode cX12_guestTells 58 = .ok (.iaload, 1) := by decide +kernel
theorem dX12_guestTells_59 : decode cX12_guestTells 59 = .ok (.ireturn, 1) := by decide +kernel
theorem dX12_guestTells_60 : decode cX12_guestTells 60 = .ok (.aload_n 0, 1) := by decide +kernel
theorem dX12_guestTells_61 : decode cX12_guestTells 61 = .ok (.iload_n 1, 1) := by decide +kernel
theorem dX12_guestTells_62 : decode cX12_guestTells 62 = .ok (.invokevirtual 199, 3) := by decide +kernel
theorem dX12_guestTells_65 : decode cX12_guestTells 65 = .ok (.ireturn, 1) := by decide +kernel
theorem dX12_guest_0 : decode cX12_guest 0 = .ok (.aload_n 0, 1) := by decide +kernel
theorem dX12_guest_1 : decode cX12_guest 1 = .ok (.iload_n 1, 1) := by decide +kernel
theorem dX12_guest_2 : decode cX12_guest 2 = .ok (.invokevirtual 223, 3) := by decide +kernel
theorem dX12_guest_5 : decode cX12_guest 5 = .ok (.ifCond .eq 26, 3) := by decide +kernel
theorem dX12_guest_8 : decode cX12_guest 8 = .ok (.iload_n 2, 1) := by decide +kernel
theorem dX12_guest_9 : decode cX12_guest 9 = .ok (.iconst 0, 1) := by decide +kernel
theorem dX12_guest_10 : decode cX12_guest 10 = .ok (.iconst 4, 1) := by decide +kernel
theorem dX12_guest_11 : decode cX12_guest 11 = .ok (.invokestatic 113, 3) := by decide +kernel
theorem dX12_guest_14 : decode cX12_guest 14 = .ok (.ifCond .eq 17, 3) := by decide +kernel
theorem dX12_guest_17 : decode cX12_guest 17 = .ok (.aload_n 0, 1) := by decide +kernel
theorem dX12_guest_18 : decode cX12_guest 18 = .ok (.aload_n 0, 1) := by decide +kernel
theorem dX12_guest_19 : decode cX12_guest 19 = .ok (.iload_n 1, 1) := by decide +kernel
theorem dX12_guest_20 : decode cX12_guest 20 = .ok (.iload_n 2, 1) := by decide +kernel
theorem dX12_guest_21 : decode cX12_guest 21 = .ok (.invokevirtual 226, 3) := by decide +kernel
theorem dX12_guest_24 : decode cX12_guest 24 = .ok (.iconst 1, 1) := by decide +kernel
theorem dX12_guest_25 : decode cX12_guest 25 = .ok (.invokevirtual 135, 3) := by decide +kernel
theorem dX12_guest_28 : decode cX12_guest 28 = .ok (.goto 4, 3) := by decide +kernel
theorem dX12_guest_31 : decode cX12_guest 31 = .ok (.iconst (-1), 1) := by decide +kernel
theorem dX12_guest_32 : decode cX12_guest 32 = .ok (.ireturn, 1) := by decide +kernel
theorem dX12_kinSeated_0 : decode cX12_kinSeated 0 = .ok (.iconst 0, 1) := by decide +kernel
theorem dX12_kinSeated_1 : decode cX12_kinSeated 1 = .ok (.istore_n 2, 1) := by decide +kernel
theorem dX12_kinSeated_2 : decode cX12_kinSeated 2 = .ok (.iconst 0, 1) := by decide +kernel
theorem dX12_kinSeated_3 : decode cX12_kinSeated 3 = .ok (.istore_n 3, 1) := by decide +kernel
theorem dX12_kinSeated_4 : decode cX12_kinSeated 4 = .ok (.iload_n 3, 1) := by decide +kernel
theorem dX12_kinSeated_5 : decode cX12_kinSeated 5 = .ok (.aload_n 0, 1) := by decide +kernel
theorem dX12_kinSeated_6 : decode cX12_kinSeated 6 = .ok (.getfield 180, 3) := by decide +kernel
theorem dX12_kinSeated_9 : decode cX12_kinSeated 9 = .ok (.if_icmp .ge 48, 3) := by decide +kernel
theorem dX12_kinSeated_12 : decode cX12_kinSeated 12 = .ok (.iload_n 2, 1) := by decide +kernel
theorem dX12_kinSeated_13 : decode cX12_kinSeated 13 = .ok (.iload_n 3, 1) := by decide +kernel
theorem dX12_kinSeated_14 : decode cX12_kinSeated 14 = .ok (.iload_n 1, 1) := by decide +kernel
theorem dX12_kinSeated_15 : decode cX12_kinSeated 15 = .ok (.if_icmp .eq 33, 3) := by decide +kernel
theorem dX12_kinSeated_18 : decode cX12_kinSeated 18 = .ok (.aload_n 0, 1) := by decide +kernel
theorem dX12_kinSeated_19 : decode cX12_kinSeated 19 = .ok (.getfield 41, 3) := by decide +kernel
theorem dX12_kinSeated_22 : decode cX12_kinSeated 22 = .ok (.iload_n 3, 1) := by decide +kernel
theorem dX12_kinSeated_23 : decode cX12_kinSeated 23 = .ok (.iaload, 1) := by decide +kernel
theorem dX12_kinSeated_24 : decode cX12_kinSeated 24 = .ok (.bipush (-9), 2) := by decide +kernel
theorem dX12_kinSeated_26 : decode cX12_kinSeated 26 = .ok (.if_icmp .eq 22, 3) := by decide +kernel
theorem dX12_kinSeated_29 : decode cX12_kinSeated 29 = .ok (.aload_n 0, 1) := by decide +kernel
theorem dX12_kinSeated_30 : decode cX12_kinSeated 30 = .ok (.getfield 38, 3) := by decide +kernel
theorem dX12_kinSeated_33 : decode cX12_kinSeated 33 = .ok (.iload_n 3, 1) := by decide +kernel
theorem dX12_kinSeated_34 : decode cX12_kinSeated 34 = .ok (.iaload, 1) := by decide +kernel
theorem dX12_kinSeated_35 : decode cX12_kinSeated 35 = .ok (.aload_n 0, 1) := by decide +kernel
theorem dX12_kinSeated_36 : decode cX12_kinSeated 36 = .ok (.getfield 38, 3) := by decide +kernel
theorem dX12_kinSeated_39 : decode cX12_kinSeated 39 = .ok (.iload_n 1, 1) := by decide +kernel
theorem dX12_kinSeated_40 : decode cX12_kinSeated 40 = .ok (.iaload, 1) := by decide +kernel
theorem dX12_kinSeated_41 : decode cX12_kinSeated 41 = .ok (.if_icmp .ne 7, 3) := by decide +kernel
theorem dX12_kinSeated_44 : decode cX12_kinSeated 44 = .ok (.iconst 1, 1) := by decide +kernel
theorem dX12_kinSeated_45 : decode cX12_kinSeated 45 = .ok (.goto 4, 3) := by decide +kernel
theorem dX12_kinSeated_48 : decode cX12_kinSeated 48 = .ok (.iconst 0, 1) := by decide +kernel
theorem dX12_kinSeated_49 : decode cX12_kinSeated 49 = .ok (.iadd, 1) := by decide +kernel
theorem dX12_kinSeated_50 : decode cX12_kinSeated 50 = .ok (.istore_n 2, 1) := by decide +kernel
theorem dX12_kinSeated_51 : decode cX12_kinSeated 51 = .ok (.iinc 3 1, 3) := by decide +kernel
theorem dX12_kinSeated_54 : decode cX12_kinSeated 54 = .ok (.goto (-50), 3) := by decide +kernel
theorem dX12_kinSeated_57 : decode cX12_kinSeated 57 = .ok (.iload_n 2, 1) := by decide +kernel
theorem dX12_kinSeated_58 : decode cX12_kinSeated 58 = .ok (.ireturn, 1) := by decide +kernel
theorem dX12_mark_0 : decode cX12_mark 0 = .ok (.aload_n 0, 1) := by decide +kernel
theorem dX12_mark_1 : decode cX12_mark 1 = .ok (.iload_n 1, 1) := by decide +kernel
theorem dX12_mark_2 : decode cX12_mark 2 = .ok (.invokevirtual 223, 3) := by decide +kernel
theorem dX12_mark_5 : decode cX12_mark 5 = .ok (.ifCond .eq 12, 3) := by decide +kernel
theorem dX12_mark_8 : decode cX12_mark 8 = .ok (.iload_n 2, 1) := by decide +kernel
theorem dX12_mark_9 : decode cX12_mark 9 = .ok (.iconst 1, 1) := by decide +kernel
theorem dX12_mark_10 : decode cX12_mark 10 = .ok (.iconst 5, 1) := by decide +kernel
theorem dX12_mark_11 : decode cX12_mark 11 = .ok (.invokestatic 113, 3) := by decide +kernel
theorem dX12_mark_14 : decode cX12_mark 14 = .ok (.ifCond .ne 5, 3) := by decide +kernel
theorem dX12_mark_17 : decode cX12_mark 17 = .ok (.iconst (-1), 1) := by decide +kernel
theorem dX12_mark_18 : decode cX12_mark 18 = .ok (.ireturn, 1) := by decide +kernel
theorem dX12_mark_19 : decode cX12_mark 19 = .ok (.aload_n 0, 1) := by decide +kernel
theorem dX12_mark_20 : decode cX12_mark 20 = .ok (.getfield 32, 3) := by decide +kernel
theorem dX12_mark_23 : decode cX12_mark 23 = .ok (.iload_n 1, 1) := by decide +kernel
theorem dX12_mark_24 : decode cX12_mark 24 = .ok (.iaload, 1) := by decide +kernel
theorem dX12_mark_25 : decode cX12_mark 25 = .ok (.istore_n 3, 1) := by decide +kernel
theorem dX12_mark_26 : decode cX12_mark 26 = .ok (.iload_n 3, 1) := by decide +kernel
theorem dX12_mark_27 : decode cX12_mark 27 = .ok (.iload_n 2, 1) := by decide +kernel
theorem dX12_mark_28 : decode cX12_mark 28 = .ok (.if_icmp .eq 29, 3) := by decide +kernel
theorem dX12_mark_31 : decode cX12_mark 31 = .ok (.iload_n 2, 1) := by decide +kernel
theorem dX12_mark_32 : decode cX12_mark 32 = .ok (.iconst 1, 1) := by decide +kernel
theorem dX12_mark_33 : decode cX12_mark 33 = .ok (.if_icmp .ne 8, 3) := by decide +kernel
theorem dX12_mark_36 : decode cX12_mark 36 = .ok (.iload_n 3, 1) := by decide +kernel
theorem dX12_mark_37 : decode cX12_mark 37 = .ok (.iconst 4, 1) := by decide +kernel
theorem dX12_mark_38 : decode cX12_mark 38 = .ok (.if_icmp .eq 19, 3) := by decide +kernel
theorem dX12_mark_41 : decode cX12_mark 41 = .ok (.iload_n 2, 1) := by decide +kernel
theorem dX12_mark_42 : decode cX12_mark 42 = .ok (.iconst 2, 1) := by decide +kernel
theorem dX12_mark_43 : decode cX12_mark 43 = .ok (.if_icmp .ne 8, 3) := by decide +kernel
theorem dX12_mark_46 : decode cX12_mark 46 = .ok (.iload_n 3, 1) := by decide +kernel
theorem dX12_mark_47 : decode cX12_mark 47 = .ok (.iconst 5, 1) := by decide +kernel
theorem dX12_mark_48 : decode cX12_mark 48 = .ok (.if_icmp .eq 9, 3) := by decide +kernel
theorem dX12_mark_51 : decode cX12_mark 51 = .ok (.aload_n 0, 1) := by decide +kernel
theorem dX12_mark_52 : decode cX12_mark 52 = .ok (.iconst 3, 1) := by decide +kernel
theorem dX12_mark_53 : decode cX12_mark 53 = .ok (.invokevirtual 127, 3) := by decide +kernel
theorem dX12_mark_56 : decode cX12_mark 56 = .ok (.ireturn, 1) := by decide +kernel
theorem dX12_mark_57 : decode cX12_mark 57 = .ok (.aload_n 0, 1) := by decide +kernel
theorem dX12_mark_58 : decode cX12_mark 58 = .ok (.getfield 41, 3) := by decide +kernel
theorem dX12_mark_61 : decode cX12_mark 61 = .ok (.iload_n 1, 1) := by decide +kernel
theorem dX12_mark_62 : decode cX12_mark 62 = .ok (.iaload, 1) := by decide +kernel
theorem dX12_mark_63 : decode cX12_mark 63 = .ok (.istore 4, 2) := by decide +kernel
theorem dX12_mark_65 : decode cX12_mark 65 = .ok (.iload_n 2, 1) := by decide +kernel
theorem dX12_mark_66 : decode cX12_mark 66 = .ok (.tableswitch 132 1 4 #[30, 59, 88, 112], 30) := by decide +kernel
theorem dX12_mark_96 : decode cX12_mark 96 = .ok (.iload 4, 2) := by decide +kernel
theorem dX12_mark_98 : decode cX12_mark 98 = .ok (.bipush (-9), 2) := by decide +kernel
theorem dX12_mark_100 : decode cX12_mark 100 = .ok (.if_icmp .ne 7, 3) := by decide +kernel
theorem dX12_mark_103 : decode cX12_mark 103 = .ok (.iconst 0, 1) := by decide +kernel
theorem dX12_mark_104 : decode cX12_mark 104 = .ok (.goto 20, 3) := by decide +kernel
theorem dX12_mark_107 : decode cX12_mark 107 = .ok (.aload_n 0, 1) := by decide +kernel
theorem dX12_mark_108 : decode cX12_mark 108 = .ok (.iload_n 1, 1) := by decide +kernel
theorem dX12_mark_109 : decode cX12_mark 109 = .ok (.iload 4, 2) := by decide +kernel
theorem dX12_mark_111 : decode cX12_mark 111 = .ok (.iconst 1, 1) := by decide +kernel
theorem dX12_mark_112 : decode cX12_mark 112 = .ok (.invokevirtual 202, 3) := by decide +kernel
theorem dX12_mark_115 : decode cX12_mark 115 = .ok (.aload_n 0, 1) := by decide +kernel
theorem dX12_mark_116 : decode cX12_mark 116 = .ok (.iload_n 1, 1) := by decide +kernel
theorem dX12_mark_117 : decode cX12_mark 117 = .ok (.iload 4, 2) := by decide +kernel
theorem dX12_mark_119 : decode cX12_mark 119 = .ok (.iconst 0, 1) := by decide +kernel
theorem dX12_mark_120 : decode cX12_mark 120 = .ok (.invokevirtual 202, 3) := by decide +kernel
theorem dX12_mark_123 : decode cX12_mark 123 = .ok (.isub, 1) := by decide +kernel
theorem dX12_mark_124 : decode cX12_mark 124 = .ok (.ireturn, 1) := by decide +kernel
theorem dX12_mark_125 : decode cX12_mark 125 = .ok (.iload 4, 2) := by decide +kernel
theorem dX12_mark_127 : decode cX12_mark 127 = .ok (.bipush (-9), 2) := by decide +kernel
theorem dX12_mark_129 : decode cX12_mark 129 = .ok (.if_icmp .ne 7, 3) := by decide +kernel
theorem dX12_mark_132 : decode cX12_mark 132 = .ok (.iconst 0, 1) := by decide +kernel
theorem dX12_mark_133 : decode cX12_mark 133 = .ok (.goto 20, 3) := by decide +kernel
theorem dX12_mark_136 : decode cX12_mark 136 = .ok (.aload_n 0, 1) := by decide +kernel
theorem dX12_mark_137 : decode cX12_mark 137 = .ok (.iload_n 1, 1) := by decide +kernel
theorem dX12_mark_138 : decode cX12_mark 138 = .ok (.iload 4, 2) := by decide +kernel
theorem dX12_mark_140 : decode cX12_mark 140 = .ok (.iconst 2, 1) := by decide +kernel
theorem dX12_mark_141 : decode cX12_mark 141 = .ok (.invokevirtual 202, 3) := by decide +kernel
theorem dX12_mark_144 : decode cX12_mark 144 = .ok (.aload_n 0, 1) := by decide +kernel
theorem dX12_mark_145 : decode cX12_mark 145 = .ok (.iload_n 1, 1) := by decide +kernel
theorem dX12_mark_146 : decode cX12_mark 146 = .ok (.iload 4, 2) := by decide +kernel
theorem dX12_mark_148 : decode cX12_mark 148 = .ok (.iconst 0, 1) := by decide +kernel
theorem dX12_mark_149 : decode cX12_mark 149 = .ok (.invokevirtual 202, 3) := by decide +kernel
theorem dX12_mark_152 : decode cX12_mark 152 = .ok (.isub, 1) := by decide +kernel
theorem dX12_mark_153 : decode cX12_mark 153 = .ok (.ireturn, 1) := by decide +kernel
theorem dX12_mark_154 : decode cX12_mark 154 = .ok (.iload 4, 2) := by decide +kernel
theorem dX12_mark_156 : decode cX12_mark 156 = .ok (.bipush (-9), 2) := by decide +kernel
theorem dX12_mark_158 : decode cX12_mark 158 = .ok (.if_icmp .ne 8, 3) := by decide +kernel
theorem dX12_mark_161 : decode cX12_mark 161 = .ok (.bipush (-9), 2) := by decide +kernel
theorem dX12_mark_163 : decode cX12_mark 163 = .ok (.goto 14, 3) := by decide +kernel
theorem dX12_mark_166 : decode cX12_mark 166 = .ok (.aload_n 0, 1) := by decide +kernel
theorem dX12_mark_167 : decode cX12_mark 167 = .ok (.iload 4, 2) := by decide +kernel
theorem dX12_mark_169 : decode cX12_mark 169 = .ok (.invokevirtual 214, 3) := by decide +kernel
theorem dX12_mark_172 : decode cX12_mark 172 = .ok (.invokestatic 229, 3) := by decide +kernel
theorem dX12_mark_175 : decode cX12_mark 175 = .ok (.iconst 1, 1) := by decide +kernel
theorem dX12_mark_176 : decode cX12_mark 176 = .ok (.isub, 1) := by decide +kernel
theorem dX12_mark_177 : decode cX12_mark 177 = .ok (.ireturn, 1) := by decide +kernel
theorem dX12_mark_178 : decode cX12_mark 178 = .ok (.iload 4, 2) := by decide +kernel
theorem dX12_mark_180 : decode cX12_mark 180 = .ok (.bipush (-9), 2) := by decide +kernel
theorem dX12_mark_182 : decode cX12_mark 182 = .ok (.if_icmp .ne 7, 3) := by decide +kernel
theorem dX12_mark_185 : decode cX12_mark 185 = .ok (.iconst 0, 1) := by decide +kernel
theorem dX12_mark_186 : decode cX12_mark 186 = .ok (.goto 11, 3) := by decide +kernel
theorem dX12_mark_189 : decode cX12_mark 189 = .ok (.aload_n 0, 1) := by decide +kernel
theorem dX12_mark_190 : decode cX12_mark 190 = .ok (.iload_n 1, 1) := by decide +kernel
theorem dX12_mark_191 : decode cX12_mark 191 = .ok (.iload 4, 2) := by decide +kernel
theorem dX12_mark_193 : decode cX12_mark 193 = .ok (.iconst 1, 1) := by decide +kernel
theorem dX12_mark_194 : decode cX12_mark 194 = .ok (.invokevirtual 195, 3) := by decide +kernel
theorem dX12_mark_197 : decode cX12_mark 197 = .ok (.ireturn, 1) := by decide +kernel
theorem dX12_mark_198 : decode cX12_mark 198 = .ok (.aload_n 0, 1) := by decide +kernel
theorem dX12_mark_199 : decode cX12_mark 199 = .ok (.iload_n 1, 1) := by decide +kernel
theorem dX12_mark_200 : decode cX12_mark 200 = .ok (.invokevirtual 232, 3) := by decide +kernel
theorem dX12_mark_203 : decode cX12_mark 203 = .ok (.ireturn, 1) := by decide +kernel
