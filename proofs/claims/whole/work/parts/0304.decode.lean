theorem dX6_readDigit_60 : decode cX6_readDigit 60 = .ok (.aload_n 0, 1) := by decide +kernel
theorem dX6_readDigit_61 : decode cX6_readDigit 61 = .ok (.getfield 160, 3) := by decide +kernel
theorem dX6_readDigit_64 : decode cX6_readDigit 64 = .ok (.iadd, 1) := by decide +kernel
theorem dX6_readDigit_65 : decode cX6_readDigit 65 = .ok (.iconst 1, 1) := by decide +kernel
theorem dX6_readDigit_66 : decode cX6_readDigit 66 = .ok (.isub, 1) := by decide +kernel
theorem dX6_readDigit_67 : decode cX6_readDigit 67 = .ok (.laload, 1) := by decide +kernel
theorem dX6_readDigit_68 : decode cX6_readDigit 68 = .ok (.l2i, 1) := by decide +kernel
theorem dX6_readDigit_69 : decode cX6_readDigit 69 = .ok (.bipush 48, 2) := by decide +kernel
theorem dX6_readDigit_71 : decode cX6_readDigit 71 = .ok (.isub, 1) := by decide +kernel
theorem dX6_readDigit_72 : decode cX6_readDigit 72 = .ok (.ireturn, 1) := by decide +kernel
theorem dX6_readStatement_0 : decode cX6_readStatement 0 = .ok (.aload_n 0, 1) := by decide +kernel
theorem dX6_readStatement_1 : decode cX6_readStatement 1 = .ok (.getfield 179, 3) := by decide +kernel
theorem dX6_readStatement_4 : decode cX6_readStatement 4 = .ok (.istore_n 1, 1) := by decide +kernel
theorem dX6_readStatement_5 : decode cX6_readStatement 5 = .ok (.aload_n 0, 1) := by decide +kernel
theorem dX6_readStatement_6 : decode cX6_readStatement 6 = .ok (.invokevirtual 172, 3) := by decide +kernel
theorem dX6_readStatement_9 : decode cX6_readStatement 9 = .ok (.istore_n 2, 1) := by decide +kernel
theorem dX6_readStatement_10 : decode cX6_readStatement 10 = .ok (.aload_n 0, 1) := by decide +kernel
theorem dX6_readStatement_11 : decode cX6_readStatement 11 = .ok (.getfield 38, 3) := by decide +kernel
theorem dX6_readStatement_14 : decode cX6_readStatement 14 = .ok (.iload_n 1, 1) := by decide +kernel
theorem dX6_readStatement_15 : decode cX6_readStatement 15 = .ok (.aload_n 0, 1) := by decide +kernel
theorem dX6_readStatement_16 : decode cX6_readStatement 16 = .ok (.getfield 160, 3) := by decide +kernel
theorem dX6_readStatement_19 : decode cX6_readStatement 19 = .ok (.iastore, 1) := by decide +kernel
theorem dX6_readStatement_20 : decode cX6_readStatement 20 = .ok (.aload_n 0, 1) := by decide +kernel
theorem dX6_readStatement_21 : decode cX6_readStatement 21 = .ok (.getfield 41, 3) := by decide +kernel
theorem dX6_readStatement_24 : decode cX6_readStatement 24 = .ok (.iload_n 1, 1) := by decide +kernel
theorem dX6_readStatement_25 : decode cX6_readStatement 25 = .ok (.iload_n 2, 1) := by decide +kernel
theorem dX6_readStatement_26 : decode cX6_readStatement 26 = .ok (.iastore, 1) := by decide +kernel
theorem dX6_readStatement_27 : decode cX6_readStatement 27 = .ok (.aload_n 0, 1) := by decide +kernel
theorem dX6_readStatement_28 : decode cX6_readStatement 28 = .ok (.aload_n 0, 1) := by decide +kernel
theorem dX6_readStatement_29 : decode cX6_readStatement 29 = .ok (.getfield 169, 3) := by decide +kernel
theorem dX6_readStatement_32 : decode cX6_readStatement 32 = .ok (.ifCond .ne 21, 3) := by decide +kernel
theorem dX6_readStatement_35 : decode cX6_readStatement 35 = .ok (.iload_n 2, 1) := by decide +kernel
theorem dX6_readStatement_36 : decode cX6_readStatement 36 = .ok (.bipush 108, 2) := by decide +kernel
theorem dX6_readStatement_38 : decode cX6_readStatement 38 = .ok (.if_icmp .eq 19, 3) := by decide +kernel
theorem dX6_readStatement_41 : decode cX6_readStatement 41 = .ok (.iload_n 2, 1) := by decide +kernel
theorem dX6_readStatement_42 : decode cX6_readStatement 42 = .ok (.bipush 99, 2) := by decide +kernel
theorem dX6_readStatement_44 : decode cX6_readStatement 44 = .ok (.if_icmp .eq 13, 3) := by decide +kernel
theorem dX6_readStatement_47 : decode cX6_readStatement 47 = .ok (.iload_n 2, 1) := by decide +kernel
theorem dX6_readStatement_48 : decode cX6_readStatement 48 = .ok (.bipush 109, 2) := by decide +kernel
theorem dX6_readStatement_50 : decode cX6_readStatement 50 = .ok (.if_icmp .eq 7, 3) := by decide +kernel
theorem dX6_readStatement_53 : decode cX6_readStatement 53 = .ok (.iconst 1, 1) := by decide +kernel
theorem dX6_readStatement_54 : decode cX6_readStatement 54 = .ok (.goto 4, 3) := by decide +kernel
theorem dX6_readStatement_57 : decode cX6_readStatement 57 = .ok (.iconst 0, 1) := by decide +kernel
theorem dX6_readStatement_58 : decode cX6_readStatement 58 = .ok (.putfield 169, 3) := by decide +kernel
theorem dX6_readStatement_61 : decode cX6_readStatement 61 = .ok (.aload_n 0, 1) := by decide +kernel
theorem dX6_readStatement_62 : decode cX6_readStatement 62 = .ok (.dup, 1) := by decide +kernel
theorem dX6_readStatement_63 : decode cX6_readStatement 63 = .ok (.getfield 160, 3) := by decide +kernel
theorem dX6_readStatement_66 : decode cX6_readStatement 66 = .ok (.aload_n 0, 1) := by decide +kernel
theorem dX6_readStatement_67 : decode cX6_readStatement 67 = .ok (.getfield 169, 3) := by decide +kernel
theorem dX6_readStatement_70 : decode cX6_readStatement 70 = .ok (.ifCond .eq 7, 3) := by decide +kernel
theorem dX6_readStatement_73 : decode cX6_readStatement 73 = .ok (.iconst 0, 1) := by decide +kernel
theorem dX6_readStatement_74 : decode cX6_readStatement 74 = .ok (.goto 4, 3) := by decide +kernel
theorem dX6_readStatement_77 : decode cX6_readStatement 77 = .ok (.iconst 1, 1) := by decide +kernel
theorem dX6_readStatement_78 : decode cX6_readStatement 78 = .ok (.iadd, 1) := by decide +kernel
theorem dX6_readStatement_79 : decode cX6_readStatement 79 = .ok (.putfield 160, 3) := by decide +kernel
theorem dX6_readStatement_82 : decode cX6_readStatement 82 = .ok (.aload_n 0, 1) := by decide +kernel
theorem dX6_readStatement_83 : decode cX6_readStatement 83 = .ok (.getfield 44, 3) := by decide +kernel
theorem dX6_readStatement_86 : decode cX6_readStatement 86 = .ok (.iload_n 1, 1) := by decide +kernel
theorem dX6_readStatement_87 : decode cX6_readStatement 87 = .ok (.aload_n 0, 1) := by decide +kernel
theorem dX6_readStatement_88 : decode cX6_readStatement 88 = .ok (.invokevirtual 182, 3) := by decide +kernel
theorem dX6_readStatement_91 : decode cX6_readStatement 91 = .ok (.iastore, 1) := by decide +kernel
theorem dX6_readStatement_92 : decode cX6_readStatement 92 = .ok (.aload_n 0, 1) := by decide +kernel
theorem dX6_readStatement_93 : decode cX6_readStatement 93 = .ok (.getfield 47, 3) := by decide +kernel
theorem dX6_readStatement_96 : decode cX6_readStatement 96 = .ok (.iload_n 1, 1) := by decide +kernel
theorem dX6_readStatement_97 : decode cX6_readStatement 97 = .ok (.iconst 0, 1) := by decide +kernel
theorem dX6_readStatement_98 : decode cX6_readStatement 98 = .ok (.iastore, 1) := by decide +kernel
theorem dX6_readStatement_99 : decode cX6_readStatement 99 = .ok (.aload_n 0, 1) := by decide +kernel
theorem dX6_readStatement_100 : decode cX6_readStatement 100 = .ok (.getfield 169, 3) := by decide +kernel
theorem dX6_readStatement_103 : decode cX6_readStatement 103 = .ok (.ifCond .ne 55, 3) := by decide +kernel
theorem dX6_readStatement_106 : decode cX6_readStatement 106 = .ok (.iload_n 2, 1) := by decide +kernel
theorem dX6_readStatement_107 : decode cX6_readStatement 107 = .ok (.bipush 109, 2) := by decide +kernel
theorem dX6_readStatement_109 : decode cX6_readStatement 109 = .ok (.if_icmp .ne 49, 3) := by decide +kernel
theorem dX6_readStatement_112 : decode cX6_readStatement 112 = .ok (.aload_n 0, 1) := by decide +kernel
theorem dX6_readStatement_113 : decode cX6_readStatement 113 = .ok (.getfield 44, 3) := by decide +kernel
theorem dX6_readStatement_116 : decode cX6_readStatement 116 = .ok (.iload_n 1, 1) := by decide +kernel
theorem dX6_readStatement_117 : decode cX6_readStatement 117 = .ok (.iaload, 1) := by decide +kernel
theorem dX6_readStatement_118 : decode cX6_readStatement 118 = .ok (.ifCond .le 40, 3) := by decide +kernel
theorem dX6_readStatement_121 : decode cX6_readStatement 121 = .ok (.aload_n 0, 1) := by decide +kernel
theorem dX6_readStatement_122 : decode cX6_readStatement 122 = .ok (.invokevirtual 172, 3) := by decide +kernel
theorem dX6_readStatement_125 : decode cX6_readStatement 125 = .ok (.i2l, 1) := by decide +kernel
theorem dX6_readStatement_126 : decode cX6_readStatement 126 = .ok (.ldc2_w 175, 3) := by decide +kernel
theorem dX6_readStatement_129 : decode cX6_readStatement 129 = .ok (.ldc2_w 177, 3) := by decide +kernel
theorem dX6_readStatement_132 : decode cX6_readStatement 132 = .ok (.invokestatic 100, 3) := by decide +kernel
theorem dX6_readStatement_135 : decode cX6_readStatement 135 = .ok (.ifCond .eq 23, 3) := by decide +kernel
theorem dX6_readStatement_138 : decode cX6_readStatement 138 = .ok (.aload_n 0, 1) := by decide +kernel
theorem dX6_readStatement_139 : decode cX6_readStatement 139 = .ok (.getfield 44, 3) := by decide +kernel
theorem dX6_readStatement_142 : decode cX6_readStatement 142 = .ok (.iload_n 1, 1) := by decide +kernel
theorem dX6_readStatement_143 : decode cX6_readStatement 143 = .ok (.bipush 10, 2) := by decide +kernel
theorem dX6_readStatement_145 : decode cX6_readStatement 145 = .ok (.aload_n 0, 1) := by decide +kernel
theorem dX6_readStatement_146 : decode cX6_readStatement 146 = .ok (.getfield 44, 3) := by decide +kernel
theorem dX6_readStatement_149 : decode cX6_readStatement 149 = .ok (.iload_n 1, 1) := by decide +kernel
theorem dX6_readStatement_150 : decode cX6_readStatement 150 = .ok (.iaload, 1) := by decide +kernel
theorem dX6_readStatement_151 : decode cX6_readStatement 151 = .ok (.imul, 1) := by decide +kernel
theorem dX6_readStatement_152 : decode cX6_readStatement 152 = .ok (.aload_n 0, 1) := by decide +kernel
theorem dX6_readStatement_153 : decode cX6_readStatement 153 = .ok (.invokevirtual 182, 3) := by decide +kernel
theorem dX6_readStatement_156 : decode cX6_readStatement 156 = .ok (.iadd, 1) := by decide +kernel
theorem dX6_readStatement_157 : decode cX6_readStatement 157 = .ok (.iastore, 1) := by decide +kernel
theorem dX6_readStatement_158 : decode cX6_readStatement 158 = .ok (.aload_n 0, 1) := by decide +kernel
theorem dX6_readStatement_159 : decode cX6_readStatement 159 = .ok (.getfield 169, 3) := by decide +kernel
theorem dX6_readStatement_162 : decode cX6_readStatement 162 = .ok (.ifCond .ne 19, 3) := by decide +kernel
theorem dX6_readStatement_165 : decode cX6_readStatement 165 = .ok (.iload_n 2, 1) := by decide +kernel
theorem dX6_readStatement_166 : decode cX6_readStatement 166 = .ok (.bipush 109, 2) := by decide +kernel
theorem dX6_readStatement_168 : decode cX6_readStatement 168 = .ok (.if_icmp .eq 13, 3) := by decide +kernel
theorem dX6_readStatement_171 : decode cX6_readStatement 171 = .ok (.aload_n 0, 1) := by decide +kernel
theorem dX6_readStatement_172 : decode cX6_readStatement 172 = .ok (.getfield 47, 3) := by decide +kernel
theorem dX6_readStatement_175 : decode cX6_readStatement 175 = .ok (.iload_n 1, 1) := by decide +kernel
theorem dX6_readStatement_176 : decode cX6_readStatement 176 = .ok (.aload_n 0, 1) := by decide +kernel
theorem dX6_readStatement_177 : decode cX6_readStatement 177 = .ok (.invokevirtual 182, 3) := by decide +kernel
theorem dX6_readStatement_180 : decode cX6_readStatement 180 = .ok (.iastore, 1) := by decide +kernel
theorem dX6_readStatement_181 : decode cX6_readStatement 181 = .ok (.aload_n 0, 1) := by decide +kernel
theorem dX6_readStatement_182 : decode cX6_readStatement 182 = .ok (.getfield 50, 3) := by decide +kernel
theorem dX6_readStatement_185 : decode cX6_readStatement 185 = .ok (.iload_n 1, 1) := by decide +kernel
theorem dX6_readStatement_186 : decode cX6_readStatement 186 = .ok (.aload_n 0, 1) := by decide +kernel
theorem dX6_readStatement_187 : decode cX6_readStatement 187 = .ok (.getfield 160, 3) := by decide +kernel
theorem dX6_readStatement_190 : decode cX6_readStatement 190 = .ok (.iastore, 1) := by decide +kernel
theorem dX6_readStatement_191 : decode cX6_readStatement 191 = .ok (.aload_n 0, 1) := by decide +kernel
theorem dX6_readStatement_192 : decode cX6_readStatement 192 = .ok (.getfield 169, 3) := by decide +kernel
theorem dX6_readStatement_195 : decode cX6_readStatement 195 = .ok (.ifCond .ne 39, 3) := by decide +kernel
theorem dX6_readStatement_198 : decode cX6_readStatement 198 = .ok (.iload_n 2, 1) := by decide +kernel
theorem dX6_readStatement_199 : decode cX6_readStatement 199 = .ok (.bipush 108, 2) := by decide +kernel
theorem dX6_readStatement_201 : decode cX6_readStatement 201 = .ok (.if_icmp .ne 33, 3) := by decide +kernel
theorem dX6_readStatement_204 : decode cX6_readStatement 204 = .ok (.aload_n 0, 1) := by decide +kernel
theorem dX6_readStatement_205 : decode cX6_readStatement 205 = .ok (.invokevirtual 172, 3) := by decide +kernel
theorem dX6_readStatement_208 : decode cX6_readStatement 208 = .ok (.i2l, 1) := by decide +kernel
theorem dX6_readStatement_209 : decode cX6_readStatement 209 = .ok (.ldc2_w 175, 3) := by decide +kernel
theorem dX6_readStatement_212 : decode cX6_readStatement 212 = .ok (.ldc2_w 177, 3) := by decide +kernel
theorem dX6_readStatement_215 : decode cX6_readStatement 215 = .ok (.invokestatic 100, 3) := by decide +kernel
theorem dX6_readStatement_218 : decode cX6_readStatement 218 = .ok (.ifCond .eq 16, 3) := by decide +kernel
theorem dX6_readStatement_221 : decode cX6_readStatement 221 = .ok (.aload_n 0, 1) := by decide +kernel
theorem dX6_readStatement_222 : decode cX6_readStatement 222 = .ok (.dup, 1) := by decide +kernel
theorem dX6_readStatement_223 : decode cX6_readStatement 223 = .ok (.getfield 160, 3) := by decide +kernel
theorem dX6_readStatement_226 : decode cX6_readStatement 226 = .ok (.iconst 1, 1) := by decide +kernel
theorem dX6_readStatement_227 : decode cX6_readStatement 227 = .ok (.iadd, 1) := by decide +kernel
theorem dX6_readStatement_228 : decode cX6_readStatement 228 = .ok (.putfield 160, 3) := by decide +kernel
theorem dX6_readStatement_231 : decode cX6_readStatement 231 = .ok (.goto (-40), 3) := by decide +kernel
theorem dX6_readStatement_234 : decode cX6_readStatement 234 = .ok (.aload_n 0, 1) := by decide +kernel
theorem dX6_readStatement_235 : decode cX6_readStatement 235 = .ok (.getfield 53, 3) := by decide +kernel
theorem dX6_readStatement_238 : decode cX6_readStatement 238 = .ok (.iload_n 1, 1) := by decide +kernel
theorem dX6_readStatement_239 : decode cX6_readStatement 239 = .ok (.aload_n 0, 1) := by decide +kernel
theorem dX6_readStatement_240 : decode cX6_readStatement 240 = .ok (.getfield 160, 3) := by decide +kernel
theorem dX6_readStatement_243 : decode cX6_readStatement 243 = .ok (.aload_n 0, 1) := by decide +kernel
theorem dX6_readStatement_244 : decode cX6_readStatement 244 = .ok (.getfield 50, 3) := by decide +kernel
theorem dX6_readStatement_247 : decode cX6_readStatement 247 = .ok (.iload_n 1, 1) := by decide +kernel
theorem dX6_readStatement_248 : decode cX6_readStatement 248 = .ok (.iaload, 1) := by decide +kernel
theorem dX6_readStatement_249 : decode cX6_readStatement 249 = .ok (.isub, 1) := by decide +kernel
theorem dX6_readStatement_250 : decode cX6_readStatement 250 = .ok (.iastore, 1) := by decide +kernel
theorem dX6_readStatement_251 : decode cX6_readStatement 251 = .ok (.aload_n 0, 1) := by decide +kernel
theorem dX6_readStatement_252 : decode cX6_readStatement 252 = .ok (.aload_n 0, 1) := by decide +kernel
theorem dX6_readStatement_253 : decode cX6_readStatement 253 = .ok (.getfield 169, 3) := by decide +kernel
theorem dX6_readStatement_256 : decode cX6_readStatement 256 = .ok (.ifCond .ne 12, 3) := by decide +kernel
theorem dX6_readStatement_259 : decode cX6_readStatement 259 = .ok (.aload_n 0, 1) := by decide +kernel
theorem dX6_readStatement_260 : decode cX6_readStatement 260 = .ok (.invokevirtual 172, 3) := by decide +kernel
theorem dX6_readStatement_263 : decode cX6_readStatement 263 = .ok (.bipush 59, 2) := by decide +kernel
theorem dX6_readStatement_265 : decode cX6_readStatement 265 = .ok (.if_icmp .eq 7, 3) := by decide +kernel
theorem dX6_readStatement_268 : decode cX6_readStatement 268 = .ok (.iconst 1, 1) := by decide +kernel
theorem dX6_readStatement_269 : decode cX6_readStatement 269 = .ok (.goto 4, 3) := by decide +kernel
theorem dX6_readStatement_272 : decode cX6_readStatement 272 = .ok (.iconst 0, 1) := by decide +kernel
theorem dX6_readStatement_273 : decode cX6_readStatement 273 = .ok (.putfield 169, 3) := by decide +kernel
theorem dX6_readStatement_276 : decode cX6_readStatement 276 = .ok (.aload_n 0, 1) := by decide +kernel
theorem dX6_readStatement_277 : decode cX6_readStatement 277 = .ok (.dup, 1) := by decide +kernel
theorem dX6_readStatement_278 : decode cX6_readStatement 278 = .ok (.getfield 160, 3) := by decide +kernel
theorem dX6_readStatement_281 : decode cX6_readStatement 281 = .ok (.aload_n 0, 1) := by decide +kernel
theorem dX6_readStatement_282 : decode cX6_readStatement 282 = .ok (.getfield 169, 3) := by decide +kernel
theorem dX6_readStatement_285 : decode cX6_readStatement 285 = .ok (.ifCond .eq 7, 3) := by decide +kernel
theorem dX6_readStatement_288 : decode cX6_readStatement 288 = .ok (.iconst 0, 1) := by decide +kernel
theorem dX6_readStatement_289 : decode cX6_readStatement 289 = .ok (.goto 4, 3) := by decide +kernel
theorem dX6_readStatement_292 : decode cX6_readStatement 292 = .ok (.iconst 1, 1) := by decide +kernel
theorem dX6_readStatement_293 : decode cX6_readStatement 293 = .ok (.iadd, 1) := by decide +kernel
theorem dX6_readStatement_294 : decode cX6_readStatement 294 = .ok (.putfield 160, 3) := by decide +kernel
theorem dX6_readStatement_297 : decode cX6_readStatement 297 = .ok (.aload_n 0, 1) := by decide +kernel
theorem dX6_readStatement_298 : decode cX6_readStatement 298 = .ok (.dup, 1) := by decide +kernel
theorem dX6_readStatement_299 : decode cX6_readStatement 299 = .ok (.getfield 179, 3) := by decide +kernel
theorem dX6_readStatement_302 : decode cX6_readStatement 302 = .ok (.iconst 1, 1) := by decide +kernel
theorem dX6_readStatement_303 : decode cX6_readStatement 303 = .ok (.iadd, 1) := by decide +kernel
theorem dX6_readStatement_304 : decode cX6_readStatement 304 = .ok (.putfield 179, 3) := by decide +kernel
theorem dX6_readStatement_307 : decode cX6_readStatement 307 = .ok (.return_, 1) := by decide +kernel
theorem dX6_laneComes_0 : decode cX6_laneComes 0 = .ok (.aload_n 0, 1) := by decide +kernel
theorem dX6_laneComes_1 : decode cX6_laneComes 1 = .ok (.getfield 44, 3) := by decide +kernel
theorem dX6_laneComes_4 : decode cX6_laneComes 4 = .ok (.iload_n 1, 1) := by decide +kernel
theorem dX6_laneComes_5 : decode cX6_laneComes 5 = .ok (.iaload, 1) := by decide +kernel
theorem dX6_laneComes_6 : decode cX6_laneComes 6 = .ok (.bipush 7, 2) := by decide +kernel
theorem dX6_laneComes_8 : decode cX6_laneComes 8 = .ok (.if_icmp .gt 22, 3) := by decide +kernel
theorem dX6_laneComes_11 : decode cX6_laneComes 11 = .ok (.aload_n 0, 1) := by decide +kernel
theorem dX6_laneComes_12 : decode cX6_laneComes 12 = .ok (.getfield 97, 3) := by decide +kernel
theorem dX6_laneComes_15 : decode cX6_laneComes 15 = .ok (.iconst 5, 1) := by decide +kernel
theorem dX6_laneComes_16 : decode cX6_laneComes 16 = .ok (.if_icmp .eq 14, 3) := by decide +kernel
theorem dX6_laneComes_19 : decode cX6_laneComes 19 = .ok (.aload_n 0, 1) := by decide +kernel
theorem dX6_laneComes_20 : decode cX6_laneComes 20 = .ok (.getfield 53, 3) := by decide +kernel
theorem dX6_laneComes_23 : decode cX6_laneComes 23 = .ok (.iload_n 1, 1) := by decide +kernel
theorem dX6_laneComes_24 : decode cX6_laneComes 24 = .ok (.iaload, 1) := by decide +kernel
theorem dX6_laneComes_25 : decode cX6_laneComes 25 = .ok (.bipush 8, 2) := by decide +kernel
theorem dX6_laneComes_27 : decode cX6_laneComes 27 = .ok (.if_icmp .le 5, 3) := by decide +kernel
theorem dX6_laneComes_30 : decode cX6_laneComes 30 = .ok (.iconst 0, 1) := by decide +kernel
theorem dX6_laneComes_31 : decode cX6_laneComes 31 = .ok (.ireturn, 1) := by decide +kernel
theorem dX6_laneComes_32 : decode cX6_laneComes 32 = .ok (.aload_n 0, 1) := by decide +kernel
theorem dX6_laneComes_33 : decode cX6_laneComes 33 = .ok (.getfield 7, 3) := by decide +kernel
theorem dX6_laneComes_36 : decode cX6_laneComes 36 = .ok (.aload_n 0, 1) := by decide +kernel
theorem dX6_laneComes_37 : decode cX6_laneComes 37 = .ok (.getfield 97, 3) := by decide +kernel
theorem dX6_laneComes_40 : decode cX6_laneComes 40 = .ok (.aload_n 0, 1) := by decide +kernel
theorem dX6_laneComes_41 : decode cX6_laneComes 41 = .ok (.getfield 44, 3) := by decide +kernel
theorem dX6_laneComes_44 : decode cX6_laneComes 44 = .ok (.iload_n 1, 1) := by decide +kernel
theorem dX6_laneComes_45 : decode cX6_laneComes 45 = .ok (.iaload, 1) := by decide +kernel
theorem dX6_laneComes_46 : decode cX6_laneComes 46 = .ok (.iastore, 1) := by decide +kernel
theorem dX6_laneComes_47 : decode cX6_laneComes 47 = .ok (.aload_n 0, 1) := by decide +kernel
theorem dX6_laneComes_48 : decode cX6_laneComes 48 = .ok (.getfield 13, 3) := by decide +kernel
theorem dX6_laneComes_51 : decode cX6_laneComes 51 = .ok (.aload_n 0, 1) := by decide +kernel
theorem dX6_laneComes_52 : decode cX6_laneComes 52 = .ok (.getfield 97, 3) := by decide +kernel
theorem dX6_laneComes_55 : decode cX6_laneComes 55 = .ok (.aload_n 0, 1) := by decide +kernel
theorem dX6_laneComes_56 : decode cX6_laneComes 56 = .ok (.getfield 47, 3) := by decide +kernel
theorem dX6_laneComes_59 : decode cX6_laneComes 59 = .ok (.iload_n 1, 1) := by decide +kernel
theorem dX6_laneComes_60 : decode cX6_laneComes 60 = .ok (.iaload, 1) := by decide +kernel
theorem dX6_laneComes_61 : decode cX6_laneComes 61 = .ok (.iastore, 1) := by decide +kernel
theorem dX6_laneComes_62 : decode cX6_laneComes 62 = .ok (.aload_n 0, 1) := by decide +kernel
theorem dX6_laneComes_63 : decode cX6_laneComes 63 = .ok (.getfield 16, 3) := by decide +kernel
theorem dX6_laneComes_66 : decode cX6_laneComes 66 = .ok (.aload_n 0, 1) := by decide +kernel
theorem dX6_laneComes_67 : decode cX6_laneComes 67 = .ok (.getfield 97, 3) := by decide +kernel
theorem dX6_laneComes_70 : decode cX6_laneComes 70 = .ok (.iconst 0, 1) := by decide +kernel
theorem dX6_laneComes_71 : decode cX6_laneComes 71 = .ok (.iastore, 1) := by decide +kernel
theorem dX6_laneComes_72 : decode cX6_laneComes 72 = .ok (.aload_n 0, 1) := by decide +kernel
theorem dX6_laneComes_73 : decode cX6_laneComes 73 = .ok (.getfield 19, 3) := by decide +kernel
theorem dX6_laneComes_76 : decode cX6_laneComes 76 = .ok (.aload_n 0, 1) := by decide +kernel
theorem dX6_laneComes_77 : decode cX6_laneComes 77 = .ok (.getfield 97, 3) := by decide +kernel
theorem dX6_laneComes_80 : decode cX6_laneComes 80 = .ok (.iconst 0, 1) := by decide +kernel
theorem dX6_laneComes_81 : decode cX6_laneComes 81 = .ok (.iastore, 1) := by decide +kernel
theorem dX6_laneComes_82 : decode cX6_laneComes 82 = .ok (.aload_n 0, 1) := by decide +kernel
theorem dX6_laneComes_83 : decode cX6_laneComes 83 = .ok (.getfield 22, 3) := by decide +kernel
theorem dX6_laneComes_86 : decode cX6_laneComes 86 = .ok (.aload_n 0, 1) := by decide +kernel
theorem dX6_laneComes_87 : decode cX6_laneComes 87 = .ok (.getfield 97, 3) := by decide +kernel
theorem dX6_laneComes_90 : decode cX6_laneComes 90 = .ok (.iconst 0, 1) := by decide +kernel
theorem dX6_laneComes_91 : decode cX6_laneComes 91 = .ok (.iastore, 1) := by decide +kernel
theorem dX6_laneComes_92 : decode cX6_laneComes 92 = .ok (.iconst 1, 1) := by decide +kernel
theorem dX6_laneComes_93 : decode cX6_laneComes 93 = .ok (.istore_n 2, 1) := by decide +kernel
theorem dX6_laneComes_94 : decode cX6_laneComes 94 = .ok (.iconst 0, 1) := by decide +kernel
theorem dX6_laneComes_95 : decode cX6_laneComes 95 = .ok (.istore_n 3, 1) := by decide +kernel
theorem dX6_laneComes_96 : decode cX6_laneComes 96 = .ok (.iload_n 3, 1) := by decide +kernel
theorem dX6_laneComes_97 : decode cX6_laneComes 97 = .ok (.aload_n 0, 1) := by decide +kernel
theorem dX6_laneComes_98 : decode cX6_laneComes 98 = .ok (.getfield 53, 3) := by decide +kernel
theorem dX6_laneComes_101 : decode cX6_laneComes 101 = .ok (.iload_n 1, 1) := by decide +kernel
theorem dX6_laneComes_102 : decode cX6_laneComes 102 = .ok (.iaload, 1) := by decide +kernel
theorem dX6_laneComes_103 : decode cX6_laneComes 103 = .ok (.if_icmp .ge 67, 3) := by decide +kernel
theorem dX6_laneComes_106 : decode cX6_laneComes 106 = .ok (.aload_n 0, 1) := by decide +kernel
theorem dX6_laneComes_107 : decode cX6_laneComes 107 = .ok (.getfield 86, 3) := by decide +kernel
theorem dX6_laneComes_110 : decode cX6_laneComes 110 = .ok (.aload_n 0, 1) := by decide +kernel
theorem dX6_laneComes_111 : decode cX6_laneComes 111 = .ok (.getfield 166, 3) := by decide +kernel
theorem dX6_laneComes_114 : decode cX6_laneComes 114 = .ok (.aload_n 0, 1) := by decide +kernel
theorem dX6_laneComes_115 : decode cX6_laneComes 115 = .ok (.getfield 50, 3) := by decide +kernel
theorem dX6_laneComes_118 : decode cX6_laneComes 118 = .ok (.iload_n 1, 1) := by decide +kernel
theorem dX6_laneComes_119 : decode cX6_laneComes 119 = .ok (.iaload, 1) := by decide +kernel
theorem dX6_laneComes_120 : decode cX6_laneComes 120 = .ok (.iadd, 1) := by decide +kernel
theorem dX6_laneComes_121 : decode cX6_laneComes 121 = .ok (.iload_n 3, 1) := by decide +kernel
theorem dX6_laneComes_122 : decode cX6_laneComes 122 = .ok (.iadd, 1) := by decide +kernel
theorem dX6_laneComes_123 : decode cX6_laneComes 123 = .ok (.laload, 1) := by decide +kernel
theorem dX6_laneComes_124 : decode cX6_laneComes 124 = .ok (.l2i, 1) := by decide +kernel
theorem dX6_laneComes_125 : decode cX6_laneComes 125 = .ok (.bipush 48, 2) := by decide +kernel
theorem dX6_laneComes_127 : decode cX6_laneComes 127 = .ok (.isub, 1) := by decide +kernel
theorem dX6_laneComes_128 : decode cX6_laneComes 128 = .ok (.istore 4, 2) := by decide +kernel
theorem dX6_laneComes_130 : decode cX6_laneComes 130 = .ok (.iload_n 2, 1) := by decide +kernel
theorem dX6_laneComes_131 : decode cX6_laneComes 131 = .ok (.ifCond .eq 13, 3) := by decide +kernel
theorem dX6_laneComes_134 : decode cX6_laneComes 134 = .ok (.iload 4, 2) := by decide +kernel
theorem dX6_laneComes_136 : decode cX6_laneComes 136 = .ok (.iconst 4, 1) := by decide +kernel
theorem dX6_laneComes_137 : decode cX6_laneComes 137 = .ok (.if_icmp .ge 7, 3) := by decide +kernel
theorem dX6_laneComes_140 : decode cX6_laneComes 140 = .ok (.iconst 1, 1) := by decide +kernel
theorem dX6_laneComes_141 : decode cX6_laneComes 141 = .ok (.goto 4, 3) := by decide +kernel
theorem dX6_laneComes_144 : decode cX6_laneComes 144 = .ok (.iconst 0, 1) := by decide +kernel
theorem dX6_laneComes_145 : decode cX6_laneComes 145 = .ok (.istore_n 2, 1) := by decide +kernel
theorem dX6_laneComes_146 : decode cX6_laneComes 146 = .ok (.aload_n 0, 1) := by decide +kernel
theorem dX6_laneComes_147 : decode cX6_laneComes 147 = .ok (.aload_n 0, 1) := by decide +kernel
theorem dX6_laneComes_148 : decode cX6_laneComes 148 = .ok (.getfield 97, 3) := by decide +kernel
theorem dX6_laneComes_151 : decode cX6_laneComes 151 = .ok (.iload_n 2, 1) := by decide +kernel
theorem dX6_laneComes_152 : decode cX6_laneComes 152 = .ok (.ifCond .eq 8, 3) := by decide +kernel
theorem dX6_laneComes_155 : decode cX6_laneComes 155 = .ok (.iload 4, 2) := by decide +kernel
theorem dX6_laneComes_157 : decode cX6_laneComes 157 = .ok (.goto 4, 3) := by decide +kernel
theorem dX6_laneComes_160 : decode cX6_laneComes 160 = .ok (.iconst 0, 1) := by decide +kernel
theorem dX6_laneComes_161 : decode cX6_laneComes 161 = .ok (.invokevirtual 185, 3) := by decide +kernel
theorem dX6_laneComes_164 : decode cX6_laneComes 164 = .ok (.iinc 3 1, 3) := by decide +kernel
theorem dX6_laneComes_167 : decode cX6_laneComes 167 = .ok (.goto (-71), 3) := by decide +kernel
theorem dX6_laneComes_170 : decode cX6_laneComes 170 = .ok (.aload_n 0, 1) := by decide +kernel
theorem dX6_laneComes_171 : decode cX6_laneComes 171 = .ok (.dup, 1) := by decide +kernel
theorem dX6_laneComes_172 : decode cX6_laneComes 172 = .ok (.getfield 97, 3) := by decide +kernel
theorem dX6_laneComes_175 : decode cX6_laneComes 175 = .ok (.iconst 1, 1) := by decide +kernel
theorem dX6_laneComes_176 : decode cX6_laneComes 176 = .ok (.iadd, 1) := by decide +kernel
theorem dX6_laneComes_177 : decode cX6_laneComes 177 = .ok (.putfield 97, 3) := by decide +kernel
theorem dX6_laneComes_180 : decode cX6_laneComes 180 = .ok (.iload_n 2, 1) := by decide +kernel
theorem dX6_laneComes_181 : decode cX6_laneComes 181 = .ok (.ireturn, 1) := by decide +kernel
theorem dX6_comesOf_0 : decode cX6_comesOf 0 = .ok (.aload_n 0, 1) := by decide +kernel
theorem dX6_comesOf_1 : decode cX6_comesOf 1 = .ok (.getfield 41, 3) := by decide +kernel
theorem dX6_comesOf_4 : decode cX6_comesOf 4 = .ok (.iload_n 1, 1) := by decide +kernel
theorem dX6_comesOf_5 : decode cX6_comesOf 5 = .ok (.iaload, 1) := by decide +kernel
theorem dX6_comesOf_6 : decode cX6_comesOf 6 = .ok (.bipush 108, 2) := by decide +kernel
theorem dX6_comesOf_8 : decode cX6_comesOf 8 = .ok (.if_icmp .ne 9, 3) := by decide +kernel
theorem dX6_comesOf_11 : decode cX6_comesOf 11 = .ok (.aload_n 0, 1) := by decide +kernel
theorem dX6_comesOf_12 : decode cX6_comesOf 12 = .ok (.iload_n 1, 1) := by decide +kernel
theorem dX6_comesOf_13 : decode cX6_comesOf 13 = .ok (.invokevirtual 188, 3) := by decide +kernel
theorem dX6_comesOf_16 : decode cX6_comesOf 16 = .ok (.ireturn, 1) := by decide +kernel
theorem dX6_comesOf_17 : decode cX6_comesOf 17 = .ok (.aload_n 0, 1) := by decide +kernel
theorem dX6_comesOf_18 : decode cX6_comesOf 18 = .ok (.getfield 41, 3) := by decide +kernel
theorem dX6_comesOf_21 : decode cX6_comesOf 21 = .ok (.iload_n 1, 1) := by decide +kernel
theorem dX6_comesOf_22 : decode cX6_comesOf 22 = .ok (.iaload, 1) := by decide +kernel
theorem dX6_comesOf_23 : decode cX6_comesOf 23 = .ok (.bipush 109, 2) := by decide +kernel
theorem dX6_comesOf_25 : decode cX6_comesOf 25 = .ok (.if_icmp .ne 16, 3) := by decide +kernel
theorem dX6_comesOf_28 : decode cX6_comesOf 28 = .ok (.aload_n 0, 1) := by decide +kernel
theorem dX6_comesOf_29 : decode cX6_comesOf 29 = .ok (.aload_n 0, 1) := by decide +kernel
theorem dX6_comesOf_30 : decode cX6_comesOf 30 = .ok (.getfield 44, 3) := by decide +kernel
theorem dX6_comesOf_33 : decode cX6_comesOf 33 = .ok (.iload_n 1, 1) := by decide +kernel
theorem dX6_comesOf_34 : decode cX6_comesOf 34 = .ok (.iaload, 1) := by decide +kernel
theorem dX6_comesOf_35 : decode cX6_comesOf 35 = .ok (.invokevirtual 191, 3) := by decide +kernel
theorem dX6_comesOf_38 : decode cX6_comesOf 38 = .ok (.pop, 1) := by decide +kernel
theorem dX6_comesOf_39 : decode cX6_comesOf 39 = .ok (.iconst 1, 1) := by decide +kernel
theorem dX6_comesOf_40 : decode cX6_comesOf 40 = .ok (.ireturn, 1) := by decide +kernel
theorem dX6_comesOf_41 : decode cX6_comesOf 41 = .ok (.aload_n 0, 1) := by decide +kernel
theorem dX6_comesOf_42 : decode cX6_comesOf 42 = .ok (.aload_n 0, 1) := by decide +kernel
theorem dX6_comesOf_43 : decode cX6_comesOf 43 = .ok (.getfield 44, 3) := by decide +kernel
theorem dX6_comesOf_46 : decode cX6_comesOf 46 = .ok (.iload_n 1, 1) := by decide +kernel
theorem dX6_comesOf_47 : decode cX6_comesOf 47 = .ok (.iaload, 1) := by decide +kernel
theorem dX6_comesOf_48 : decode cX6_comesOf 48 = .ok (.invokevirtual 194, 3) := by decide +kernel
theorem dX6_comesOf_51 : decode cX6_comesOf 51 = .ok (.ifCond .eq 29, 3) := by decide +kernel
theorem dX6_comesOf_54 : decode cX6_comesOf 54 = .ok (.aload_n 0, 1) := by decide +kernel
theorem dX6_comesOf_55 : decode cX6_comesOf 55 = .ok (.getfield 47, 3) := by decide +kernel
theorem dX6_comesOf_58 : decode cX6_comesOf 58 = .ok (.iload_n 1, 1) := by decide +kernel
theorem dX6_comesOf_59 : decode cX6_comesOf 59 = .ok (.iaload, 1) := by decide +kernel
theorem dX6_comesOf_60 : decode cX6_comesOf 60 = .ok (.iconst 3, 1) := by decide +kernel
theorem dX6_comesOf_61 : decode cX6_comesOf 61 = .ok (.if_icmp .gt 19, 3) := by decide +kernel
theorem dX6_comesOf_64 : decode cX6_comesOf 64 = .ok (.aload_n 0, 1) := by decide +kernel
theorem dX6_comesOf_65 : decode cX6_comesOf 65 = .ok (.getfield 16, 3) := by decide +kernel
theorem dX6_comesOf_68 : decode cX6_comesOf 68 = .ok (.aload_n 0, 1) := by decide +kernel
theorem dX6_comesOf_69 : decode cX6_comesOf 69 = .ok (.getfield 44, 3) := by decide +kernel
theorem dX6_comesOf_72 : decode cX6_comesOf 72 = .ok (.iload_n 1, 1) := by decide +kernel
theorem dX6_comesOf_73 : decode cX6_comesOf 73 = .ok (.iaload, 1) := by decide +kernel
theorem dX6_comesOf_74 : decode cX6_comesOf 74 = .ok (.iaload, 1) := by decide +kernel
theorem dX6_comesOf_75 : decode cX6_comesOf 75 = .ok (.bipush 8, 2) := by decide +kernel
theorem dX6_comesOf_77 : decode cX6_comesOf 77 = .ok (.if_icmp .ne 5, 3) := by decide +kernel
theorem dX6_comesOf_80 : decode cX6_comesOf 80 = .ok (.iconst 0, 1) := by decide +kernel
theorem dX6_comesOf_81 : decode cX6_comesOf 81 = .ok (.ireturn, 1) := by decide +kernel
theorem dX6_comesOf_82 : decode cX6_comesOf 82 = .ok (.aload_n 0, 1) := by decide +kernel
theorem dX6_comesOf_83 : decode cX6_comesOf 83 = .ok (.aload_n 0, 1) := by decide +kernel
theorem dX6_comesOf_84 : decode cX6_comesOf 84 = .ok (.getfield 44, 3) := by decide +kernel
theorem dX6_comesOf_87 : decode cX6_comesOf 87 = .ok (.iload_n 1, 1) := by decide +kernel
theorem dX6_comesOf_88 : decode cX6_comesOf 88 = .ok (.iaload, 1) := by decide +kernel
theorem dX6_comesOf_89 : decode cX6_comesOf 89 = .ok (.aload_n 0, 1) := by decide +kernel
theorem dX6_comesOf_90 : decode cX6_comesOf 90 = .ok (.getfield 47, 3) := by decide +kernel
theorem dX6_comesOf_93 : decode cX6_comesOf 93 = .ok (.iload_n 1, 1) := by decide +kernel
theorem dX6_comesOf_94 : decode cX6_comesOf 94 = .ok (.iaload, 1) := by decide +kernel
theorem dX6_comesOf_95 : decode cX6_comesOf 95 = .ok (.invokevirtual 185, 3) := by decide +kernel
theorem dX6_comesOf_98 : decode cX6_comesOf 98 = .ok (.iconst 1, 1) := by decide +kernel
theorem dX6_comesOf_99 : decode cX6_comesOf 99 = .ok (.ireturn, 1) := by decide +kernel
theorem dX6_border_0 : decode cX6_border 0 = .ok (.aload_n 0, 1) := by decide +kernel
theorem dX6_border_1 : decode cX6_border 1 = .ok (.iconst 0, 1) := by decide +kernel
theorem dX6_border_2 : decode cX6_border 2 = .ok (.putfield 93, 3) := by decide +kernel
theorem dX6_border_5 : decode cX6_border 5 = .ok (.aload_n 0, 1) := by decide +kernel
theorem dX6_border_6 : decode cX6_border 6 = .ok (.iload_n 1, 1) := by decide +kernel
theorem dX6_border_7 : decode cX6_border 7 = .ok (.invokevirtual 197, 3) := by decide +kernel
theorem dX6_border_10 : decode cX6_border 10 = .ok (.istore_n 2, 1) := by decide +kernel
theorem dX6_border_11 : decode cX6_border 11 = .ok (.iload_n 2, 1) := by decide +kernel
theorem dX6_border_12 : decode cX6_border 12 = .ok (.ifCond .ge 5, 3) := by decide +kernel
theorem dX6_border_15 : decode cX6_border 15 = .ok (.iload_n 2, 1) := by decide +kernel
theorem dX6_border_16 : decode cX6_border 16 = .ok (.ireturn, 1) := by decide +kernel
theorem dX6_border_17 : decode cX6_border 17 = .ok (.aload_n 0, 1) := by decide +kernel
theorem dX6_border_18 : decode cX6_border 18 = .ok (.bipush 100, 2) := by decide +kernel
theorem dX6_border_20 : decode cX6_border 20 = .ok (.iload_n 1, 1) := by decide +kernel
theorem dX6_border_21 : decode cX6_border 21 = .ok (.imul, 1) := by decide +kernel
theorem dX6_border_22 : decode cX6_border 22 = .ok (.putfield 166, 3) := by decide +kernel
theorem dX6_border_25 : decode cX6_border 25 = .ok (.aload_n 0, 1) := by decide +kernel
theorem dX6_border_26 : decode cX6_border 26 = .ok (.aload_n 0, 1) := by decide +kernel
theorem dX6_border_27 : decode cX6_border 27 = .ok (.getfield 83, 3) := by decide +kernel
theorem dX6_border_30 : decode cX6_border 30 = .ok (.iload_n 1, 1) := by decide +kernel
theorem dX6_border_31 : decode cX6_border 31 = .ok (.iaload, 1) := by decide +kernel
theorem dX6_border_32 : decode cX6_border 32 = .ok (.putfield 163, 3) := by decide +kernel
theorem dX6_border_35 : decode cX6_border 35 = .ok (.aload_n 0, 1) := by decide +kernel
theorem dX6_border_36 : decode cX6_border 36 = .ok (.iconst 0, 1) := by decide +kernel
theorem dX6_border_37 : decode cX6_border 37 = .ok (.putfield 160, 3) := by decide +kernel
theorem dX6_border_40 : decode cX6_border 40 = .ok (.aload_n 0, 1) := by decide +kernel
theorem dX6_border_41 : decode cX6_border 41 = .ok (.iconst 0, 1) := by decide +kernel
theorem dX6_border_42 : decode cX6_border 42 = .ok (.putfield 169, 3) := by decide +kernel
theorem dX6_border_45 : decode cX6_border 45 = .ok (.aload_n 0, 1) := by decide +kernel
theorem dX6_border_46 : decode cX6_border 46 = .ok (.iconst 0, 1) := by decide +kernel
theorem dX6_border_47 : decode cX6_border 47 = .ok (.putfield 179, 3) := by decide +kernel
theorem dX6_border_50 : decode cX6_border 50 = .ok (.aload_n 0, 1) := by decide +kernel
theorem dX6_border_51 : decode cX6_border 51 = .ok (.getfield 169, 3) := by decide +kernel
theorem dX6_border_54 : decode cX6_border 54 = .ok (.ifCond .ne 28, 3) := by decide +kernel
theorem dX6_border_57 : decode cX6_border 57 = .ok (.aload_n 0, 1) := by decide +kernel
theorem dX6_border_58 : decode cX6_border 58 = .ok (.getfield 179, 3) := by decide +kernel
theorem dX6_border_61 : decode cX6_border 61 = .ok (.ifCond .eq 14, 3) := by decide +kernel
theorem dX6_border_64 : decode cX6_border 64 = .ok (.aload_n 0, 1) := by decide +kernel
theorem dX6_border_65 : decode cX6_border 65 = .ok (.getfield 160, 3) := by decide +kernel
theorem dX6_border_68 : decode cX6_border 68 = .ok (.aload_n 0, 1) := by decide +kernel
theorem dX6_border_69 : decode cX6_border 69 = .ok (.getfield 163, 3) := by decide +kernel
theorem dX6_border_72 : decode cX6_border 72 = .ok (.if_icmp .ge 10, 3) := by decide +kernel
theorem dX6_border_75 : decode cX6_border 75 = .ok (.aload_n 0, 1) := by decide +kernel
theorem dX6_border_76 : decode cX6_border 76 = .ok (.invokevirtual 200, 3) := by decide +kernel
theorem dX6_border_79 : decode cX6_border 79 = .ok (.goto (-29), 3) := by decide +kernel
theorem dX6_border_82 : decode cX6_border 82 = .ok (.aload_n 0, 1) := by decide +kernel
theorem dX6_border_83 : decode cX6_border 83 = .ok (.getfield 169, 3) := by decide +kernel
theorem dX6_border_86 : decode cX6_border 86 = .ok (.ifCond .eq 12, 3) := by decide +kernel
theorem dX6_border_89 : decode cX6_border 89 = .ok (.sipush (-1000), 3) := by decide +kernel
theorem dX6_border_92 : decode cX6_border 92 = .ok (.aload_n 0, 1) := by decide +kernel
theorem dX6_border_93 : decode cX6_border 93 = .ok (.getfield 160, 3) := by decide +kernel
theorem dX6_border_96 : decode cX6_border 96 = .ok (.isub, 1) := by decide +kernel
theorem dX6_border_97 : decode cX6_border 97 = .ok (.ireturn, 1) := by decide +kernel
theorem dX6_border_98 : decode cX6_border 98 = .ok (.aload_n 0, 1) := by decide +kernel
theorem dX6_border_99 : decode cX6_border 99 = .ok (.invokevirtual 203, 3) := by decide +kernel
theorem dX6_border_102 : decode cX6_border 102 = .ok (.iconst 0, 1) := by decide +kernel
theorem dX6_border_103 : decode cX6_border 103 = .ok (.istore_n 3, 1) := by decide +kernel
theorem dX6_border_104 : decode cX6_border 104 = .ok (.iload_n 3, 1) := by decide +kernel
theorem dX6_border_105 : decode cX6_border 105 = .ok (.aload_n 0, 1) := by decide +kernel
theorem dX6_border_106 : decode cX6_border 106 = .ok (.getfield 179, 3) := by decide +kernel
theorem dX6_border_109 : decode cX6_border 109 = .ok (.if_icmp .ge 32, 3) := by decide +kernel
theorem dX6_border_112 : decode cX6_border 112 = .ok (.aload_n 0, 1) := by decide +kernel
theorem dX6_border_113 : decode cX6_border 113 = .ok (.iload_n 3, 1) := by decide +kernel
theorem dX6_border_114 : decode cX6_border 114 = .ok (.invokevirtual 206, 3) := by decide +kernel
theorem dX6_border_117 : decode cX6_border 117 = .ok (.ifCond .ne 18, 3) := by decide +kernel
theorem dX6_border_120 : decode cX6_border 120 = .ok (.aload_n 0, 1) := by decide +kernel
theorem dX6_border_121 : decode cX6_border 121 = .ok (.invokevirtual 209, 3) := by decide +kernel
theorem dX6_border_124 : decode cX6_border 124 = .ok (.sipush (-2000), 3) := by decide +kernel
theorem dX6_border_127 : decode cX6_border 127 = .ok (.aload_n 0, 1) := by decide +kernel
theorem dX6_border_128 : decode cX6_border 128 = .ok (.getfield 38, 3) := by decide +kernel
theorem dX6_border_131 : decode cX6_border 131 = .ok (.iload_n 3, 1) := by decide +kernel
theorem dX6_border_132 : decode cX6_border 132 = .ok (.iaload, 1) := by decide +kernel
theorem dX6_border_133 : decode cX6_border 133 = .ok (.isub, 1) := by decide +kernel
theorem dX6_border_134 : decode cX6_border 134 = .ok (.ireturn, 1) := by decide +kernel
theorem dX6_border_135 : decode cX6_border 135 = .ok (.iinc 3 1, 3) := by decide +kernel
theorem dX6_border_138 : decode cX6_border 138 = .ok (.goto (-34), 3) := by decide +kernel
theorem dX6_border_141 : decode cX6_border 141 = .ok (.aload_n 0, 1) := by decide +kernel
theorem dX6_border_142 : decode cX6_border 142 = .ok (.getfield 179, 3) := by decide +kernel
theorem dX6_border_145 : decode cX6_border 145 = .ok (.ireturn, 1) := by decide +kernel
theorem dX6_lane_0 : decode cX6_lane 0 = .ok (.aload_n 0, 1) := by decide +kernel
theorem dX6_lane_1 : decode cX6_lane 1 = .ok (.iconst 0, 1) := by decide +kernel
theorem dX6_lane_2 : decode cX6_lane 2 = .ok (.putfield 93, 3) := by decide +kernel
theorem dX6_lane_5 : decode cX6_lane 5 = .ok (.aload_n 0, 1) := by decide +kernel
theorem dX6_lane_6 : decode cX6_lane 6 = .ok (.iload_n 1, 1) := by decide +kernel
theorem dX6_lane_7 : decode cX6_lane 7 = .ok (.invokevirtual 194, 3) := by decide +kernel
theorem dX6_lane_10 : decode cX6_lane 10 = .ok (.ifCond .eq 15, 3) := by decide +kernel
theorem dX6_lane_13 : decode cX6_lane 13 = .ok (.iload_n 2, 1) := by decide +kernel
theorem dX6_lane_14 : decode cX6_lane 14 = .ok (.i2l, 1) := by decide +kernel
theorem dX6_lane_15 : decode cX6_lane 15 = .ok (.lconst 0, 1) := by decide +kernel
theorem dX6_lane_16 : decode cX6_lane 16 = .ok (.ldc2_w 212, 3) := by decide +kernel
theorem dX6_lane_19 : decode cX6_lane 19 = .ok (.invokestatic 100, 3) := by decide +kernel
theorem dX6_lane_22 : decode cX6_lane 22 = .ok (.ifCond .ne 5, 3) := by decide +kernel
theorem dX6_lane_25 : decode cX6_lane 25 = .ok (.iconst (-1), 1) := by decide +kernel
theorem dX6_lane_26 : decode cX6_lane 26 = .ok (.ireturn, 1) := by decide +kernel
theorem dX6_lane_27 : decode cX6_lane 27 = .ok (.iload_n 2, 1) := by decide +kernel
theorem dX6_lane_28 : decode cX6_lane 28 = .ok (.tableswitch 121 0 7 #[48, 55, 62, 69, 89, 95, 101, 107], 48) := by decide +kernel
theorem dX6_lane_76 : decode cX6_lane 76 = .ok (.aload_n 0, 1) := by decide +kernel
theorem dX6_lane_77 : decode cX6_lane 77 = .ok (.getfield 7, 3) := by decide +kernel
theorem dX6_lane_80 : decode cX6_lane 80 = .ok (.iload_n 1, 1) := by decide +kernel
theorem dX6_lane_81 : decode cX6_lane 81 = .ok (.iaload, 1) := by decide +kernel
theorem dX6_lane_82 : decode cX6_lane 82 = .ok (.ireturn, 1) := by decide +kernel
theorem dX6_lane_83 : decode cX6_lane 83 = .ok (.aload_n 0, 1) := by decide +kernel
theorem dX6_lane_84 : decode cX6_lane 84 = .ok (.getfield 13, 3) := by decide +kernel
theorem dX6_lane_87 : decode cX6_lane 87 = .ok (.iload_n 1, 1) := by decide +kernel
theorem dX6_lane_88 : decode cX6_lane 88 = .ok (.iaload, 1) := by decide +kernel
theorem dX6_lane_89 : decode cX6_lane 89 = .ok (.ireturn, 1) := by decide +kernel
theorem dX6_lane_90 : decode cX6_lane 90 = .ok (.aload_n 0, 1) := by decide +kernel
theorem dX6_lane_91 : decode cX6_lane 91 = .ok (.getfield 16, 3) := by decide +kernel
theorem dX6_lane_94 : decode cX6_lane 94 = .ok (.iload_n 1, 1) := by decide +kernel
theorem dX6_lane_95 : decode cX6_lane 95 = .ok (.iaload, 1) := by decide +kernel
theorem dX6_lane_96 : decode cX6_lane 96 = .ok (.ireturn, 1) := by decide +kernel
theorem dX6_lane_97 : decode cX6_lane 97 = .ok (.aload_n 0, 1) := by decide +kernel
theorem dX6_lane_98 : decode cX6_lane 98 = .ok (.getfield 16, 3) := by decide +kernel
theorem dX6_lane_101 : decode cX6_lane 101 = .ok (.iload_n 1, 1) := by decide +kernel
theorem dX6_lane_102 : decode cX6_lane 102 = .ok (.iaload, 1) := by decide +kernel
theorem dX6_lane_103 : decode cX6_lane 103 = .ok (.ifCond .le 12, 3) := by decide +kernel
theorem dX6_lane_106 : decode cX6_lane 106 = .ok (.aload_n 0, 1) := by decide +kernel
theorem dX6_lane_107 : decode cX6_lane 107 = .ok (.getfield 19, 3) := by decide +kernel
theorem dX6_lane_110 : decode cX6_lane 110 = .ok (.iload_n 1, 1) := by decide +kernel
theorem dX6_lane_111 : decode cX6_lane 111 = .ok (.iaload, 1) := by decide +kernel
theorem dX6_lane_112 : decode cX6_lane 112 = .ok (.goto 4, 3) := by decide +kernel
theorem dX6_lane_115 : decode cX6_lane 115 = .ok (.iconst 0, 1) := by decide +kernel
theorem dX6_lane_116 : decode cX6_lane 116 = .ok (.ireturn, 1) := by decide +kernel
theorem dX6_lane_117 : decode cX6_lane 117 = .ok (.aload_n 0, 1) := by decide +kernel
theorem dX6_lane_118 : decode cX6_lane 118 = .ok (.iload_n 1, 1) := by decide +kernel
theorem dX6_lane_119 : decode cX6_lane 119 = .ok (.invokevirtual 123, 3) := by decide +kernel
theorem dX6_lane_122 : decode cX6_lane 122 = .ok (.ireturn, 1) := by decide +kernel
theorem dX6_lane_123 : decode cX6_lane 123 = .ok (.aload_n 0, 1) := by decide +kernel
theorem dX6_lane_124 : decode cX6_lane 124 = .ok (.iload_n 1, 1) := by decide +kernel
theorem dX6_lane_125 : decode cX6_lane 125 = .ok (.invokevirtual 120, 3) := by decide +kernel
theorem dX6_lane_128 : decode cX6_lane 128 = .ok (.ireturn, 1) := by decide +kernel
theorem dX6_lane_129 : decode cX6_lane 129 = .ok (.aload_n 0, 1) := by decide +kernel
theorem dX6_lane_130 : decode cX6_lane 130 = .ok (.iload_n 1, 1) := by decide +kernel
theorem dX6_lane_131 : decode cX6_lane 131 = .ok (.invokevirtual 214, 3) := by decide +kernel
theorem dX6_lane_134 : decode cX6_lane 134 = .ok (.ireturn, 1) := by decide +kernel
theorem dX6_lane_135 : decode cX6_lane 135 = .ok (.aload_n 0, 1) := by decide +kernel
theorem dX6_lane_136 : decode cX6_lane 136 = .ok (.iload_n 1, 1) := by decide +kernel
theorem dX6_lane_137 : decode cX6_lane 137 = .ok (.invokevirtual 112, 3) := by decide +kernel
theorem dX6_lane_140 : decode cX6_lane 140 = .ok (.ifCond .eq 7, 3) := by decide +kernel
theorem dX6_lane_143 : decode cX6_lane 143 = .ok (.iconst 1, 1) := by decide +kernel
theorem dX6_lane_144 : decode cX6_lane 144 = .ok (.goto 4, 3) := by decide +kernel
theorem dX6_lane_147 : decode cX6_lane 147 = .ok (.iconst 0, 1) := by decide +kernel
theorem dX6_lane_148 : decode cX6_lane 148 = .ok (.ireturn, 1) := by decide +kernel
theorem dX6_lane_149 : decode cX6_lane 149 = .ok (.aload_n 0, 1) := by decide +kernel
theorem dX6_lane_150 : decode cX6_lane 150 = .ok (.getfield 22, 3) := by decide +kernel
theorem dX6_lane_153 : decode cX6_lane 153 = .ok (.iload_n 1, 1) := by decide +kernel
theorem dX6_lane_154 : decode cX6_lane 154 = .ok (.iaload, 1) := by decide +kernel
theorem dX6_lane_155 : decode cX6_lane 155 = .ok (.ireturn, 1) := by decide +kernel
theorem dX6_isCar_0 : decode cX6_isCar 0 = .ok (.aload_n 0, 1) := by decide +kernel
theorem dX6_isCar_1 : decode cX6_isCar 1 = .ok (.iload_n 1, 1) := by decide +kernel
theorem dX6_isCar_2 : decode cX6_isCar 2 = .ok (.invokevirtual 194, 3) := by decide +kernel
theorem dX6_isCar_5 : decode cX6_isCar 5 = .ok (.ifCond .eq 25, 3) := by decide +kernel
theorem dX6_isCar_8 : decode cX6_isCar 8 = .ok (.iload_n 2, 1) := by decide +kernel
theorem dX6_isCar_9 : decode cX6_isCar 9 = .ok (.i2l, 1) := by decide +kernel
theorem dX6_isCar_10 : decode cX6_isCar 10 = .ok (.lconst 0, 1) := by decide +kernel
theorem dX6_isCar_11 : decode cX6_isCar 11 = .ok (.aload_n 0, 1) := by decide +kernel
theorem dX6_isCar_12 : decode cX6_isCar 12 = .ok (.getfield 16, 3) := by decide +kernel
theorem dX6_isCar_15 : decode cX6_isCar 15 = .ok (.iload_n 1, 1) := by decide +kernel
theorem dX6_isCar_16 : decode cX6_isCar 16 = .ok (.iaload, 1) := by decide +kernel
theorem dX6_isCar_17 : decode cX6_isCar 17 = .ok (.iconst 1, 1) := by decide +kernel
theorem dX6_isCar_18 : decode cX6_isCar 18 = .ok (.isub, 1) := by decide +kernel
theorem dX6_isCar_19 : decode cX6_isCar 19 = .ok (.i2l, 1) := by decide +kernel
theorem dX6_isCar_20 : decode cX6_isCar 20 = .ok (.invokestatic 100, 3) := by decide +kernel
theorem dX6_isCar_23 : decode cX6_isCar 23 = .ok (.ifCond .eq 7, 3) := by decide +kernel
theorem dX6_isCar_26 : decode cX6_isCar 26 = .ok (.iconst 1, 1) := by decide +kernel
theorem dX6_isCar_27 : decode cX6_isCar 27 = .ok (.goto 4, 3) := by decide +kernel
theorem dX6_isCar_30 : decode cX6_isCar 30 = .ok (.iconst 0, 1) := by decide +kernel
theorem dX6_isCar_31 : decode cX6_isCar 31 = .ok (.ireturn, 1) := by decide +kernel
theorem dX6_car_0 : decode cX6_car 0 = .ok (.aload_n 0, 1) := by decide +kernel
theorem dX6_car_1 : decode cX6_car 1 = .ok (.iconst 0, 1) := by decide +kernel
theorem dX6_car_2 : decode cX6_car 2 = .ok (.putfield 93, 3) := by decide +kernel
theorem dX6_car_5 : decode cX6_car 5 = .ok (.aload_n 0, 1) := by decide +kernel
theorem dX6_car_6 : decode cX6_car 6 = .ok (.iload_n 1, 1) := by decide +kernel
theorem dX6_car_7 : decode cX6_car 7 = .ok (.iload_n 2, 1) := by decide +kernel
theorem dX6_car_8 : decode cX6_car 8 = .ok (.invokevirtual 217, 3) := by decide +kernel
theorem dX6_car_11 : decode cX6_car 11 = .ok (.ifCond .eq 17, 3) := by decide +kernel
theorem dX6_car_14 : decode cX6_car 14 = .ok (.aload_n 0, 1) := by decide +kernel
theorem dX6_car_15 : decode cX6_car 15 = .ok (.getfield 25, 3) := by decide +kernel
theorem dX6_car_18 : decode cX6_car 18 = .ok (.bipush 8, 2) := by decide +kernel
theorem dX6_car_20 : decode cX6_car 20 = .ok (.iload_n 1, 1) := by decide +kernel
theorem dX6_car_21 : decode cX6_car 21 = .ok (.imul, 1) := by decide +kernel
theorem dX6_car_22 : decode cX6_car 22 = .ok (.iload_n 2, 1) := by decide +kernel
theorem dX6_car_23 : decode cX6_car 23 = .ok (.iadd, 1) := by decide +kernel
theorem dX6_car_24 : decode cX6_car 24 = .ok (.iaload, 1) := by decide +kernel
theorem dX6_car_25 : decode cX6_car 25 = .ok (.goto 4, 3) := by decide +kernel
theorem dX6_car_28 : decode cX6_car 28 = .ok (.iconst (-1), 1) := by decide +kernel
theorem dX6_car_29 : decode cX6_car 29 = .ok (.ireturn, 1) := by decide +kernel
theorem dX6_isSort_0 : decode cX6_isSort 0 = .ok (.iload_n 0, 1) := by decide +kernel
theorem dX6_isSort_1 : decode cX6_isSort 1 = .ok (.i2l, 1) := by decide +kernel
theorem dX6_isSort_2 : decode cX6_isSort 2 = .ok (.lconst 0, 1) := by decide +kernel
theorem dX6_isSort_3 : decode cX6_isSort 3 = .ok (.ldc2_w 221, 3) := by decide +kernel
theorem dX6_isSort_6 : decode cX6_isSort 6 = .ok (.invokestatic 100, 3) := by decide +kernel
theorem dX6_isSort_9 : decode cX6_isSort 9 = .ok (.ireturn, 1) := by decide +kernel
theorem dX6_takes_0 : decode cX6_takes 0 = .ok (.aload_n 0, 1) := by decide +kernel
theorem dX6_takes_1 : decode cX6_takes 1 = .ok (.iconst 0, 1) := by decide +kernel
theorem dX6_takes_2 : decode cX6_takes 2 = .ok (.putfield 93, 3) := by decide +kernel
theorem dX6_takes_5 : decode cX6_takes 5 = .ok (.aload_n 0, 1) := by decide +kernel
theorem dX6_takes_6 : decode cX6_takes 6 = .ok (.iload_n 1, 1) := by decide +kernel
theorem dX6_takes_7 : decode cX6_takes 7 = .ok (.invokevirtual 194, 3) := by decide +kernel
theorem dX6_takes_10 : decode cX6_takes 10 = .ok (.ifCond .eq 19, 3) := by decide +kernel
theorem dX6_takes_13 : decode cX6_takes 13 = .ok (.iload_n 2, 1) := by decide +kernel
theorem dX6_takes_14 : decode cX6_takes 14 = .ok (.invokestatic 223, 3) := by decide +kernel
theorem dX6_takes_17 : decode cX6_takes 17 = .ok (.ifCond .eq 12, 3) := by decide +kernel
theorem dX6_takes_20 : decode cX6_takes 20 = .ok (.aload_n 0, 1) := by decide +kernel
theorem dX6_takes_21 : decode cX6_takes 21 = .ok (.iload_n 1, 1) := by decide +kernel
theorem dX6_takes_22 : decode cX6_takes 22 = .ok (.iload_n 2, 1) := by decide +kernel
theorem dX6_takes_23 : decode cX6_takes 23 = .ok (.invokevirtual 116, 3) := by decide +kernel
theorem dX6_takes_26 : decode cX6_takes 26 = .ok (.goto 4, 3) := by decide +kernel
theorem dX6_takes_29 : decode cX6_takes 29 = .ok (.iconst (-1), 1) := by decide +kernel
theorem dX6_takes_30 : decode cX6_takes 30 = .ok (.ireturn, 1) := by decide +kernel
theorem dX6_comes_0 : decode cX6_comes 0 = .ok (.aload_n 0, 1) := by decide +kernel
theorem dX6_comes_1 : decode cX6_comes 1 = .ok (.iconst 0, 1) := by decide +kernel
theorem dX6_comes_2 : decode cX6_comes 2 = .ok (.putfield 93, 3) := by decide +kernel
theorem dX6_comes_5 : decode cX6_comes 5 = .ok (.aload_n 0, 1) := by decide +kernel
theorem dX6_comes_6 : decode cX6_comes 6 = .ok (.iload_n 1, 1) := by decide +kernel
theorem dX6_comes_7 : decode cX6_comes 7 = .ok (.invokevirtual 194, 3) := by decide +kernel
theorem dX6_comes_10 : decode cX6_comes 10 = .ok (.ifCond .eq 10, 3) := by decide +kernel
theorem dX6_comes_13 : decode cX6_comes 13 = .ok (.iload_n 2, 1) := by decide +kernel
theorem dX6_comes_14 : decode cX6_comes 14 = .ok (.invokestatic 223, 3) := by decide +kernel
theorem dX6_comes_17 : decode cX6_comes 17 = .ok (.ifCond .ne 5, 3) := by decide +kernel
theorem dX6_comes_20 : decode cX6_comes 20 = .ok (.iconst (-1), 1) := by decide +kernel
theorem dX6_comes_21 : decode cX6_comes 21 = .ok (.ireturn, 1) := by decide +kernel
theorem dX6_comes_22 : decode cX6_comes 22 = .ok (.aload_n 0, 1) := by decide +kernel
theorem dX6_comes_23 : decode cX6_comes 23 = .ok (.iload_n 1, 1) := by decide +kernel
theorem dX6_comes_24 : decode cX6_comes 24 = .ok (.invokevirtual 112, 3) := by decide +kernel
theorem dX6_comes_27 : decode cX6_comes 27 = .ok (.ifCond .ne 6, 3) := by decide +kernel
theorem dX6_comes_30 : decode cX6_comes 30 = .ok (.bipush (-3), 2) := by decide +kernel
theorem dX6_comes_32 : decode cX6_comes 32 = .ok (.ireturn, 1) := by decide +kernel
theorem dX6_comes_33 : decode cX6_comes 33 = .ok (.aload_n 0, 1) := by decide +kernel
theorem dX6_comes_34 : decode cX6_comes 34 = .ok (.getfield 16, 3) := by decide +kernel
theorem dX6_comes_37 : decode cX6_comes 37 = .ok (.iload_n 1, 1) := by decide +kernel
theorem dX6_comes_38 : decode cX6_comes 38 = .ok (.iaload, 1) := by decide +kernel
theorem dX6_comes_39 : decode cX6_comes 39 = .ok (.bipush 8, 2) := by decide +kernel
theorem dX6_comes_41 : decode cX6_comes 41 = .ok (.if_icmp .ne 6, 3) := by decide +kernel
theorem dX6_comes_44 : decode cX6_comes 44 = .ok (.bipush (-2), 2) := by decide +kernel
theorem dX6_comes_46 : decode cX6_comes 46 = .ok (.ireturn, 1) := by decide +kernel
theorem dX6_comes_47 : decode cX6_comes 47 = .ok (.aload_n 0, 1) := by decide +kernel
theorem dX6_comes_48 : decode cX6_comes 48 = .ok (.iload_n 1, 1) := by decide +kernel
theorem dX6_comes_49 : decode cX6_comes 49 = .ok (.iload_n 2, 1) := by decide +kernel
theorem dX6_comes_50 : decode cX6_comes 50 = .ok (.invokevirtual 226, 3) := by decide +kernel
theorem dX6_comes_53 : decode cX6_comes 53 = .ok (.istore_n 3, 1) := by decide +kernel
theorem dX6_comes_54 : decode cX6_comes 54 = .ok (.aload_n 0, 1) := by decide +kernel
theorem dX6_comes_55 : decode cX6_comes 55 = .ok (.iload_n 1, 1) := by decide +kernel
theorem dX6_comes_56 : decode cX6_comes 56 = .ok (.iload_n 2, 1) := by decide +kernel
theorem dX6_comes_57 : decode cX6_comes 57 = .ok (.invokevirtual 185, 3) := by decide +kernel
theorem dX6_comes_60 : decode cX6_comes 60 = .ok (.iload_n 3, 1) := by decide +kernel
theorem dX6_comes_61 : decode cX6_comes 61 = .ok (.ireturn, 1) := by decide +kernel
theorem dX6_minutes_0 : decode cX6_minutes 0 = .ok (.aload_n 0, 1) := by decide +kernel
theorem dX6_minutes_1 : decode cX6_minutes 1 = .ok (.iconst 0, 1) := by decide +kernel
theorem dX6_minutes_2 : decode cX6_minutes 2 = .ok (.putfield 93, 3) := by decide +kernel
theorem dX6_minutes_5 : decode cX6_minutes 5 = .ok (.iload_n 1, 1) := by decide +kernel
theorem dX6_minutes_6 : decode cX6_minutes 6 = .ok (.i2l, 1) := by decide +kernel
theorem dX6_minutes_7 : decode cX6_minutes 7 = .ok (.lconst 1, 1) := by decide +kernel
theorem dX6_minutes_8 : decode cX6_minutes 8 = .ok (.ldc2_w 229, 3) := by decide +kernel
theorem dX6_minutes_11 : decode cX6_minutes 11 = .ok (.invokestatic 100, 3) := by decide +kernel
theorem dX6_minutes_14 : decode cX6_minutes 14 = .ok (.ifCond .eq 11, 3) := by decide +kernel
theorem dX6_minutes_17 : decode cX6_minutes 17 = .ok (.aload_n 0, 1) := by decide +kernel
theorem dX6_minutes_18 : decode cX6_minutes 18 = .ok (.iload_n 1, 1) := by decide +kernel
theorem dX6_minutes_19 : decode cX6_minutes 19 = .ok (.invokevirtual 191, 3) := by decide +kernel
theorem dX6_minutes_22 : decode cX6_minutes 22 = .ok (.goto 4, 3) := by decide +kernel
theorem dX6_minutes_25 : decode cX6_minutes 25 = .ok (.iconst (-1), 1) := by decide +kernel
theorem dX6_minutes_26 : decode cX6_minutes 26 = .ok (.ireturn, 1) := by decide +kernel
theorem dX6_whichLane_0 : decode cX6_whichLane 0 = .ok (.bipush (-4), 2) := by decide +kernel
theorem dX6_whichLane_2 : decode cX6_whichLane 2 = .ok (.istore_n 1, 1) := by decide +kernel
theorem dX6_whichLane_3 : decode cX6_whichLane 3 = .ok (.iconst 0, 1) := by decide +kernel
theorem dX6_whichLane_4 : decode cX6_whichLane 4 = .ok (.istore_n 2, 1) := by decide +kernel
theorem dX6_whichLane_5 : decode cX6_whichLane 5 = .ok (.iload_n 2, 1) := by decide +kernel
theorem dX6_whichLane_6 : decode cX6_whichLane 6 = .ok (.aload_n 0, 1) := by decide +kernel
theorem dX6_whichLane_7 : decode cX6_whichLane 7 = .ok (.getfield 97, 3) := by decide +kernel
theorem dX6_whichLane_10 : decode cX6_whichLane 10 = .ok (.if_icmp .ge 40, 3) := by decide +kernel
theorem dX6_whichLane_13 : decode cX6_whichLane 13 = .ok (.aload_n 0, 1) := by decide +kernel
theorem dX6_whichLane_14 : decode cX6_whichLane 14 = .ok (.iload_n 2, 1) := by decide +kernel
theorem dX6_whichLane_15 : decode cX6_whichLane 15 = .ok (.invokevirtual 231, 3) := by decide +kernel
theorem dX6_whichLane_18 : decode cX6_whichLane 18 = .ok (.ifCond .eq 24, 3) := by decide +kernel
theorem dX6_whichLane_21 : decode cX6_whichLane 21 = .ok (.iload_n 1, 1) := by decide +kernel
theorem dX6_whichLane_22 : decode cX6_whichLane 22 = .ok (.ifCond .lt 16, 3) := by decide +kernel
theorem dX6_whichLane_25 : decode cX6_whichLane 25 = .ok (.aload_n 0, 1) := by decide +kernel
theorem dX6_whichLane_26 : decode cX6_whichLane 26 = .ok (.iload_n 2, 1) := by decide +kernel
theorem dX6_whichLane_27 : decode cX6_whichLane 27 = .ok (.invokevirtual 214, 3) := by decide +kernel
theorem dX6_whichLane_30 : decode cX6_whichLane 30 = .ok (.aload_n 0, 1) := by decide +kernel
theorem dX6_whichLane_31 : decode cX6_whichLane 31 = .ok (.iload_n 1, 1) := by decide +kernel
theorem dX6_whichLane_32 : decode cX6_whichLane 32 = .ok (.invokevirtual 214, 3) := by decide +kernel
theorem dX6_whichLane_35 : decode cX6_whichLane 35 = .ok (.if_icmp .ge 7, 3) := by decide +kernel
theorem dX6_whichLane_38 : decode cX6_whichLane 38 = .ok (.iload_n 2, 1) := by decide +kernel
theorem dX6_whichLane_39 : decode cX6_whichLane 39 = .ok (.goto 4, 3) := by decide +kernel
theorem dX6_whichLane_42 : decode cX6_whichLane 42 = .ok (.iload_n 1, 1) := by decide +kernel
theorem dX6_whichLane_43 : decode cX6_whichLane 43 = .ok (.istore_n 1, 1) := by decide +kernel
theorem dX6_whichLane_44 : decode cX6_whichLane 44 = .ok (.iinc 2 1, 3) := by decide +kernel
theorem dX6_whichLane_47 : decode cX6_whichLane 47 = .ok (.goto (-42), 3) := by decide +kernel
theorem dX6_whichLane_50 : decode cX6_whichLane 50 = .ok (.iload_n 1, 1) := by decide +kernel
theorem dX6_whichLane_51 : decode cX6_whichLane 51 = .ok (.ireturn, 1) := by decide +kernel
theorem dX6_bestLane_0 : decode cX6_bestLane 0 = .ok (.bipush (-4), 2) := by decide +kernel
theorem dX6_bestLane_2 : decode cX6_bestLane 2 = .ok (.istore_n 2, 1) := by decide +kernel
theorem dX6_bestLane_3 : decode cX6_bestLane 3 = .ok (.iconst 0, 1) := by decide +kernel
theorem dX6_bestLane_4 : decode cX6_bestLane 4 = .ok (.istore_n 3, 1) := by decide +kernel
theorem dX6_bestLane_5 : decode cX6_bestLane 5 = .ok (.iload_n 3, 1) := by decide +kernel
theorem dX6_bestLane_6 : decode cX6_bestLane 6 = .ok (.aload_n 0, 1) := by decide +kernel
theorem dX6_bestLane_7 : decode cX6_bestLane 7 = .ok (.getfield 97, 3) := by decide +kernel
theorem dX6_bestLane_10 : decode cX6_bestLane 10 = .ok (.if_icmp .ge 42, 3) := by decide +kernel
theorem dX6_bestLane_13 : decode cX6_bestLane 13 = .ok (.aload_n 0, 1) := by decide +kernel
theorem dX6_bestLane_14 : decode cX6_bestLane 14 = .ok (.iload_n 3, 1) := by decide +kernel
theorem dX6_bestLane_15 : decode cX6_bestLane 15 = .ok (.invokevirtual 231, 3) := by decide +kernel
theorem dX6_bestLane_18 : decode cX6_bestLane 18 = .ok (.ifCond .eq 26, 3) := by decide +kernel
theorem dX6_bestLane_21 : decode cX6_bestLane 21 = .ok (.iload_n 2, 1) := by decide +kernel
theorem dX6_bestLane_22 : decode cX6_bestLane 22 = .ok (.ifCond .lt 18, 3) := by decide +kernel
theorem dX6_bestLane_25 : decode cX6_bestLane 25 = .ok (.aload_n 0, 1) := by decide +kernel
theorem dX6_bestLane_26 : decode cX6_bestLane 26 = .ok (.iload_n 3, 1) := by decide +kernel
theorem dX6_bestLane_27 : decode cX6_bestLane 27 = .ok (.iload_n 1, 1) := by decide +kernel
theorem dX6_bestLane_28 : decode cX6_bestLane 28 = .ok (.invokevirtual 226, 3) := by decide +kernel
theorem dX6_bestLane_31 : decode cX6_bestLane 31 = .ok (.aload_n 0, 1) := by decide +kernel
theorem dX6_bestLane_32 : decode cX6_bestLane 32 = .ok (.iload_n 2, 1) := by decide +kernel
theorem dX6_bestLane_33 : decode cX6_bestLane 33 = .ok (.iload_n 1, 1) := by decide +kernel
theorem dX6_bestLane_34 : decode cX6_bestLane 34 = .ok (.invokevirtual 226, 3) := by decide +kernel
theorem dX6_bestLane_37 : decode cX6_bestLane 37 = .ok (.if_icmp .ge 7, 3) := by decide +kernel
theorem dX6_bestLane_40 : decode cX6_bestLane 40 = .ok (.iload_n 3, 1) := by decide +kernel
theorem dX6_bestLane_41 : decode cX6_bestLane 41 = .ok (.goto 4, 3) := by decide +kernel
theorem dX6_bestLane_44 : decode cX6_bestLane 44 = .ok (.iload_n 2, 1) := by decide +kernel
theorem dX6_bestLane_45 : decode cX6_bestLane 45 = .ok (.istore_n 2, 1) := by decide +kernel
theorem dX6_bestLane_46 : decode cX6_bestLane 46 = .ok (.iinc 3 1, 3) := by decide +kernel
theorem dX6_bestLane_49 : decode cX6_bestLane 49 = .ok (.goto (-44), 3) := by decide +kernel
theorem dX6_bestLane_52 : decode cX6_bestLane 52 = .ok (.iload_n 2, 1) := by decide +kernel
theorem dX6_bestLane_53 : decode cX6_bestLane 53 = .ok (.ireturn, 1) := by decide +kernel
theorem dX6_which_0 : decode cX6_which 0 = .ok (.aload_n 0, 1) := by decide +kernel
theorem dX6_which_1 : decode cX6_which 1 = .ok (.iconst 0, 1) := by decide +kernel
theorem dX6_which_2 : decode cX6_which 2 = .ok (.putfield 93, 3) := by decide +kernel
theorem dX6_which_5 : decode cX6_which 5 = .ok (.iload_n 1, 1) := by decide +kernel
theorem dX6_which_6 : decode cX6_which 6 = .ok (.invokestatic 223, 3) := by decide +kernel
theorem dX6_which_9 : decode cX6_which 9 = .ok (.ifCond .eq 10, 3) := by decide +kernel
theorem dX6_which_12 : decode cX6_which 12 = .ok (.aload_n 0, 1) := by decide +kernel
theorem dX6_which_13 : decode cX6_which 13 = .ok (.invokevirtual 234, 3) := by decide +kernel
theorem dX6_which_16 : decode cX6_which 16 = .ok (.goto 4, 3) := by decide +kernel
theorem dX6_which_19 : decode cX6_which 19 = .ok (.iconst (-1), 1) := by decide +kernel
theorem dX6_which_20 : decode cX6_which 20 = .ok (.ireturn, 1) := by decide +kernel
theorem dX6_best_0 : decode cX6_best 0 = .ok (.aload_n 0, 1) := by decide +kernel
theorem dX6_best_1 : decode cX6_best 1 = .ok (.iconst 0, 1) := by decide +kernel
theorem dX6_best_2 : decode cX6_best 2 = .ok (.putfield 93, 3) := by decide +kernel
theorem dX6_best_5 : decode cX6_best 5 = .ok (.iload_n 1, 1) := by decide +kernel
theorem dX6_best_6 : decode cX6_best 6 = .ok (.invokestatic 223, 3) := by decide +kernel
theorem dX6_best_9 : decode cX6_best 9 = .ok (.ifCond .eq 11, 3) := by decide +kernel
theorem dX6_best_12 : decode cX6_best 12 = .ok (.aload_n 0, 1) := by decide +kernel
theorem dX6_best_13 : decode cX6_best 13 = .ok (.iload_n 1, 1) := by decide +kernel
theorem dX6_best_14 : decode cX6_best 14 = .ok (.invokevirtual 237, 3) := by decide +kernel
theorem dX6_best_17 : decode cX6_best 17 = .ok (.goto 4, 3) := by decide +kernel
theorem dX6_best_20 : decode cX6_best 20 = .ok (.iconst (-1), 1) := by decide +kernel
theorem dX6_best_21 : decode cX6_best 21 = .ok (.ireturn, 1) := by decide +kernel
theorem dX6_regretOf_0 : decode cX6_regretOf 0 = .ok (.aload_n 0, 1) := by decide +kernel
theorem dX6_regretOf_1 : decode cX6_regretOf 1 = .ok (.invokevirtual 234, 3) := by decide +kernel
theorem dX6_regretOf_4 : decode cX6_regretOf 4 = .ok (.istore_n 2, 1) := by decide +kernel
theorem dX6_regretOf_5 : decode cX6_regretOf 5 = .ok (.iload_n 2, 1) := by decide +kernel
theorem dX6_regretOf_6 : decode cX6_regretOf 6 = .ok (.ifCond .ge 8, 3) := by decide +kernel
theorem dX6_regretOf_9 : decode cX6_regretOf 9 = .ok (.bipush (-4), 2) := by decide +kernel
theorem dX6_regretOf_11 : decode cX6_regretOf 11 = .ok (.goto 20, 3) := by decide +kernel
theorem dX6_regretOf_14 : decode cX6_regretOf 14 = .ok (.aload_n 0, 1) := by decide +kernel
theorem dX6_regretOf_15 : decode cX6_regretOf 15 = .ok (.iload_n 2, 1) := by decide +kernel
theorem dX6_regretOf_16 : decode cX6_regretOf 16 = .ok (.iload_n 1, 1) := by decide +kernel
theorem dX6_regretOf_17 : decode cX6_regretOf 17 = .ok (.invokevirtual 226, 3) := by decide +kernel
theorem dX6_regretOf_20 : decode cX6_regretOf 20 = .ok (.aload_n 0, 1) := by decide +kernel
theorem dX6_regretOf_21 : decode cX6_regretOf 21 = .ok (.aload_n 0, 1) := by decide +kernel
theorem dX6_regretOf_22 : decode cX6_regretOf 22 = .ok (.iload_n 1, 1) := by decide +kernel
theorem dX6_regretOf_23 : decode cX6_regretOf 23 = .ok (.invokevirtual 237, 3) := by decide +kernel
theorem dX6_regretOf_26 : decode cX6_regretOf 26 = .ok (.iload_n 1, 1) := by decide +kernel
theorem dX6_regretOf_27 : decode cX6_regretOf 27 = .ok (.invokevirtual 226, 3) := by decide +kernel
theorem dX6_regretOf_30 : decode cX6_regretOf 30 = .ok (.isub, 1) := by decide +kernel
theorem dX6_regretOf_31 : decode cX6_regretOf 31 = .ok (.ireturn, 1) := by decide +kernel
theorem dX6_regret_0 : decode cX6_regret 0 = .ok (.aload_n 0, 1) := by decide +kernel
theorem dX6_regret_1 : decode cX6_regret 1 = .ok (.iconst 0, 1) := by decide +kernel
theorem dX6_regret_2 : decode cX6_regret 2 = .ok (.putfield 93, 3) := by decide +kernel
theorem dX6_regret_5 : decode cX6_regret 5 = .ok (.iload_n 1, 1) := by decide +kernel
theorem dX6_regret_6 : decode cX6_regret 6 = .ok (.invokestatic 223, 3) := by decide +kernel
theorem dX6_regret_9 : decode cX6_regret 9 = .ok (.ifCond .eq 11, 3) := by decide +kernel
theorem dX6_regret_12 : decode cX6_regret 12 = .ok (.aload_n 0, 1) := by decide +kernel
theorem dX6_regret_13 : decode cX6_regret 13 = .ok (.iload_n 1, 1) := by decide +kernel
theorem dX6_regret_14 : decode cX6_regret 14 = .ok (.invokevirtual 240, 3) := by decide +kernel
theorem dX6_regret_17 : decode cX6_regret 17 = .ok (.goto 4, 3) := by decide +kernel
theorem dX6_regret_20 : decode cX6_regret 20 = .ok (.iconst (-1), 1) := by decide +kernel
theorem dX6_regret_21 : decode cX6_regret 21 = .ok (.ireturn, 1) := by decide +kernel
theorem dX6_timeAt_0 : decode cX6_timeAt 0 = .ok (.aload_n 0, 1) := by decide +kernel
theorem dX6_timeAt_1 : decode cX6_timeAt 1 = .ok (.getfield 19, 3) := by decide +kernel
theorem dX6_timeAt_4 : decode cX6_timeAt 4 = .ok (.iload_n 1, 1) := by decide +kernel
theorem dX6_timeAt_5 : decode cX6_timeAt 5 = .ok (.iaload, 1) := by decide +kernel
theorem dX6_timeAt_6 : decode cX6_timeAt 6 = .ok (.istore_n 3, 1) := by decide +kernel
theorem dX6_timeAt_7 : decode cX6_timeAt 7 = .ok (.iconst 1, 1) := by decide +kernel
theorem dX6_timeAt_8 : decode cX6_timeAt 8 = .ok (.istore 4, 2) := by decide +kernel
theorem dX6_timeAt_10 : decode cX6_timeAt 10 = .ok (.iload 4, 2) := by decide +kernel
theorem dX6_timeAt_12 : decode cX6_timeAt 12 = .ok (.iload_n 2, 1) := by decide +kernel
theorem dX6_timeAt_13 : decode cX6_timeAt 13 = .ok (.if_icmp .gt 29, 3) := by decide +kernel
theorem dX6_timeAt_16 : decode cX6_timeAt 16 = .ok (.iload_n 3, 1) := by decide +kernel
theorem dX6_timeAt_17 : decode cX6_timeAt 17 = .ok (.aload_n 0, 1) := by decide +kernel
theorem dX6_timeAt_18 : decode cX6_timeAt 18 = .ok (.iload_n 1, 1) := by decide +kernel
theorem dX6_timeAt_19 : decode cX6_timeAt 19 = .ok (.aload_n 0, 1) := by decide +kernel
theorem dX6_timeAt_20 : decode cX6_timeAt 20 = .ok (.getfield 25, 3) := by decide +kernel
theorem dX6_timeAt_23 : decode cX6_timeAt 23 = .ok (.bipush 8, 2) := by decide +kernel
theorem dX6_timeAt_25 : decode cX6_timeAt 25 = .ok (.iload_n 1, 1) := by decide +kernel
theorem dX6_timeAt_26 : decode cX6_timeAt 26 = .ok (.imul, 1) := by decide +kernel
theorem dX6_timeAt_27 : decode cX6_timeAt 27 = .ok (.iload 4, 2) := by decide +kernel
theorem dX6_timeAt_29 : decode cX6_timeAt 29 = .ok (.iadd, 1) := by decide +kernel
theorem dX6_timeAt_30 : decode cX6_timeAt 30 = .ok (.iaload, 1) := by decide +kernel
theorem dX6_timeAt_31 : decode cX6_timeAt 31 = .ok (.invokevirtual 116, 3) := by decide +kernel
theorem dX6_timeAt_34 : decode cX6_timeAt 34 = .ok (.iadd, 1) := by decide +kernel
theorem dX6_timeAt_35 : decode cX6_timeAt 35 = .ok (.istore_n 3, 1) := by decide +kernel
theorem dX6_timeAt_36 : decode cX6_timeAt 36 = .ok (.iinc 4 1, 3) := by decide +kernel
theorem dX6_timeAt_39 : decode cX6_timeAt 39 = .ok (.goto (-29), 3) := by decide +kernel
theorem dX6_timeAt_42 : decode cX6_timeAt 42 = .ok (.iload_n 3, 1) := by decide +kernel
theorem dX6_timeAt_43 : decode cX6_timeAt 43 = .ok (.ireturn, 1) := by decide +kernel
theorem dX6_time_0 : decode cX6_time 0 = .ok (.aload_n 0, 1) := by decide +kernel
theorem dX6_time_1 : decode cX6_time 1 = .ok (.iconst 0, 1) := by decide +kernel
theorem dX6_time_2 : decode cX6_time 2 = .ok (.putfield 93, 3) := by decide +kernel
theorem dX6_time_5 : decode cX6_time 5 = .ok (.aload_n 0, 1) := by decide +kernel
theorem dX6_time_6 : decode cX6_time 6 = .ok (.iload_n 1, 1) := by decide +kernel
theorem dX6_time_7 : decode cX6_time 7 = .ok (.iload_n 2, 1) := by decide +kernel
theorem dX6_time_8 : decode cX6_time 8 = .ok (.invokevirtual 217, 3) := by decide +kernel
theorem dX6_time_11 : decode cX6_time 11 = .ok (.ifCond .eq 12, 3) := by decide +kernel
theorem dX6_time_14 : decode cX6_time 14 = .ok (.aload_n 0, 1) := by decide +kernel
theorem dX6_time_15 : decode cX6_time 15 = .ok (.iload_n 1, 1) := by decide +kernel
theorem dX6_time_16 : decode cX6_time 16 = .ok (.iload_n 2, 1) := by decide +kernel
theorem dX6_time_17 : decode cX6_time 17 = .ok (.invokevirtual 243, 3) := by decide +kernel
theorem dX6_time_20 : decode cX6_time 20 = .ok (.goto 4, 3) := by decide +kernel
theorem dX6_time_23 : decode cX6_time 23 = .ok (.iconst (-1), 1) := by decide +kernel
theorem dX6_time_24 : decode cX6_time 24 = .ok (.ireturn, 1) := by decide +kernel
theorem dX6_allTimes_0 : decode cX6_allTimes 0 = .ok (.iconst 0, 1) := by decide +kernel
theorem dX6_allTimes_1 : decode cX6_allTimes 1 = .ok (.istore_n 1, 1) := by decide +kernel
theorem dX6_allTimes_2 : decode cX6_allTimes 2 = .ok (.iconst 0, 1) := by decide +kernel
theorem dX6_allTimes_3 : decode cX6_allTimes 3 = .ok (.istore_n 2, 1) := by decide +kernel
theorem dX6_allTimes_4 : decode cX6_allTimes 4 = .ok (.iload_n 2, 1) := by decide +kernel
theorem dX6_allTimes_5 : decode cX6_allTimes 5 = .ok (.aload_n 0, 1) := by decide +kernel
theorem dX6_allTimes_6 : decode cX6_allTimes 6 = .ok (.getfield 97, 3) := by decide +kernel
theorem dX6_allTimes_9 : decode cX6_allTimes 9 = .ok (.if_icmp .ge 36, 3) := by decide +kernel
theorem dX6_allTimes_12 : decode cX6_allTimes 12 = .ok (.iconst 0, 1) := by decide +kernel
theorem dX6_allTimes_13 : decode cX6_allTimes 13 = .ok (.istore_n 3, 1) := by decide +kernel
theorem dX6_allTimes_14 : decode cX6_allTimes 14 = .ok (.iload_n 3, 1) := by decide +kernel
theorem dX6_allTimes_15 : decode cX6_allTimes 15 = .ok (.aload_n 0, 1) := by decide +kernel
theorem dX6_allTimes_16 : decode cX6_allTimes 16 = .ok (.getfield 16, 3) := by decide +kernel
theorem dX6_allTimes_19 : decode cX6_allTimes 19 = .ok (.iload_n 2, 1) := by decide +kernel
theorem dX6_allTimes_20 : decode cX6_allTimes 20 = .ok (.iaload, 1) := by decide +kernel
theorem dX6_allTimes_21 : decode cX6_allTimes 21 = .ok (.if_icmp .ge 18, 3) := by decide +kernel
theorem dX6_allTimes_24 : decode cX6_allTimes 24 = .ok (.iload_n 1, 1) := by decide +kernel
theorem dX6_allTimes_25 : decode cX6_allTimes 25 = .ok (.aload_n 0, 1) := by decide +kernel
theorem dX6_allTimes_26 : decode cX6_allTimes 26 = .ok (.iload_n 2, 1) := by decide +kernel
theorem dX6_allTimes_27 : decode cX6_allTimes 27 = .ok (.iload_n 3, 1) := by decide +kernel
theorem dX6_allTimes_28 : decode cX6_allTimes 28 = .ok (.invokevirtual 243, 3) := by decide +kernel
theorem dX6_allTimes_31 : decode cX6_allTimes 31 = .ok (.iadd, 1) := by decide +kernel
theorem dX6_allTimes_32 : decode cX6_allTimes 32 = .ok (.istore_n 1, 1) := by decide +kernel
theorem dX6_allTimes_33 : decode cX6_allTimes 33 = .ok (.iinc 3 1, 3) := by decide +kernel
theorem dX6_allTimes_36 : decode cX6_allTimes 36 = .ok (.goto (-22), 3) := by decide +kernel
theorem dX6_allTimes_39 : decode cX6_allTimes 39 = .ok (.iinc 2 1, 3) := by decide +kernel
theorem dX6_allTimes_42 : decode cX6_allTimes 42 = .ok (.goto (-38), 3) := by decide +kernel
theorem dX6_allTimes_45 : decode cX6_allTimes 45 = .ok (.iload_n 1, 1) := by decide +kernel
theorem dX6_allTimes_46 : decode cX6_allTimes 46 = .ok (.ireturn, 1) := by decide +kernel
theorem dX6_all_0 : decode cX6_all 0 = .ok (.aload_n 0, 1) := by decide +kernel
theorem dX6_all_1 : decode cX6_all 1 = .ok (.iconst 0, 1) := by decide +kernel
theorem dX6_all_2 : decode cX6_all 2 = .ok (.putfield 93, 3) := by decide +kernel
theorem dX6_all_5 : decode cX6_all 5 = .ok (.aload_n 0, 1) := by decide +kernel
theorem dX6_all_6 : decode cX6_all 6 = .ok (.invokevirtual 246, 3) := by decide +kernel
theorem dX6_all_9 : decode cX6_all 9 = .ok (.ireturn, 1) := by decide +kernel
theorem dX6_wrongChange_0 : decode cX6_wrongChange 0 = .ok (.aload_n 0, 1) := by decide +kernel
theorem dX6_wrongChange_1 : decode cX6_wrongChange 1 = .ok (.iload_n 1, 1) := by decide +kernel
theorem dX6_wrongChange_2 : decode cX6_wrongChange 2 = .ok (.iload_n 2, 1) := by decide +kernel
theorem dX6_wrongChange_3 : decode cX6_wrongChange 3 = .ok (.invokevirtual 217, 3) := by decide +kernel
theorem dX6_wrongChange_6 : decode cX6_wrongChange 6 = .ok (.ifCond .eq 20, 3) := by decide +kernel
theorem dX6_wrongChange_9 : decode cX6_wrongChange 9 = .ok (.iload_n 2, 1) := by decide +kernel
theorem dX6_wrongChange_10 : decode cX6_wrongChange 10 = .ok (.ifCond .eq 16, 3) := by decide +kernel
theorem dX6_wrongChange_13 : decode cX6_wrongChange 13 = .ok (.aload_n 0, 1) := by decide +kernel
theorem dX6_wrongChange_14 : decode cX6_wrongChange 14 = .ok (.iload_n 3, 1) := by decide +kernel
theorem dX6_wrongChange_15 : decode cX6_wrongChange 15 = .ok (.invokevirtual 194, 3) := by decide +kernel
theorem dX6_wrongChange_18 : decode cX6_wrongChange 18 = .ok (.ifCond .eq 8, 3) := by decide +kernel
theorem dX6_wrongChange_21 : decode cX6_wrongChange 21 = .ok (.iload_n 1, 1) := by decide +kernel
theorem dX6_wrongChange_22 : decode cX6_wrongChange 22 = .ok (.iload_n 3, 1) := by decide +kernel
theorem dX6_wrongChange_23 : decode cX6_wrongChange 23 = .ok (.if_icmp .ne 5, 3) := by decide +kernel
theorem dX6_wrongChange_26 : decode cX6_wrongChange 26 = .ok (.iconst (-1), 1) := by decide +kernel
theorem dX6_wrongChange_27 : decode cX6_wrongChange 27 = .ok (.ireturn, 1) := by decide +kernel
theorem dX6_wrongChange_28 : decode cX6_wrongChange 28 = .ok (.aload_n 0, 1) := by decide +kernel
theorem dX6_wrongChange_29 : decode cX6_wrongChange 29 = .ok (.getfield 16, 3) := by decide +kernel
theorem dX6_wrongChange_32 : decode cX6_wrongChange 32 = .ok (.iload_n 3, 1) := by decide +kernel
theorem dX6_wrongChange_33 : decode cX6_wrongChange 33 = .ok (.iaload, 1) := by decide +kernel
theorem dX6_wrongChange_34 : decode cX6_wrongChange 34 = .ok (.bipush 8, 2) := by decide +kernel
theorem dX6_wrongChange_36 : decode cX6_wrongChange 36 = .ok (.if_icmp .ne 8, 3) := by decide +kernel
theorem dX6_wrongChange_39 : decode cX6_wrongChange 39 = .ok (.bipush (-2), 2) := by decide +kernel
theorem dX6_wrongChange_41 : decode cX6_wrongChange 41 = .ok (.goto 17, 3) := by decide +kernel
theorem dX6_wrongChange_44 : decode cX6_wrongChange 44 = .ok (.aload_n 0, 1) := by decide +kernel
theorem dX6_wrongChange_45 : decode cX6_wrongChange 45 = .ok (.iload_n 3, 1) := by decide +kernel
theorem dX6_wrongChange_46 : decode cX6_wrongChange 46 = .ok (.invokevirtual 112, 3) := by decide +kernel
theorem dX6_wrongChange_49 : decode cX6_wrongChange 49 = .ok (.ifCond .eq 7, 3) := by decide +kernel
theorem dX6_wrongChange_52 : decode cX6_wrongChange 52 = .ok (.iconst 0, 1) := by decide +kernel
theorem dX6_wrongChange_53 : decode cX6_wrongChange 53 = .ok (.goto 5, 3) := by decide +kernel
theorem dX6_wrongChange_56 : decode cX6_wrongChange 56 = .ok (.bipush (-3), 2) := by decide +kernel
theorem dX6_wrongChange_58 : decode cX6_wrongChange 58 = .ok (.ireturn, 1) := by decide +kernel
theorem dX6_gainOf_0 : decode cX6_gainOf 0 = .ok (.aload_n 0, 1) := by decide +kernel
theorem dX6_gainOf_1 : decode cX6_gainOf 1 = .ok (.iload_n 1, 1) := by decide +kernel
theorem dX6_gainOf_2 : decode cX6_gainOf 2 = .ok (.iload_n 2, 1) := by decide +kernel
theorem dX6_gainOf_3 : decode cX6_gainOf 3 = .ok (.invokevirtual 243, 3) := by decide +kernel
theorem dX6_gainOf_6 : decode cX6_gainOf 6 = .ok (.aload_n 0, 1) := by decide +kernel
theorem dX6_gainOf_7 : decode cX6_gainOf 7 = .ok (.iload_n 3, 1) := by decide +kernel
theorem dX6_gainOf_8 : decode cX6_gainOf 8 = .ok (.aload_n 0, 1) := by decide +kernel
theorem dX6_gainOf_9 : decode cX6_gainOf 9 = .ok (.getfield 25, 3) := by decide +kernel
theorem dX6_gainOf_12 : decode cX6_gainOf 12 = .ok (.bipush 8, 2) := by decide +kernel
theorem dX6_gainOf_14 : decode cX6_gainOf 14 = .ok (.iload_n 1, 1) := by decide +kernel
theorem dX6_gainOf_15 : decode cX6_gainOf 15 = .ok (.imul, 1) := by decide +kernel
theorem dX6_gainOf_16 : decode cX6_gainOf 16 = .ok (.iload_n 2, 1) := by decide +kernel
theorem dX6_gainOf_17 : decode cX6_gainOf 17 = .ok (.iadd, 1) := by decide +kernel
theorem dX6_gainOf_18 : decode cX6_gainOf 18 = .ok (.iaload, 1) := by decide +kernel
theorem dX6_gainOf_19 : decode cX6_gainOf 19 = .ok (.invokevirtual 226, 3) := by decide +kernel
theorem dX6_gainOf_22 : decode cX6_gainOf 22 = .ok (.isub, 1) := by decide +kernel
theorem dX6_gainOf_23 : decode cX6_gainOf 23 = .ok (.ireturn, 1) := by decide +kernel
theorem dX6_goOver_0 : decode cX6_goOver 0 = .ok (.aload_n 0, 1) := by decide +kernel
theorem dX6_goOver_1 : decode cX6_goOver 1 = .ok (.getfield 25, 3) := by decide +kernel
theorem dX6_goOver_4 : decode cX6_goOver 4 = .ok (.bipush 8, 2) := by decide +kernel
theorem dX6_goOver_6 : decode cX6_goOver 6 = .ok (.iload_n 1, 1) := by decide +kernel
theorem dX6_goOver_7 : decode cX6_goOver 7 = .ok (.imul, 1) := by decide +kernel
theorem dX6_goOver_8 : decode cX6_goOver 8 = .ok (.iload_n 2, 1) := by decide +kernel
theorem dX6_goOver_9 : decode cX6_goOver 9 = .ok (.iadd, 1) := by decide +kernel
theorem dX6_goOver_10 : decode cX6_goOver 10 = .ok (.iaload, 1) := by decide +kernel
theorem dX6_goOver_11 : decode cX6_goOver 11 = .ok (.istore 4, 2) := by decide +kernel
theorem dX6_goOver_13 : decode cX6_goOver 13 = .ok (.aload_n 0, 1) := by decide +kernel
theorem dX6_goOver_14 : decode cX6_goOver 14 = .ok (.iload_n 1, 1) := by decide +kernel
theorem dX6_goOver_15 : decode cX6_goOver 15 = .ok (.iload_n 2, 1) := by decide +kernel
theorem dX6_goOver_16 : decode cX6_goOver 16 = .ok (.invokevirtual 129, 3) := by decide +kernel
theorem dX6_goOver_19 : decode cX6_goOver 19 = .ok (.aload_n 0, 1) := by decide +kernel
theorem dX6_goOver_20 : decode cX6_goOver 20 = .ok (.iload_n 3, 1) := by decide +kernel
theorem dX6_goOver_21 : decode cX6_goOver 21 = .ok (.iload 4, 2) := by decide +kernel
theorem dX6_goOver_23 : decode cX6_goOver 23 = .ok (.invokevirtual 185, 3) := by decide +kernel
theorem dX6_goOver_26 : decode cX6_goOver 26 = .ok (.return_, 1) := by decide +kernel
theorem dX6_bringsOf_0 : decode cX6_bringsOf 0 = .ok (.aload_n 0, 1) := by decide +kernel
theorem dX6_bringsOf_1 : decode cX6_bringsOf 1 = .ok (.invokevirtual 246, 3) := by decide +kernel
theorem dX6_bringsOf_4 : decode cX6_bringsOf 4 = .ok (.istore 4, 2) := by decide +kernel
theorem dX6_bringsOf_6 : decode cX6_bringsOf 6 = .ok (.aload_n 0, 1) := by decide +kernel
theorem dX6_bringsOf_7 : decode cX6_bringsOf 7 = .ok (.invokevirtual 203, 3) := by decide +kernel
theorem dX6_bringsOf_10 : decode cX6_bringsOf 10 = .ok (.aload_n 0, 1) := by decide +kernel
theorem dX6_bringsOf_11 : decode cX6_bringsOf 11 = .ok (.iload_n 1, 1) := by decide +kernel
theorem dX6_bringsOf_12 : decode cX6_bringsOf 12 = .ok (.iload_n 2, 1) := by decide +kernel
theorem dX6_bringsOf_13 : decode cX6_bringsOf 13 = .ok (.iload_n 3, 1) := by decide +kernel
theorem dX6_bringsOf_14 : decode cX6_bringsOf 14 = .ok (.invokevirtual 249, 3) := by decide +kernel
theorem dX6_bringsOf_17 : decode cX6_bringsOf 17 = .ok (.aload_n 0, 1) := by decide +kernel
theorem dX6_bringsOf_18 : decode cX6_bringsOf 18 = .ok (.invokevirtual 246, 3) := by decide +kernel
theorem dX6_bringsOf_21 : decode cX6_bringsOf 21 = .ok (.istore 5, 2) := by decide +kernel
theorem dX6_bringsOf_23 : decode cX6_bringsOf 23 = .ok (.aload_n 0, 1) := by decide +kernel
theorem dX6_bringsOf_24 : decode cX6_bringsOf 24 = .ok (.invokevirtual 209, 3) := by decide +kernel
theorem dX6_bringsOf_27 : decode cX6_bringsOf 27 = .ok (.iload 4, 2) := by decide +kernel
theorem dX6_bringsOf_29 : decode cX6_bringsOf 29 = .ok (.iload 5, 2) := by decide +kernel
theorem dX6_bringsOf_31 : decode cX6_bringsOf 31 = .ok (.isub, 1) := by decide +kernel
theorem dX6_bringsOf_32 : decode cX6_bringsOf 32 = .ok (.ireturn, 1) := by decide +kernel
theorem dX6_change_0 : decode cX6_change 0 = .ok (.aload_n 0, 1) := by decide +kernel
theorem dX6_change_1 : decode cX6_change 1 = .ok (.iconst 0, 1) := by decide +kernel
theorem dX6_change_2 : decode cX6_change 2 = .ok (.putfield 93, 3) := by decide +kernel
theorem dX6_change_5 : decode cX6_change 5 = .ok (.iload 4, 2) := by decide +kernel
theorem dX6_change_7 : decode cX6_change 7 = .ok (.i2l, 1) := by decide +kernel
theorem dX6_change_8 : decode cX6_change 8 = .ok (.lconst 0, 1) := by decide +kernel
theorem dX6_change_9 : decode cX6_change 9 = .ok (.lconst 1, 1) := by decide +kernel
theorem dX6_change_10 : decode cX6_change 10 = .ok (.invokestatic 100, 3) := by decide +kernel
theorem dX6_change_13 : decode cX6_change 13 = .ok (.ifCond .ne 7, 3) := by decide +kernel
theorem dX6_change_16 : decode cX6_change 16 = .ok (.iconst (-1), 1) := by decide +kernel
theorem dX6_change_17 : decode cX6_change 17 = .ok (.goto 10, 3) := by decide +kernel
theorem dX6_change_20 : decode cX6_change 20 = .ok (.aload_n 0, 1) := by decide +kernel
theorem dX6_change_21 : decode cX6_change 21 = .ok (.iload_n 1, 1) := by decide +kernel
theorem dX6_change_22 : decode cX6_change 22 = .ok (.iload_n 2, 1) := by decide +kernel
theorem dX6_change_23 : decode cX6_change 23 = .ok (.iload_n 3, 1) := by decide +kernel
theorem dX6_change_24 : decode cX6_change 24 = .ok (.invokevirtual 253, 3) := by decide +kernel
theorem dX6_change_27 : decode cX6_change 27 = .ok (.istore 5, 2) := by decide +kernel
theorem dX6_change_29 : decode cX6_change 29 = .ok (.iload 5, 2) := by decide +kernel
theorem dX6_change_31 : decode cX6_change 31 = .ok (.ifCond .ge 10, 3) := by decide +kernel
theorem dX6_change_34 : decode cX6_change 34 = .ok (.iload 5, 2) := by decide +kernel
theorem dX6_change_36 : decode cX6_change 36 = .ok (.ldc_w 256, 3) := by decide +kernel
theorem dX6_change_39 : decode cX6_change 39 = .ok (.isub, 1) := by decide +kernel
theorem dX6_change_40 : decode cX6_change 40 = .ok (.ireturn, 1) := by decide +kernel
theorem dX6_change_41 : decode cX6_change 41 = .ok (.iload 4, 2) := by decide +kernel
theorem dX6_change_43 : decode cX6_change 43 = .ok (.ifCond .ne 13, 3) := by decide +kernel
theorem dX6_change_46 : decode cX6_change 46 = .ok (.aload_n 0, 1) := by decide +kernel
theorem dX6_change_47 : decode cX6_change 47 = .ok (.iload_n 1, 1) := by decide +kernel
theorem dX6_change_48 : decode cX6_change 48 = .ok (.iload_n 2, 1) := by decide +kernel
theorem dX6_change_49 : decode cX6_change 49 = .ok (.iload_n 3, 1) := by decide +kernel
theorem dX6_change_50 : decode cX6_change 50 = .ok (.invokevirtual 257, 3) := by decide +kernel
theorem dX6_change_53 : decode cX6_change 53 = .ok (.goto 10, 3) := by decide +kernel
theorem dX6_change_56 : decode cX6_change 56 = .ok (.aload_n 0, 1) := by decide +kernel
theorem dX6_change_57 : decode cX6_change 57 = .ok (.iload_n 1, 1) := by decide +kernel
theorem dX6_change_58 : decode cX6_change 58 = .ok (.iload_n 2, 1) := by decide +kernel
theorem dX6_change_59 : decode cX6_change 59 = .ok (.iload_n 3, 1) := by decide +kernel
theorem dX6_change_60 : decode cX6_change 60 = .ok (.invokevirtual 260, 3) := by decide +kernel
theorem dX6_change_63 : decode cX6_change 63 = .ok (.ireturn, 1) := by decide +kernel
theorem dX6_changes_0 : decode cX6_changes 0 = .ok (.aload_n 0, 1) := by decide +kernel
theorem dX6_changes_1 : decode cX6_changes 1 = .ok (.iconst 0, 1) := by decide +kernel
theorem dX6_changes_2 : decode cX6_changes 2 = .ok (.putfield 93, 3) := by decide +kernel
theorem dX6_changes_5 : decode cX6_changes 5 = .ok (.aload_n 0, 1) := by decide +kernel
theorem dX6_changes_6 : decode cX6_changes 6 = .ok (.iload_n 1, 1) := by decide +kernel
theorem dX6_changes_7 : decode cX6_changes 7 = .ok (.iload_n 2, 1) := by decide +kernel
theorem dX6_changes_8 : decode cX6_changes 8 = .ok (.iload_n 3, 1) := by decide +kernel
theorem dX6_changes_9 : decode cX6_changes 9 = .ok (.invokevirtual 253, 3) := by decide +kernel
theorem dX6_changes_12 : decode cX6_changes 12 = .ok (.istore 4, 2) := by decide +kernel
theorem dX6_changes_14 : decode cX6_changes 14 = .ok (.iload 4, 2) := by decide +kernel
theorem dX6_changes_16 : decode cX6_changes 16 = .ok (.ifCond .ge 10, 3) := by decide +kernel
theorem dX6_changes_19 : decode cX6_changes 19 = .ok (.iload 4, 2) := by decide +kernel
theorem dX6_changes_21 : decode cX6_changes 21 = .ok (.ldc_w 256, 3) := by decide +kernel
theorem dX6_changes_24 : decode cX6_changes 24 = .ok (.isub, 1) := by decide +kernel
theorem dX6_changes_25 : decode cX6_changes 25 = .ok (.ireturn, 1) := by decide +kernel
theorem dX6_changes_26 : decode cX6_changes 26 = .ok (.aload_n 0, 1) := by decide +kernel
theorem dX6_changes_27 : decode cX6_changes 27 = .ok (.invokevirtual 246, 3) := by decide +kernel
theorem dX6_changes_30 : decode cX6_changes 30 = .ok (.istore 5, 2) := by decide +kernel
theorem dX6_changes_32 : decode cX6_changes 32 = .ok (.aload_n 0, 1) := by decide +kernel
theorem dX6_changes_33 : decode cX6_changes 33 = .ok (.iload_n 1, 1) := by decide +kernel
theorem dX6_changes_34 : decode cX6_changes 34 = .ok (.iload_n 2, 1) := by decide +kernel
theorem dX6_changes_35 : decode cX6_changes 35 = .ok (.iload_n 3, 1) := by decide +kernel
theorem dX6_changes_36 : decode cX6_changes 36 = .ok (.invokevirtual 249, 3) := by decide +kernel
theorem dX6_changes_39 : decode cX6_changes 39 = .ok (.iload 5, 2) := by decide +kernel
theorem dX6_changes_41 : decode cX6_changes 41 = .ok (.aload_n 0, 1) := by decide +kernel
theorem dX6_changes_42 : decode cX6_changes 42 = .ok (.invokevirtual 246, 3) := by decide +kernel
theorem dX6_changes_45 : decode cX6_changes 45 = .ok (.isub, 1) := by decide +kernel
theorem dX6_changes_46 : decode cX6_changes 46 = .ok (.ireturn, 1) := by decide +kernel
theorem dX6_bestChange_0 : decode cX6_bestChange 0 = .ok (.bipush (-4), 2) := by decide +kernel
theorem dX6_bestChange_2 : decode cX6_bestChange 2 = .ok (.istore_n 2, 1) := by decide +kernel
theorem dX6_bestChange_3 : decode cX6_bestChange 3 = .ok (.iload_n 1, 1) := by decide +kernel
theorem dX6_bestChange_4 : decode cX6_bestChange 4 = .ok (.istore_n 3, 1) := by decide +kernel
theorem dX6_bestChange_5 : decode cX6_bestChange 5 = .ok (.iconst 0, 1) := by decide +kernel
theorem dX6_bestChange_6 : decode cX6_bestChange 6 = .ok (.istore 4, 2) := by decide +kernel
theorem dX6_bestChange_8 : decode cX6_bestChange 8 = .ok (.iload 4, 2) := by decide +kernel
theorem dX6_bestChange_10 : decode cX6_bestChange 10 = .ok (.aload_n 0, 1) := by decide +kernel
theorem dX6_bestChange_11 : decode cX6_bestChange 11 = .ok (.getfield 97, 3) := by decide +kernel
theorem dX6_bestChange_14 : decode cX6_bestChange 14 = .ok (.if_icmp .ge 104, 3) := by decide +kernel
theorem dX6_bestChange_17 : decode cX6_bestChange 17 = .ok (.iconst 1, 1) := by decide +kernel
theorem dX6_bestChange_18 : decode cX6_bestChange 18 = .ok (.istore 5, 2) := by decide +kernel
theorem dX6_bestChange_20 : decode cX6_bestChange 20 = .ok (.iload 5, 2) := by decide +kernel
theorem dX6_bestChange_22 : decode cX6_bestChange 22 = .ok (.aload_n 0, 1) := by decide +kernel
theorem dX6_bestChange_23 : decode cX6_bestChange 23 = .ok (.getfield 16, 3) := by decide +kernel
theorem dX6_bestChange_26 : decode cX6_bestChange 26 = .ok (.iload 4, 2) := by decide +kernel
theorem dX6_bestChange_28 : decode cX6_bestChange 28 = .ok (.iaload, 1) := by decide +kernel
theorem dX6_bestChange_29 : decode cX6_bestChange 29 = .ok (.if_icmp .ge 83, 3) := by decide +kernel
theorem dX6_bestChange_32 : decode cX6_bestChange 32 = .ok (.iconst 0, 1) := by decide +kernel
theorem dX6_bestChange_33 : decode cX6_bestChange 33 = .ok (.istore 6, 2) := by decide +kernel
theorem dX6_bestChange_35 : decode cX6_bestChange 35 = .ok (.iload 6, 2) := by decide +kernel
theorem dX6_bestChange_37 : decode cX6_bestChange 37 = .ok (.aload_n 0, 1) := by decide +kernel
theorem dX6_bestChange_38 : decode cX6_bestChange 38 = .ok (.getfield 97, 3) := by decide +kernel
theorem dX6_bestChange_41 : decode cX6_bestChange 41 = .ok (.if_icmp .ge 65, 3) := by decide +kernel
theorem dX6_bestChange_44 : decode cX6_bestChange 44 = .ok (.iload 6, 2) := by decide +kernel
theorem dX6_bestChange_46 : decode cX6_bestChange 46 = .ok (.iload 4, 2) := by decide +kernel
theorem dX6_bestChange_48 : decode cX6_bestChange 48 = .ok (.if_icmp .eq 52, 3) := by decide +kernel
theorem dX6_bestChange_51 : decode cX6_bestChange 51 = .ok (.aload_n 0, 1) := by decide +kernel
theorem dX6_bestChange_52 : decode cX6_bestChange 52 = .ok (.iload 6, 2) := by decide +kernel
theorem dX6_bestChange_54 : decode cX6_bestChange 54 = .ok (.invokevirtual 231, 3) := by decide +kernel
theorem dX6_bestChange_57 : decode cX6_bestChange 57 = .ok (.ifCond .eq 43, 3) := by decide +kernel
theorem dX6_bestChange_60 : decode cX6_bestChange 60 = .ok (.aload_n 0, 1) := by decide +kernel
theorem dX6_bestChange_61 : decode cX6_bestChange 61 = .ok (.iload 4, 2) := by decide +kernel
theorem dX6_bestChange_63 : decode cX6_bestChange 63 = .ok (.iload 5, 2) := by decide +kernel
theorem dX6_bestChange_65 : decode cX6_bestChange 65 = .ok (.iload 6, 2) := by decide +kernel
theorem dX6_bestChange_67 : decode cX6_bestChange 67 = .ok (.invokevirtual 257, 3) := by decide +kernel
theorem dX6_bestChange_70 : decode cX6_bestChange 70 = .ok (.iload_n 3, 1) := by decide +kernel
theorem dX6_bestChange_71 : decode cX6_bestChange 71 = .ok (.if_icmp .le 29, 3) := by decide +kernel
theorem dX6_bestChange_74 : decode cX6_bestChange 74 = .ok (.bipush 100, 2) := by decide +kernel
theorem dX6_bestChange_76 : decode cX6_bestChange 76 = .ok (.iload 4, 2) := by decide +kernel
theorem dX6_bestChange_78 : decode cX6_bestChange 78 = .ok (.imul, 1) := by decide +kernel
theorem dX6_bestChange_79 : decode cX6_bestChange 79 = .ok (.bipush 10, 2) := by decide +kernel
theorem dX6_bestChange_81 : decode cX6_bestChange 81 = .ok (.iload 5, 2) := by decide +kernel
theorem dX6_bestChange_83 : decode cX6_bestChange 83 = .ok (.imul, 1) := by decide +kernel
theorem dX6_bestChange_84 : decode cX6_bestChange 84 = .ok (.iadd, 1) := by decide +kernel
theorem dX6_bestChange_85 : decode cX6_bestChange 85 = .ok (.iload 6, 2) := by decide +kernel
theorem dX6_bestChange_87 : decode cX6_bestChange 87 = .ok (.iadd, 1) := by decide +kernel
theorem dX6_bestChange_88 : decode cX6_bestChange 88 = .ok (.istore_n 2, 1) := by decide +kernel
theorem dX6_bestChange_89 : decode cX6_bestChange 89 = .ok (.aload_n 0, 1) := by decide +kernel
theorem dX6_bestChange_90 : decode cX6_bestChange 90 = .ok (.iload 4, 2) := by decide +kernel
