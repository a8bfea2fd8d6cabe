theorem d15_75_14 : decode prog_15_method_75_code 14 = .ok (.iastore, 1) := by decide +kernel
theorem d15_75_15 : decode prog_15_method_75_code 15 = .ok (.iconst 0, 1) := by decide +kernel
theorem d15_75_16 : decode prog_15_method_75_code 16 = .ok (.istore_n 3, 1) := by decide +kernel
theorem d15_75_201 : decode prog_15_method_75_code 201 = .ok (.iconst 0, 1) := by decide +kernel
theorem d15_75_202 : decode prog_15_method_75_code 202 = .ok (.istore_n 3, 1) := by decide +kernel
theorem d15_75_300 : decode prog_15_method_75_code 300 = .ok (.return_, 1) := by decide +kernel
theorem d15_75_203 : decode prog_15_method_75_code 203 = .ok (.iload_n 3, 1) := by decide +kernel
theorem d15_75_204 : decode prog_15_method_75_code 204 = .ok (.aload_n 0, 1) := by decide +kernel
theorem d15_75_205 : decode prog_15_method_75_code 205 = .ok (.getfield 377, 3) := by decide +kernel
theorem d15_75_208 : decode prog_15_method_75_code 208 = .ok (.if_icmp .ge 92, 3) := by decide +kernel
theorem d15_75_211 : decode prog_15_method_75_code 211 = .ok (.aload_n 0, 1) := by decide +kernel
theorem d15_75_212 : decode prog_15_method_75_code 212 = .ok (.getfield 371, 3) := by decide +kernel
theorem d15_75_215 : decode prog_15_method_75_code 215 = .ok (.ifCond .ne 85, 3) := by decide +kernel
theorem d15_75_218 : decode prog_15_method_75_code 218 = .ok (.aload_n 0, 1) := by decide +kernel
theorem d15_75_219 : decode prog_15_method_75_code 219 = .ok (.aload_n 0, 1) := by decide +kernel
theorem d15_75_220 : decode prog_15_method_75_code 220 = .ok (.getfield 383, 3) := by decide +kernel
theorem d15_75_223 : decode prog_15_method_75_code 223 = .ok (.bipush 32, 2) := by decide +kernel
theorem d15_75_225 : decode prog_15_method_75_code 225 = .ok (.if_icmp .ne 7, 3) := by decide +kernel
theorem d15_75_232 : decode prog_15_method_75_code 232 = .ok (.iconst 0, 1) := by decide +kernel
theorem d15_75_228 : decode prog_15_method_75_code 228 = .ok (.iconst 1, 1) := by decide +kernel
theorem d15_75_229 : decode prog_15_method_75_code 229 = .ok (.goto 4, 3) := by decide +kernel
theorem d15_75_233 : decode prog_15_method_75_code 233 = .ok (.putfield 371, 3) := by decide +kernel
theorem d15_75_236 : decode prog_15_method_75_code 236 = .ok (.aload_n 0, 1) := by decide +kernel
theorem d15_75_237 : decode prog_15_method_75_code 237 = .ok (.getfield 371, 3) := by decide +kernel
theorem d15_75_240 : decode prog_15_method_75_code 240 = .ok (.ifCond .ne 54, 3) := by decide +kernel
theorem d15_75_243 : decode prog_15_method_75_code 243 = .ok (.aload_n 0, 1) := by decide +kernel
theorem d15_75_244 : decode prog_15_method_75_code 244 = .ok (.getfield 62, 3) := by decide +kernel
theorem d15_75_247 : decode prog_15_method_75_code 247 = .ok (.aload_n 0, 1) := by decide +kernel
theorem d15_75_248 : decode prog_15_method_75_code 248 = .ok (.getfield 383, 3) := by decide +kernel
theorem d15_75_251 : decode prog_15_method_75_code 251 = .ok (.iload_n 2, 1) := by decide +kernel
theorem d15_75_252 : decode prog_15_method_75_code 252 = .ok (.iastore, 1) := by decide +kernel
theorem d15_75_253 : decode prog_15_method_75_code 253 = .ok (.aload_n 0, 1) := by decide +kernel
theorem d15_75_254 : decode prog_15_method_75_code 254 = .ok (.aload_n 0, 1) := by decide +kernel
theorem d15_75_255 : decode prog_15_method_75_code 255 = .ok (.getfield 56, 3) := by decide +kernel
theorem d15_75_258 : decode prog_15_method_75_code 258 = .ok (.iload_n 3, 1) := by decide +kernel
theorem d15_75_259 : decode prog_15_method_75_code 259 = .ok (.iaload, 1) := by decide +kernel
theorem d15_75_260 : decode prog_15_method_75_code 260 = .ok (.bipush 48, 2) := by decide +kernel
theorem d15_75_262 : decode prog_15_method_75_code 262 = .ok (.aload_n 0, 1) := by decide +kernel
theorem d15_75_263 : decode prog_15_method_75_code 263 = .ok (.getfield 383, 3) := by decide +kernel
theorem d15_75_266 : decode prog_15_method_75_code 266 = .ok (.iadd, 1) := by decide +kernel
theorem d15_75_267 : decode prog_15_method_75_code 267 = .ok (.invokestatic 159, 3) := by decide +kernel
theorem d15_75_270 : decode prog_15_method_75_code 270 = .ok (.aload_n 0, 1) := by decide +kernel
theorem d15_75_271 : decode prog_15_method_75_code 271 = .ok (.getfield 17, 3) := by decide +kernel
theorem d15_75_274 : decode prog_15_method_75_code 274 = .ok (.aload_n 0, 1) := by decide +kernel
theorem d15_75_275 : decode prog_15_method_75_code 275 = .ok (.getfield 56, 3) := by decide +kernel
theorem d15_75_278 : decode prog_15_method_75_code 278 = .ok (.iload_n 3, 1) := by decide +kernel
theorem d15_75_279 : decode prog_15_method_75_code 279 = .ok (.iaload, 1) := by decide +kernel
theorem d15_75_280 : decode prog_15_method_75_code 280 = .ok (.baload, 1) := by decide +kernel
theorem d15_75_281 : decode prog_15_method_75_code 281 = .ok (.invokevirtual 199, 3) := by decide +kernel
theorem d15_75_284 : decode prog_15_method_75_code 284 = .ok (.aload_n 0, 1) := by decide +kernel
theorem d15_75_285 : decode prog_15_method_75_code 285 = .ok (.dup, 1) := by decide +kernel
theorem d15_75_286 : decode prog_15_method_75_code 286 = .ok (.getfield 383, 3) := by decide +kernel
theorem d15_75_289 : decode prog_15_method_75_code 289 = .ok (.iconst 1, 1) := by decide +kernel
theorem d15_75_290 : decode prog_15_method_75_code 290 = .ok (.iadd, 1) := by decide +kernel
theorem d15_75_291 : decode prog_15_method_75_code 291 = .ok (.putfield 383, 3) := by decide +kernel
theorem d15_75_294 : decode prog_15_method_75_code 294 = .ok (.iinc 3 1, 3) := by decide +kernel
theorem d15_75_297 : decode prog_15_method_75_code 297 = .ok (.goto (-94), 3) := by decide +kernel
theorem d15_75_17 : decode prog_15_method_75_code 17 = .ok (.iload_n 3, 1) := by decide +kernel
theorem d15_75_18 : decode prog_15_method_75_code 18 = .ok (.aload_n 0, 1) := by decide +kernel
theorem d15_75_19 : decode prog_15_method_75_code 19 = .ok (.getfield 353, 3) := by decide +kernel
theorem d15_75_22 : decode prog_15_method_75_code 22 = .ok (.if_icmp .ge 179, 3) := by decide +kernel
theorem d15_75_25 : decode prog_15_method_75_code 25 = .ok (.aload_n 0, 1) := by decide +kernel
theorem d15_75_26 : decode prog_15_method_75_code 26 = .ok (.getfield 371, 3) := by decide +kernel
theorem d15_75_29 : decode prog_15_method_75_code 29 = .ok (.ifCond .ne 172, 3) := by decide +kernel
theorem d15_75_32 : decode prog_15_method_75_code 32 = .ok (.aload_n 0, 1) := by decide +kernel
theorem d15_75_33 : decode prog_15_method_75_code 33 = .ok (.iconst 0, 1) := by decide +kernel
theorem d15_75_34 : decode prog_15_method_75_code 34 = .ok (.putfield 368, 3) := by decide +kernel
theorem k1176 : (Jvm.Cond.fieldLink "PagedValuesModel" (368 : Nat) "PagedValuesModel" "next" "I") ∈ TB := tk_5 216 rfl rfl
theorem d15_75_37 : decode prog_15_method_75_code 37 = .ok (.iconst 0, 1) := by decide +kernel
theorem d15_75_38 : decode prog_15_method_75_code 38 = .ok (.istore 4, 2) := by decide +kernel
theorem d15_75_155 : decode prog_15_method_75_code 155 = .ok (.aload_n 0, 1) := by decide +kernel
theorem d15_75_156 : decode prog_15_method_75_code 156 = .ok (.aload_n 0, 1) := by decide +kernel
theorem d15_75_157 : decode prog_15_method_75_code 157 = .ok (.getfield 368, 3) := by decide +kernel
theorem d15_75_160 : decode prog_15_method_75_code 160 = .ok (.putfield 377, 3) := by decide +kernel
theorem d15_75_163 : decode prog_15_method_75_code 163 = .ok (.iconst 0, 1) := by decide +kernel
theorem d15_75_164 : decode prog_15_method_75_code 164 = .ok (.istore 4, 2) := by decide +kernel
theorem d15_75_195 : decode prog_15_method_75_code 195 = .ok (.iinc 3 1, 3) := by decide +kernel
theorem d15_75_198 : decode prog_15_method_75_code 198 = .ok (.goto (-181), 3) := by decide +kernel
theorem d15_75_166 : decode prog_15_method_75_code 166 = .ok (.iload 4, 2) := by decide +kernel
theorem d15_75_168 : decode prog_15_method_75_code 168 = .ok (.aload_n 0, 1) := by decide +kernel
theorem d15_75_169 : decode prog_15_method_75_code 169 = .ok (.getfield 368, 3) := by decide +kernel
theorem d15_75_172 : decode prog_15_method_75_code 172 = .ok (.if_icmp .ge 23, 3) := by decide +kernel
theorem d15_75_175 : decode prog_15_method_75_code 175 = .ok (.aload_n 0, 1) := by decide +kernel
theorem d15_75_176 : decode prog_15_method_75_code 176 = .ok (.getfield 56, 3) := by decide +kernel
theorem d15_75_179 : decode prog_15_method_75_code 179 = .ok (.iload 4, 2) := by decide +kernel
theorem d15_75_181 : decode prog_15_method_75_code 181 = .ok (.aload_n 0, 1) := by decide +kernel
theorem d15_75_182 : decode prog_15_method_75_code 182 = .ok (.getfield 59, 3) := by decide +kernel
theorem d15_75_185 : decode prog_15_method_75_code 185 = .ok (.iload 4, 2) := by decide +kernel
theorem d15_75_187 : decode prog_15_method_75_code 187 = .ok (.iaload, 1) := by decide +kernel
theorem d15_75_188 : decode prog_15_method_75_code 188 = .ok (.iastore, 1) := by decide +kernel
theorem d15_75_189 : decode prog_15_method_75_code 189 = .ok (.iinc 4 1, 3) := by decide +kernel
theorem d15_75_192 : decode prog_15_method_75_code 192 = .ok (.goto (-26), 3) := by decide +kernel
theorem d15_75_40 : decode prog_15_method_75_code 40 = .ok (.iload 4, 2) := by decide +kernel
theorem d15_75_42 : decode prog_15_method_75_code 42 = .ok (.aload_n 0, 1) := by decide +kernel
theorem d15_75_43 : decode prog_15_method_75_code 43 = .ok (.getfield 377, 3) := by decide +kernel
theorem d15_75_46 : decode prog_15_method_75_code 46 = .ok (.if_icmp .ge 109, 3) := by decide +kernel
theorem d15_75_49 : decode prog_15_method_75_code 49 = .ok (.aload_n 0, 1) := by decide +kernel
theorem d15_75_50 : decode prog_15_method_75_code 50 = .ok (.getfield 37, 3) := by decide +kernel
theorem d15_75_53 : decode prog_15_method_75_code 53 = .ok (.iload_n 3, 1) := by decide +kernel
theorem d15_75_54 : decode prog_15_method_75_code 54 = .ok (.baload, 1) := by decide +kernel
theorem d15_75_55 : decode prog_15_method_75_code 55 = .ok (.ifCond .eq 18, 3) := by decide +kernel
theorem d15_75_73 : decode prog_15_method_75_code 73 = .ok (.iconst 1, 1) := by decide +kernel
theorem d15_75_58 : decode prog_15_method_75_code 58 = .ok (.aload_n 0, 1) := by decide +kernel
theorem d15_75_59 : decode prog_15_method_75_code 59 = .ok (.getfield 17, 3) := by decide +kernel
theorem d15_75_62 : decode prog_15_method_75_code 62 = .ok (.aload_n 0, 1) := by decide +kernel
theorem d15_75_63 : decode prog_15_method_75_code 63 = .ok (.getfield 56, 3) := by decide +kernel
theorem d15_75_66 : decode prog_15_method_75_code 66 = .ok (.iload 4, 2) := by decide +kernel
theorem d15_75_68 : decode prog_15_method_75_code 68 = .ok (.iaload, 1) := by decide +kernel
theorem d15_75_69 : decode prog_15_method_75_code 69 = .ok (.baload, 1) := by decide +kernel
theorem d15_75_70 : decode prog_15_method_75_code 70 = .ok (.goto 4, 3) := by decide +kernel
theorem d15_75_74 : decode prog_15_method_75_code 74 = .ok (.istore 5, 2) := by decide +kernel
theorem d15_75_76 : decode prog_15_method_75_code 76 = .ok (.aload_n 0, 1) := by decide +kernel
theorem d15_75_77 : decode prog_15_method_75_code 77 = .ok (.getfield 56, 3) := by decide +kernel
theorem d15_75_80 : decode prog_15_method_75_code 80 = .ok (.iload 4, 2) := by decide +kernel
theorem d15_75_82 : decode prog_15_method_75_code 82 = .ok (.iaload, 1) := by decide +kernel
theorem d15_75_83 : decode prog_15_method_75_code 83 = .ok (.istore 6, 2) := by decide +kernel
theorem d15_75_149 : decode prog_15_method_75_code 149 = .ok (.iinc 4 1, 3) := by decide +kernel
theorem d15_75_152 : decode prog_15_method_75_code 152 = .ok (.goto (-112), 3) := by decide +kernel
theorem d15_75_85 : decode prog_15_method_75_code 85 = .ok (.iload 6, 2) := by decide +kernel
theorem d15_75_87 : decode prog_15_method_75_code 87 = .ok (.aload_n 0, 1) := by decide +kernel
theorem d15_75_88 : decode prog_15_method_75_code 88 = .ok (.getfield 56, 3) := by decide +kernel
theorem d15_75_91 : decode prog_15_method_75_code 91 = .ok (.iload 4, 2) := by decide +kernel
theorem d15_75_93 : decode prog_15_method_75_code 93 = .ok (.iaload, 1) := by decide +kernel
theorem d15_75_94 : decode prog_15_method_75_code 94 = .ok (.iload 5, 2) := by decide +kernel
theorem d15_75_96 : decode prog_15_method_75_code 96 = .ok (.iadd, 1) := by decide +kernel
theorem d15_75_97 : decode prog_15_method_75_code 97 = .ok (.if_icmp .ge 52, 3) := by decide +kernel
theorem d15_75_100 : decode prog_15_method_75_code 100 = .ok (.iload_n 3, 1) := by decide +kernel
theorem d15_75_101 : decode prog_15_method_75_code 101 = .ok (.ifCond .ne 7, 3) := by decide +kernel
theorem d15_75_108 : decode prog_15_method_75_code 108 = .ok (.aload_n 0, 1) := by decide +kernel
theorem d15_75_109 : decode prog_15_method_75_code 109 = .ok (.getfield 41, 3) := by decide +kernel
theorem d15_75_112 : decode prog_15_method_75_code 112 = .ok (.iload_n 3, 1) := by decide +kernel
theorem d15_75_113 : decode prog_15_method_75_code 113 = .ok (.iconst 1, 1) := by decide +kernel
theorem d15_75_114 : decode prog_15_method_75_code 114 = .ok (.isub, 1) := by decide +kernel
theorem d15_75_115 : decode prog_15_method_75_code 115 = .ok (.iaload, 1) := by decide +kernel
theorem d15_75_104 : decode prog_15_method_75_code 104 = .ok (.iconst 0, 1) := by decide +kernel
theorem d15_75_105 : decode prog_15_method_75_code 105 = .ok (.goto 11, 3) := by decide +kernel
theorem d15_75_116 : decode prog_15_method_75_code 116 = .ok (.istore 7, 2) := by decide +kernel
theorem d15_75_143 : decode prog_15_method_75_code 143 = .ok (.iinc 6 1, 3) := by decide +kernel
theorem d15_75_146 : decode prog_15_method_75_code 146 = .ok (.goto (-61), 3) := by decide +kernel
theorem d15_75_118 : decode prog_15_method_75_code 118 = .ok (.iload 7, 2) := by decide +kernel
theorem d15_75_120 : decode prog_15_method_75_code 120 = .ok (.aload_n 0, 1) := by decide +kernel
theorem d15_75_121 : decode prog_15_method_75_code 121 = .ok (.getfield 41, 3) := by decide +kernel
theorem d15_75_124 : decode prog_15_method_75_code 124 = .ok (.iload_n 3, 1) := by decide +kernel
theorem d15_75_125 : decode prog_15_method_75_code 125 = .ok (.iaload, 1) := by decide +kernel
theorem d15_75_126 : decode prog_15_method_75_code 126 = .ok (.if_icmp .ge 17, 3) := by decide +kernel
theorem d15_75_129 : decode prog_15_method_75_code 129 = .ok (.aload_n 0, 1) := by decide +kernel
theorem d15_75_130 : decode prog_15_method_75_code 130 = .ok (.iload 7, 2) := by decide +kernel
theorem d15_75_132 : decode prog_15_method_75_code 132 = .ok (.iload 6, 2) := by decide +kernel
theorem d15_74_0 : decode prog_15_method_74_code 0 = .ok (.aload_n 0, 1) := by decide +kernel
theorem d15_74_1 : decode prog_15_method_74_code 1 = .ok (.getfield 44, 3) := by decide +kernel
theorem d15_74_4 : decode prog_15_method_74_code 4 = .ok (.iload_n 1, 1) := by decide +kernel
theorem d15_74_5 : decode prog_15_method_74_code 5 = .ok (.iaload, 1) := by decide +kernel
theorem d15_74_6 : decode prog_15_method_74_code 6 = .ok (.ifCond .ne 44, 3) := by decide +kernel
theorem d15_74_50 : decode prog_15_method_74_code 50 = .ok (.aload_n 0, 1) := by decide +kernel
theorem d15_74_51 : decode prog_15_method_74_code 51 = .ok (.getfield 44, 3) := by decide +kernel
theorem d15_74_54 : decode prog_15_method_74_code 54 = .ok (.iload_n 1, 1) := by decide +kernel
theorem d15_74_55 : decode prog_15_method_74_code 55 = .ok (.iaload, 1) := by decide +kernel
theorem d15_74_56 : decode prog_15_method_74_code 56 = .ok (.iconst 2, 1) := by decide +kernel
theorem d15_74_57 : decode prog_15_method_74_code 57 = .ok (.if_icmp .ne 74, 3) := by decide +kernel
theorem d15_74_131 : decode prog_15_method_74_code 131 = .ok (.aload_n 0, 1) := by decide +kernel
theorem d15_74_132 : decode prog_15_method_74_code 132 = .ok (.getfield 44, 3) := by decide +kernel
theorem d15_74_135 : decode prog_15_method_74_code 135 = .ok (.iload_n 1, 1) := by decide +kernel
theorem d15_74_136 : decode prog_15_method_74_code 136 = .ok (.iaload, 1) := by decide +kernel
theorem d15_74_137 : decode prog_15_method_74_code 137 = .ok (.iconst 1, 1) := by decide +kernel
theorem d15_74_138 : decode prog_15_method_74_code 138 = .ok (.if_icmp .ne 46, 3) := by decide +kernel
theorem d15_74_141 : decode prog_15_method_74_code 141 = .ok (.aload_n 0, 1) := by decide +kernel
theorem d15_74_142 : decode prog_15_method_74_code 142 = .ok (.getfield 13, 3) := by decide +kernel
theorem d15_74_145 : decode prog_15_method_74_code 145 = .ok (.iload_n 2, 1) := by decide +kernel
theorem d15_74_146 : decode prog_15_method_74_code 146 = .ok (.baload, 1) := by decide +kernel
theorem d15_74_147 : decode prog_15_method_74_code 147 = .ok (.iconst 5, 1) := by decide +kernel
theorem d15_74_148 : decode prog_15_method_74_code 148 = .ok (.if_icmp .lt 36, 3) := by decide +kernel
theorem d15_74_151 : decode prog_15_method_74_code 151 = .ok (.iload_n 2, 1) := by decide +kernel
theorem d15_74_152 : decode prog_15_method_74_code 152 = .ok (.iconst 1, 1) := by decide +kernel
theorem d15_74_153 : decode prog_15_method_74_code 153 = .ok (.iadd, 1) := by decide +kernel
theorem d15_74_154 : decode prog_15_method_74_code 154 = .ok (.istore_n 3, 1) := by decide +kernel
theorem d15_74_155 : decode prog_15_method_74_code 155 = .ok (.iload_n 3, 1) := by decide +kernel
theorem d15_74_156 : decode prog_15_method_74_code 156 = .ok (.iload_n 2, 1) := by decide +kernel
theorem d15_74_157 : decode prog_15_method_74_code 157 = .ok (.aload_n 0, 1) := by decide +kernel
theorem d15_74_158 : decode prog_15_method_74_code 158 = .ok (.getfield 17, 3) := by decide +kernel
theorem d15_74_161 : decode prog_15_method_74_code 161 = .ok (.iload_n 2, 1) := by decide +kernel
theorem d15_74_162 : decode prog_15_method_74_code 162 = .ok (.baload, 1) := by decide +kernel
theorem d15_74_163 : decode prog_15_method_74_code 163 = .ok (.iadd, 1) := by decide +kernel
theorem d15_74_164 : decode prog_15_method_74_code 164 = .ok (.if_icmp .ge 20, 3) := by decide +kernel
theorem d15_74_167 : decode prog_15_method_74_code 167 = .ok (.aload_n 0, 1) := by decide +kernel
theorem d15_74_168 : decode prog_15_method_74_code 168 = .ok (.iload_n 3, 1) := by decide +kernel
theorem d15_73_0 : decode prog_15_method_73_code 0 = .ok (.aload_n 0, 1) := by decide +kernel
theorem d15_73_1 : decode prog_15_method_73_code 1 = .ok (.getfield 368, 3) := by decide +kernel
theorem d15_73_4 : decode prog_15_method_73_code 4 = .ok (.bipush 32, 2) := by decide +kernel
theorem d15_73_6 : decode prog_15_method_73_code 6 = .ok (.if_icmp .ne 11, 3) := by decide +kernel
theorem d15_73_17 : decode prog_15_method_73_code 17 = .ok (.aload_n 0, 1) := by decide +kernel
theorem d15_73_18 : decode prog_15_method_73_code 18 = .ok (.getfield 59, 3) := by decide +kernel
theorem d15_73_21 : decode prog_15_method_73_code 21 = .ok (.aload_n 0, 1) := by decide +kernel
theorem d15_73_22 : decode prog_15_method_73_code 22 = .ok (.getfield 368, 3) := by decide +kernel
theorem d15_73_25 : decode prog_15_method_73_code 25 = .ok (.iload_n 1, 1) := by decide +kernel
theorem d15_73_26 : decode prog_15_method_73_code 26 = .ok (.iastore, 1) := by decide +kernel
theorem d15_73_27 : decode prog_15_method_73_code 27 = .ok (.aload_n 0, 1) := by decide +kernel
theorem d15_73_28 : decode prog_15_method_73_code 28 = .ok (.dup, 1) := by decide +kernel
theorem d15_73_29 : decode prog_15_method_73_code 29 = .ok (.getfield 368, 3) := by decide +kernel
theorem d15_73_32 : decode prog_15_method_73_code 32 = .ok (.iconst 1, 1) := by decide +kernel
theorem d15_73_33 : decode prog_15_method_73_code 33 = .ok (.iadd, 1) := by decide +kernel
theorem d15_73_34 : decode prog_15_method_73_code 34 = .ok (.putfield 368, 3) := by decide +kernel
theorem d15_73_9 : decode prog_15_method_73_code 9 = .ok (.aload_n 0, 1) := by decide +kernel
theorem d15_73_10 : decode prog_15_method_73_code 10 = .ok (.iconst 1, 1) := by decide +kernel
theorem d15_73_11 : decode prog_15_method_73_code 11 = .ok (.putfield 371, 3) := by decide +kernel
theorem d15_73_14 : decode prog_15_method_73_code 14 = .ok (.goto 23, 3) := by decide +kernel
theorem d15_73_37 : decode prog_15_method_73_code 37 = .ok (.return_, 1) := by decide +kernel
def y15_73 : MethodName := { cls := "PagedValuesModel", name := "select", desc := "(I)V" }
theorem k1589 : (Jvm.Cond.code ({ cls := "PagedValuesModel", name := "select", desc := "(I)V" } : Jvm.MethodName) prog_15_method_73_code (2 : Nat) (Option.none : Option Jvm.ClassFile.FieldType)) ∈ TB := tk_7 149 rfl rfl
theorem k1586 : (Jvm.Cond.methodLink "PagedValuesModel" (374 : Nat) ({ cls := "PagedValuesModel", name := "select", desc := "(I)V" } : Jvm.MethodName)) ∈ TB := tk_7 146 rfl rfl
theorem k1588 : (Jvm.Cond.instanceMethod ({ cls := "PagedValuesModel", name := "select", desc := "(I)V" } : Jvm.MethodName)) ∈ TB := tk_7 148 rfl rfl
theorem ks97 : Cond.selects y15_73.cls y15_73 y15_73 ∈ TB := List.mem_filter.mpr ⟨List.mem_append_left _ (List.mem_of_getElem? (i := 97) (by decide +kernel)), rfl⟩
theorem d15_74_169 : decode prog_15_method_74_code 169 = .ok (.invokevirtual 374, 3) := by decide +kernel
theorem d15_74_172 : decode prog_15_method_74_code 172 = .ok (.iload_n 3, 1) := by decide +kernel
theorem d15_74_173 : decode prog_15_method_74_code 173 = .ok (.aload_n 0, 1) := by decide +kernel
theorem d15_74_174 : decode prog_15_method_74_code 174 = .ok (.getfield 17, 3) := by decide +kernel
theorem d15_74_177 : decode prog_15_method_74_code 177 = .ok (.iload_n 3, 1) := by decide +kernel
theorem d15_74_178 : decode prog_15_method_74_code 178 = .ok (.baload, 1) := by decide +kernel
theorem d15_74_179 : decode prog_15_method_74_code 179 = .ok (.iadd, 1) := by decide +kernel
theorem d15_74_180 : decode prog_15_method_74_code 180 = .ok (.istore_n 3, 1) := by decide +kernel
theorem d15_74_181 : decode prog_15_method_74_code 181 = .ok (.goto (-26), 3) := by decide +kernel
theorem d15_74_60 : decode prog_15_method_74_code 60 = .ok (.aload_n 0, 1) := by decide +kernel
theorem d15_74_61 : decode prog_15_method_74_code 61 = .ok (.getfield 13, 3) := by decide +kernel
theorem d15_74_64 : decode prog_15_method_74_code 64 = .ok (.iload_n 2, 1) := by decide +kernel
theorem d15_74_65 : decode prog_15_method_74_code 65 = .ok (.baload, 1) := by decide +kernel
theorem d15_74_66 : decode prog_15_method_74_code 66 = .ok (.iconst 5, 1) := by decide +kernel
theorem d15_74_67 : decode prog_15_method_74_code 67 = .ok (.if_icmp .ne 64, 3) := by decide +kernel
theorem d15_74_70 : decode prog_15_method_74_code 70 = .ok (.aload_n 0, 1) := by decide +kernel
theorem d15_74_71 : decode prog_15_method_74_code 71 = .ok (.getfield 53, 3) := by decide +kernel
theorem d15_74_74 : decode prog_15_method_74_code 74 = .ok (.iload_n 1, 1) := by decide +kernel
theorem d15_74_75 : decode prog_15_method_74_code 75 = .ok (.iaload, 1) := by decide +kernel
theorem d15_74_76 : decode prog_15_method_74_code 76 = .ok (.ifCond .ge 18, 3) := by decide +kernel
theorem d15_74_94 : decode prog_15_method_74_code 94 = .ok (.aload_n 0, 1) := by decide +kernel
theorem d15_74_95 : decode prog_15_method_74_code 95 = .ok (.getfield 53, 3) := by decide +kernel
theorem d15_74_98 : decode prog_15_method_74_code 98 = .ok (.iload_n 1, 1) := by decide +kernel
theorem d15_74_99 : decode prog_15_method_74_code 99 = .ok (.iaload, 1) := by decide +kernel
theorem d15_74_79 : decode prog_15_method_74_code 79 = .ok (.aload_n 0, 1) := by decide +kernel
theorem d15_74_80 : decode prog_15_method_74_code 80 = .ok (.getfield 53, 3) := by decide +kernel
theorem d15_74_83 : decode prog_15_method_74_code 83 = .ok (.iload_n 1, 1) := by decide +kernel
theorem d15_74_84 : decode prog_15_method_74_code 84 = .ok (.iaload, 1) := by decide +kernel
theorem d15_74_85 : decode prog_15_method_74_code 85 = .ok (.aload_n 0, 1) := by decide +kernel
theorem d15_74_86 : decode prog_15_method_74_code 86 = .ok (.iload_n 2, 1) := by decide +kernel
theorem d15_74_87 : decode prog_15_method_74_code 87 = .ok (.invokevirtual 257, 3) := by decide +kernel
theorem d15_74_90 : decode prog_15_method_74_code 90 = .ok (.iadd, 1) := by decide +kernel
theorem d15_74_91 : decode prog_15_method_74_code 91 = .ok (.goto 9, 3) := by decide +kernel
theorem d15_74_100 : decode prog_15_method_74_code 100 = .ok (.istore_n 3, 1) := by decide +kernel
theorem d15_74_101 : decode prog_15_method_74_code 101 = .ok (.iload_n 3, 1) := by decide +kernel
theorem d15_74_102 : decode prog_15_method_74_code 102 = .ok (.ifCond .ge 7, 3) := by decide +kernel
theorem d15_74_109 : decode prog_15_method_74_code 109 = .ok (.aload_n 0, 1) := by decide +kernel
theorem d15_74_110 : decode prog_15_method_74_code 110 = .ok (.iload_n 2, 1) := by decide +kernel
theorem d15_74_111 : decode prog_15_method_74_code 111 = .ok (.iload_n 3, 1) := by decide +kernel
theorem d15_74_112 : decode prog_15_method_74_code 112 = .ok (.invokevirtual 216, 3) := by decide +kernel
theorem d15_74_105 : decode prog_15_method_74_code 105 = .ok (.iconst (-1), 1) := by decide +kernel
theorem d15_74_106 : decode prog_15_method_74_code 106 = .ok (.goto 9, 3) := by decide +kernel
theorem d15_74_115 : decode prog_15_method_74_code 115 = .ok (.istore 4, 2) := by decide +kernel
theorem d15_74_117 : decode prog_15_method_74_code 117 = .ok (.iload 4, 2) := by decide +kernel
theorem d15_74_119 : decode prog_15_method_74_code 119 = .ok (.ifCond .lt 9, 3) := by decide +kernel
theorem d15_74_122 : decode prog_15_method_74_code 122 = .ok (.aload_n 0, 1) := by decide +kernel
theorem d15_74_123 : decode prog_15_method_74_code 123 = .ok (.iload 4, 2) := by decide +kernel
theorem d15_74_125 : decode prog_15_method_74_code 125 = .ok (.invokevirtual 374, 3) := by decide +kernel
theorem d15_74_128 : decode prog_15_method_74_code 128 = .ok (.goto 56, 3) := by decide +kernel
theorem d15_74_9 : decode prog_15_method_74_code 9 = .ok (.aload_n 0, 1) := by decide +kernel
theorem d15_74_10 : decode prog_15_method_74_code 10 = .ok (.getfield 13, 3) := by decide +kernel
theorem d15_74_13 : decode prog_15_method_74_code 13 = .ok (.iload_n 2, 1) := by decide +kernel
theorem d15_74_14 : decode prog_15_method_74_code 14 = .ok (.baload, 1) := by decide +kernel
theorem d15_74_15 : decode prog_15_method_74_code 15 = .ok (.bipush 6, 2) := by decide +kernel
theorem d15_74_17 : decode prog_15_method_74_code 17 = .ok (.if_icmp .ne 33, 3) := by decide +kernel
theorem d15_74_20 : decode prog_15_method_74_code 20 = .ok (.aload_n 0, 1) := by decide +kernel
theorem d15_74_21 : decode prog_15_method_74_code 21 = .ok (.iload_n 2, 1) := by decide +kernel
theorem d15_74_22 : decode prog_15_method_74_code 22 = .ok (.aload_n 0, 1) := by decide +kernel
theorem d15_74_23 : decode prog_15_method_74_code 23 = .ok (.getfield 47, 3) := by decide +kernel
theorem d15_74_26 : decode prog_15_method_74_code 26 = .ok (.iload_n 1, 1) := by decide +kernel
theorem d15_74_27 : decode prog_15_method_74_code 27 = .ok (.laload, 1) := by decide +kernel
theorem d15_74_28 : decode prog_15_method_74_code 28 = .ok (.aload_n 0, 1) := by decide +kernel
theorem d15_74_29 : decode prog_15_method_74_code 29 = .ok (.getfield 50, 3) := by decide +kernel
theorem d15_74_32 : decode prog_15_method_74_code 32 = .ok (.iload_n 1, 1) := by decide +kernel
theorem d15_74_33 : decode prog_15_method_74_code 33 = .ok (.laload, 1) := by decide +kernel
theorem d15_74_34 : decode prog_15_method_74_code 34 = .ok (.invokevirtual 168, 3) := by decide +kernel
theorem d15_74_37 : decode prog_15_method_74_code 37 = .ok (.istore_n 3, 1) := by decide +kernel
theorem d15_74_38 : decode prog_15_method_74_code 38 = .ok (.iload_n 3, 1) := by decide +kernel
theorem d15_74_39 : decode prog_15_method_74_code 39 = .ok (.ifCond .lt 8, 3) := by decide +kernel
theorem d15_74_42 : decode prog_15_method_74_code 42 = .ok (.aload_n 0, 1) := by decide +kernel
theorem d15_74_43 : decode prog_15_method_74_code 43 = .ok (.iload_n 3, 1) := by decide +kernel
theorem d15_74_44 : decode prog_15_method_74_code 44 = .ok (.invokevirtual 374, 3) := by decide +kernel
theorem d15_74_47 : decode prog_15_method_74_code 47 = .ok (.goto 137, 3) := by decide +kernel
theorem d15_74_184 : decode prog_15_method_74_code 184 = .ok (.return_, 1) := by decide +kernel
def y15_74 : MethodName := { cls := "PagedValuesModel", name := "selects", desc := "(II)V" }
theorem k1585 : (Jvm.Cond.code ({ cls := "PagedValuesModel", name := "selects", desc := "(II)V" } : Jvm.MethodName) prog_15_method_74_code (5 : Nat) (Option.none : Option Jvm.ClassFile.FieldType)) ∈ TB := tk_7 145 rfl rfl
theorem k1582 : (Jvm.Cond.methodLink "PagedValuesModel" (380 : Nat) ({ cls := "PagedValuesModel", name := "selects", desc := "(II)V" } : Jvm.MethodName)) ∈ TB := tk_7 142 rfl rfl
theorem k1584 : (Jvm.Cond.instanceMethod ({ cls := "PagedValuesModel", name := "selects", desc := "(II)V" } : Jvm.MethodName)) ∈ TB := tk_7 144 rfl rfl
theorem ks96 : Cond.selects y15_74.cls y15_74 y15_74 ∈ TB := List.mem_filter.mpr ⟨List.mem_append_left _ (List.mem_of_getElem? (i := 96) (by decide +kernel)), rfl⟩
theorem d15_75_134 : decode prog_15_method_75_code 134 = .ok (.invokevirtual 380, 3) := by decide +kernel
theorem d15_75_137 : decode prog_15_method_75_code 137 = .ok (.iinc 7 1, 3) := by decide +kernel
theorem d15_75_140 : decode prog_15_method_75_code 140 = .ok (.goto (-22), 3) := by decide +kernel
def y15_75 : MethodName := { cls := "PagedValuesModel", name := "ask", desc := "(II)V" }
theorem k1581 : (Jvm.Cond.code ({ cls := "PagedValuesModel", name := "ask", desc := "(II)V" } : Jvm.MethodName) prog_15_method_75_code (8 : Nat) (Option.none : Option Jvm.ClassFile.FieldType)) ∈ TB := tk_7 141 rfl rfl
theorem k1578 : (Jvm.Cond.methodLink "PagedValuesModel" (395 : Nat) ({ cls := "PagedValuesModel", name := "ask", desc := "(II)V" } : Jvm.MethodName)) ∈ TB := tk_7 138 rfl rfl
theorem k1580 : (Jvm.Cond.instanceMethod ({ cls := "PagedValuesModel", name := "ask", desc := "(II)V" } : Jvm.MethodName)) ∈ TB := tk_7 140 rfl rfl
theorem ks95 : Cond.selects y15_75.cls y15_75 y15_75 ∈ TB := List.mem_filter.mpr ⟨List.mem_append_left _ (List.mem_of_getElem? (i := 95) (by decide +kernel)), rfl⟩
theorem d15_78_118 : decode prog_15_method_78_code 118 = .ok (.invokevirtual 395, 3) := by decide +kernel
theorem d15_78_109 : decode prog_15_method_78_code 109 = .ok (.iload_n 2, 1) := by decide +kernel
theorem d15_78_110 : decode prog_15_method_78_code 110 = .ok (.iload_n 3, 1) := by decide +kernel
theorem d15_78_111 : decode prog_15_method_78_code 111 = .ok (.if_icmp .ne 10, 3) := by decide +kernel
theorem d15_78_121 : decode prog_15_method_78_code 121 = .ok (.iinc 3 1, 3) := by decide +kernel
theorem d15_78_124 : decode prog_15_method_78_code 124 = .ok (.goto (-50), 3) := by decide +kernel
theorem d15_78_59 : decode prog_15_method_78_code 59 = .ok (.bipush (-100), 2) := by decide +kernel
theorem d15_78_61 : decode prog_15_method_78_code 61 = .ok (.aload_n 0, 1) := by decide +kernel
theorem d15_78_62 : decode prog_15_method_78_code 62 = .ok (.getfield 111, 3) := by decide +kernel
theorem d15_78_65 : decode prog_15_method_78_code 65 = .ok (.isub, 1) := by decide +kernel
theorem d15_78_66 : decode prog_15_method_78_code 66 = .ok (.ireturn, 1) := by decide +kernel
theorem d15_78_23 : decode prog_15_method_78_code 23 = .ok (.aload_n 0, 1) := by decide +kernel
theorem d15_78_24 : decode prog_15_method_78_code 24 = .ok (.aload_n 0, 1) := by decide +kernel
theorem d15_78_25 : decode prog_15_method_78_code 25 = .ok (.iload_n 1, 1) := by decide +kernel
theorem d15_78_26 : decode prog_15_method_78_code 26 = .ok (.invokevirtual 389, 3) := by decide +kernel
theorem d15_78_29 : decode prog_15_method_78_code 29 = .ok (.iload_n 2, 1) := by decide +kernel
theorem d15_78_30 : decode prog_15_method_78_code 30 = .ok (.invokevirtual 299, 3) := by decide +kernel
theorem d15_78_33 : decode prog_15_method_78_code 33 = .ok (.ifCond .ge 5, 3) := by decide +kernel
theorem d15_78_7 : decode prog_15_method_78_code 7 = .ok (.bipush (-9), 2) := by decide +kernel
theorem d15_78_9 : decode prog_15_method_78_code 9 = .ok (.ireturn, 1) := by decide +kernel
def y15_78 : MethodName := { cls := "PagedValuesModel", name := "query", desc := "(II)I" }
def m_isReader (a0 : Int32) (st : MS) : Option (Int32) := (if a0 = ((-1) : Int32) then (some (1 : Int32)) else ((m_within a0 (0 : Int32) (2 : Int32)).bind fun x4 => if x4 = (0 : Int32) then (some (0 : Int32)) else ((rd (st.2.2.1 17) 3 a0).bind fun x8 => if x8 = (0 : Int32) then (some (0 : Int32)) else (some (1 : Int32))))).bind fun e2 => (bz e2).bind fun _ => some e2
set_option maxHeartbeats 4000000 in
set_option maxRecDepth 100000 in
theorem cm_isReader (l : Launch) (G : Gk) (Zd : Nat → Nat) (q : Nat → Nat) (a0 : Int32) (st : MS) (r0 : Int32) (hm : m_isReader a0 st = some r0) (sz : Nat) : Met l y15_76 (Cond.code y15_76 prog_15_method_76_code 2 (some .boolean) :: TB) (rmD 1 0 0) (va_Pc [.ref (q 0), .int a0] (pcW G Zd (wMs q G.2 st) sz)) (qI G (fun rr (_ : Unit) => rr = r0) (fun _ => (wMs q G.2 st)) (va_A (wMs q G.2 st) sz)) 0 0 (va_A (wMs q G.2 st) sz) := by
  refine go (y := y15_76) (cc := prog_15_method_76_code) (maxL := 2) (ret := (some .boolean)) (av := [.ref (q 0), .int a0]) (Qc := qI G (fun rr (_ : Unit) => rr = r0) (fun _ => (wMs q G.2 st))) "PagedValuesModel" rfl (by decide) (Nat.le_of_ble_eq_true rfl) ?_
  intro p e s m below meth c ls A hx hb hr hlk hml hown hts hin hl hP hD hK hS hA hZ
  have hl : lv_has ls 2 [(0, .ref (q 0)), (1, .int a0)] := hl
  have h := hm
  clear hm
  refine lv_iload_n hx hb d15_76_0 rfl (lv_at hl 1 rfl) ?_
  refine lv_iconst (v := (-1)) hx hb d15_76_1 (by decide) ?_
  obtain ⟨e2, hX, h⟩ := ob h
  have hj : ∀ (H : Heap) (locs : List Loc) (ls : Array Slot), lv_has ls 2 [(0, .ref (q 0)), (1, .int a0)] → va_P G.1 vwCl (wMs q G.2 st) H → va_D A (wMs q G.2 st) → va_S A s.heap H locs → W p l e (rmD 1 0 0) s m ([.ref (q 0), .int a0] : List Value).toArray below meth c H locs 0 0 (MQ below (qI G (fun rr (_ : Unit) => rr = r0) (fun _ => (wMs q G.2 st)) A) ([.ref (q 0), .int a0] : List Value).toArray s 0 0 A) (F0 m 28 ls [.int e2]) := by
    intro H locs ls hl hP hD hS
    obtain ⟨u9, hr9, h⟩ := ob h
    have hi := bz_some hr9
    clear hr9 u9
    cases h
    exact fin_z hx hb hr hlk (nar01 hi) hS () rfl hP hD (Nat.le_of_ble_eq_true rfl) (Nat.le_of_ble_eq_true rfl) d15_76_28
  clear h
  refine lv_icmp_eq (tgt := 23) hx hb d15_76_2 rfl (fun c1 => ?_) (fun c1 => ?_)
  ·
    replace h := (if_pos c1).symm.trans hX
    refine lv_iconst (v := 1) hx hb d15_76_23 (by decide) ?_
    refine lv_goto (tgt := 28) hx hb d15_76_24 rfl ?_
    have e9 := Option.some.inj h
    subst e2
    have hl := lv_sub hl (l' := [(0, .ref (q 0)), (1, .int a0)]) [0, 1] rfl
    exact hj _ _ _ hl hP hD hS
  ·
    replace h := (if_neg c1).symm.trans hX
    refine lv_iload_n hx hb d15_76_5 rfl (lv_at hl 1 rfl) ?_
    refine lv_iconst (v := 0) hx hb d15_76_6 (by decide) ?_
    refine lv_iconst (v := 2) hx hb d15_76_7 (by decide) ?_
    obtain ⟨x4, hc, h⟩ := ob h
    refine sS_i (As := [.int a0, .int 0, .int 2]) (rest := []) ⟨hx, hb, hml, hown, hts⟩ (cm_within l G Zd _ a0 (0 : Int32) (2 : Int32) x4 hc _) (kw_S (n := 3) hts k1289 k1287 k15 k1288 (by decide +kernel) ⟨Nat.le_of_ble_eq_true rfl, Nat.le_of_ble_eq_true rfl⟩) hP hD hK hS hA hZ rfl hl.1 rfl (Nat.le_of_ble_eq_true rfl) d15_76_8 ⟨Nat.le_of_ble_eq_true rfl, Nat.le_of_ble_eq_true rfl⟩ (fun rr u9 H locs hp hP hD hS => ?_)
    clear u9
    subst rr
    clear hc
    refine W.eq (g2 := F0 m 11 ls [.int x4]) rfl ?_
    have hP : va_P G.1 vwCl (wMs q G.2 st) H := hP
    have hD : va_D A (wMs q G.2 st) := hD
    refine lv_if_eq (tgt := 27) hx hb d15_76_11 rfl (fun c7 => ?_) (fun c7 => ?_)
    ·
      replace h := (if_pos c7).symm.trans h
      refine lv_iconst (v := 0) hx hb d15_76_27 (by decide) ?_
      have e9 := Option.some.inj h
      subst e2
      have hl := lv_sub hl (l' := [(0, .ref (q 0)), (1, .int a0)]) [0, 1] rfl
      exact hj _ _ _ hl hP hD hS
    ·
      replace h := (if_neg c7).symm.trans h
      refine lv_aload_n hx hb d15_76_14 rfl (lv_at hl 0 rfl) ?_
      refine va_get (D := G.1) (ci := 13) (v := .ref (q 24)) (C := r_13) (T := f_13) (N := 42) (ref := "PagedValuesModel") hx hb hts (fun w h => List.mem_cons_of_mem _ (ly_13 w h)) hown hK hP 0 rfl rfl 37 (by decide) (hts _ (List.mem_cons_of_mem _ k1188)) (fun _ h9 => h9) rfl d15_76_15 ?_
      refine lv_iload_n hx hb d15_76_18 rfl (lv_at hl 1 rfl) ?_
      obtain ⟨x8, hr, h⟩ := ob h
      obtain ⟨hi, hv⟩ := rd_some hr
      refine va_zald (D := G.1) hx hb hK hP 24 3 rfl rfl (i := a0) hi d15_76_19 ?_
      refine lv_topi (fun y9 ey => ?_)
      have e9 := ey.trans hv
      clear ey
      subst y9
      clear hv hi hr
      refine lv_if_eq (tgt := 27) hx hb d15_76_20 rfl (fun c9 => ?_) (fun c9 => ?_)
      ·
        replace h := (if_pos c9).symm.trans h
        refine lv_iconst (v := 0) hx hb d15_76_27 (by decide) ?_
        have e9 := Option.some.inj h
        subst e2
        have hl := lv_sub hl (l' := [(0, .ref (q 0)), (1, .int a0)]) [0, 1] rfl
        exact hj _ _ _ hl hP hD hS
      ·
        replace h := (if_neg c9).symm.trans h
        refine lv_iconst (v := 1) hx hb d15_76_23 (by decide) ?_
        refine lv_goto (tgt := 28) hx hb d15_76_24 rfl ?_
        have e9 := Option.some.inj h
        subst e2
        have hl := lv_sub hl (l' := [(0, .ref (q 0)), (1, .int a0)]) [0, 1] rfl
        exact hj _ _ _ hl hP hD hS
def m_queryNumber_l1 (x13 : Int32) : Nat → (Int32 × Int32 × MS) → Option (Int32 × Int32 × MS)
  | 0, _ => none
  | n9 + 1, e9 => if (0 : Int32) ≤ (e9.2.2.1 2) then (some (e9.1, e9.2.1, e9.2.2)) else ((m_here e9.2.2).bind fun x29 => (m_isDigit x29).bind fun x32 => if x32 = (0 : Int32) then (some (e9.1, e9.2.1, e9.2.2)) else ((if e9.2.1 = (3 : Int32) then ((m_fault e9.2.2).bind fun st41 => some (e9.1, st41)) else (if x13 = (0 : Int32) then ((some (10 * e9.1)).bind fun y44 => (m_here e9.2.2).bind fun x45 => (some (y44 + x45)).bind fun y48 => (some (y48 - 48)).bind fun y49 => (some ((e9.2.2.1 1) + 1)).bind fun y50 => some (y49, (upd e9.2.2.1 1 y50, e9.2.2.2.1, e9.2.2.2.2.1, e9.2.2.2.2.2))) else (if e9.2.1 = (1 : Int32) then ((m_fault e9.2.2).bind fun st60 => some (e9.1, st60)) else ((some (10 * e9.1)).bind fun y52 => (m_here e9.2.2).bind fun x53 => (some (y52 + x53)).bind fun y56 => (some (y56 - 48)).bind fun y57 => (some ((e9.2.2.1 1) + 1)).bind fun y58 => some (y57, (upd e9.2.2.1 1 y58, e9.2.2.2.1, e9.2.2.2.2.1, e9.2.2.2.2.2)))))).bind fun e37 => m_queryNumber_l1 x13 n9 (e37.1, e9.2.1 + 1, e37.2)))
theorem m_queryNumber_l1_s (x13 : Int32) (n9 : Nat) (e9 : Int32 × Int32 × MS) : m_queryNumber_l1 x13 (n9 + 1) e9 = (if (0 : Int32) ≤ (e9.2.2.1 2) then (some (e9.1, e9.2.1, e9.2.2)) else ((m_here e9.2.2).bind fun x29 => (m_isDigit x29).bind fun x32 => if x32 = (0 : Int32) then (some (e9.1, e9.2.1, e9.2.2)) else ((if e9.2.1 = (3 : Int32) then ((m_fault e9.2.2).bind fun st41 => some (e9.1, st41)) else (if x13 = (0 : Int32) then ((some (10 * e9.1)).bind fun y44 => (m_here e9.2.2).bind fun x45 => (some (y44 + x45)).bind fun y48 => (some (y48 - 48)).bind fun y49 => (some ((e9.2.2.1 1) + 1)).bind fun y50 => some (y49, (upd e9.2.2.1 1 y50, e9.2.2.2.1, e9.2.2.2.2.1, e9.2.2.2.2.2))) else (if e9.2.1 = (1 : Int32) then ((m_fault e9.2.2).bind fun st60 => some (e9.1, st60)) else ((some (10 * e9.1)).bind fun y52 => (m_here e9.2.2).bind fun x53 => (some (y52 + x53)).bind fun y56 => (some (y56 - 48)).bind fun y57 => (some ((e9.2.2.1 1) + 1)).bind fun y58 => some (y57, (upd e9.2.2.1 1 y58, e9.2.2.2.1, e9.2.2.2.2.1, e9.2.2.2.2.2)))))).bind fun e37 => m_queryNumber_l1 x13 n9 (e37.1, e9.2.1 + 1, e37.2)))) := rfl
def m_queryNumber (st : MS) : Option (Int32 × MS) := (m_takes (45 : Int32) st).bind fun r3 => (m_here r3.2).bind fun x4 => (m_isDigit x4).bind fun x7 => (if x7 = (0 : Int32) then ((m_fault r3.2).bind fun st63 => some st63) else (if r3.1 = (0 : Int32) then (some r3.2) else ((m_here r3.2).bind fun x66 => if x66 = (48 : Int32) then ((m_fault r3.2).bind fun st71 => some st71) else (some r3.2)))).bind fun e11 => (m_sees (48 : Int32) e11).bind fun x13 => (m_queryNumber_l1 x13 4096 ((0 : Int32), (0 : Int32), e11)).bind fun e16 => (if r3.1 = (0 : Int32) then (some e16.1) else ((some (-e16.1)).bind fun y27 => some y27)).bind fun e25 => some (e25, e16.2.2)
set_option maxHeartbeats 4000000 in
set_option maxRecDepth 100000 in
theorem cm_queryNumber (l : Launch) (G : Gk) (Zd : Nat → Nat) (q : Nat → Nat) (st : MS) (r0 : Int32) (st0 : MS) (hm : m_queryNumber st = some (r0, st0)) (sz : Nat) : Met l y15_68 (Cond.code y15_68 prog_15_method_68_code 5 (some .int) :: TB) (rmD 3 0 0) (va_Pc [.ref (q 0)] (pcW G Zd (wMs q G.2 st) sz)) (qI G (fun rr (_ : Unit) => rr = r0) (fun _ => (wMs q G.2 st0)) (va_A (wMs q G.2 st) sz)) 0 0 (va_A (wMs q G.2 st) sz) := by
  refine go (y := y15_68) (cc := prog_15_method_68_code) (maxL := 5) (ret := (some .int)) (av := [.ref (q 0)]) (Qc := qI G (fun rr (_ : Unit) => rr = r0) (fun _ => (wMs q G.2 st0))) "PagedValuesModel" rfl (by decide) (Nat.le_of_ble_eq_true rfl) ?_
  intro p e s m below meth c ls A hx hb hr hlk hml hown hts hin hl hP hD hK hS hA hZ
  have hl : lv_has ls 5 [(0, .ref (q 0))] := hl
  have h := hm
  clear hm
  refine lv_aload_n hx hb d15_68_0 rfl (lv_at hl 0 rfl) ?_
  refine lv_bipush (v := 45) hx hb d15_68_1 (by decide) ?_
  obtain ⟨⟨x1, st2⟩, hc, h⟩ := ob h
  refine sV_i (As := [.int 45]) (rest := []) ⟨hx, hb, hml, hown, hts⟩ (cm_takes l G Zd q (45 : Int32) st x1 st2 hc _) (kw_V (n := 1) hts k1359 k1356 k15 k1358 ks48 (by decide +kernel) ⟨Nat.le_of_ble_eq_true rfl, Nat.le_of_ble_eq_true rfl⟩) hP hD hK hS hA hZ (va_recv (ci := 13) (q0 := 0) hK hP rfl rfl) rfl hl.1 rfl (Nat.le_of_ble_eq_true rfl) d15_68_3 ⟨Nat.le_of_ble_eq_true rfl, Nat.le_of_ble_eq_true rfl⟩ (fun rr u9 H locs hp hP hD hS => ?_)
  clear u9
  subst rr
  clear hc
  refine W.eq (g2 := F0 m 6 ls [.int x1]) rfl ?_
  have hP : va_P G.1 vwCl (wMs q G.2 st2) H := hP
  have hD : va_D A (wMs q G.2 st2) := hD
  refine lv_istore_n (lv' := [(1, .int x1), (0, .ref (q 0))]) hx hb d15_68_6 rfl hl (by decide) rfl (fun ls hl => ?_)
  refine lv_iconst (v := 0) hx hb d15_68_7 (by decide) ?_
  refine lv_istore_n (lv' := [(2, .int 0), (1, .int x1), (0, .ref (q 0))]) hx hb d15_68_8 rfl hl (by decide) rfl (fun ls hl => ?_)
  refine lv_iconst (v := 0) hx hb d15_68_9 (by decide) ?_
  refine lv_istore_n (lv' := [(3, .int 0), (2, .int 0), (1, .int x1), (0, .ref (q 0))]) hx hb d15_68_10 rfl hl (by decide) rfl (fun ls hl => ?_)
  refine lv_aload_n hx hb d15_68_11 rfl (lv_at hl 3 rfl) ?_
  obtain ⟨x4, hc, h⟩ := ob h
  refine sV_i (As := []) (rest := []) ⟨hx, hb, hml, hown, hts⟩ (cm_here l G Zd q st2 x4 hc _) (kw_V (n := 0) hts k1305 k1302 k15 k1304 ks37 (by decide +kernel) ⟨Nat.le_of_ble_eq_true rfl, Nat.le_of_ble_eq_true rfl⟩) hP hD hK hS hA hZ (va_recv (ci := 13) (q0 := 0) hK hP rfl rfl) rfl hl.1 rfl (Nat.le_of_ble_eq_true rfl) d15_68_12 ⟨Nat.le_of_ble_eq_true rfl, Nat.le_of_ble_eq_true rfl⟩ (fun rr u9 H locs hp hP hD hS => ?_)
  clear u9
  subst rr
  clear hc
  refine W.eq (g2 := F0 m 15 ls [.int x4]) rfl ?_
  have hP : va_P G.1 vwCl (wMs q G.2 st2) H := hP
  have hD : va_D A (wMs q G.2 st2) := hD
  obtain ⟨x7, hc, h⟩ := ob h
  refine sS_i (As := [.int x4]) (rest := []) ⟨hx, hb, hml, hown, hts⟩ (cm_isDigit l G Zd _ x4 x7 hc _) (kw_S (n := 1) hts k1351 k1349 k15 k1350 (by decide +kernel) ⟨Nat.le_of_ble_eq_true rfl, Nat.le_of_ble_eq_true rfl⟩) hP hD hK hS hA hZ rfl hl.1 rfl (Nat.le_of_ble_eq_true rfl) d15_68_15 ⟨Nat.le_of_ble_eq_true rfl, Nat.le_of_ble_eq_true rfl⟩ (fun rr u9 H locs hp hP hD hS => ?_)
  clear u9
  subst rr
  clear hc
  refine W.eq (g2 := F0 m 18 ls [.int x7]) rfl ?_
  have hP : va_P G.1 vwCl (wMs q G.2 st2) H := hP
  have hD : va_D A (wMs q G.2 st2) := hD
  obtain ⟨e11, hX, h⟩ := ob h
  have hj : ∀ (H : Heap) (locs : List Loc) (ls : Array Slot), lv_has ls 5 [(0, .ref (q 0)), (1, .int x1), (2, .int 0), (3, .int 0)] → va_P G.1 vwCl (wMs q G.2 e11) H → va_D A (wMs q G.2 e11) → va_S A s.heap H locs → W p l e (rmD 3 0 0) s m ([.ref (q 0)] : List Value).toArray below meth c H locs 0 0 (MQ below (qI G (fun rr (_ : Unit) => rr = r0) (fun _ => (wMs q G.2 st0)) A) ([.ref (q 0)] : List Value).toArray s 0 0 A) (F0 m 38 ls []) := by
    intro H locs ls hl hP hD hS
    refine lv_aload_n hx hb d15_68_38 rfl (lv_at hl 0 rfl) ?_
    refine lv_bipush (v := 48) hx hb d15_68_39 (by decide) ?_
    obtain ⟨x13, hc, h⟩ := ob h
    refine sV_i (As := [.int 48]) (rest := []) ⟨hx, hb, hml, hown, hts⟩ (cm_sees l G Zd q (48 : Int32) e11 x13 hc _) (kw_V (n := 1) hts k1301 k1298 k15 k1300 ks36 (by decide +kernel) ⟨Nat.le_of_ble_eq_true rfl, Nat.le_of_ble_eq_true rfl⟩) hP hD hK hS hA hZ (va_recv (ci := 13) (q0 := 0) hK hP rfl rfl) rfl hl.1 rfl (Nat.le_of_ble_eq_true rfl) d15_68_41 ⟨Nat.le_of_ble_eq_true rfl, Nat.le_of_ble_eq_true rfl⟩ (fun rr u9 H locs hp hP hD hS => ?_)
    clear u9
    subst rr
    clear hc
    refine W.eq (g2 := F0 m 44 ls [.int x13]) rfl ?_
    have hP : va_P G.1 vwCl (wMs q G.2 e11) H := hP
    have hD : va_D A (wMs q G.2 e11) := hD
    refine lv_istore (lv' := [(4, .int x13), (0, .ref (q 0)), (1, .int x1), (2, .int 0), (3, .int 0)]) hx hb d15_68_44 hl (by decide) rfl (fun ls hl => ?_)
    obtain ⟨e16, hX, hrest⟩ := ob h
    clear h
    have hj : ∀ (v21 : Int32) (v22 : Int32) (v23 : MS), e16 = (v21, v22, v23) → ∀ (H : Heap) (locs : List Loc) (ls : Array Slot), lv_has ls 5 [(0, .ref (q 0)), (1, .int x1), (2, .int v21), (3, .int v22), (4, .int x13)] → va_P G.1 vwCl (wMs q G.2 v23) H → va_D A (wMs q G.2 v23) → va_S A s.heap H locs → W p l e (rmD 3 0 0) s m ([.ref (q 0)] : List Value).toArray below meth c H locs 0 0 (MQ below (qI G (fun rr (_ : Unit) => rr = r0) (fun _ => (wMs q G.2 st0)) A) ([.ref (q 0)] : List Value).toArray s 0 0 A) (F0 m 114 ls []) := by
      intro v21 v22 v23 he H locs ls hl hP hD hS
      subst e16
      have h := hrest
      refine lv_iload_n hx hb d15_68_114 rfl (lv_at hl 1 rfl) ?_
      obtain ⟨e25, hX, h⟩ := ob h
      have hj : ∀ (H : Heap) (locs : List Loc) (ls : Array Slot), lv_has ls 5 [(0, .ref (q 0)), (1, .int x1), (2, .int v21), (3, .int v22), (4, .int x13)] → va_P G.1 vwCl (wMs q G.2 v23) H → va_D A (wMs q G.2 v23) → va_S A s.heap H locs → W p l e (rmD 3 0 0) s m ([.ref (q 0)] : List Value).toArray below meth c H locs 0 0 (MQ below (qI G (fun rr (_ : Unit) => rr = r0) (fun _ => (wMs q G.2 st0)) A) ([.ref (q 0)] : List Value).toArray s 0 0 A) (F0 m 124 ls [.int e25]) := by
        intro H locs ls hl hP hD hS
        cases h
        exact fin_i hx hb hr hlk hS () rfl hP hD (Nat.le_of_ble_eq_true rfl) (Nat.le_of_ble_eq_true rfl) d15_68_124
      clear h
      refine lv_if_eq (tgt := 123) hx hb d15_68_115 rfl (fun c24 => ?_) (fun c24 => ?_)
      ·
        replace h := (if_pos c24).symm.trans hX
        refine lv_iload_n hx hb d15_68_123 rfl (lv_at hl 2 rfl) ?_
        have e9 := Option.some.inj h
        subst e25
        have hl := lv_sub hl (l' := [(0, .ref (q 0)), (1, .int x1), (2, .int v21), (3, .int v22), (4, .int x13)]) [0, 1, 2, 3, 4] rfl
        exact hj _ _ _ hl hP hD hS
      ·
        replace h := (if_neg c24).symm.trans hX
        refine lv_iload_n hx hb d15_68_118 rfl (lv_at hl 2 rfl) ?_
        refine lv_ineg hx hb d15_68_119 ?_
        obtain ⟨y27, hr, h⟩ := ob h
        refine lv_topi (fun y9 ey => ?_)
        have e9 := ey.trans (Option.some.inj hr)
        clear ey
        subst y9
        clear hr
        refine lv_goto (tgt := 124) hx hb d15_68_120 rfl ?_
        have e9 := Option.some.inj h
        subst e25
        have hl := lv_sub hl (l' := [(0, .ref (q 0)), (1, .int x1), (2, .int v21), (3, .int v22), (4, .int x13)]) [0, 1, 2, 3, 4] rfl
        exact hj _ _ _ hl hP hD hS
    have hloop : ∀ (n9 : Nat) (v17 : Int32) (v18 : Int32) (v19 : MS), m_queryNumber_l1 x13 n9 (v17, v18, v19) = some e16 → ∀ (H : Heap) (locs : List Loc) (ls : Array Slot), lv_has ls 5 [(0, .ref (q 0)), (1, .int x1), (2, .int v17), (3, .int v18), (4, .int x13)] → va_P G.1 vwCl (wMs q G.2 v19) H → va_D A (wMs q G.2 v19) → va_S A s.heap H locs → W p l e (rmD 3 0 0) s m ([.ref (q 0)] : List Value).toArray below meth c H locs 0 0 (MQ below (qI G (fun rr (_ : Unit) => rr = r0) (fun _ => (wMs q G.2 st0)) A) ([.ref (q 0)] : List Value).toArray s 0 0 A) (F0 m 46 ls []) := by
      intro n9
      induction n9 with
      | zero =>
        intro v17 v18 v19 h
        cases h
      | succ n9 ih =>
        intro v17 v18 v19 h H locs ls hl hP hD hS
        replace h := (m_queryNumber_l1_s x13 n9 (v17, v18, v19)).symm.trans h
        refine lv_aload_n hx hb d15_68_46 rfl (lv_at hl 0 rfl) ?_
        refine va_get (D := G.1) (ci := 13) (v := .int (v19.1 2)) (C := r_13) (T := f_13) (N := 42) (ref := "PagedValuesModel") hx hb hts (fun w h => List.mem_cons_of_mem _ (ly_13 w h)) hown hK hP 0 rfl rfl 3 (by decide) (hts _ (List.mem_cons_of_mem _ k1154)) (fun _ h9 => h9) rfl d15_68_47 ?_
        refine lv_if_ge (tgt := 114) hx hb d15_68_50 rfl (fun c28 => ?_) (fun c28 => ?_)
        ·
          replace h := (if_pos c28).symm.trans h
          have e9 := Option.some.inj h
          subst e16
          have hl := lv_sub hl (l' := [(0, .ref (q 0)), (1, .int x1), (2, .int v17), (3, .int v18), (4, .int x13)]) [0, 1, 2, 3, 4] rfl
          exact hj _ _ _ rfl _ _ _ hl hP hD hS
        ·
          replace h := (if_neg c28).symm.trans h
          refine lv_aload_n hx hb d15_68_53 rfl (lv_at hl 0 rfl) ?_
          obtain ⟨x29, hc, h⟩ := ob h
          refine sV_i (As := []) (rest := []) ⟨hx, hb, hml, hown, hts⟩ (cm_here l G Zd q v19 x29 hc _) (kw_V (n := 0) hts k1305 k1302 k15 k1304 ks37 (by decide +kernel) ⟨Nat.le_of_ble_eq_true rfl, Nat.le_of_ble_eq_true rfl⟩) hP hD hK hS hA hZ (va_recv (ci := 13) (q0 := 0) hK hP rfl rfl) rfl hl.1 rfl (Nat.le_of_ble_eq_true rfl) d15_68_54 ⟨Nat.le_of_ble_eq_true rfl, Nat.le_of_ble_eq_true rfl⟩ (fun rr u9 H locs hp hP hD hS => ?_)
          clear u9
          subst rr
          clear hc
          refine W.eq (g2 := F0 m 57 ls [.int x29]) rfl ?_
          have hP : va_P G.1 vwCl (wMs q G.2 v19) H := hP
          have hD : va_D A (wMs q G.2 v19) := hD
          obtain ⟨x32, hc, h⟩ := ob h
          refine sS_i (As := [.int x29]) (rest := []) ⟨hx, hb, hml, hown, hts⟩ (cm_isDigit l G Zd _ x29 x32 hc _) (kw_S (n := 1) hts k1351 k1349 k15 k1350 (by decide +kernel) ⟨Nat.le_of_ble_eq_true rfl, Nat.le_of_ble_eq_true rfl⟩) hP hD hK hS hA hZ rfl hl.1 rfl (Nat.le_of_ble_eq_true rfl) d15_68_57 ⟨Nat.le_of_ble_eq_true rfl, Nat.le_of_ble_eq_true rfl⟩ (fun rr u9 H locs hp hP hD hS => ?_)
          clear u9
          subst rr
          clear hc
          refine W.eq (g2 := F0 m 60 ls [.int x32]) rfl ?_
          have hP : va_P G.1 vwCl (wMs q G.2 v19) H := hP
          have hD : va_D A (wMs q G.2 v19) := hD
          refine lv_if_eq (tgt := 114) hx hb d15_68_60 rfl (fun c35 => ?_) (fun c35 => ?_)
          ·
            replace h := (if_pos c35).symm.trans h
            have e9 := Option.some.inj h
            subst e16
            have hl := lv_sub hl (l' := [(0, .ref (q 0)), (1, .int x1), (2, .int v17), (3, .int v18), (4, .int x13)]) [0, 1, 2, 3, 4] rfl
            exact hj _ _ _ rfl _ _ _ hl hP hD hS
          ·
            replace h := (if_neg c35).symm.trans h
            refine lv_iload_n hx hb d15_68_63 rfl (lv_at hl 3 rfl) ?_
            refine lv_iconst (v := 3) hx hb d15_68_64 (by decide) ?_
            obtain ⟨e37, hX, h⟩ := ob h
            obtain ⟨v38, v39⟩ := e37
            have hj : ∀ (H : Heap) (locs : List Loc) (ls : Array Slot), lv_has ls 5 [(0, .ref (q 0)), (1, .int x1), (2, .int v38), (3, .int v18), (4, .int x13)] → va_P G.1 vwCl (wMs q G.2 v39) H → va_D A (wMs q G.2 v39) → va_S A s.heap H locs → W p l e (rmD 3 0 0) s m ([.ref (q 0)] : List Value).toArray below meth c H locs 0 0 (MQ below (qI G (fun rr (_ : Unit) => rr = r0) (fun _ => (wMs q G.2 st0)) A) ([.ref (q 0)] : List Value).toArray s 0 0 A) (F0 m 108 ls []) := by
              intro H locs ls hl hP hD hS
              refine lv_iinc (k := 3) (v := v18 + 1) (lv' := [(3, .int (v18 + 1)), (0, .ref (q 0)), (1, .int x1), (2, .int v38), (4, .int x13)]) hx hb d15_68_108 hl rfl (by first | decide | rfl) (by decide) rfl (fun ls hl => ?_)
              refine lv_goto (tgt := 46) hx hb d15_68_111 rfl ?_
              have hl := lv_sub hl (l' := [(0, .ref (q 0)), (1, .int x1), (2, .int v38), (3, .int (v18 + 1)), (4, .int x13)]) [1, 2, 3, 0, 4] rfl
              exact ih _ _ _ h _ _ _ hl hP hD hS
            clear h
            refine lv_icmp_eq (tgt := 78) hx hb d15_68_65 rfl (fun c36 => ?_) (fun c36 => ?_)
            ·
              replace h := (if_pos c36).symm.trans hX
              refine lv_aload_n hx hb d15_68_78 rfl (lv_at hl 0 rfl) ?_
              obtain ⟨st41, hc, h⟩ := ob h
              refine sV_v (As := []) (rest := []) ⟨hx, hb, hml, hown, hts⟩ (cm_fault l G Zd q v19 st41 hc _) (kw_V (n := 0) hts k1320 k1317 k15 k1319 ks40 (by decide +kernel) ⟨Nat.le_of_ble_eq_true rfl, Nat.le_of_ble_eq_true rfl⟩) hP hD hK hS hA hZ (va_recv (ci := 13) (q0 := 0) hK hP rfl rfl) rfl hl.1 rfl (Nat.le_of_ble_eq_true rfl) d15_68_79 ⟨Nat.le_of_ble_eq_true rfl, Nat.le_of_ble_eq_true rfl⟩ (fun u9 H locs hp hP hD hS => ?_)
              clear u9
              clear hp
              clear hc
              refine W.eq (g2 := F0 m 82 ls []) rfl ?_
              have hP : va_P G.1 vwCl (wMs q G.2 st41) H := hP
              have hD : va_D A (wMs q G.2 st41) := hD
              refine lv_goto (tgt := 108) hx hb d15_68_82 rfl ?_
              have e9 := Option.some.inj h
              obtain ⟨q9, e9⟩ := Prod.mk.inj e9
              subst v38
              subst v39
              have hl := lv_sub hl (l' := [(0, .ref (q 0)), (1, .int x1), (2, .int v17), (3, .int v18), (4, .int x13)]) [0, 1, 2, 3, 4] rfl
              exact hj _ _ _ hl hP hD hS
            ·
              replace h := (if_neg c36).symm.trans hX
              refine lv_iload hx hb d15_68_68 (lv_at hl 4 rfl) ?_
              refine lv_if_eq (tgt := 85) hx hb d15_68_70 rfl (fun c43 => ?_) (fun c43 => ?_)
              ·
                replace h := (if_pos c43).symm.trans h
                refine lv_bipush (v := 10) hx hb d15_68_85 (by decide) ?_
                refine lv_iload_n hx hb d15_68_87 rfl (lv_at hl 2 rfl) ?_
                refine lv_imul hx hb d15_68_88 ?_
                obtain ⟨y44, hr, h⟩ := ob h
                refine lv_topi (fun y9 ey => ?_)
                have e9 := ey.trans (Option.some.inj hr)
                clear ey
                subst y9
                clear hr
                refine lv_aload_n hx hb d15_68_89 rfl (lv_at hl 0 rfl) ?_
                obtain ⟨x45, hc, h⟩ := ob h
                refine sV_i (As := []) (rest := [.int y44]) ⟨hx, hb, hml, hown, hts⟩ (cm_here l G Zd q v19 x45 hc _) (kw_V (n := 0) hts k1305 k1302 k15 k1304 ks37 (by decide +kernel) ⟨Nat.le_of_ble_eq_true rfl, Nat.le_of_ble_eq_true rfl⟩) hP hD hK hS hA hZ (va_recv (ci := 13) (q0 := 0) hK hP rfl rfl) rfl hl.1 rfl (Nat.le_of_ble_eq_true rfl) d15_68_90 ⟨Nat.le_of_ble_eq_true rfl, Nat.le_of_ble_eq_true rfl⟩ (fun rr u9 H locs hp hP hD hS => ?_)
                clear u9
                subst rr
                clear hc
                refine W.eq (g2 := F0 m 93 ls [.int x45, .int y44]) rfl ?_
                have hP : va_P G.1 vwCl (wMs q G.2 v19) H := hP
                have hD : va_D A (wMs q G.2 v19) := hD
                refine lv_iadd hx hb d15_68_93 ?_
                obtain ⟨y48, hr, h⟩ := ob h
                refine lv_topi (fun y9 ey => ?_)
                have e9 := ey.trans (Option.some.inj hr)
                clear ey
                subst y9
                clear hr
                refine lv_bipush (v := 48) hx hb d15_68_94 (by decide) ?_
                refine lv_isub hx hb d15_68_96 ?_
                obtain ⟨y49, hr, h⟩ := ob h
                refine lv_topi (fun y9 ey => ?_)
                have e9 := ey.trans (Option.some.inj hr)
                clear ey
                subst y9
                clear hr
                refine lv_istore_n (lv' := [(2, .int y49), (0, .ref (q 0)), (1, .int x1), (3, .int v18), (4, .int x13)]) hx hb d15_68_97 rfl hl (by decide) rfl (fun ls hl => ?_)
                refine lv_aload_n hx hb d15_68_98 rfl (lv_at hl 1 rfl) ?_
                refine lv_dup hx hb d15_68_99 rfl ?_
                refine va_get (D := G.1) (ci := 13) (v := .int (v19.1 1)) (C := r_13) (T := f_13) (N := 42) (ref := "PagedValuesModel") hx hb hts (fun w h => List.mem_cons_of_mem _ (ly_13 w h)) hown hK hP 0 rfl rfl 2 (by decide) (hts _ (List.mem_cons_of_mem _ k1153)) (fun _ h9 => h9) rfl d15_68_100 ?_
                refine lv_iconst (v := 1) hx hb d15_68_103 (by decide) ?_
                refine lv_iadd hx hb d15_68_104 ?_
                obtain ⟨y50, hr, h⟩ := ob h
                refine lv_topi (fun y9 ey => ?_)
                have e9 := ey.trans (Option.some.inj hr)
                clear ey
                subst y9
                clear hr
                refine va_put (D := G.1) (ci := 13) (v := .int y50) (ty := .int) (C := r_13) (T := f_13) (N := 42) (ref := "PagedValuesModel") hx hb hts (fun w h => List.mem_cons_of_mem _ (ly_13 w h)) ft_13 ft_13_ok nm_13 hown hK hP hD hS 0 rfl rfl 2 (by decide) (hts _ (List.mem_cons_of_mem _ k1153)) (fun _ h9 => h9) rfl (by decide +kernel) rfl rfl (Nat.le_of_ble_eq_true rfl) d15_68_105 (fun H locs hP hD hS => ?_)
                have hP : va_P G.1 vwCl (wMs q G.2 (upd v19.1 1 y50, v19.2.1, v19.2.2.1, v19.2.2.2)) H := hP
                have hD : va_D A (wMs q G.2 (upd v19.1 1 y50, v19.2.1, v19.2.2.1, v19.2.2.2)) := hD
                have e9 := Option.some.inj h
                obtain ⟨q9, e9⟩ := Prod.mk.inj e9
                subst v38
                subst v39
                have hl := lv_sub hl (l' := [(0, .ref (q 0)), (1, .int x1), (2, .int y49), (3, .int v18), (4, .int x13)]) [1, 2, 0, 3, 4] rfl
                exact hj _ _ _ hl hP hD hS
              ·
                replace h := (if_neg c43).symm.trans h
                refine lv_iload_n hx hb d15_68_73 rfl (lv_at hl 3 rfl) ?_
                refine lv_iconst (v := 1) hx hb d15_68_74 (by decide) ?_
                refine lv_icmp_ne (tgt := 85) hx hb d15_68_75 rfl (fun c51 => ?_) (fun c51 => ?_)
                ·
                  replace h := (if_neg c51).symm.trans h
                  refine lv_bipush (v := 10) hx hb d15_68_85 (by decide) ?_
                  refine lv_iload_n hx hb d15_68_87 rfl (lv_at hl 2 rfl) ?_
                  refine lv_imul hx hb d15_68_88 ?_
                  obtain ⟨y52, hr, h⟩ := ob h
                  refine lv_topi (fun y9 ey => ?_)
                  have e9 := ey.trans (Option.some.inj hr)
                  clear ey
                  subst y9
                  clear hr
                  refine lv_aload_n hx hb d15_68_89 rfl (lv_at hl 0 rfl) ?_
                  obtain ⟨x53, hc, h⟩ := ob h
                  refine sV_i (As := []) (rest := [.int y52]) ⟨hx, hb, hml, hown, hts⟩ (cm_here l G Zd q v19 x53 hc _) (kw_V (n := 0) hts k1305 k1302 k15 k1304 ks37 (by decide +kernel) ⟨Nat.le_of_ble_eq_true rfl, Nat.le_of_ble_eq_true rfl⟩) hP hD hK hS hA hZ (va_recv (ci := 13) (q0 := 0) hK hP rfl rfl) rfl hl.1 rfl (Nat.le_of_ble_eq_true rfl) d15_68_90 ⟨Nat.le_of_ble_eq_true rfl, Nat.le_of_ble_eq_true rfl⟩ (fun rr u9 H locs hp hP hD hS => ?_)
                  clear u9
                  subst rr
                  clear hc
                  refine W.eq (g2 := F0 m 93 ls [.int x53, .int y52]) rfl ?_
                  have hP : va_P G.1 vwCl (wMs q G.2 v19) H := hP
                  have hD : va_D A (wMs q G.2 v19) := hD
                  refine lv_iadd hx hb d15_68_93 ?_
                  obtain ⟨y56, hr, h⟩ := ob h
                  refine lv_topi (fun y9 ey => ?_)
                  have e9 := ey.trans (Option.some.inj hr)
                  clear ey
                  subst y9
                  clear hr
                  refine lv_bipush (v := 48) hx hb d15_68_94 (by decide) ?_
                  refine lv_isub hx hb d15_68_96 ?_
                  obtain ⟨y57, hr, h⟩ := ob h
                  refine lv_topi (fun y9 ey => ?_)
                  have e9 := ey.trans (Option.some.inj hr)
                  clear ey
                  subst y9
                  clear hr
                  refine lv_istore_n (lv' := [(2, .int y57), (0, .ref (q 0)), (1, .int x1), (3, .int v18), (4, .int x13)]) hx hb d15_68_97 rfl hl (by decide) rfl (fun ls hl => ?_)
                  refine lv_aload_n hx hb d15_68_98 rfl (lv_at hl 1 rfl) ?_
                  refine lv_dup hx hb d15_68_99 rfl ?_
                  refine va_get (D := G.1) (ci := 13) (v := .int (v19.1 1)) (C := r_13) (T := f_13) (N := 42) (ref := "PagedValuesModel") hx hb hts (fun w h => List.mem_cons_of_mem _ (ly_13 w h)) hown hK hP 0 rfl rfl 2 (by decide) (hts _ (List.mem_cons_of_mem _ k1153)) (fun _ h9 => h9) rfl d15_68_100 ?_
                  refine lv_iconst (v := 1) hx hb d15_68_103 (by decide) ?_
                  refine lv_iadd hx hb d15_68_104 ?_
                  obtain ⟨y58, hr, h⟩ := ob h
                  refine lv_topi (fun y9 ey => ?_)
                  have e9 := ey.trans (Option.some.inj hr)
                  clear ey
                  subst y9
                  clear hr
                  refine va_put (D := G.1) (ci := 13) (v := .int y58) (ty := .int) (C := r_13) (T := f_13) (N := 42) (ref := "PagedValuesModel") hx hb hts (fun w h => List.mem_cons_of_mem _ (ly_13 w h)) ft_13 ft_13_ok nm_13 hown hK hP hD hS 0 rfl rfl 2 (by decide) (hts _ (List.mem_cons_of_mem _ k1153)) (fun _ h9 => h9) rfl (by decide +kernel) rfl rfl (Nat.le_of_ble_eq_true rfl) d15_68_105 (fun H locs hP hD hS => ?_)
                  have hP : va_P G.1 vwCl (wMs q G.2 (upd v19.1 1 y58, v19.2.1, v19.2.2.1, v19.2.2.2)) H := hP
                  have hD : va_D A (wMs q G.2 (upd v19.1 1 y58, v19.2.1, v19.2.2.1, v19.2.2.2)) := hD
                  have e9 := Option.some.inj h
                  obtain ⟨q9, e9⟩ := Prod.mk.inj e9
                  subst v38
                  subst v39
                  have hl := lv_sub hl (l' := [(0, .ref (q 0)), (1, .int x1), (2, .int y57), (3, .int v18), (4, .int x13)]) [1, 2, 0, 3, 4] rfl
                  exact hj _ _ _ hl hP hD hS
                ·
                  replace h := (if_pos c51).symm.trans h
                  refine lv_aload_n hx hb d15_68_78 rfl (lv_at hl 0 rfl) ?_
                  obtain ⟨st60, hc, h⟩ := ob h
                  refine sV_v (As := []) (rest := []) ⟨hx, hb, hml, hown, hts⟩ (cm_fault l G Zd q v19 st60 hc _) (kw_V (n := 0) hts k1320 k1317 k15 k1319 ks40 (by decide +kernel) ⟨Nat.le_of_ble_eq_true rfl, Nat.le_of_ble_eq_true rfl⟩) hP hD hK hS hA hZ (va_recv (ci := 13) (q0 := 0) hK hP rfl rfl) rfl hl.1 rfl (Nat.le_of_ble_eq_true rfl) d15_68_79 ⟨Nat.le_of_ble_eq_true rfl, Nat.le_of_ble_eq_true rfl⟩ (fun u9 H locs hp hP hD hS => ?_)
                  clear u9
                  clear hp
                  clear hc
                  refine W.eq (g2 := F0 m 82 ls []) rfl ?_
                  have hP : va_P G.1 vwCl (wMs q G.2 st60) H := hP
                  have hD : va_D A (wMs q G.2 st60) := hD
                  refine lv_goto (tgt := 108) hx hb d15_68_82 rfl ?_
                  have e9 := Option.some.inj h
                  obtain ⟨q9, e9⟩ := Prod.mk.inj e9
                  subst v38
                  subst v39
                  have hl := lv_sub hl (l' := [(0, .ref (q 0)), (1, .int x1), (2, .int v17), (3, .int v18), (4, .int x13)]) [0, 1, 2, 3, 4] rfl
                  exact hj _ _ _ hl hP hD hS
    have hl := lv_sub hl (l' := [(0, .ref (q 0)), (1, .int x1), (2, .int 0), (3, .int 0), (4, .int x13)]) [1, 2, 3, 4, 0] rfl
    exact hloop _ _ _ _ hX _ _ _ hl hP hD hS
  clear h
  refine lv_if_eq (tgt := 34) hx hb d15_68_18 rfl (fun c10 => ?_) (fun c10 => ?_)
  ·
    replace h := (if_pos c10).symm.trans hX
    refine lv_aload_n hx hb d15_68_34 rfl (lv_at hl 3 rfl) ?_
    obtain ⟨st63, hc, h⟩ := ob h
    refine sV_v (As := []) (rest := []) ⟨hx, hb, hml, hown, hts⟩ (cm_fault l G Zd q st2 st63 hc _) (kw_V (n := 0) hts k1320 k1317 k15 k1319 ks40 (by decide +kernel) ⟨Nat.le_of_ble_eq_true rfl, Nat.le_of_ble_eq_true rfl⟩) hP hD hK hS hA hZ (va_recv (ci := 13) (q0 := 0) hK hP rfl rfl) rfl hl.1 rfl (Nat.le_of_ble_eq_true rfl) d15_68_35 ⟨Nat.le_of_ble_eq_true rfl, Nat.le_of_ble_eq_true rfl⟩ (fun u9 H locs hp hP hD hS => ?_)
    clear u9
    clear hp
    clear hc
    refine W.eq (g2 := F0 m 38 ls []) rfl ?_
    have hP : va_P G.1 vwCl (wMs q G.2 st63) H := hP
    have hD : va_D A (wMs q G.2 st63) := hD
    have e9 := Option.some.inj h
    subst e11
    have hl := lv_sub hl (l' := [(0, .ref (q 0)), (1, .int x1), (2, .int 0), (3, .int 0)]) [3, 2, 1, 0] rfl
    exact hj _ _ _ hl hP hD hS
  ·
    replace h := (if_neg c10).symm.trans hX
    refine lv_iload_n hx hb d15_68_21 rfl (lv_at hl 2 rfl) ?_
    refine lv_if_eq (tgt := 38) hx hb d15_68_22 rfl (fun c65 => ?_) (fun c65 => ?_)
    ·
      replace h := (if_pos c65).symm.trans h
      have e9 := Option.some.inj h
      subst e11
      have hl := lv_sub hl (l' := [(0, .ref (q 0)), (1, .int x1), (2, .int 0), (3, .int 0)]) [3, 2, 1, 0] rfl
      exact hj _ _ _ hl hP hD hS
    ·
      replace h := (if_neg c65).symm.trans h
      refine lv_aload_n hx hb d15_68_25 rfl (lv_at hl 3 rfl) ?_
      obtain ⟨x66, hc, h⟩ := ob h
      refine sV_i (As := []) (rest := []) ⟨hx, hb, hml, hown, hts⟩ (cm_here l G Zd q st2 x66 hc _) (kw_V (n := 0) hts k1305 k1302 k15 k1304 ks37 (by decide +kernel) ⟨Nat.le_of_ble_eq_true rfl, Nat.le_of_ble_eq_true rfl⟩) hP hD hK hS hA hZ (va_recv (ci := 13) (q0 := 0) hK hP rfl rfl) rfl hl.1 rfl (Nat.le_of_ble_eq_true rfl) d15_68_26 ⟨Nat.le_of_ble_eq_true rfl, Nat.le_of_ble_eq_true rfl⟩ (fun rr u9 H locs hp hP hD hS => ?_)
      clear u9
      subst rr
      clear hc
      refine W.eq (g2 := F0 m 29 ls [.int x66]) rfl ?_
      have hP : va_P G.1 vwCl (wMs q G.2 st2) H := hP
      have hD : va_D A (wMs q G.2 st2) := hD
      refine lv_bipush (v := 48) hx hb d15_68_29 (by decide) ?_
      refine lv_icmp_ne (tgt := 38) hx hb d15_68_31 rfl (fun c69 => ?_) (fun c69 => ?_)
      ·
        replace h := (if_neg c69).symm.trans h
        have e9 := Option.some.inj h
        subst e11
        have hl := lv_sub hl (l' := [(0, .ref (q 0)), (1, .int x1), (2, .int 0), (3, .int 0)]) [3, 2, 1, 0] rfl
        exact hj _ _ _ hl hP hD hS
      ·
        replace h := (if_pos c69).symm.trans h
        refine lv_aload_n hx hb d15_68_34 rfl (lv_at hl 3 rfl) ?_
        obtain ⟨st71, hc, h⟩ := ob h
        refine sV_v (As := []) (rest := []) ⟨hx, hb, hml, hown, hts⟩ (cm_fault l G Zd q st2 st71 hc _) (kw_V (n := 0) hts k1320 k1317 k15 k1319 ks40 (by decide +kernel) ⟨Nat.le_of_ble_eq_true rfl, Nat.le_of_ble_eq_true rfl⟩) hP hD hK hS hA hZ (va_recv (ci := 13) (q0 := 0) hK hP rfl rfl) rfl hl.1 rfl (Nat.le_of_ble_eq_true rfl) d15_68_35 ⟨Nat.le_of_ble_eq_true rfl, Nat.le_of_ble_eq_true rfl⟩ (fun u9 H locs hp hP hD hS => ?_)
        clear u9
        clear hp
        clear hc
        refine W.eq (g2 := F0 m 38 ls []) rfl ?_
        have hP : va_P G.1 vwCl (wMs q G.2 st71) H := hP
        have hD : va_D A (wMs q G.2 st71) := hD
        have e9 := Option.some.inj h
        subst e11
        have hl := lv_sub hl (l' := [(0, .ref (q 0)), (1, .int x1), (2, .int 0), (3, .int 0)]) [3, 2, 1, 0] rfl
        exact hj _ _ _ hl hP hD hS
def m_quoted_l1  : Nat → (MS) → Option (MS)
  | 0, _ => none
  | n9 + 1, e9 => if (0 : Int32) ≤ (e9.1 2) then (some e9) else ((m_here e9).bind fun x15 => if x15 = (39 : Int32) then (some e9) else ((m_here e9).bind fun x19 => (if x19 < (32 : Int32) then ((m_fault e9).bind fun st26 => some st26) else (if (255 : Int32) < x19 then ((m_fault e9).bind fun st30 => some st30) else (if x19 = (92 : Int32) then ((m_fault e9).bind fun st34 => some st34) else ((m_lengthOf (e9.2.1 0)).bind fun x36 => if x36 = (10 : Int32) then ((m_fault e9).bind fun st45 => some st45) else ((m_add x19 e9).bind fun st41 => (some ((st41.1 1) + 1)).bind fun y43 => some (upd st41.1 1 y43, st41.2.1, st41.2.2.1, st41.2.2.2)))))).bind fun e23 => m_quoted_l1  n9 e23))
theorem m_quoted_l1_s  (n9 : Nat) (e9 : MS) : m_quoted_l1  (n9 + 1) e9 = (if (0 : Int32) ≤ (e9.1 2) then (some e9) else ((m_here e9).bind fun x15 => if x15 = (39 : Int32) then (some e9) else ((m_here e9).bind fun x19 => (if x19 < (32 : Int32) then ((m_fault e9).bind fun st26 => some st26) else (if (255 : Int32) < x19 then ((m_fault e9).bind fun st30 => some st30) else (if x19 = (92 : Int32) then ((m_fault e9).bind fun st34 => some st34) else ((m_lengthOf (e9.2.1 0)).bind fun x36 => if x36 = (10 : Int32) then ((m_fault e9).bind fun st45 => some st45) else ((m_add x19 e9).bind fun st41 => (some ((st41.1 1) + 1)).bind fun y43 => some (upd st41.1 1 y43, st41.2.1, st41.2.2.1, st41.2.2.2)))))).bind fun e23 => m_quoted_l1  n9 e23))) := rfl
def m_quoted (st : MS) : Option (MS) := (m_clear st).bind fun st2 => (m_must (39 : Int32) st2).bind fun st5 => (m_quoted_l1  4096 st5).bind fun e7 => (m_must (39 : Int32) e7).bind fun st12 => some st12
set_option maxHeartbeats 4000000 in
set_option maxRecDepth 100000 in
theorem cm_quoted (l : Launch) (G : Gk) (Zd : Nat → Nat) (q : Nat → Nat) (st : MS) (st0 : MS) (hm : m_quoted st = some st0) (sz : Nat) : Met l y15_67 (Cond.code y15_67 prog_15_method_67_code 2 none :: TB) (rmD 2 0 0) (va_Pc [.ref (q 0)] (pcW G Zd (wMs q G.2 st) sz)) (qV G (fun (_ : Unit) => True) (fun _ => (wMs q G.2 st0)) (va_A (wMs q G.2 st) sz)) 0 0 (va_A (wMs q G.2 st) sz) := by
  refine go (y := y15_67) (cc := prog_15_method_67_code) (maxL := 2) (ret := none) (av := [.ref (q 0)]) (Qc := qV G (fun (_ : Unit) => True) (fun _ => (wMs q G.2 st0))) "PagedValuesModel" rfl (by decide) (Nat.le_of_ble_eq_true rfl) ?_
  intro p e s m below meth c ls A hx hb hr hlk hml hown hts hin hl hP hD hK hS hA hZ
  have hl : lv_has ls 2 [(0, .ref (q 0))] := hl
  have h := hm
  clear hm
  refine lv_aload_n hx hb d15_67_0 rfl (lv_at hl 0 rfl) ?_
  obtain ⟨st2, hc, h⟩ := ob h
  refine sV_v (As := []) (rest := []) ⟨hx, hb, hml, hown, hts⟩ (cm_clear l G Zd q st st2 hc _) (kw_V (n := 0) hts k1332 k1329 k15 k1331 ks43 (by decide +kernel) ⟨Nat.le_of_ble_eq_true rfl, Nat.le_of_ble_eq_true rfl⟩) hP hD hK hS hA hZ (va_recv (ci := 13) (q0 := 0) hK hP rfl rfl) rfl hl.1 rfl (Nat.le_of_ble_eq_true rfl) d15_67_1 ⟨Nat.le_of_ble_eq_true rfl, Nat.le_of_ble_eq_true rfl⟩ (fun u9 H locs hp hP hD hS => ?_)
  clear u9
  clear hp
  clear hc
  refine W.eq (g2 := F0 m 4 ls []) rfl ?_
  have hP : va_P G.1 vwCl (wMs q G.2 st2) H := hP
  have hD : va_D A (wMs q G.2 st2) := hD
  refine lv_aload_n hx hb d15_67_4 rfl (lv_at hl 0 rfl) ?_
  refine lv_bipush (v := 39) hx hb d15_67_5 (by decide) ?_
  obtain ⟨st5, hc, h⟩ := ob h
  refine sV_v (As := [.int 39]) (rest := []) ⟨hx, hb, hml, hown, hts⟩ (cm_must l G Zd q (39 : Int32) st2 st5 hc _) (kw_V (n := 1) hts k1336 k1333 k15 k1335 ks44 (by decide +kernel) ⟨Nat.le_of_ble_eq_true rfl, Nat.le_of_ble_eq_true rfl⟩) hP hD hK hS hA hZ (va_recv (ci := 13) (q0 := 0) hK hP rfl rfl) rfl hl.1 rfl (Nat.le_of_ble_eq_true rfl) d15_67_7 ⟨Nat.le_of_ble_eq_true rfl, Nat.le_of_ble_eq_true rfl⟩ (fun u9 H locs hp hP hD hS => ?_)
  clear u9
  clear hp
  clear hc
  refine W.eq (g2 := F0 m 10 ls []) rfl ?_
  have hP : va_P G.1 vwCl (wMs q G.2 st5) H := hP
  have hD : va_D A (wMs q G.2 st5) := hD
  obtain ⟨e7, hX, hrest⟩ := ob h
  clear h
  have hj : ∀ (v10 : MS), e7 = (v10) → ∀ (H : Heap) (locs : List Loc) (ls : Array Slot), lv_has ls 2 [(0, .ref (q 0))] → va_P G.1 vwCl (wMs q G.2 v10) H → va_D A (wMs q G.2 v10) → va_S A s.heap H locs → W p l e (rmD 2 0 0) s m ([.ref (q 0)] : List Value).toArray below meth c H locs 0 0 (MQ below (qV G (fun (_ : Unit) => True) (fun _ => (wMs q G.2 st0)) A) ([.ref (q 0)] : List Value).toArray s 0 0 A) (F0 m 87 ls []) := by
    intro v10 he H locs ls hl hP hD hS
    subst e7
    have h := hrest
    refine lv_aload_n hx hb d15_67_87 rfl (lv_at hl 0 rfl) ?_
    refine lv_bipush (v := 39) hx hb d15_67_88 (by decide) ?_
    obtain ⟨st12, hc, h⟩ := ob h
    refine sV_v (As := [.int 39]) (rest := []) ⟨hx, hb, hml, hown, hts⟩ (cm_must l G Zd q (39 : Int32) v10 st12 hc _) (kw_V (n := 1) hts k1336 k1333 k15 k1335 ks44 (by decide +kernel) ⟨Nat.le_of_ble_eq_true rfl, Nat.le_of_ble_eq_true rfl⟩) hP hD hK hS hA hZ (va_recv (ci := 13) (q0 := 0) hK hP rfl rfl) rfl hl.1 rfl (Nat.le_of_ble_eq_true rfl) d15_67_90 ⟨Nat.le_of_ble_eq_true rfl, Nat.le_of_ble_eq_true rfl⟩ (fun u9 H locs hp hP hD hS => ?_)
    clear u9
    clear hp
    clear hc
    refine W.eq (g2 := F0 m 93 ls []) rfl ?_
    have hP : va_P G.1 vwCl (wMs q G.2 st12) H := hP
    have hD : va_D A (wMs q G.2 st12) := hD
    cases h
    exact fin_v hx hb hr hlk hS () trivial hP hD (Nat.le_of_ble_eq_true rfl) (Nat.le_of_ble_eq_true rfl) d15_67_93
  have hloop : ∀ (n9 : Nat) (v8 : MS), m_quoted_l1  n9 (v8) = some e7 → ∀ (H : Heap) (locs : List Loc) (ls : Array Slot), lv_has ls 2 [(0, .ref (q 0))] → va_P G.1 vwCl (wMs q G.2 v8) H → va_D A (wMs q G.2 v8) → va_S A s.heap H locs → W p l e (rmD 2 0 0) s m ([.ref (q 0)] : List Value).toArray below meth c H locs 0 0 (MQ below (qV G (fun (_ : Unit) => True) (fun _ => (wMs q G.2 st0)) A) ([.ref (q 0)] : List Value).toArray s 0 0 A) (F0 m 10 ls []) := by
    intro n9
    induction n9 with
    | zero =>
      intro v8 h
      cases h
    | succ n9 ih =>
      intro v8 h H locs ls hl hP hD hS
      replace h := (m_quoted_l1_s  n9 (v8)).symm.trans h
      refine lv_aload_n hx hb d15_67_10 rfl (lv_at hl 0 rfl) ?_
      refine va_get (D := G.1) (ci := 13) (v := .int (v8.1 2)) (C := r_13) (T := f_13) (N := 42) (ref := "PagedValuesModel") hx hb hts (fun w h => List.mem_cons_of_mem _ (ly_13 w h)) hown hK hP 0 rfl rfl 3 (by decide) (hts _ (List.mem_cons_of_mem _ k1154)) (fun _ h9 => h9) rfl d15_67_11 ?_
      refine lv_if_ge (tgt := 87) hx hb d15_67_14 rfl (fun c14 => ?_) (fun c14 => ?_)
      ·
        replace h := (if_pos c14).symm.trans h
        have e9 := Option.some.inj h
        subst e7
        have hl := lv_sub hl (l' := [(0, .ref (q 0))]) [0] rfl
        exact hj _ rfl _ _ _ hl hP hD hS
      ·
        replace h := (if_neg c14).symm.trans h
        refine lv_aload_n hx hb d15_67_17 rfl (lv_at hl 0 rfl) ?_
        obtain ⟨x15, hc, h⟩ := ob h
        refine sV_i (As := []) (rest := []) ⟨hx, hb, hml, hown, hts⟩ (cm_here l G Zd q v8 x15 hc _) (kw_V (n := 0) hts k1305 k1302 k15 k1304 ks37 (by decide +kernel) ⟨Nat.le_of_ble_eq_true rfl, Nat.le_of_ble_eq_true rfl⟩) hP hD hK hS hA hZ (va_recv (ci := 13) (q0 := 0) hK hP rfl rfl) rfl hl.1 rfl (Nat.le_of_ble_eq_true rfl) d15_67_18 ⟨Nat.le_of_ble_eq_true rfl, Nat.le_of_ble_eq_true rfl⟩ (fun rr u9 H locs hp hP hD hS => ?_)
        clear u9
        subst rr
        clear hc
        refine W.eq (g2 := F0 m 21 ls [.int x15]) rfl ?_
        have hP : va_P G.1 vwCl (wMs q G.2 v8) H := hP
        have hD : va_D A (wMs q G.2 v8) := hD
        refine lv_bipush (v := 39) hx hb d15_67_21 (by decide) ?_
        refine lv_icmp_eq (tgt := 87) hx hb d15_67_23 rfl (fun c18 => ?_) (fun c18 => ?_)
        ·
          replace h := (if_pos c18).symm.trans h
          have e9 := Option.some.inj h
          subst e7
          have hl := lv_sub hl (l' := [(0, .ref (q 0))]) [0] rfl
          exact hj _ rfl _ _ _ hl hP hD hS
        ·
          replace h := (if_neg c18).symm.trans h
          refine lv_aload_n hx hb d15_67_26 rfl (lv_at hl 0 rfl) ?_
          obtain ⟨x19, hc, h⟩ := ob h
          refine sV_i (As := []) (rest := []) ⟨hx, hb, hml, hown, hts⟩ (cm_here l G Zd q v8 x19 hc _) (kw_V (n := 0) hts k1305 k1302 k15 k1304 ks37 (by decide +kernel) ⟨Nat.le_of_ble_eq_true rfl, Nat.le_of_ble_eq_true rfl⟩) hP hD hK hS hA hZ (va_recv (ci := 13) (q0 := 0) hK hP rfl rfl) rfl hl.1 rfl (Nat.le_of_ble_eq_true rfl) d15_67_27 ⟨Nat.le_of_ble_eq_true rfl, Nat.le_of_ble_eq_true rfl⟩ (fun rr u9 H locs hp hP hD hS => ?_)
          clear u9
          subst rr
          clear hc
          refine W.eq (g2 := F0 m 30 ls [.int x19]) rfl ?_
          have hP : va_P G.1 vwCl (wMs q G.2 v8) H := hP
          have hD : va_D A (wMs q G.2 v8) := hD
          refine lv_istore_n (lv' := [(1, .int x19), (0, .ref (q 0))]) hx hb d15_67_30 rfl hl (by decide) rfl (fun ls hl => ?_)
          refine lv_iload_n hx hb d15_67_31 rfl (lv_at hl 0 rfl) ?_
          refine lv_bipush (v := 32) hx hb d15_67_32 (by decide) ?_
          obtain ⟨e23, hX, h⟩ := ob h
          have hj : ∀ (H : Heap) (locs : List Loc) (ls : Array Slot), lv_has ls 2 [(0, .ref (q 0)), (1, .int x19)] → va_P G.1 vwCl (wMs q G.2 e23) H → va_D A (wMs q G.2 e23) → va_S A s.heap H locs → W p l e (rmD 2 0 0) s m ([.ref (q 0)] : List Value).toArray below meth c H locs 0 0 (MQ below (qV G (fun (_ : Unit) => True) (fun _ => (wMs q G.2 st0)) A) ([.ref (q 0)] : List Value).toArray s 0 0 A) (F0 m 84 ls []) := by
            intro H locs ls hl hP hD hS
            refine lv_goto (tgt := 10) hx hb d15_67_84 rfl ?_
            have hl := lv_sub hl (l' := [(0, .ref (q 0))]) [0] rfl
            exact ih _ h _ _ _ hl hP hD hS
          clear h
          refine lv_icmp_lt (tgt := 62) hx hb d15_67_34 rfl (fun c22 => ?_) (fun c22 => ?_)
          ·
            replace h := (if_pos c22).symm.trans hX
            refine lv_aload_n hx hb d15_67_62 rfl (lv_at hl 1 rfl) ?_
            obtain ⟨st26, hc, h⟩ := ob h
            refine sV_v (As := []) (rest := []) ⟨hx, hb, hml, hown, hts⟩ (cm_fault l G Zd q v8 st26 hc _) (kw_V (n := 0) hts k1320 k1317 k15 k1319 ks40 (by decide +kernel) ⟨Nat.le_of_ble_eq_true rfl, Nat.le_of_ble_eq_true rfl⟩) hP hD hK hS hA hZ (va_recv (ci := 13) (q0 := 0) hK hP rfl rfl) rfl hl.1 rfl (Nat.le_of_ble_eq_true rfl) d15_67_63 ⟨Nat.le_of_ble_eq_true rfl, Nat.le_of_ble_eq_true rfl⟩ (fun u9 H locs hp hP hD hS => ?_)
            clear u9
            clear hp
            clear hc
            refine W.eq (g2 := F0 m 66 ls []) rfl ?_
            have hP : va_P G.1 vwCl (wMs q G.2 st26) H := hP
            have hD : va_D A (wMs q G.2 st26) := hD
            refine lv_goto (tgt := 84) hx hb d15_67_66 rfl ?_
            have e9 := Option.some.inj h
            subst e23
            have hl := lv_sub hl (l' := [(0, .ref (q 0)), (1, .int x19)]) [1, 0] rfl
            exact hj _ _ _ hl hP hD hS
          ·
            replace h := (if_neg c22).symm.trans hX
            refine lv_iload_n hx hb d15_67_37 rfl (lv_at hl 0 rfl) ?_
            refine lv_sipush (v := 255) hx hb d15_67_38 (by decide) ?_
            refine lv_icmp_gt (tgt := 62) hx hb d15_67_41 rfl (fun c28 => ?_) (fun c28 => ?_)
            ·
              replace h := (if_pos c28).symm.trans h
              refine lv_aload_n hx hb d15_67_62 rfl (lv_at hl 1 rfl) ?_
              obtain ⟨st30, hc, h⟩ := ob h
              refine sV_v (As := []) (rest := []) ⟨hx, hb, hml, hown, hts⟩ (cm_fault l G Zd q v8 st30 hc _) (kw_V (n := 0) hts k1320 k1317 k15 k1319 ks40 (by decide +kernel) ⟨Nat.le_of_ble_eq_true rfl, Nat.le_of_ble_eq_true rfl⟩) hP hD hK hS hA hZ (va_recv (ci := 13) (q0 := 0) hK hP rfl rfl) rfl hl.1 rfl (Nat.le_of_ble_eq_true rfl) d15_67_63 ⟨Nat.le_of_ble_eq_true rfl, Nat.le_of_ble_eq_true rfl⟩ (fun u9 H locs hp hP hD hS => ?_)
              clear u9
              clear hp
              clear hc
              refine W.eq (g2 := F0 m 66 ls []) rfl ?_
              have hP : va_P G.1 vwCl (wMs q G.2 st30) H := hP
              have hD : va_D A (wMs q G.2 st30) := hD
              refine lv_goto (tgt := 84) hx hb d15_67_66 rfl ?_
              have e9 := Option.some.inj h
              subst e23
              have hl := lv_sub hl (l' := [(0, .ref (q 0)), (1, .int x19)]) [1, 0] rfl
              exact hj _ _ _ hl hP hD hS
            ·
              replace h := (if_neg c28).symm.trans h
              refine lv_iload_n hx hb d15_67_44 rfl (lv_at hl 0 rfl) ?_
              refine lv_bipush (v := 92) hx hb d15_67_45 (by decide) ?_
              refine lv_icmp_eq (tgt := 62) hx hb d15_67_47 rfl (fun c32 => ?_) (fun c32 => ?_)
              ·
                replace h := (if_pos c32).symm.trans h
                refine lv_aload_n hx hb d15_67_62 rfl (lv_at hl 1 rfl) ?_
                obtain ⟨st34, hc, h⟩ := ob h
                refine sV_v (As := []) (rest := []) ⟨hx, hb, hml, hown, hts⟩ (cm_fault l G Zd q v8 st34 hc _) (kw_V (n := 0) hts k1320 k1317 k15 k1319 ks40 (by decide +kernel) ⟨Nat.le_of_ble_eq_true rfl, Nat.le_of_ble_eq_true rfl⟩) hP hD hK hS hA hZ (va_recv (ci := 13) (q0 := 0) hK hP rfl rfl) rfl hl.1 rfl (Nat.le_of_ble_eq_true rfl) d15_67_63 ⟨Nat.le_of_ble_eq_true rfl, Nat.le_of_ble_eq_true rfl⟩ (fun u9 H locs hp hP hD hS => ?_)
                clear u9
                clear hp
                clear hc
                refine W.eq (g2 := F0 m 66 ls []) rfl ?_
                have hP : va_P G.1 vwCl (wMs q G.2 st34) H := hP
                have hD : va_D A (wMs q G.2 st34) := hD
                refine lv_goto (tgt := 84) hx hb d15_67_66 rfl ?_
                have e9 := Option.some.inj h
                subst e23
                have hl := lv_sub hl (l' := [(0, .ref (q 0)), (1, .int x19)]) [1, 0] rfl
                exact hj _ _ _ hl hP hD hS
              ·
                replace h := (if_neg c32).symm.trans h
                refine lv_aload_n hx hb d15_67_50 rfl (lv_at hl 1 rfl) ?_
                refine va_get (D := G.1) (ci := 13) (v := .long (v8.2.1 0)) (C := r_13) (T := f_13) (N := 42) (ref := "PagedValuesModel") hx hb hts (fun w h => List.mem_cons_of_mem _ (ly_13 w h)) hown hK hP 0 rfl rfl 11 (by decide) (hts _ (List.mem_cons_of_mem _ k1162)) (fun _ h9 => h9) rfl d15_67_51 ?_
                obtain ⟨x36, hc, h⟩ := ob h
                refine sS_i (As := [.long (v8.2.1 0)]) (rest := []) ⟨hx, hb, hml, hown, hts⟩ (cm_lengthOf l G Zd _ (v8.2.1 0) x36 hc _) (kw_S (n := 1) hts k1343 k1341 k15 k1342 (by decide +kernel) ⟨Nat.le_of_ble_eq_true rfl, Nat.le_of_ble_eq_true rfl⟩) hP hD hK hS hA hZ rfl hl.1 rfl (Nat.le_of_ble_eq_true rfl) d15_67_54 ⟨Nat.le_of_ble_eq_true rfl, Nat.le_of_ble_eq_true rfl⟩ (fun rr u9 H locs hp hP hD hS => ?_)
                clear u9
                subst rr
                clear hc
                refine W.eq (g2 := F0 m 57 ls [.int x36]) rfl ?_
                have hP : va_P G.1 vwCl (wMs q G.2 v8) H := hP
                have hD : va_D A (wMs q G.2 v8) := hD
                refine lv_bipush (v := 10) hx hb d15_67_57 (by decide) ?_
                refine lv_icmp_ne (tgt := 69) hx hb d15_67_59 rfl (fun c39 => ?_) (fun c39 => ?_)
                ·
                  replace h := (if_neg c39).symm.trans h
                  refine lv_aload_n hx hb d15_67_69 rfl (lv_at hl 1 rfl) ?_
                  refine lv_iload_n hx hb d15_67_70 rfl (lv_at hl 0 rfl) ?_
                  obtain ⟨st41, hc, h⟩ := ob h
                  refine sV_v (As := [.int x19]) (rest := []) ⟨hx, hb, hml, hown, hts⟩ (cm_add l G Zd q x19 v8 st41 hc _) (kw_V (n := 1) hts k1347 k1344 k15 k1346 ks46 (by decide +kernel) ⟨Nat.le_of_ble_eq_true rfl, Nat.le_of_ble_eq_true rfl⟩) hP hD hK hS hA hZ (va_recv (ci := 13) (q0 := 0) hK hP rfl rfl) rfl hl.1 rfl (Nat.le_of_ble_eq_true rfl) d15_67_71 ⟨Nat.le_of_ble_eq_true rfl, Nat.le_of_ble_eq_true rfl⟩ (fun u9 H locs hp hP hD hS => ?_)
                  clear u9
                  clear hp
                  clear hc
                  refine W.eq (g2 := F0 m 74 ls []) rfl ?_
                  have hP : va_P G.1 vwCl (wMs q G.2 st41) H := hP
                  have hD : va_D A (wMs q G.2 st41) := hD
                  refine lv_aload_n hx hb d15_67_74 rfl (lv_at hl 1 rfl) ?_
                  refine lv_dup hx hb d15_67_75 rfl ?_
                  refine va_get (D := G.1) (ci := 13) (v := .int (st41.1 1)) (C := r_13) (T := f_13) (N := 42) (ref := "PagedValuesModel") hx hb hts (fun w h => List.mem_cons_of_mem _ (ly_13 w h)) hown hK hP 0 rfl rfl 2 (by decide) (hts _ (List.mem_cons_of_mem _ k1153)) (fun _ h9 => h9) rfl d15_67_76 ?_
                  refine lv_iconst (v := 1) hx hb d15_67_79 (by decide) ?_
                  refine lv_iadd hx hb d15_67_80 ?_
                  obtain ⟨y43, hr, h⟩ := ob h
                  refine lv_topi (fun y9 ey => ?_)
                  have e9 := ey.trans (Option.some.inj hr)
                  clear ey
                  subst y9
                  clear hr
                  refine va_put (D := G.1) (ci := 13) (v := .int y43) (ty := .int) (C := r_13) (T := f_13) (N := 42) (ref := "PagedValuesModel") hx hb hts (fun w h => List.mem_cons_of_mem _ (ly_13 w h)) ft_13 ft_13_ok nm_13 hown hK hP hD hS 0 rfl rfl 2 (by decide) (hts _ (List.mem_cons_of_mem _ k1153)) (fun _ h9 => h9) rfl (by decide +kernel) rfl rfl (Nat.le_of_ble_eq_true rfl) d15_67_81 (fun H locs hP hD hS => ?_)
                  have hP : va_P G.1 vwCl (wMs q G.2 (upd st41.1 1 y43, st41.2.1, st41.2.2.1, st41.2.2.2)) H := hP
                  have hD : va_D A (wMs q G.2 (upd st41.1 1 y43, st41.2.1, st41.2.2.1, st41.2.2.2)) := hD
                  have e9 := Option.some.inj h
                  subst e23
                  have hl := lv_sub hl (l' := [(0, .ref (q 0)), (1, .int x19)]) [1, 0] rfl
                  exact hj _ _ _ hl hP hD hS
                ·
                  replace h := (if_pos c39).symm.trans h
                  refine lv_aload_n hx hb d15_67_62 rfl (lv_at hl 1 rfl) ?_
                  obtain ⟨st45, hc, h⟩ := ob h
                  refine sV_v (As := []) (rest := []) ⟨hx, hb, hml, hown, hts⟩ (cm_fault l G Zd q v8 st45 hc _) (kw_V (n := 0) hts k1320 k1317 k15 k1319 ks40 (by decide +kernel) ⟨Nat.le_of_ble_eq_true rfl, Nat.le_of_ble_eq_true rfl⟩) hP hD hK hS hA hZ (va_recv (ci := 13) (q0 := 0) hK hP rfl rfl) rfl hl.1 rfl (Nat.le_of_ble_eq_true rfl) d15_67_63 ⟨Nat.le_of_ble_eq_true rfl, Nat.le_of_ble_eq_true rfl⟩ (fun u9 H locs hp hP hD hS => ?_)
                  clear u9
                  clear hp
                  clear hc
                  refine W.eq (g2 := F0 m 66 ls []) rfl ?_
                  have hP : va_P G.1 vwCl (wMs q G.2 st45) H := hP
                  have hD : va_D A (wMs q G.2 st45) := hD
                  refine lv_goto (tgt := 84) hx hb d15_67_66 rfl ?_
                  have e9 := Option.some.inj h
                  subst e23
                  have hl := lv_sub hl (l' := [(0, .ref (q 0)), (1, .int x19)]) [1, 0] rfl
                  exact hj _ _ _ hl hP hD hS
  exact hloop _ _ hX _ _ _ hl hP hD hS
def m_selector (st : MS) : Option (MS) := if (st.1 6) = (8 : Int32) then ((m_fault st).bind fun st26 => some st26) else ((m_sees (39 : Int32) st).bind fun x2 => (if x2 = (0 : Int32) then ((m_takes (42 : Int32) st).bind fun r11 => if r11.1 = (0 : Int32) then ((ix 8 (st.1 6)).bind fun k13z => (m_queryNumber (r11.2.1, r11.2.2.1, va_up r11.2.2.2.1 6 (upd (r11.2.2.2.1 6) k13z (2 : Int32)), r11.2.2.2.2)).bind fun r16 => (ix 8 (st.1 6)).bind fun k17z => some (r16.2.1, r16.2.2.1, va_up r16.2.2.2.1 7 (upd (r16.2.2.2.1 7) k17z r16.1), r16.2.2.2.2)) else ((ix 8 (st.1 6)).bind fun k18z => some (r11.2.1, r11.2.2.1, va_up r11.2.2.2.1 6 (upd (r11.2.2.2.1 6) k18z (1 : Int32)), r11.2.2.2.2))) else ((m_quoted st).bind fun st20 => (ix 8 (st.1 6)).bind fun k22z => (ix 8 (st.1 6)).bind fun k23z => (ix 8 (st.1 6)).bind fun k24z => some (st20.1, st20.2.1, va_up st20.2.2.1 6 (upd (st20.2.2.1 6) k22z (0 : Int32)), va_up (va_up st20.2.2.2 4 (vp_updL (st20.2.2.2 4) k23z (st20.2.1 0))) 5 (vp_updL (st20.2.2.2 5) k24z (st20.2.1 1))))).bind fun e6 => (some ((e6.1 6) + 1)).bind fun y8 => some (upd e6.1 6 y8, e6.2.1, e6.2.2.1, e6.2.2.2))
set_option maxHeartbeats 4000000 in
set_option maxRecDepth 100000 in
theorem cm_selector (l : Launch) (G : Gk) (Zd : Nat → Nat) (q : Nat → Nat) (st : MS) (st0 : MS) (hm : m_selector st = some st0) (sz : Nat) : Met l y15_69 (Cond.code y15_69 prog_15_method_69_code 2 none :: TB) (rmD 4 0 0) (va_Pc [.ref (q 0)] (pcW G Zd (wMs q G.2 st) sz)) (qV G (fun (_ : Unit) => True) (fun _ => (wMs q G.2 st0)) (va_A (wMs q G.2 st) sz)) 0 0 (va_A (wMs q G.2 st) sz) := by
  refine go (y := y15_69) (cc := prog_15_method_69_code) (maxL := 2) (ret := none) (av := [.ref (q 0)]) (Qc := qV G (fun (_ : Unit) => True) (fun _ => (wMs q G.2 st0))) "PagedValuesModel" rfl (by decide) (Nat.le_of_ble_eq_true rfl) ?_
  intro p e s m below meth c ls A hx hb hr hlk hml hown hts hin hl hP hD hK hS hA hZ
  have hl : lv_has ls 2 [(0, .ref (q 0))] := hl
  have h := hm
  clear hm
  refine lv_aload_n hx hb d15_69_0 rfl (lv_at hl 0 rfl) ?_
  refine va_get (D := G.1) (ci := 13) (v := .int (st.1 6)) (C := r_13) (T := f_13) (N := 42) (ref := "PagedValuesModel") hx hb hts (fun w h => List.mem_cons_of_mem _ (ly_13 w h)) hown hK hP 0 rfl rfl 18 (by decide) (hts _ (List.mem_cons_of_mem _ k1169)) (fun _ h9 => h9) rfl d15_69_1 ?_
  refine lv_bipush (v := 8) hx hb d15_69_4 (by decide) ?_
  refine lv_icmp_ne (tgt := 14) hx hb d15_69_6 rfl (fun c1 => ?_) (fun c1 => ?_)
  ·
    replace h := (if_neg c1).symm.trans h
    refine lv_aload_n hx hb d15_69_14 rfl (lv_at hl 0 rfl) ?_
    refine va_get (D := G.1) (ci := 13) (v := .int (st.1 6)) (C := r_13) (T := f_13) (N := 42) (ref := "PagedValuesModel") hx hb hts (fun w h => List.mem_cons_of_mem _ (ly_13 w h)) hown hK hP 0 rfl rfl 18 (by decide) (hts _ (List.mem_cons_of_mem _ k1169)) (fun _ h9 => h9) rfl d15_69_15 ?_
    refine lv_istore_n (lv' := [(1, .int (st.1 6)), (0, .ref (q 0))]) hx hb d15_69_18 rfl hl (by decide) rfl (fun ls hl => ?_)
    refine lv_aload_n hx hb d15_69_19 rfl (lv_at hl 1 rfl) ?_
    refine lv_bipush (v := 39) hx hb d15_69_20 (by decide) ?_
    obtain ⟨x2, hc, h⟩ := ob h
    refine sV_i (As := [.int 39]) (rest := []) ⟨hx, hb, hml, hown, hts⟩ (cm_sees l G Zd q (39 : Int32) st x2 hc _) (kw_V (n := 1) hts k1301 k1298 k15 k1300 ks36 (by decide +kernel) ⟨Nat.le_of_ble_eq_true rfl, Nat.le_of_ble_eq_true rfl⟩) hP hD hK hS hA hZ (va_recv (ci := 13) (q0 := 0) hK hP rfl rfl) rfl hl.1 rfl (Nat.le_of_ble_eq_true rfl) d15_69_22 ⟨Nat.le_of_ble_eq_true rfl, Nat.le_of_ble_eq_true rfl⟩ (fun rr u9 H locs hp hP hD hS => ?_)
    clear u9
    subst rr
    clear hc
    refine W.eq (g2 := F0 m 25 ls [.int x2]) rfl ?_
    have hP : va_P G.1 vwCl (wMs q G.2 st) H := hP
    have hD : va_D A (wMs q G.2 st) := hD
    obtain ⟨e6, hX, h⟩ := ob h
    have hj : ∀ (H : Heap) (locs : List Loc) (ls : Array Slot), lv_has ls 2 [(0, .ref (q 0)), (1, .int (st.1 6))] → va_P G.1 vwCl (wMs q G.2 e6) H → va_D A (wMs q G.2 e6) → va_S A s.heap H locs → W p l e (rmD 4 0 0) s m ([.ref (q 0)] : List Value).toArray below meth c H locs 0 0 (MQ below (qV G (fun (_ : Unit) => True) (fun _ => (wMs q G.2 st0)) A) ([.ref (q 0)] : List Value).toArray s 0 0 A) (F0 m 98 ls []) := by
      intro H locs ls hl hP hD hS
      refine lv_aload_n hx hb d15_69_98 rfl (lv_at hl 0 rfl) ?_
      refine lv_dup hx hb d15_69_99 rfl ?_
      refine va_get (D := G.1) (ci := 13) (v := .int (e6.1 6)) (C := r_13) (T := f_13) (N := 42) (ref := "PagedValuesModel") hx hb hts (fun w h => List.mem_cons_of_mem _ (ly_13 w h)) hown hK hP 0 rfl rfl 18 (by decide) (hts _ (List.mem_cons_of_mem _ k1169)) (fun _ h9 => h9) rfl d15_69_100 ?_
      refine lv_iconst (v := 1) hx hb d15_69_103 (by decide) ?_
      refine lv_iadd hx hb d15_69_104 ?_
      obtain ⟨y8, hr, h⟩ := ob h
      refine lv_topi (fun y9 ey => ?_)
      have e9 := ey.trans (Option.some.inj hr)
      clear ey
      subst y9
      clear hr
      refine va_put (D := G.1) (ci := 13) (v := .int y8) (ty := .int) (C := r_13) (T := f_13) (N := 42) (ref := "PagedValuesModel") hx hb hts (fun w h => List.mem_cons_of_mem _ (ly_13 w h)) ft_13 ft_13_ok nm_13 hown hK hP hD hS 0 rfl rfl 18 (by decide) (hts _ (List.mem_cons_of_mem _ k1169)) (fun _ h9 => h9) rfl (by decide +kernel) rfl rfl (Nat.le_of_ble_eq_true rfl) d15_69_105 (fun H locs hP hD hS => ?_)
      have hP : va_P G.1 vwCl (wMs q G.2 (upd e6.1 6 y8, e6.2.1, e6.2.2.1, e6.2.2.2)) H := hP
      have hD : va_D A (wMs q G.2 (upd e6.1 6 y8, e6.2.1, e6.2.2.1, e6.2.2.2)) := hD
      cases h
      exact fin_v hx hb hr hlk hS () trivial hP hD (Nat.le_of_ble_eq_true rfl) (Nat.le_of_ble_eq_true rfl) d15_69_108
    clear h
    refine lv_if_eq (tgt := 62) hx hb d15_69_25 rfl (fun c5 => ?_) (fun c5 => ?_)
    ·
      replace h := (if_pos c5).symm.trans hX
      refine lv_aload_n hx hb d15_69_62 rfl (lv_at hl 1 rfl) ?_
      refine lv_bipush (v := 42) hx hb d15_69_63 (by decide) ?_
      obtain ⟨⟨x9, st10⟩, hc, h⟩ := ob h
      refine sV_i (As := [.int 42]) (rest := []) ⟨hx, hb, hml, hown, hts⟩ (cm_takes l G Zd q (42 : Int32) st x9 st10 hc _) (kw_V (n := 1) hts k1359 k1356 k15 k1358 ks48 (by decide +kernel) ⟨Nat.le_of_ble_eq_true rfl, Nat.le_of_ble_eq_true rfl⟩) hP hD hK hS hA hZ (va_recv (ci := 13) (q0 := 0) hK hP rfl rfl) rfl hl.1 rfl (Nat.le_of_ble_eq_true rfl) d15_69_65 ⟨Nat.le_of_ble_eq_true rfl, Nat.le_of_ble_eq_true rfl⟩ (fun rr u9 H locs hp hP hD hS => ?_)
      clear u9
      subst rr
      clear hc
      refine W.eq (g2 := F0 m 68 ls [.int x9]) rfl ?_
      have hP : va_P G.1 vwCl (wMs q G.2 st10) H := hP
      have hD : va_D A (wMs q G.2 st10) := hD
      refine lv_if_eq (tgt := 81) hx hb d15_69_68 rfl (fun c12 => ?_) (fun c12 => ?_)
      ·
        replace h := (if_pos c12).symm.trans h
        refine lv_aload_n hx hb d15_69_81 rfl (lv_at hl 1 rfl) ?_
        refine va_get (D := G.1) (ci := 13) (v := .ref (q 11)) (C := r_13) (T := f_13) (N := 42) (ref := "PagedValuesModel") hx hb hts (fun w h => List.mem_cons_of_mem _ (ly_13 w h)) hown hK hP 0 rfl rfl 19 (by decide) (hts _ (List.mem_cons_of_mem _ k1170)) (fun _ h9 => h9) rfl d15_69_82 ?_
        refine lv_iload_n hx hb d15_69_85 rfl (lv_at hl 0 rfl) ?_
        refine lv_iconst (v := 2) hx hb d15_69_86 (by decide) ?_
        obtain ⟨k13z, hr, h⟩ := ob h
        obtain ⟨hi, hk⟩ := ix_some hr
        clear hr
        refine va_iast (D := G.1) hx hb hK hP hD hS 11 1 rfl rfl (i := st.1 6) (x := (2 : Int32)) hi d15_69_87 (fun H locs hP hD hS => ?_)
        rw [hk] at hP hD
        clear hk hi
        have hP : va_P G.1 vwCl (wMs q G.2 (st10.1, st10.2.1, va_up st10.2.2.1 6 (upd (st10.2.2.1 6) k13z (2 : Int32)), st10.2.2.2)) H := hP
        have hD : va_D A (wMs q G.2 (st10.1, st10.2.1, va_up st10.2.2.1 6 (upd (st10.2.2.1 6) k13z (2 : Int32)), st10.2.2.2)) := hD
        refine lv_aload_n hx hb d15_69_88 rfl (lv_at hl 1 rfl) ?_
        refine va_get (D := G.1) (ci := 13) (v := .ref (q 14)) (C := r_13) (T := f_13) (N := 42) (ref := "PagedValuesModel") hx hb hts (fun w h => List.mem_cons_of_mem _ (ly_13 w h)) hown hK hP 0 rfl rfl 22 (by decide) (hts _ (List.mem_cons_of_mem _ k1173)) (fun _ h9 => h9) rfl d15_69_89 ?_
        refine lv_iload_n hx hb d15_69_92 rfl (lv_at hl 0 rfl) ?_
        refine lv_aload_n hx hb d15_69_93 rfl (lv_at hl 1 rfl) ?_
        obtain ⟨⟨x14, st15⟩, hc, h⟩ := ob h
        refine sV_i (As := []) (rest := [.int (st.1 6), .ref (q 14)]) ⟨hx, hb, hml, hown, hts⟩ (cm_queryNumber l G Zd q (st10.1, st10.2.1, va_up st10.2.2.1 6 (upd (st10.2.2.1 6) k13z (2 : Int32)), st10.2.2.2) x14 st15 hc _) (kw_V (n := 0) hts k1577 k1574 k15 k1576 ks94 (by decide +kernel) ⟨Nat.le_of_ble_eq_true rfl, Nat.le_of_ble_eq_true rfl⟩) hP hD hK hS hA hZ (va_recv (ci := 13) (q0 := 0) hK hP rfl rfl) rfl hl.1 rfl (Nat.le_of_ble_eq_true rfl) d15_69_94 ⟨Nat.le_of_ble_eq_true rfl, Nat.le_of_ble_eq_true rfl⟩ (fun rr u9 H locs hp hP hD hS => ?_)
        clear u9
        subst rr
        clear hc
        refine W.eq (g2 := F0 m 97 ls [.int x14, .int (st.1 6), .ref (q 14)]) rfl ?_
        have hP : va_P G.1 vwCl (wMs q G.2 st15) H := hP
        have hD : va_D A (wMs q G.2 st15) := hD
        obtain ⟨k17z, hr, h⟩ := ob h
        obtain ⟨hi, hk⟩ := ix_some hr
        clear hr
        refine va_iast (D := G.1) hx hb hK hP hD hS 14 1 rfl rfl (i := st.1 6) (x := x14) hi d15_69_97 (fun H locs hP hD hS => ?_)
        rw [hk] at hP hD
        clear hk hi
        have hP : va_P G.1 vwCl (wMs q G.2 (st15.1, st15.2.1, va_up st15.2.2.1 7 (upd (st15.2.2.1 7) k17z x14), st15.2.2.2)) H := hP
        have hD : va_D A (wMs q G.2 (st15.1, st15.2.1, va_up st15.2.2.1 7 (upd (st15.2.2.1 7) k17z x14), st15.2.2.2)) := hD
        have e9 := Option.some.inj h
        subst e6
        have hl := lv_sub hl (l' := [(0, .ref (q 0)), (1, .int (st.1 6))]) [1, 0] rfl
        exact hj _ _ _ hl hP hD hS
      ·
        replace h := (if_neg c12).symm.trans h
        refine lv_aload_n hx hb d15_69_71 rfl (lv_at hl 1 rfl) ?_
        refine va_get (D := G.1) (ci := 13) (v := .ref (q 11)) (C := r_13) (T := f_13) (N := 42) (ref := "PagedValuesModel") hx hb hts (fun w h => List.mem_cons_of_mem _ (ly_13 w h)) hown hK hP 0 rfl rfl 19 (by decide) (hts _ (List.mem_cons_of_mem _ k1170)) (fun _ h9 => h9) rfl d15_69_72 ?_
        refine lv_iload_n hx hb d15_69_75 rfl (lv_at hl 0 rfl) ?_
        refine lv_iconst (v := 1) hx hb d15_69_76 (by decide) ?_
        obtain ⟨k18z, hr, h⟩ := ob h
        obtain ⟨hi, hk⟩ := ix_some hr
        clear hr
        refine va_iast (D := G.1) hx hb hK hP hD hS 11 1 rfl rfl (i := st.1 6) (x := (1 : Int32)) hi d15_69_77 (fun H locs hP hD hS => ?_)
        rw [hk] at hP hD
        clear hk hi
        have hP : va_P G.1 vwCl (wMs q G.2 (st10.1, st10.2.1, va_up st10.2.2.1 6 (upd (st10.2.2.1 6) k18z (1 : Int32)), st10.2.2.2)) H := hP
        have hD : va_D A (wMs q G.2 (st10.1, st10.2.1, va_up st10.2.2.1 6 (upd (st10.2.2.1 6) k18z (1 : Int32)), st10.2.2.2)) := hD
        refine lv_goto (tgt := 98) hx hb d15_69_78 rfl ?_
        have e9 := Option.some.inj h
        subst e6
        have hl := lv_sub hl (l' := [(0, .ref (q 0)), (1, .int (st.1 6))]) [1, 0] rfl
        exact hj _ _ _ hl hP hD hS
    ·
      replace h := (if_neg c5).symm.trans hX
      refine lv_aload_n hx hb d15_69_28 rfl (lv_at hl 1 rfl) ?_
      obtain ⟨st20, hc, h⟩ := ob h
      refine sV_v (As := []) (rest := []) ⟨hx, hb, hml, hown, hts⟩ (cm_quoted l G Zd q st st20 hc _) (kw_V (n := 0) hts k1573 k1570 k15 k1572 ks93 (by decide +kernel) ⟨Nat.le_of_ble_eq_true rfl, Nat.le_of_ble_eq_true rfl⟩) hP hD hK hS hA hZ (va_recv (ci := 13) (q0 := 0) hK hP rfl rfl) rfl hl.1 rfl (Nat.le_of_ble_eq_true rfl) d15_69_29 ⟨Nat.le_of_ble_eq_true rfl, Nat.le_of_ble_eq_true rfl⟩ (fun u9 H locs hp hP hD hS => ?_)
      clear u9
      clear hp
      clear hc
      refine W.eq (g2 := F0 m 32 ls []) rfl ?_
      have hP : va_P G.1 vwCl (wMs q G.2 st20) H := hP
      have hD : va_D A (wMs q G.2 st20) := hD
      refine lv_aload_n hx hb d15_69_32 rfl (lv_at hl 1 rfl) ?_
      refine va_get (D := G.1) (ci := 13) (v := .ref (q 11)) (C := r_13) (T := f_13) (N := 42) (ref := "PagedValuesModel") hx hb hts (fun w h => List.mem_cons_of_mem _ (ly_13 w h)) hown hK hP 0 rfl rfl 19 (by decide) (hts _ (List.mem_cons_of_mem _ k1170)) (fun _ h9 => h9) rfl d15_69_33 ?_
      refine lv_iload_n hx hb d15_69_36 rfl (lv_at hl 0 rfl) ?_
      refine lv_iconst (v := 0) hx hb d15_69_37 (by decide) ?_
      obtain ⟨k22z, hr, h⟩ := ob h
      obtain ⟨hi, hk⟩ := ix_some hr
      clear hr
      refine va_iast (D := G.1) hx hb hK hP hD hS 11 1 rfl rfl (i := st.1 6) (x := (0 : Int32)) hi d15_69_38 (fun H locs hP hD hS => ?_)
      rw [hk] at hP hD
      clear hk hi
      have hP : va_P G.1 vwCl (wMs q G.2 (st20.1, st20.2.1, va_up st20.2.2.1 6 (upd (st20.2.2.1 6) k22z (0 : Int32)), st20.2.2.2)) H := hP
      have hD : va_D A (wMs q G.2 (st20.1, st20.2.1, va_up st20.2.2.1 6 (upd (st20.2.2.1 6) k22z (0 : Int32)), st20.2.2.2)) := hD
      refine lv_aload_n hx hb d15_69_39 rfl (lv_at hl 1 rfl) ?_
      refine va_get (D := G.1) (ci := 13) (v := .ref (q 12)) (C := r_13) (T := f_13) (N := 42) (ref := "PagedValuesModel") hx hb hts (fun w h => List.mem_cons_of_mem _ (ly_13 w h)) hown hK hP 0 rfl rfl 20 (by decide) (hts _ (List.mem_cons_of_mem _ k1171)) (fun _ h9 => h9) rfl d15_69_40 ?_
      refine lv_iload_n hx hb d15_69_43 rfl (lv_at hl 0 rfl) ?_
      refine lv_aload_n hx hb d15_69_44 rfl (lv_at hl 1 rfl) ?_
      refine va_get (D := G.1) (ci := 13) (v := .long (st20.2.1 0)) (C := r_13) (T := f_13) (N := 42) (ref := "PagedValuesModel") hx hb hts (fun w h => List.mem_cons_of_mem _ (ly_13 w h)) hown hK hP 0 rfl rfl 11 (by decide) (hts _ (List.mem_cons_of_mem _ k1162)) (fun _ h9 => h9) rfl d15_69_45 ?_
      obtain ⟨k23z, hr, h⟩ := ob h
      obtain ⟨hi, hk⟩ := ix_some hr
      clear hr
      refine va_last (D := G.1) hx hb hK hP hD hS 12 4 rfl rfl (i := st.1 6) (x := st20.2.1 0) hi d15_69_48 (fun H locs hP hD hS => ?_)
      rw [hk] at hP hD
      clear hk hi
      have hP : va_P G.1 vwCl (wMs q G.2 (st20.1, st20.2.1, va_up st20.2.2.1 6 (upd (st20.2.2.1 6) k22z (0 : Int32)), va_up st20.2.2.2 4 (vp_updL (st20.2.2.2 4) k23z (st20.2.1 0)))) H := hP
      have hD : va_D A (wMs q G.2 (st20.1, st20.2.1, va_up st20.2.2.1 6 (upd (st20.2.2.1 6) k22z (0 : Int32)), va_up st20.2.2.2 4 (vp_updL (st20.2.2.2 4) k23z (st20.2.1 0)))) := hD
      refine lv_aload_n hx hb d15_69_49 rfl (lv_at hl 1 rfl) ?_
      refine va_get (D := G.1) (ci := 13) (v := .ref (q 13)) (C := r_13) (T := f_13) (N := 42) (ref := "PagedValuesModel") hx hb hts (fun w h => List.mem_cons_of_mem _ (ly_13 w h)) hown hK hP 0 rfl rfl 21 (by decide) (hts _ (List.mem_cons_of_mem _ k1172)) (fun _ h9 => h9) rfl d15_69_50 ?_
      refine lv_iload_n hx hb d15_69_53 rfl (lv_at hl 0 rfl) ?_
      refine lv_aload_n hx hb d15_69_54 rfl (lv_at hl 1 rfl) ?_
      refine va_get (D := G.1) (ci := 13) (v := .long (st20.2.1 1)) (C := r_13) (T := f_13) (N := 42) (ref := "PagedValuesModel") hx hb hts (fun w h => List.mem_cons_of_mem _ (ly_13 w h)) hown hK hP 0 rfl rfl 12 (by decide) (hts _ (List.mem_cons_of_mem _ k1163)) (fun _ h9 => h9) rfl d15_69_55 ?_
      obtain ⟨k24z, hr, h⟩ := ob h
      obtain ⟨hi, hk⟩ := ix_some hr
      clear hr
      refine va_last (D := G.1) hx hb hK hP hD hS 13 4 rfl rfl (i := st.1 6) (x := st20.2.1 1) hi d15_69_58 (fun H locs hP hD hS => ?_)
      rw [hk] at hP hD
      clear hk hi
      have hP : va_P G.1 vwCl (wMs q G.2 (st20.1, st20.2.1, va_up st20.2.2.1 6 (upd (st20.2.2.1 6) k22z (0 : Int32)), va_up (va_up st20.2.2.2 4 (vp_updL (st20.2.2.2 4) k23z (st20.2.1 0))) 5 (vp_updL (st20.2.2.2 5) k24z (st20.2.1 1)))) H := hP
      have hD : va_D A (wMs q G.2 (st20.1, st20.2.1, va_up st20.2.2.1 6 (upd (st20.2.2.1 6) k22z (0 : Int32)), va_up (va_up st20.2.2.2 4 (vp_updL (st20.2.2.2 4) k23z (st20.2.1 0))) 5 (vp_updL (st20.2.2.2 5) k24z (st20.2.1 1)))) := hD
      refine lv_goto (tgt := 98) hx hb d15_69_59 rfl ?_
      have e9 := Option.some.inj h
      subst e6
      have hl := lv_sub hl (l' := [(0, .ref (q 0)), (1, .int (st.1 6))]) [1, 0] rfl
      exact hj _ _ _ hl hP hD hS
  ·
    replace h := (if_pos c1).symm.trans h
    refine lv_aload_n hx hb d15_69_9 rfl (lv_at hl 0 rfl) ?_
    obtain ⟨st26, hc, h⟩ := ob h
    refine sV_v (As := []) (rest := []) ⟨hx, hb, hml, hown, hts⟩ (cm_fault l G Zd q st st26 hc _) (kw_V (n := 0) hts k1320 k1317 k15 k1319 ks40 (by decide +kernel) ⟨Nat.le_of_ble_eq_true rfl, Nat.le_of_ble_eq_true rfl⟩) hP hD hK hS hA hZ (va_recv (ci := 13) (q0 := 0) hK hP rfl rfl) rfl hl.1 rfl (Nat.le_of_ble_eq_true rfl) d15_69_10 ⟨Nat.le_of_ble_eq_true rfl, Nat.le_of_ble_eq_true rfl⟩ (fun u9 H locs hp hP hD hS => ?_)
    clear u9
    clear hp
    clear hc
    refine W.eq (g2 := F0 m 13 ls []) rfl ?_
    have hP : va_P G.1 vwCl (wMs q G.2 st26) H := hP
    have hD : va_D A (wMs q G.2 st26) := hD
    cases h
    exact fin_v hx hb hr hlk hS () trivial hP hD (Nat.le_of_ble_eq_true rfl) (Nat.le_of_ble_eq_true rfl) d15_69_13
def m_isLetter (a0 : Int32) : Option (Int32) := (if a0 < (97 : Int32) then (if a0 < (65 : Int32) then (if a0 = (95 : Int32) then (some (1 : Int32)) else (some (0 : Int32))) else (if a0 ≤ (90 : Int32) then (some (1 : Int32)) else (if a0 = (95 : Int32) then (some (1 : Int32)) else (some (0 : Int32))))) else (if a0 ≤ (122 : Int32) then (some (1 : Int32)) else (if a0 < (65 : Int32) then (if a0 = (95 : Int32) then (some (1 : Int32)) else (some (0 : Int32))) else (if a0 ≤ (90 : Int32) then (some (1 : Int32)) else (if a0 = (95 : Int32) then (some (1 : Int32)) else (some (0 : Int32))))))).bind fun e2 => (bz e2).bind fun _ => some e2
set_option maxHeartbeats 4000000 in
set_option maxRecDepth 100000 in
theorem cm_isLetter (l : Launch) (G : Gk) (Zd : Nat → Nat) (w0 : va_W) (a0 : Int32) (r0 : Int32) (hm : m_isLetter a0 = some r0) (sz : Nat) : Met l y15_65 (Cond.code y15_65 prog_15_method_65_code 1 (some .boolean) :: TB) (rmD 0 0 0) (va_Pc [.int a0] (pcW G Zd w0 sz)) (qI G (fun rr (_ : Unit) => rr = r0) (fun _ => w0) (va_A w0 sz)) 0 0 (va_A w0 sz) := by
  refine go (y := y15_65) (cc := prog_15_method_65_code) (maxL := 1) (ret := (some .boolean)) (av := [.int a0]) (Qc := qI G (fun rr (_ : Unit) => rr = r0) (fun _ => w0)) "PagedValuesModel" rfl (by decide) (Nat.le_of_ble_eq_true rfl) ?_
  intro p e s m below meth c ls A hx hb hr hlk hml hown hts hin hl hP hD hK hS hA hZ
  have hl : lv_has ls 1 [(0, .int a0)] := hl
  have h := hm
  clear hm
  refine lv_iload_n hx hb d15_65_0 rfl (lv_at hl 0 rfl) ?_
  refine lv_bipush (v := 97) hx hb d15_65_1 (by decide) ?_
  obtain ⟨e2, hX, h⟩ := ob h
  have hj : ∀ (H : Heap) (locs : List Loc) (ls : Array Slot), lv_has ls 1 [(0, .int a0)] → va_P G.1 vwCl w0 H → va_D A w0 → va_S A s.heap H locs → W p l e (rmD 0 0 0) s m ([.int a0] : List Value).toArray below meth c H locs 0 0 (MQ below (qI G (fun rr (_ : Unit) => rr = r0) (fun _ => w0) A) ([.int a0] : List Value).toArray s 0 0 A) (F0 m 35 ls [.int e2]) := by
    intro H locs ls hl hP hD hS
    obtain ⟨u9, hr9, h⟩ := ob h
    have hi := bz_some hr9
    clear hr9 u9
    cases h
    exact fin_z hx hb hr hlk (nar01 hi) hS () rfl hP hD (Nat.le_of_ble_eq_true rfl) (Nat.le_of_ble_eq_true rfl) d15_65_35
  clear h
  refine lv_icmp_lt (tgt := 12) hx hb d15_65_3 rfl (fun c1 => ?_) (fun c1 => ?_)
  ·
    replace h := (if_pos c1).symm.trans hX
    refine lv_iload_n hx hb d15_65_12 rfl (lv_at hl 0 rfl) ?_
    refine lv_bipush (v := 65) hx hb d15_65_13 (by decide) ?_
    refine lv_icmp_lt (tgt := 24) hx hb d15_65_15 rfl (fun c4 => ?_) (fun c4 => ?_)
    ·
      replace h := (if_pos c4).symm.trans h
      refine lv_iload_n hx hb d15_65_24 rfl (lv_at hl 0 rfl) ?_
      refine lv_bipush (v := 95) hx hb d15_65_25 (by decide) ?_
      refine lv_icmp_ne (tgt := 34) hx hb d15_65_27 rfl (fun c5 => ?_) (fun c5 => ?_)
      ·
        replace h := (if_neg c5).symm.trans h
        refine lv_iconst (v := 0) hx hb d15_65_34 (by decide) ?_
        have e9 := Option.some.inj h
        subst e2
        have hl := lv_sub hl (l' := [(0, .int a0)]) [0] rfl
        exact hj _ _ _ hl hP hD hS
      ·
        replace h := (if_pos c5).symm.trans h
        refine lv_iconst (v := 1) hx hb d15_65_30 (by decide) ?_
        refine lv_goto (tgt := 35) hx hb d15_65_31 rfl ?_
        have e9 := Option.some.inj h
        subst e2
        have hl := lv_sub hl (l' := [(0, .int a0)]) [0] rfl
        exact hj _ _ _ hl hP hD hS
    ·
      replace h := (if_neg c4).symm.trans h
      refine lv_iload_n hx hb d15_65_18 rfl (lv_at hl 0 rfl) ?_
      refine lv_bipush (v := 90) hx hb d15_65_19 (by decide) ?_
      refine lv_icmp_le (tgt := 30) hx hb d15_65_21 rfl (fun c6 => ?_) (fun c6 => ?_)
      ·
        replace h := (if_pos c6).symm.trans h
        refine lv_iconst (v := 1) hx hb d15_65_30 (by decide) ?_
        refine lv_goto (tgt := 35) hx hb d15_65_31 rfl ?_
        have e9 := Option.some.inj h
        subst e2
        have hl := lv_sub hl (l' := [(0, .int a0)]) [0] rfl
        exact hj _ _ _ hl hP hD hS
      ·
        replace h := (if_neg c6).symm.trans h
        refine lv_iload_n hx hb d15_65_24 rfl (lv_at hl 0 rfl) ?_
        refine lv_bipush (v := 95) hx hb d15_65_25 (by decide) ?_
        refine lv_icmp_ne (tgt := 34) hx hb d15_65_27 rfl (fun c7 => ?_) (fun c7 => ?_)
        ·
          replace h := (if_neg c7).symm.trans h
          refine lv_iconst (v := 0) hx hb d15_65_34 (by decide) ?_
          have e9 := Option.some.inj h
          subst e2
          have hl := lv_sub hl (l' := [(0, .int a0)]) [0] rfl
          exact hj _ _ _ hl hP hD hS
        ·
          replace h := (if_pos c7).symm.trans h
          refine lv_iconst (v := 1) hx hb d15_65_30 (by decide) ?_
          refine lv_goto (tgt := 35) hx hb d15_65_31 rfl ?_
          have e9 := Option.some.inj h
          subst e2
          have hl := lv_sub hl (l' := [(0, .int a0)]) [0] rfl
          exact hj _ _ _ hl hP hD hS
  ·
    replace h := (if_neg c1).symm.trans hX
    refine lv_iload_n hx hb d15_65_6 rfl (lv_at hl 0 rfl) ?_
    refine lv_bipush (v := 122) hx hb d15_65_7 (by decide) ?_
    refine lv_icmp_le (tgt := 30) hx hb d15_65_9 rfl (fun c8 => ?_) (fun c8 => ?_)
    ·
      replace h := (if_pos c8).symm.trans h
      refine lv_iconst (v := 1) hx hb d15_65_30 (by decide) ?_
      refine lv_goto (tgt := 35) hx hb d15_65_31 rfl ?_
      have e9 := Option.some.inj h
      subst e2
      have hl := lv_sub hl (l' := [(0, .int a0)]) [0] rfl
      exact hj _ _ _ hl hP hD hS
    ·
      replace h := (if_neg c8).symm.trans h
      refine lv_iload_n hx hb d15_65_12 rfl (lv_at hl 0 rfl) ?_
      refine lv_bipush (v := 65) hx hb d15_65_13 (by decide) ?_
      refine lv_icmp_lt (tgt := 24) hx hb d15_65_15 rfl (fun c9 => ?_) (fun c9 => ?_)
      ·
        replace h := (if_pos c9).symm.trans h
        refine lv_iload_n hx hb d15_65_24 rfl (lv_at hl 0 rfl) ?_
        refine lv_bipush (v := 95) hx hb d15_65_25 (by decide) ?_
        refine lv_icmp_ne (tgt := 34) hx hb d15_65_27 rfl (fun c10 => ?_) (fun c10 => ?_)
        ·
          replace h := (if_neg c10).symm.trans h
          refine lv_iconst (v := 0) hx hb d15_65_34 (by decide) ?_
          have e9 := Option.some.inj h
          subst e2
          have hl := lv_sub hl (l' := [(0, .int a0)]) [0] rfl
          exact hj _ _ _ hl hP hD hS
        ·
          replace h := (if_pos c10).symm.trans h
          refine lv_iconst (v := 1) hx hb d15_65_30 (by decide) ?_
          refine lv_goto (tgt := 35) hx hb d15_65_31 rfl ?_
          have e9 := Option.some.inj h
          subst e2
          have hl := lv_sub hl (l' := [(0, .int a0)]) [0] rfl
          exact hj _ _ _ hl hP hD hS
      ·
        replace h := (if_neg c9).symm.trans h
        refine lv_iload_n hx hb d15_65_18 rfl (lv_at hl 0 rfl) ?_
        refine lv_bipush (v := 90) hx hb d15_65_19 (by decide) ?_
        refine lv_icmp_le (tgt := 30) hx hb d15_65_21 rfl (fun c11 => ?_) (fun c11 => ?_)
        ·
          replace h := (if_pos c11).symm.trans h
          refine lv_iconst (v := 1) hx hb d15_65_30 (by decide) ?_
          refine lv_goto (tgt := 35) hx hb d15_65_31 rfl ?_
          have e9 := Option.some.inj h
          subst e2
          have hl := lv_sub hl (l' := [(0, .int a0)]) [0] rfl
          exact hj _ _ _ hl hP hD hS
        ·
          replace h := (if_neg c11).symm.trans h
          refine lv_iload_n hx hb d15_65_24 rfl (lv_at hl 0 rfl) ?_
          refine lv_bipush (v := 95) hx hb d15_65_25 (by decide) ?_
          refine lv_icmp_ne (tgt := 34) hx hb d15_65_27 rfl (fun c12 => ?_) (fun c12 => ?_)
          ·
            replace h := (if_neg c12).symm.trans h
            refine lv_iconst (v := 0) hx hb d15_65_34 (by decide) ?_
            have e9 := Option.some.inj h
            subst e2
            have hl := lv_sub hl (l' := [(0, .int a0)]) [0] rfl
            exact hj _ _ _ hl hP hD hS
          ·
            replace h := (if_pos c12).symm.trans h
            refine lv_iconst (v := 1) hx hb d15_65_30 (by decide) ?_
            refine lv_goto (tgt := 35) hx hb d15_65_31 rfl ?_
            have e9 := Option.some.inj h
            subst e2
            have hl := lv_sub hl (l' := [(0, .int a0)]) [0] rfl
            exact hj _ _ _ hl hP hD hS
def m_queryName_l1  : Nat → (MS) → Option (MS)
  | 0, _ => none
  | n9 + 1, e9 => if (0 : Int32) ≤ (e9.1 2) then (some e9) else ((m_here e9).bind fun x12 => (m_isLetter x12).bind fun x15 => if x15 = (0 : Int32) then ((m_here e9).bind fun x33 => (m_isDigit x33).bind fun x36 => if x36 = (0 : Int32) then (some e9) else ((m_lengthOf (e9.2.1 0)).bind fun x40 => if x40 = (10 : Int32) then ((m_fault e9).bind fun st52 => m_queryName_l1  n9 st52) else ((m_here e9).bind fun x44 => (m_add x44 e9).bind fun st48 => (some ((st48.1 1) + 1)).bind fun y50 => m_queryName_l1  n9 (upd st48.1 1 y50, st48.2.1, st48.2.2.1, st48.2.2.2)))) else ((m_lengthOf (e9.2.1 0)).bind fun x19 => if x19 = (10 : Int32) then ((m_fault e9).bind fun st31 => m_queryName_l1  n9 st31) else ((m_here e9).bind fun x23 => (m_add x23 e9).bind fun st27 => (some ((st27.1 1) + 1)).bind fun y29 => m_queryName_l1  n9 (upd st27.1 1 y29, st27.2.1, st27.2.2.1, st27.2.2.2))))
theorem m_queryName_l1_s  (n9 : Nat) (e9 : MS) : m_queryName_l1  (n9 + 1) e9 = (if (0 : Int32) ≤ (e9.1 2) then (some e9) else ((m_here e9).bind fun x12 => (m_isLetter x12).bind fun x15 => if x15 = (0 : Int32) then ((m_here e9).bind fun x33 => (m_isDigit x33).bind fun x36 => if x36 = (0 : Int32) then (some e9) else ((m_lengthOf (e9.2.1 0)).bind fun x40 => if x40 = (10 : Int32) then ((m_fault e9).bind fun st52 => m_queryName_l1  n9 st52) else ((m_here e9).bind fun x44 => (m_add x44 e9).bind fun st48 => (some ((st48.1 1) + 1)).bind fun y50 => m_queryName_l1  n9 (upd st48.1 1 y50, st48.2.1, st48.2.2.1, st48.2.2.2)))) else ((m_lengthOf (e9.2.1 0)).bind fun x19 => if x19 = (10 : Int32) then ((m_fault e9).bind fun st31 => m_queryName_l1  n9 st31) else ((m_here e9).bind fun x23 => (m_add x23 e9).bind fun st27 => (some ((st27.1 1) + 1)).bind fun y29 => m_queryName_l1  n9 (upd st27.1 1 y29, st27.2.1, st27.2.2.1, st27.2.2.2))))) := rfl
def m_queryName (st : MS) : Option (MS) := (m_clear st).bind fun st2 => (if (0 : Int32) ≤ (st2.1 2) then (some st2) else ((m_here st2).bind fun x54 => (m_isLetter x54).bind fun x57 => if x57 = (0 : Int32) then ((m_fault st2).bind fun st62 => some st62) else (some st2))).bind fun e5 => (m_queryName_l1  4096 e5).bind fun e7 => some e7
set_option maxHeartbeats 4000000 in
set_option maxRecDepth 100000 in
theorem cm_queryName (l : Launch) (G : Gk) (Zd : Nat → Nat) (q : Nat → Nat) (st : MS) (st0 : MS) (hm : m_queryName st = some st0) (sz : Nat) : Met l y15_66 (Cond.code y15_66 prog_15_method_66_code 1 none :: TB) (rmD 2 0 0) (va_Pc [.ref (q 0)] (pcW G Zd (wMs q G.2 st) sz)) (qV G (fun (_ : Unit) => True) (fun _ => (wMs q G.2 st0)) (va_A (wMs q G.2 st) sz)) 0 0 (va_A (wMs q G.2 st) sz) := by
  refine go (y := y15_66) (cc := prog_15_method_66_code) (maxL := 1) (ret := none) (av := [.ref (q 0)]) (Qc := qV G (fun (_ : Unit) => True) (fun _ => (wMs q G.2 st0))) "PagedValuesModel" rfl (by decide) (Nat.le_of_ble_eq_true rfl) ?_
  intro p e s m below meth c ls A hx hb hr hlk hml hown hts hin hl hP hD hK hS hA hZ
  have hl : lv_has ls 1 [(0, .ref (q 0))] := hl
  have h := hm
  clear hm
  refine lv_aload_n hx hb d15_66_0 rfl (lv_at hl 0 rfl) ?_
  obtain ⟨st2, hc, h⟩ := ob h
  refine sV_v (As := []) (rest := []) ⟨hx, hb, hml, hown, hts⟩ (cm_clear l G Zd q st st2 hc _) (kw_V (n := 0) hts k1332 k1329 k15 k1331 ks43 (by decide +kernel) ⟨Nat.le_of_ble_eq_true rfl, Nat.le_of_ble_eq_true rfl⟩) hP hD hK hS hA hZ (va_recv (ci := 13) (q0 := 0) hK hP rfl rfl) rfl hl.1 rfl (Nat.le_of_ble_eq_true rfl) d15_66_1 ⟨Nat.le_of_ble_eq_true rfl, Nat.le_of_ble_eq_true rfl⟩ (fun u9 H locs hp hP hD hS => ?_)
  clear u9
  clear hp
  clear hc
  refine W.eq (g2 := F0 m 4 ls []) rfl ?_
  have hP : va_P G.1 vwCl (wMs q G.2 st2) H := hP
  have hD : va_D A (wMs q G.2 st2) := hD
  refine lv_aload_n hx hb d15_66_4 rfl (lv_at hl 0 rfl) ?_
  refine va_get (D := G.1) (ci := 13) (v := .int (st2.1 2)) (C := r_13) (T := f_13) (N := 42) (ref := "PagedValuesModel") hx hb hts (fun w h => List.mem_cons_of_mem _ (ly_13 w h)) hown hK hP 0 rfl rfl 3 (by decide) (hts _ (List.mem_cons_of_mem _ k1154)) (fun _ h9 => h9) rfl d15_66_5 ?_
  obtain ⟨e5, hX, h⟩ := ob h
  have hj : ∀ (H : Heap) (locs : List Loc) (ls : Array Slot), lv_has ls 1 [(0, .ref (q 0))] → va_P G.1 vwCl (wMs q G.2 e5) H → va_D A (wMs q G.2 e5) → va_S A s.heap H locs → W p l e (rmD 2 0 0) s m ([.ref (q 0)] : List Value).toArray below meth c H locs 0 0 (MQ below (qV G (fun (_ : Unit) => True) (fun _ => (wMs q G.2 st0)) A) ([.ref (q 0)] : List Value).toArray s 0 0 A) (F0 m 25 ls []) := by
    intro H locs ls hl hP hD hS
    obtain ⟨e7, hX, hrest⟩ := ob h
    clear h
    have hj : ∀ (v10 : MS), e7 = (v10) → ∀ (H : Heap) (locs : List Loc) (ls : Array Slot), lv_has ls 1 [(0, .ref (q 0))] → va_P G.1 vwCl (wMs q G.2 v10) H → va_D A (wMs q G.2 v10) → va_S A s.heap H locs → W p l e (rmD 2 0 0) s m ([.ref (q 0)] : List Value).toArray below meth c H locs 0 0 (MQ below (qV G (fun (_ : Unit) => True) (fun _ => (wMs q G.2 st0)) A) ([.ref (q 0)] : List Value).toArray s 0 0 A) (F0 m 92 ls []) := by
      intro v10 he H locs ls hl hP hD hS
      subst e7
      have h := hrest
      cases h
      exact fin_v hx hb hr hlk hS () trivial hP hD (Nat.le_of_ble_eq_true rfl) (Nat.le_of_ble_eq_true rfl) d15_66_92
    have hloop : ∀ (n9 : Nat) (v8 : MS), m_queryName_l1  n9 (v8) = some e7 → ∀ (H : Heap) (locs : List Loc) (ls : Array Slot), lv_has ls 1 [(0, .ref (q 0))] → va_P G.1 vwCl (wMs q G.2 v8) H → va_D A (wMs q G.2 v8) → va_S A s.heap H locs → W p l e (rmD 2 0 0) s m ([.ref (q 0)] : List Value).toArray below meth c H locs 0 0 (MQ below (qV G (fun (_ : Unit) => True) (fun _ => (wMs q G.2 st0)) A) ([.ref (q 0)] : List Value).toArray s 0 0 A) (F0 m 25 ls []) := by
      intro n9
      induction n9 with
      | zero =>
        intro v8 h
        cases h
      | succ n9 ih =>
        intro v8 h H locs ls hl hP hD hS
        replace h := (m_queryName_l1_s  n9 (v8)).symm.trans h
        refine lv_aload_n hx hb d15_66_25 rfl (lv_at hl 0 rfl) ?_
        refine va_get (D := G.1) (ci := 13) (v := .int (v8.1 2)) (C := r_13) (T := f_13) (N := 42) (ref := "PagedValuesModel") hx hb hts (fun w h => List.mem_cons_of_mem _ (ly_13 w h)) hown hK hP 0 rfl rfl 3 (by decide) (hts _ (List.mem_cons_of_mem _ k1154)) (fun _ h9 => h9) rfl d15_66_26 ?_
        refine lv_if_ge (tgt := 92) hx hb d15_66_29 rfl (fun c11 => ?_) (fun c11 => ?_)
        ·
          replace h := (if_pos c11).symm.trans h
          have e9 := Option.some.inj h
          subst e7
          have hl := lv_sub hl (l' := [(0, .ref (q 0))]) [0] rfl
          exact hj _ rfl _ _ _ hl hP hD hS
        ·
          replace h := (if_neg c11).symm.trans h
          refine lv_aload_n hx hb d15_66_32 rfl (lv_at hl 0 rfl) ?_
          obtain ⟨x12, hc, h⟩ := ob h
          refine sV_i (As := []) (rest := []) ⟨hx, hb, hml, hown, hts⟩ (cm_here l G Zd q v8 x12 hc _) (kw_V (n := 0) hts k1305 k1302 k15 k1304 ks37 (by decide +kernel) ⟨Nat.le_of_ble_eq_true rfl, Nat.le_of_ble_eq_true rfl⟩) hP hD hK hS hA hZ (va_recv (ci := 13) (q0 := 0) hK hP rfl rfl) rfl hl.1 rfl (Nat.le_of_ble_eq_true rfl) d15_66_33 ⟨Nat.le_of_ble_eq_true rfl, Nat.le_of_ble_eq_true rfl⟩ (fun rr u9 H locs hp hP hD hS => ?_)
          clear u9
          subst rr
          clear hc
          refine W.eq (g2 := F0 m 36 ls [.int x12]) rfl ?_
          have hP : va_P G.1 vwCl (wMs q G.2 v8) H := hP
          have hD : va_D A (wMs q G.2 v8) := hD
          obtain ⟨x15, hc, h⟩ := ob h
          refine sS_i (As := [.int x12]) (rest := []) ⟨hx, hb, hml, hown, hts⟩ (cm_isLetter l G Zd _ x12 x15 hc _) (kw_S (n := 1) hts k1565 k1563 k15 k1564 (by decide +kernel) ⟨Nat.le_of_ble_eq_true rfl, Nat.le_of_ble_eq_true rfl⟩) hP hD hK hS hA hZ rfl hl.1 rfl (Nat.le_of_ble_eq_true rfl) d15_66_36 ⟨Nat.le_of_ble_eq_true rfl, Nat.le_of_ble_eq_true rfl⟩ (fun rr u9 H locs hp hP hD hS => ?_)
          clear u9
          subst rr
          clear hc
          refine W.eq (g2 := F0 m 39 ls [.int x15]) rfl ?_
          have hP : va_P G.1 vwCl (wMs q G.2 v8) H := hP
          have hD : va_D A (wMs q G.2 v8) := hD
          refine lv_if_ne (tgt := 52) hx hb d15_66_39 rfl (fun c18 => ?_) (fun c18 => ?_)
          ·
            replace h := (if_neg c18).symm.trans h
            refine lv_aload_n hx hb d15_66_52 rfl (lv_at hl 0 rfl) ?_
            refine va_get (D := G.1) (ci := 13) (v := .long (v8.2.1 0)) (C := r_13) (T := f_13) (N := 42) (ref := "PagedValuesModel") hx hb hts (fun w h => List.mem_cons_of_mem _ (ly_13 w h)) hown hK hP 0 rfl rfl 11 (by decide) (hts _ (List.mem_cons_of_mem _ k1162)) (fun _ h9 => h9) rfl d15_66_53 ?_
            obtain ⟨x19, hc, h⟩ := ob h
            refine sS_i (As := [.long (v8.2.1 0)]) (rest := []) ⟨hx, hb, hml, hown, hts⟩ (cm_lengthOf l G Zd _ (v8.2.1 0) x19 hc _) (kw_S (n := 1) hts k1343 k1341 k15 k1342 (by decide +kernel) ⟨Nat.le_of_ble_eq_true rfl, Nat.le_of_ble_eq_true rfl⟩) hP hD hK hS hA hZ rfl hl.1 rfl (Nat.le_of_ble_eq_true rfl) d15_66_56 ⟨Nat.le_of_ble_eq_true rfl, Nat.le_of_ble_eq_true rfl⟩ (fun rr u9 H locs hp hP hD hS => ?_)
            clear u9
            subst rr
            clear hc
            refine W.eq (g2 := F0 m 59 ls [.int x19]) rfl ?_
            have hP : va_P G.1 vwCl (wMs q G.2 v8) H := hP
            have hD : va_D A (wMs q G.2 v8) := hD
            refine lv_bipush (v := 10) hx hb d15_66_59 (by decide) ?_
            refine lv_icmp_ne (tgt := 71) hx hb d15_66_61 rfl (fun c22 => ?_) (fun c22 => ?_)
            ·
              replace h := (if_neg c22).symm.trans h
              refine lv_aload_n hx hb d15_66_71 rfl (lv_at hl 0 rfl) ?_
              refine lv_aload_n hx hb d15_66_72 rfl (lv_at hl 0 rfl) ?_
              obtain ⟨x23, hc, h⟩ := ob h
              refine sV_i (As := []) (rest := [.ref (q 0)]) ⟨hx, hb, hml, hown, hts⟩ (cm_here l G Zd q v8 x23 hc _) (kw_V (n := 0) hts k1305 k1302 k15 k1304 ks37 (by decide +kernel) ⟨Nat.le_of_ble_eq_true rfl, Nat.le_of_ble_eq_true rfl⟩) hP hD hK hS hA hZ (va_recv (ci := 13) (q0 := 0) hK hP rfl rfl) rfl hl.1 rfl (Nat.le_of_ble_eq_true rfl) d15_66_73 ⟨Nat.le_of_ble_eq_true rfl, Nat.le_of_ble_eq_true rfl⟩ (fun rr u9 H locs hp hP hD hS => ?_)
              clear u9
              subst rr
              clear hc
              refine W.eq (g2 := F0 m 76 ls [.int x23, .ref (q 0)]) rfl ?_
              have hP : va_P G.1 vwCl (wMs q G.2 v8) H := hP
              have hD : va_D A (wMs q G.2 v8) := hD
              obtain ⟨st27, hc, h⟩ := ob h
              refine sV_v (As := [.int x23]) (rest := []) ⟨hx, hb, hml, hown, hts⟩ (cm_add l G Zd q x23 v8 st27 hc _) (kw_V (n := 1) hts k1347 k1344 k15 k1346 ks46 (by decide +kernel) ⟨Nat.le_of_ble_eq_true rfl, Nat.le_of_ble_eq_true rfl⟩) hP hD hK hS hA hZ (va_recv (ci := 13) (q0 := 0) hK hP rfl rfl) rfl hl.1 rfl (Nat.le_of_ble_eq_true rfl) d15_66_76 ⟨Nat.le_of_ble_eq_true rfl, Nat.le_of_ble_eq_true rfl⟩ (fun u9 H locs hp hP hD hS => ?_)
              clear u9
              clear hp
              clear hc
              refine W.eq (g2 := F0 m 79 ls []) rfl ?_
              have hP : va_P G.1 vwCl (wMs q G.2 st27) H := hP
              have hD : va_D A (wMs q G.2 st27) := hD
              refine lv_aload_n hx hb d15_66_79 rfl (lv_at hl 0 rfl) ?_
              refine lv_dup hx hb d15_66_80 rfl ?_
              refine va_get (D := G.1) (ci := 13) (v := .int (st27.1 1)) (C := r_13) (T := f_13) (N := 42) (ref := "PagedValuesModel") hx hb hts (fun w h => List.mem_cons_of_mem _ (ly_13 w h)) hown hK hP 0 rfl rfl 2 (by decide) (hts _ (List.mem_cons_of_mem _ k1153)) (fun _ h9 => h9) rfl d15_66_81 ?_
              refine lv_iconst (v := 1) hx hb d15_66_84 (by decide) ?_
              refine lv_iadd hx hb d15_66_85 ?_
              obtain ⟨y29, hr, h⟩ := ob h
              refine lv_topi (fun y9 ey => ?_)
              have e9 := ey.trans (Option.some.inj hr)
              clear ey
              subst y9
              clear hr
              refine va_put (D := G.1) (ci := 13) (v := .int y29) (ty := .int) (C := r_13) (T := f_13) (N := 42) (ref := "PagedValuesModel") hx hb hts (fun w h => List.mem_cons_of_mem _ (ly_13 w h)) ft_13 ft_13_ok nm_13 hown hK hP hD hS 0 rfl rfl 2 (by decide) (hts _ (List.mem_cons_of_mem _ k1153)) (fun _ h9 => h9) rfl (by decide +kernel) rfl rfl (Nat.le_of_ble_eq_true rfl) d15_66_86 (fun H locs hP hD hS => ?_)
              have hP : va_P G.1 vwCl (wMs q G.2 (upd st27.1 1 y29, st27.2.1, st27.2.2.1, st27.2.2.2)) H := hP
              have hD : va_D A (wMs q G.2 (upd st27.1 1 y29, st27.2.1, st27.2.2.1, st27.2.2.2)) := hD
              refine lv_goto (tgt := 25) hx hb d15_66_89 rfl ?_
              have hl := lv_sub hl (l' := [(0, .ref (q 0))]) [0] rfl
              exact ih _ h _ _ _ hl hP hD hS
            ·
              replace h := (if_pos c22).symm.trans h
              refine lv_aload_n hx hb d15_66_64 rfl (lv_at hl 0 rfl) ?_
              obtain ⟨st31, hc, h⟩ := ob h
              refine sV_v (As := []) (rest := []) ⟨hx, hb, hml, hown, hts⟩ (cm_fault l G Zd q v8 st31 hc _) (kw_V (n := 0) hts k1320 k1317 k15 k1319 ks40 (by decide +kernel) ⟨Nat.le_of_ble_eq_true rfl, Nat.le_of_ble_eq_true rfl⟩) hP hD hK hS hA hZ (va_recv (ci := 13) (q0 := 0) hK hP rfl rfl) rfl hl.1 rfl (Nat.le_of_ble_eq_true rfl) d15_66_65 ⟨Nat.le_of_ble_eq_true rfl, Nat.le_of_ble_eq_true rfl⟩ (fun u9 H locs hp hP hD hS => ?_)
              clear u9
              clear hp
              clear hc
              refine W.eq (g2 := F0 m 68 ls []) rfl ?_
              have hP : va_P G.1 vwCl (wMs q G.2 st31) H := hP
              have hD : va_D A (wMs q G.2 st31) := hD
              refine lv_goto (tgt := 25) hx hb d15_66_68 rfl ?_
              have hl := lv_sub hl (l' := [(0, .ref (q 0))]) [0] rfl
              exact ih _ h _ _ _ hl hP hD hS
          ·
            replace h := (if_pos c18).symm.trans h
            refine lv_aload_n hx hb d15_66_42 rfl (lv_at hl 0 rfl) ?_
            obtain ⟨x33, hc, h⟩ := ob h
            refine sV_i (As := []) (rest := []) ⟨hx, hb, hml, hown, hts⟩ (cm_here l G Zd q v8 x33 hc _) (kw_V (n := 0) hts k1305 k1302 k15 k1304 ks37 (by decide +kernel) ⟨Nat.le_of_ble_eq_true rfl, Nat.le_of_ble_eq_true rfl⟩) hP hD hK hS hA hZ (va_recv (ci := 13) (q0 := 0) hK hP rfl rfl) rfl hl.1 rfl (Nat.le_of_ble_eq_true rfl) d15_66_43 ⟨Nat.le_of_ble_eq_true rfl, Nat.le_of_ble_eq_true rfl⟩ (fun rr u9 H locs hp hP hD hS => ?_)
            clear u9
            subst rr
            clear hc
            refine W.eq (g2 := F0 m 46 ls [.int x33]) rfl ?_
            have hP : va_P G.1 vwCl (wMs q G.2 v8) H := hP
            have hD : va_D A (wMs q G.2 v8) := hD
            obtain ⟨x36, hc, h⟩ := ob h
            refine sS_i (As := [.int x33]) (rest := []) ⟨hx, hb, hml, hown, hts⟩ (cm_isDigit l G Zd _ x33 x36 hc _) (kw_S (n := 1) hts k1351 k1349 k15 k1350 (by decide +kernel) ⟨Nat.le_of_ble_eq_true rfl, Nat.le_of_ble_eq_true rfl⟩) hP hD hK hS hA hZ rfl hl.1 rfl (Nat.le_of_ble_eq_true rfl) d15_66_46 ⟨Nat.le_of_ble_eq_true rfl, Nat.le_of_ble_eq_true rfl⟩ (fun rr u9 H locs hp hP hD hS => ?_)
            clear u9
            subst rr
            clear hc
            refine W.eq (g2 := F0 m 49 ls [.int x36]) rfl ?_
            have hP : va_P G.1 vwCl (wMs q G.2 v8) H := hP
            have hD : va_D A (wMs q G.2 v8) := hD
            refine lv_if_eq (tgt := 92) hx hb d15_66_49 rfl (fun c39 => ?_) (fun c39 => ?_)
            ·
              replace h := (if_pos c39).symm.trans h
              have e9 := Option.some.inj h
              subst e7
              have hl := lv_sub hl (l' := [(0, .ref (q 0))]) [0] rfl
              exact hj _ rfl _ _ _ hl hP hD hS
            ·
              replace h := (if_neg c39).symm.trans h
              refine lv_aload_n hx hb d15_66_52 rfl (lv_at hl 0 rfl) ?_
              refine va_get (D := G.1) (ci := 13) (v := .long (v8.2.1 0)) (C := r_13) (T := f_13) (N := 42) (ref := "PagedValuesModel") hx hb hts (fun w h => List.mem_cons_of_mem _ (ly_13 w h)) hown hK hP 0 rfl rfl 11 (by decide) (hts _ (List.mem_cons_of_mem _ k1162)) (fun _ h9 => h9) rfl d15_66_53 ?_
              obtain ⟨x40, hc, h⟩ := ob h
              refine sS_i (As := [.long (v8.2.1 0)]) (rest := []) ⟨hx, hb, hml, hown, hts⟩ (cm_lengthOf l G Zd _ (v8.2.1 0) x40 hc _) (kw_S (n := 1) hts k1343 k1341 k15 k1342 (by decide +kernel) ⟨Nat.le_of_ble_eq_true rfl, Nat.le_of_ble_eq_true rfl⟩) hP hD hK hS hA hZ rfl hl.1 rfl (Nat.le_of_ble_eq_true rfl) d15_66_56 ⟨Nat.le_of_ble_eq_true rfl, Nat.le_of_ble_eq_true rfl⟩ (fun rr u9 H locs hp hP hD hS => ?_)
              clear u9
              subst rr
              clear hc
              refine W.eq (g2 := F0 m 59 ls [.int x40]) rfl ?_
              have hP : va_P G.1 vwCl (wMs q G.2 v8) H := hP
              have hD : va_D A (wMs q G.2 v8) := hD
              refine lv_bipush (v := 10) hx hb d15_66_59 (by decide) ?_
              refine lv_icmp_ne (tgt := 71) hx hb d15_66_61 rfl (fun c43 => ?_) (fun c43 => ?_)
              ·
                replace h := (if_neg c43).symm.trans h
                refine lv_aload_n hx hb d15_66_71 rfl (lv_at hl 0 rfl) ?_
                refine lv_aload_n hx hb d15_66_72 rfl (lv_at hl 0 rfl) ?_
                obtain ⟨x44, hc, h⟩ := ob h
                refine sV_i (As := []) (rest := [.ref (q 0)]) ⟨hx, hb, hml, hown, hts⟩ (cm_here l G Zd q v8 x44 hc _) (kw_V (n := 0) hts k1305 k1302 k15 k1304 ks37 (by decide +kernel) ⟨Nat.le_of_ble_eq_true rfl, Nat.le_of_ble_eq_true rfl⟩) hP hD hK hS hA hZ (va_recv (ci := 13) (q0 := 0) hK hP rfl rfl) rfl hl.1 rfl (Nat.le_of_ble_eq_true rfl) d15_66_73 ⟨Nat.le_of_ble_eq_true rfl, Nat.le_of_ble_eq_true rfl⟩ (fun rr u9 H locs hp hP hD hS => ?_)
                clear u9
                subst rr
                clear hc
                refine W.eq (g2 := F0 m 76 ls [.int x44, .ref (q 0)]) rfl ?_
                have hP : va_P G.1 vwCl (wMs q G.2 v8) H := hP
                have hD : va_D A (wMs q G.2 v8) := hD
                obtain ⟨st48, hc, h⟩ := ob h
                refine sV_v (As := [.int x44]) (rest := []) ⟨hx, hb, hml, hown, hts⟩ (cm_add l G Zd q x44 v8 st48 hc _) (kw_V (n := 1) hts k1347 k1344 k15 k1346 ks46 (by decide +kernel) ⟨Nat.le_of_ble_eq_true rfl, Nat.le_of_ble_eq_true rfl⟩) hP hD hK hS hA hZ (va_recv (ci := 13) (q0 := 0) hK hP rfl rfl) rfl hl.1 rfl (Nat.le_of_ble_eq_true rfl) d15_66_76 ⟨Nat.le_of_ble_eq_true rfl, Nat.le_of_ble_eq_true rfl⟩ (fun u9 H locs hp hP hD hS => ?_)
                clear u9
                clear hp
                clear hc
                refine W.eq (g2 := F0 m 79 ls []) rfl ?_
                have hP : va_P G.1 vwCl (wMs q G.2 st48) H := hP
                have hD : va_D A (wMs q G.2 st48) := hD
                refine lv_aload_n hx hb d15_66_79 rfl (lv_at hl 0 rfl) ?_
                refine lv_dup hx hb d15_66_80 rfl ?_
                refine va_get (D := G.1) (ci := 13) (v := .int (st48.1 1)) (C := r_13) (T := f_13) (N := 42) (ref := "PagedValuesModel") hx hb hts (fun w h => List.mem_cons_of_mem _ (ly_13 w h)) hown hK hP 0 rfl rfl 2 (by decide) (hts _ (List.mem_cons_of_mem _ k1153)) (fun _ h9 => h9) rfl d15_66_81 ?_
                refine lv_iconst (v := 1) hx hb d15_66_84 (by decide) ?_
                refine lv_iadd hx hb d15_66_85 ?_
                obtain ⟨y50, hr, h⟩ := ob h
                refine lv_topi (fun y9 ey => ?_)
                have e9 := ey.trans (Option.some.inj hr)
                clear ey
                subst y9
                clear hr
                refine va_put (D := G.1) (ci := 13) (v := .int y50) (ty := .int) (C := r_13) (T := f_13) (N := 42) (ref := "PagedValuesModel") hx hb hts (fun w h => List.mem_cons_of_mem _ (ly_13 w h)) ft_13 ft_13_ok nm_13 hown hK hP hD hS 0 rfl rfl 2 (by decide) (hts _ (List.mem_cons_of_mem _ k1153)) (fun _ h9 => h9) rfl (by decide +kernel) rfl rfl (Nat.le_of_ble_eq_true rfl) d15_66_86 (fun H locs hP hD hS => ?_)
                have hP : va_P G.1 vwCl (wMs q G.2 (upd st48.1 1 y50, st48.2.1, st48.2.2.1, st48.2.2.2)) H := hP
                have hD : va_D A (wMs q G.2 (upd st48.1 1 y50, st48.2.1, st48.2.2.1, st48.2.2.2)) := hD
                refine lv_goto (tgt := 25) hx hb d15_66_89 rfl ?_
                have hl := lv_sub hl (l' := [(0, .ref (q 0))]) [0] rfl
                exact ih _ h _ _ _ hl hP hD hS
              ·
                replace h := (if_pos c43).symm.trans h
                refine lv_aload_n hx hb d15_66_64 rfl (lv_at hl 0 rfl) ?_
                obtain ⟨st52, hc, h⟩ := ob h
                refine sV_v (As := []) (rest := []) ⟨hx, hb, hml, hown, hts⟩ (cm_fault l G Zd q v8 st52 hc _) (kw_V (n := 0) hts k1320 k1317 k15 k1319 ks40 (by decide +kernel) ⟨Nat.le_of_ble_eq_true rfl, Nat.le_of_ble_eq_true rfl⟩) hP hD hK hS hA hZ (va_recv (ci := 13) (q0 := 0) hK hP rfl rfl) rfl hl.1 rfl (Nat.le_of_ble_eq_true rfl) d15_66_65 ⟨Nat.le_of_ble_eq_true rfl, Nat.le_of_ble_eq_true rfl⟩ (fun u9 H locs hp hP hD hS => ?_)
                clear u9
                clear hp
                clear hc
                refine W.eq (g2 := F0 m 68 ls []) rfl ?_
                have hP : va_P G.1 vwCl (wMs q G.2 st52) H := hP
                have hD : va_D A (wMs q G.2 st52) := hD
                refine lv_goto (tgt := 25) hx hb d15_66_68 rfl ?_
                have hl := lv_sub hl (l' := [(0, .ref (q 0))]) [0] rfl
                exact ih _ h _ _ _ hl hP hD hS
    exact hloop _ _ hX _ _ _ hl hP hD hS
  clear h
  refine lv_if_ge (tgt := 25) hx hb d15_66_8 rfl (fun c4 => ?_) (fun c4 => ?_)
  ·
    replace h := (if_pos c4).symm.trans hX
    have e9 := Option.some.inj h
    subst e5
    have hl := lv_sub hl (l' := [(0, .ref (q 0))]) [0] rfl
    exact hj _ _ _ hl hP hD hS
  ·
    replace h := (if_neg c4).symm.trans hX
    refine lv_aload_n hx hb d15_66_11 rfl (lv_at hl 0 rfl) ?_
    obtain ⟨x54, hc, h⟩ := ob h
    refine sV_i (As := []) (rest := []) ⟨hx, hb, hml, hown, hts⟩ (cm_here l G Zd q st2 x54 hc _) (kw_V (n := 0) hts k1305 k1302 k15 k1304 ks37 (by decide +kernel) ⟨Nat.le_of_ble_eq_true rfl, Nat.le_of_ble_eq_true rfl⟩) hP hD hK hS hA hZ (va_recv (ci := 13) (q0 := 0) hK hP rfl rfl) rfl hl.1 rfl (Nat.le_of_ble_eq_true rfl) d15_66_12 ⟨Nat.le_of_ble_eq_true rfl, Nat.le_of_ble_eq_true rfl⟩ (fun rr u9 H locs hp hP hD hS => ?_)
    clear u9
    subst rr
    clear hc
    refine W.eq (g2 := F0 m 15 ls [.int x54]) rfl ?_
    have hP : va_P G.1 vwCl (wMs q G.2 st2) H := hP
    have hD : va_D A (wMs q G.2 st2) := hD
    obtain ⟨x57, hc, h⟩ := ob h
    refine sS_i (As := [.int x54]) (rest := []) ⟨hx, hb, hml, hown, hts⟩ (cm_isLetter l G Zd _ x54 x57 hc _) (kw_S (n := 1) hts k1565 k1563 k15 k1564 (by decide +kernel) ⟨Nat.le_of_ble_eq_true rfl, Nat.le_of_ble_eq_true rfl⟩) hP hD hK hS hA hZ rfl hl.1 rfl (Nat.le_of_ble_eq_true rfl) d15_66_15 ⟨Nat.le_of_ble_eq_true rfl, Nat.le_of_ble_eq_true rfl⟩ (fun rr u9 H locs hp hP hD hS => ?_)
    clear u9
    subst rr
    clear hc
    refine W.eq (g2 := F0 m 18 ls [.int x57]) rfl ?_
    have hP : va_P G.1 vwCl (wMs q G.2 st2) H := hP
    have hD : va_D A (wMs q G.2 st2) := hD
    refine lv_if_ne (tgt := 25) hx hb d15_66_18 rfl (fun c60 => ?_) (fun c60 => ?_)
    ·
      replace h := (if_neg c60).symm.trans h
      have e9 := Option.some.inj h
      subst e5
      have hl := lv_sub hl (l' := [(0, .ref (q 0))]) [0] rfl
      exact hj _ _ _ hl hP hD hS
    ·
      replace h := (if_pos c60).symm.trans h
      refine lv_aload_n hx hb d15_66_21 rfl (lv_at hl 0 rfl) ?_
      obtain ⟨st62, hc, h⟩ := ob h
      refine sV_v (As := []) (rest := []) ⟨hx, hb, hml, hown, hts⟩ (cm_fault l G Zd q st2 st62 hc _) (kw_V (n := 0) hts k1320 k1317 k15 k1319 ks40 (by decide +kernel) ⟨Nat.le_of_ble_eq_true rfl, Nat.le_of_ble_eq_true rfl⟩) hP hD hK hS hA hZ (va_recv (ci := 13) (q0 := 0) hK hP rfl rfl) rfl hl.1 rfl (Nat.le_of_ble_eq_true rfl) d15_66_22 ⟨Nat.le_of_ble_eq_true rfl, Nat.le_of_ble_eq_true rfl⟩ (fun u9 H locs hp hP hD hS => ?_)
      clear u9
      clear hp
      clear hc
      refine W.eq (g2 := F0 m 25 ls []) rfl ?_
      have hP : va_P G.1 vwCl (wMs q G.2 st62) H := hP
      have hD : va_D A (wMs q G.2 st62) := hD
      have e9 := Option.some.inj h
      subst e5
      have hl := lv_sub hl (l' := [(0, .ref (q 0))]) [0] rfl
      exact hj _ _ _ hl hP hD hS
def m_shortSegment (st : MS) : Option (MS) := if (st.1 6) = (8 : Int32) then ((m_fault st).bind fun st17 => some st17) else ((m_takes (42 : Int32) st).bind fun r4 => (if r4.1 = (0 : Int32) then ((m_queryName r4.2).bind fun st10 => (ix 8 (st10.1 6)).bind fun k12z => (ix 8 (st10.1 6)).bind fun k13z => (ix 8 (st10.1 6)).bind fun k14z => some (st10.1, st10.2.1, va_up st10.2.2.1 6 (upd (st10.2.2.1 6) k12z (0 : Int32)), va_up (va_up st10.2.2.2 4 (vp_updL (st10.2.2.2 4) k13z (st10.2.1 0))) 5 (vp_updL (st10.2.2.2 5) k14z (st10.2.1 1)))) else ((ix 8 (r4.2.1 6)).bind fun k15z => some (r4.2.1, r4.2.2.1, va_up r4.2.2.2.1 6 (upd (r4.2.2.2.1 6) k15z (1 : Int32)), r4.2.2.2.2))).bind fun e6 => (some ((e6.1 6) + 1)).bind fun y8 => some (upd e6.1 6 y8, e6.2.1, e6.2.2.1, e6.2.2.2))
set_option maxHeartbeats 4000000 in
set_option maxRecDepth 100000 in
theorem cm_shortSegment (l : Launch) (G : Gk) (Zd : Nat → Nat) (q : Nat → Nat) (st : MS) (st0 : MS) (hm : m_shortSegment st = some st0) (sz : Nat) : Met l y15_71 (Cond.code y15_71 prog_15_method_71_code 1 none :: TB) (rmD 3 0 0) (va_Pc [.ref (q 0)] (pcW G Zd (wMs q G.2 st) sz)) (qV G (fun (_ : Unit) => True) (fun _ => (wMs q G.2 st0)) (va_A (wMs q G.2 st) sz)) 0 0 (va_A (wMs q G.2 st) sz) := by
  refine go (y := y15_71) (cc := prog_15_method_71_code) (maxL := 1) (ret := none) (av := [.ref (q 0)]) (Qc := qV G (fun (_ : Unit) => True) (fun _ => (wMs q G.2 st0))) "PagedValuesModel" rfl (by decide) (Nat.le_of_ble_eq_true rfl) ?_
  intro p e s m below meth c ls A hx hb hr hlk hml hown hts hin hl hP hD hK hS hA hZ
  have hl : lv_has ls 1 [(0, .ref (q 0))] := hl
  have h := hm
  clear hm
  refine lv_aload_n hx hb d15_71_0 rfl (lv_at hl 0 rfl) ?_
  refine va_get (D := G.1) (ci := 13) (v := .int (st.1 6)) (C := r_13) (T := f_13) (N := 42) (ref := "PagedValuesModel") hx hb hts (fun w h => List.mem_cons_of_mem _ (ly_13 w h)) hown hK hP 0 rfl rfl 18 (by decide) (hts _ (List.mem_cons_of_mem _ k1169)) (fun _ h9 => h9) rfl d15_71_1 ?_
  refine lv_bipush (v := 8) hx hb d15_71_4 (by decide) ?_
  refine lv_icmp_ne (tgt := 14) hx hb d15_71_6 rfl (fun c1 => ?_) (fun c1 => ?_)
  ·
    replace h := (if_neg c1).symm.trans h
    refine lv_aload_n hx hb d15_71_14 rfl (lv_at hl 0 rfl) ?_
    refine lv_bipush (v := 42) hx hb d15_71_15 (by decide) ?_
    obtain ⟨⟨x2, st3⟩, hc, h⟩ := ob h
    refine sV_i (As := [.int 42]) (rest := []) ⟨hx, hb, hml, hown, hts⟩ (cm_takes l G Zd q (42 : Int32) st x2 st3 hc _) (kw_V (n := 1) hts k1359 k1356 k15 k1358 ks48 (by decide +kernel) ⟨Nat.le_of_ble_eq_true rfl, Nat.le_of_ble_eq_true rfl⟩) hP hD hK hS hA hZ (va_recv (ci := 13) (q0 := 0) hK hP rfl rfl) rfl hl.1 rfl (Nat.le_of_ble_eq_true rfl) d15_71_17 ⟨Nat.le_of_ble_eq_true rfl, Nat.le_of_ble_eq_true rfl⟩ (fun rr u9 H locs hp hP hD hS => ?_)
    clear u9
    subst rr
    clear hc
    refine W.eq (g2 := F0 m 20 ls [.int x2]) rfl ?_
    have hP : va_P G.1 vwCl (wMs q G.2 st3) H := hP
    have hD : va_D A (wMs q G.2 st3) := hD
    obtain ⟨e6, hX, h⟩ := ob h
    have hj : ∀ (H : Heap) (locs : List Loc) (ls : Array Slot), lv_has ls 1 [(0, .ref (q 0))] → va_P G.1 vwCl (wMs q G.2 e6) H → va_D A (wMs q G.2 e6) → va_S A s.heap H locs → W p l e (rmD 3 0 0) s m ([.ref (q 0)] : List Value).toArray below meth c H locs 0 0 (MQ below (qV G (fun (_ : Unit) => True) (fun _ => (wMs q G.2 st0)) A) ([.ref (q 0)] : List Value).toArray s 0 0 A) (F0 m 76 ls []) := by
      intro H locs ls hl hP hD hS
      refine lv_aload_n hx hb d15_71_76 rfl (lv_at hl 0 rfl) ?_
      refine lv_dup hx hb d15_71_77 rfl ?_
      refine va_get (D := G.1) (ci := 13) (v := .int (e6.1 6)) (C := r_13) (T := f_13) (N := 42) (ref := "PagedValuesModel") hx hb hts (fun w h => List.mem_cons_of_mem _ (ly_13 w h)) hown hK hP 0 rfl rfl 18 (by decide) (hts _ (List.mem_cons_of_mem _ k1169)) (fun _ h9 => h9) rfl d15_71_78 ?_
      refine lv_iconst (v := 1) hx hb d15_71_81 (by decide) ?_
      refine lv_iadd hx hb d15_71_82 ?_
      obtain ⟨y8, hr, h⟩ := ob h
      refine lv_topi (fun y9 ey => ?_)
      have e9 := ey.trans (Option.some.inj hr)
      clear ey
      subst y9
      clear hr
      refine va_put (D := G.1) (ci := 13) (v := .int y8) (ty := .int) (C := r_13) (T := f_13) (N := 42) (ref := "PagedValuesModel") hx hb hts (fun w h => List.mem_cons_of_mem _ (ly_13 w h)) ft_13 ft_13_ok nm_13 hown hK hP hD hS 0 rfl rfl 18 (by decide) (hts _ (List.mem_cons_of_mem _ k1169)) (fun _ h9 => h9) rfl (by decide +kernel) rfl rfl (Nat.le_of_ble_eq_true rfl) d15_71_83 (fun H locs hP hD hS => ?_)
      have hP : va_P G.1 vwCl (wMs q G.2 (upd e6.1 6 y8, e6.2.1, e6.2.2.1, e6.2.2.2)) H := hP
      have hD : va_D A (wMs q G.2 (upd e6.1 6 y8, e6.2.1, e6.2.2.1, e6.2.2.2)) := hD
      cases h
      exact fin_v hx hb hr hlk hS () trivial hP hD (Nat.le_of_ble_eq_true rfl) (Nat.le_of_ble_eq_true rfl) d15_71_86
    clear h
    refine lv_if_eq (tgt := 36) hx hb d15_71_20 rfl (fun c5 => ?_) (fun c5 => ?_)
    ·
      replace h := (if_pos c5).symm.trans hX
      refine lv_aload_n hx hb d15_71_36 rfl (lv_at hl 0 rfl) ?_
      obtain ⟨st10, hc, h⟩ := ob h
      refine sV_v (As := []) (rest := []) ⟨hx, hb, hml, hown, hts⟩ (cm_queryName l G Zd q st3 st10 hc _) (kw_V (n := 0) hts k1562 k1559 k15 k1561 ks91 (by decide +kernel) ⟨Nat.le_of_ble_eq_true rfl, Nat.le_of_ble_eq_true rfl⟩) hP hD hK hS hA hZ (va_recv (ci := 13) (q0 := 0) hK hP rfl rfl) rfl hl.1 rfl (Nat.le_of_ble_eq_true rfl) d15_71_37 ⟨Nat.le_of_ble_eq_true rfl, Nat.le_of_ble_eq_true rfl⟩ (fun u9 H locs hp hP hD hS => ?_)
      clear u9
      clear hp
      clear hc
      refine W.eq (g2 := F0 m 40 ls []) rfl ?_
      have hP : va_P G.1 vwCl (wMs q G.2 st10) H := hP
      have hD : va_D A (wMs q G.2 st10) := hD
      refine lv_aload_n hx hb d15_71_40 rfl (lv_at hl 0 rfl) ?_
      refine va_get (D := G.1) (ci := 13) (v := .ref (q 11)) (C := r_13) (T := f_13) (N := 42) (ref := "PagedValuesModel") hx hb hts (fun w h => List.mem_cons_of_mem _ (ly_13 w h)) hown hK hP 0 rfl rfl 19 (by decide) (hts _ (List.mem_cons_of_mem _ k1170)) (fun _ h9 => h9) rfl d15_71_41 ?_
      refine lv_aload_n hx hb d15_71_44 rfl (lv_at hl 0 rfl) ?_
      refine va_get (D := G.1) (ci := 13) (v := .int (st10.1 6)) (C := r_13) (T := f_13) (N := 42) (ref := "PagedValuesModel") hx hb hts (fun w h => List.mem_cons_of_mem _ (ly_13 w h)) hown hK hP 0 rfl rfl 18 (by decide) (hts _ (List.mem_cons_of_mem _ k1169)) (fun _ h9 => h9) rfl d15_71_45 ?_
      refine lv_iconst (v := 0) hx hb d15_71_48 (by decide) ?_
      obtain ⟨k12z, hr, h⟩ := ob h
      obtain ⟨hi, hk⟩ := ix_some hr
      clear hr
      refine va_iast (D := G.1) hx hb hK hP hD hS 11 1 rfl rfl (i := st10.1 6) (x := (0 : Int32)) hi d15_71_49 (fun H locs hP hD hS => ?_)
      rw [hk] at hP hD
      clear hk hi
      have hP : va_P G.1 vwCl (wMs q G.2 (st10.1, st10.2.1, va_up st10.2.2.1 6 (upd (st10.2.2.1 6) k12z (0 : Int32)), st10.2.2.2)) H := hP
      have hD : va_D A (wMs q G.2 (st10.1, st10.2.1, va_up st10.2.2.1 6 (upd (st10.2.2.1 6) k12z (0 : Int32)), st10.2.2.2)) := hD
      refine lv_aload_n hx hb d15_71_50 rfl (lv_at hl 0 rfl) ?_
      refine va_get (D := G.1) (ci := 13) (v := .ref (q 12)) (C := r_13) (T := f_13) (N := 42) (ref := "PagedValuesModel") hx hb hts (fun w h => List.mem_cons_of_mem _ (ly_13 w h)) hown hK hP 0 rfl rfl 20 (by decide) (hts _ (List.mem_cons_of_mem _ k1171)) (fun _ h9 => h9) rfl d15_71_51 ?_
      refine lv_aload_n hx hb d15_71_54 rfl (lv_at hl 0 rfl) ?_
      refine va_get (D := G.1) (ci := 13) (v := .int (st10.1 6)) (C := r_13) (T := f_13) (N := 42) (ref := "PagedValuesModel") hx hb hts (fun w h => List.mem_cons_of_mem _ (ly_13 w h)) hown hK hP 0 rfl rfl 18 (by decide) (hts _ (List.mem_cons_of_mem _ k1169)) (fun _ h9 => h9) rfl d15_71_55 ?_
      refine lv_aload_n hx hb d15_71_58 rfl (lv_at hl 0 rfl) ?_
      refine va_get (D := G.1) (ci := 13) (v := .long (st10.2.1 0)) (C := r_13) (T := f_13) (N := 42) (ref := "PagedValuesModel") hx hb hts (fun w h => List.mem_cons_of_mem _ (ly_13 w h)) hown hK hP 0 rfl rfl 11 (by decide) (hts _ (List.mem_cons_of_mem _ k1162)) (fun _ h9 => h9) rfl d15_71_59 ?_
      obtain ⟨k13z, hr, h⟩ := ob h
      obtain ⟨hi, hk⟩ := ix_some hr
      clear hr
      refine va_last (D := G.1) hx hb hK hP hD hS 12 4 rfl rfl (i := st10.1 6) (x := st10.2.1 0) hi d15_71_62 (fun H locs hP hD hS => ?_)
      rw [hk] at hP hD
      clear hk hi
      have hP : va_P G.1 vwCl (wMs q G.2 (st10.1, st10.2.1, va_up st10.2.2.1 6 (upd (st10.2.2.1 6) k12z (0 : Int32)), va_up st10.2.2.2 4 (vp_updL (st10.2.2.2 4) k13z (st10.2.1 0)))) H := hP
      have hD : va_D A (wMs q G.2 (st10.1, st10.2.1, va_up st10.2.2.1 6 (upd (st10.2.2.1 6) k12z (0 : Int32)), va_up st10.2.2.2 4 (vp_updL (st10.2.2.2 4) k13z (st10.2.1 0)))) := hD
      refine lv_aload_n hx hb d15_71_63 rfl (lv_at hl 0 rfl) ?_
      refine va_get (D := G.1) (ci := 13) (v := .ref (q 13)) (C := r_13) (T := f_13) (N := 42) (ref := "PagedValuesModel") hx hb hts (fun w h => List.mem_cons_of_mem _ (ly_13 w h)) hown hK hP 0 rfl rfl 21 (by decide) (hts _ (List.mem_cons_of_mem _ k1172)) (fun _ h9 => h9) rfl d15_71_64 ?_
      refine lv_aload_n hx hb d15_71_67 rfl (lv_at hl 0 rfl) ?_
      refine va_get (D := G.1) (ci := 13) (v := .int (st10.1 6)) (C := r_13) (T := f_13) (N := 42) (ref := "PagedValuesModel") hx hb hts (fun w h => List.mem_cons_of_mem _ (ly_13 w h)) hown hK hP 0 rfl rfl 18 (by decide) (hts _ (List.mem_cons_of_mem _ k1169)) (fun _ h9 => h9) rfl d15_71_68 ?_
      refine lv_aload_n hx hb d15_71_71 rfl (lv_at hl 0 rfl) ?_
      refine va_get (D := G.1) (ci := 13) (v := .long (st10.2.1 1)) (C := r_13) (T := f_13) (N := 42) (ref := "PagedValuesModel") hx hb hts (fun w h => List.mem_cons_of_mem _ (ly_13 w h)) hown hK hP 0 rfl rfl 12 (by decide) (hts _ (List.mem_cons_of_mem _ k1163)) (fun _ h9 => h9) rfl d15_71_72 ?_
      obtain ⟨k14z, hr, h⟩ := ob h
      obtain ⟨hi, hk⟩ := ix_some hr
      clear hr
      refine va_last (D := G.1) hx hb hK hP hD hS 13 4 rfl rfl (i := st10.1 6) (x := st10.2.1 1) hi d15_71_75 (fun H locs hP hD hS => ?_)
      rw [hk] at hP hD
      clear hk hi
      have hP : va_P G.1 vwCl (wMs q G.2 (st10.1, st10.2.1, va_up st10.2.2.1 6 (upd (st10.2.2.1 6) k12z (0 : Int32)), va_up (va_up st10.2.2.2 4 (vp_updL (st10.2.2.2 4) k13z (st10.2.1 0))) 5 (vp_updL (st10.2.2.2 5) k14z (st10.2.1 1)))) H := hP
      have hD : va_D A (wMs q G.2 (st10.1, st10.2.1, va_up st10.2.2.1 6 (upd (st10.2.2.1 6) k12z (0 : Int32)), va_up (va_up st10.2.2.2 4 (vp_updL (st10.2.2.2 4) k13z (st10.2.1 0))) 5 (vp_updL (st10.2.2.2 5) k14z (st10.2.1 1)))) := hD
      have e9 := Option.some.inj h
      subst e6
      have hl := lv_sub hl (l' := [(0, .ref (q 0))]) [0] rfl
      exact hj _ _ _ hl hP hD hS
    ·
      replace h := (if_neg c5).symm.trans hX
      refine lv_aload_n hx hb d15_71_23 rfl (lv_at hl 0 rfl) ?_
      refine va_get (D := G.1) (ci := 13) (v := .ref (q 11)) (C := r_13) (T := f_13) (N := 42) (ref := "PagedValuesModel") hx hb hts (fun w h => List.mem_cons_of_mem _ (ly_13 w h)) hown hK hP 0 rfl rfl 19 (by decide) (hts _ (List.mem_cons_of_mem _ k1170)) (fun _ h9 => h9) rfl d15_71_24 ?_
      refine lv_aload_n hx hb d15_71_27 rfl (lv_at hl 0 rfl) ?_
      refine va_get (D := G.1) (ci := 13) (v := .int (st3.1 6)) (C := r_13) (T := f_13) (N := 42) (ref := "PagedValuesModel") hx hb hts (fun w h => List.mem_cons_of_mem _ (ly_13 w h)) hown hK hP 0 rfl rfl 18 (by decide) (hts _ (List.mem_cons_of_mem _ k1169)) (fun _ h9 => h9) rfl d15_71_28 ?_
      refine lv_iconst (v := 1) hx hb d15_71_31 (by decide) ?_
      obtain ⟨k15z, hr, h⟩ := ob h
      obtain ⟨hi, hk⟩ := ix_some hr
      clear hr
      refine va_iast (D := G.1) hx hb hK hP hD hS 11 1 rfl rfl (i := st3.1 6) (x := (1 : Int32)) hi d15_71_32 (fun H locs hP hD hS => ?_)
      rw [hk] at hP hD
      clear hk hi
      have hP : va_P G.1 vwCl (wMs q G.2 (st3.1, st3.2.1, va_up st3.2.2.1 6 (upd (st3.2.2.1 6) k15z (1 : Int32)), st3.2.2.2)) H := hP
      have hD : va_D A (wMs q G.2 (st3.1, st3.2.1, va_up st3.2.2.1 6 (upd (st3.2.2.1 6) k15z (1 : Int32)), st3.2.2.2)) := hD
      refine lv_goto (tgt := 76) hx hb d15_71_33 rfl ?_
      have e9 := Option.some.inj h
      subst e6
      have hl := lv_sub hl (l' := [(0, .ref (q 0))]) [0] rfl
      exact hj _ _ _ hl hP hD hS
  ·
    replace h := (if_pos c1).symm.trans h
    refine lv_aload_n hx hb d15_71_9 rfl (lv_at hl 0 rfl) ?_
    obtain ⟨st17, hc, h⟩ := ob h
    refine sV_v (As := []) (rest := []) ⟨hx, hb, hml, hown, hts⟩ (cm_fault l G Zd q st st17 hc _) (kw_V (n := 0) hts k1320 k1317 k15 k1319 ks40 (by decide +kernel) ⟨Nat.le_of_ble_eq_true rfl, Nat.le_of_ble_eq_true rfl⟩) hP hD hK hS hA hZ (va_recv (ci := 13) (q0 := 0) hK hP rfl rfl) rfl hl.1 rfl (Nat.le_of_ble_eq_true rfl) d15_71_10 ⟨Nat.le_of_ble_eq_true rfl, Nat.le_of_ble_eq_true rfl⟩ (fun u9 H locs hp hP hD hS => ?_)
    clear u9
    clear hp
    clear hc
    refine W.eq (g2 := F0 m 13 ls []) rfl ?_
    have hP : va_P G.1 vwCl (wMs q G.2 st17) H := hP
    have hD : va_D A (wMs q G.2 st17) := hD
    cases h
    exact fin_v hx hb hr hlk hS () trivial hP hD (Nat.le_of_ble_eq_true rfl) (Nat.le_of_ble_eq_true rfl) d15_71_13
def m_segment_l1  : Nat → (Int32 × Int32 × MS) → Option (Int32 × Int32 × MS)
  | 0, _ => none
  | n9 + 1, e9 => if (10 : Int32) ≤ e9.2.1 then (some (e9.1, e9.2.1, e9.2.2)) else (if e9.1 = (0 : Int32) then (some (e9.1, e9.2.1, e9.2.2)) else (if (0 : Int32) ≤ (e9.2.2.1 2) then (some (e9.1, e9.2.1, e9.2.2)) else ((m_selector e9.2.2).bind fun st38 => (m_takes (44 : Int32) st38).bind fun r42 => m_segment_l1  n9 (r42.1, e9.2.1 + 1, r42.2))))
theorem m_segment_l1_s  (n9 : Nat) (e9 : Int32 × Int32 × MS) : m_segment_l1  (n9 + 1) e9 = (if (10 : Int32) ≤ e9.2.1 then (some (e9.1, e9.2.1, e9.2.2)) else (if e9.1 = (0 : Int32) then (some (e9.1, e9.2.1, e9.2.2)) else (if (0 : Int32) ≤ (e9.2.2.1 2) then (some (e9.1, e9.2.1, e9.2.2)) else ((m_selector e9.2.2).bind fun st38 => (m_takes (44 : Int32) st38).bind fun r42 => m_segment_l1  n9 (r42.1, e9.2.1 + 1, r42.2))))) := rfl
def m_segment_l2  : Nat → (Int32 × Int32 × MS) → Option (Int32 × Int32 × MS)
  | 0, _ => none
  | n9 + 1, e9 => if (10 : Int32) ≤ e9.2.1 then (some (e9.1, e9.2.1, e9.2.2)) else (if e9.1 = (0 : Int32) then (some (e9.1, e9.2.1, e9.2.2)) else (if (0 : Int32) ≤ (e9.2.2.1 2) then (some (e9.1, e9.2.1, e9.2.2)) else ((m_selector e9.2.2).bind fun st73 => (m_takes (44 : Int32) st73).bind fun r77 => m_segment_l2  n9 (r77.1, e9.2.1 + 1, r77.2))))
theorem m_segment_l2_s  (n9 : Nat) (e9 : Int32 × Int32 × MS) : m_segment_l2  (n9 + 1) e9 = (if (10 : Int32) ≤ e9.2.1 then (some (e9.1, e9.2.1, e9.2.2)) else (if e9.1 = (0 : Int32) then (some (e9.1, e9.2.1, e9.2.2)) else (if (0 : Int32) ≤ (e9.2.2.1 2) then (some (e9.1, e9.2.1, e9.2.2)) else ((m_selector e9.2.2).bind fun st73 => (m_takes (44 : Int32) st73).bind fun r77 => m_segment_l2  n9 (r77.1, e9.2.1 + 1, r77.2))))) := rfl
def m_segment (st : MS) : Option (MS) := (ix 9 (st.1 5)).bind fun k1z => (some (vp_nar .boolean (0 : Int32))).bind fun y2 => (m_takes (46 : Int32) (st.1, st.2.1, va_up st.2.2.1 4 (upd (st.2.2.1 4) k1z y2), st.2.2.2)).bind fun r5 => (if r5.1 = (0 : Int32) then (some r5.2) else ((m_takes (46 : Int32) r5.2).bind fun r83 => (ix 9 (r5.2.1 5)).bind fun k84z => (some (vp_nar .boolean r83.1)).bind fun y85 => some (r83.2.1, r83.2.2.1, va_up r83.2.2.2.1 4 (upd (r83.2.2.2.1 4) k84z y85), r83.2.2.2.2))).bind fun e7 => (if r5.1 = (0 : Int32) then ((m_must (91 : Int32) e7).bind fun st18 => (if (0 : Int32) ≤ (st18.1 2) then (some (0 : Int32)) else (some (1 : Int32))).bind fun e21 => (m_segment_l1  4096 (e21, (0 : Int32), st18)).bind fun e23 => (m_must (93 : Int32) e23.2.2).bind fun st32 => some st32) else ((rd (e7.2.2.1 4) 9 (e7.1 5)).bind fun x43 => if x43 = (0 : Int32) then ((m_shortSegment e7).bind fun st46 => some st46) else ((m_sees (91 : Int32) e7).bind fun x48 => if x48 = (0 : Int32) then ((m_shortSegment e7).bind fun st79 => some st79) else ((m_must (91 : Int32) e7).bind fun st53 => (if (0 : Int32) ≤ (st53.1 2) then (some (0 : Int32)) else (some (1 : Int32))).bind fun e56 => (m_segment_l2  4096 (e56, (0 : Int32), st53)).bind fun e58 => (m_must (93 : Int32) e58.2.2).bind fun st67 => some st67)))).bind fun e10 => (if (0 : Int32) ≤ (e10.1 2) then (some e10) else ((ix 8 (e10.1 5)).bind fun k15z => (some ((e10.1 5) + 1)).bind fun y16 => some (upd e10.1 5 y16, e10.2.1, va_up e10.2.2.1 5 (upd (e10.2.2.1 5) k15z (e10.1 6)), e10.2.2.2))).bind fun e13 => some e13
set_option maxHeartbeats 4000000 in
set_option maxRecDepth 100000 in
theorem cm_segment (l : Launch) (G : Gk) (Zd : Nat → Nat) (q : Nat → Nat) (st : MS) (st0 : MS) (hm : m_segment st = some st0) (sz : Nat) : Met l y15_70 (Cond.code y15_70 prog_15_method_70_code 4 none :: TB) (rmD 5 0 0) (va_Pc [.ref (q 0)] (pcW G Zd (wMs q G.2 st) sz)) (qV G (fun (_ : Unit) => True) (fun _ => (wMs q G.2 st0)) (va_A (wMs q G.2 st) sz)) 0 0 (va_A (wMs q G.2 st) sz) := by
  refine go (y := y15_70) (cc := prog_15_method_70_code) (maxL := 4) (ret := none) (av := [.ref (q 0)]) (Qc := qV G (fun (_ : Unit) => True) (fun _ => (wMs q G.2 st0))) "PagedValuesModel" rfl (by decide) (Nat.le_of_ble_eq_true rfl) ?_
  intro p e s m below meth c ls A hx hb hr hlk hml hown hts hin hl hP hD hK hS hA hZ
  have hl : lv_has ls 4 [(0, .ref (q 0))] := hl
  have h := hm
  clear hm
  refine lv_aload_n hx hb d15_70_0 rfl (lv_at hl 0 rfl) ?_
  refine va_get (D := G.1) (ci := 13) (v := .ref (q 9)) (C := r_13) (T := f_13) (N := 42) (ref := "PagedValuesModel") hx hb hts (fun w h => List.mem_cons_of_mem _ (ly_13 w h)) hown hK hP 0 rfl rfl 16 (by decide) (hts _ (List.mem_cons_of_mem _ k1167)) (fun _ h9 => h9) rfl d15_70_1 ?_
  refine lv_aload_n hx hb d15_70_4 rfl (lv_at hl 0 rfl) ?_
  refine va_get (D := G.1) (ci := 13) (v := .int (st.1 5)) (C := r_13) (T := f_13) (N := 42) (ref := "PagedValuesModel") hx hb hts (fun w h => List.mem_cons_of_mem _ (ly_13 w h)) hown hK hP 0 rfl rfl 15 (by decide) (hts _ (List.mem_cons_of_mem _ k1166)) (fun _ h9 => h9) rfl d15_70_5 ?_
  refine lv_iconst (v := 0) hx hb d15_70_8 (by decide) ?_
  obtain ⟨k1z, hr, h⟩ := ob h
  obtain ⟨hi, hk⟩ := ix_some hr
  clear hr
  refine va_zast (D := G.1) hx hb hK hP hD hS 9 3 rfl rfl (i := st.1 5) (x := (0 : Int32)) hi d15_70_9 (fun H locs hP hD hS => ?_)
  rw [hk] at hP hD
  clear hk hi
  obtain ⟨y2, hr, h⟩ := ob h
  rw [Option.some.inj hr] at hP hD
  clear hr
  have hP : va_P G.1 vwCl (wMs q G.2 (st.1, st.2.1, va_up st.2.2.1 4 (upd (st.2.2.1 4) k1z y2), st.2.2.2)) H := hP
  have hD : va_D A (wMs q G.2 (st.1, st.2.1, va_up st.2.2.1 4 (upd (st.2.2.1 4) k1z y2), st.2.2.2)) := hD
  refine lv_aload_n hx hb d15_70_10 rfl (lv_at hl 0 rfl) ?_
  refine lv_bipush (v := 46) hx hb d15_70_11 (by decide) ?_
  obtain ⟨⟨x3, st4⟩, hc, h⟩ := ob h
  refine sV_i (As := [.int 46]) (rest := []) ⟨hx, hb, hml, hown, hts⟩ (cm_takes l G Zd q (46 : Int32) (st.1, st.2.1, va_up st.2.2.1 4 (upd (st.2.2.1 4) k1z y2), st.2.2.2) x3 st4 hc _) (kw_V (n := 1) hts k1359 k1356 k15 k1358 ks48 (by decide +kernel) ⟨Nat.le_of_ble_eq_true rfl, Nat.le_of_ble_eq_true rfl⟩) hP hD hK hS hA hZ (va_recv (ci := 13) (q0 := 0) hK hP rfl rfl) rfl hl.1 rfl (Nat.le_of_ble_eq_true rfl) d15_70_13 ⟨Nat.le_of_ble_eq_true rfl, Nat.le_of_ble_eq_true rfl⟩ (fun rr u9 H locs hp hP hD hS => ?_)
  clear u9
  subst rr
  clear hc
  refine W.eq (g2 := F0 m 16 ls [.int x3]) rfl ?_
  have hP : va_P G.1 vwCl (wMs q G.2 st4) H := hP
  have hD : va_D A (wMs q G.2 st4) := hD
  refine lv_istore_n (lv' := [(1, .int x3), (0, .ref (q 0))]) hx hb d15_70_16 rfl hl (by decide) rfl (fun ls hl => ?_)
  refine lv_iload_n hx hb d15_70_17 rfl (lv_at hl 0 rfl) ?_
  obtain ⟨e7, hX, h⟩ := ob h
  have hj : ∀ (H : Heap) (locs : List Loc) (ls : Array Slot), lv_has ls 4 [(0, .ref (q 0)), (1, .int x3)] → va_P G.1 vwCl (wMs q G.2 e7) H → va_D A (wMs q G.2 e7) → va_S A s.heap H locs → W p l e (rmD 5 0 0) s m ([.ref (q 0)] : List Value).toArray below meth c H locs 0 0 (MQ below (qV G (fun (_ : Unit) => True) (fun _ => (wMs q G.2 st0)) A) ([.ref (q 0)] : List Value).toArray s 0 0 A) (F0 m 36 ls []) := by
    intro H locs ls hl hP hD hS
    refine lv_iload_n hx hb d15_70_36 rfl (lv_at hl 1 rfl) ?_
    obtain ⟨e10, hX, h⟩ := ob h
    have hj : ∀ (H : Heap) (locs : List Loc) (ls : Array Slot), lv_has ls 4 [(0, .ref (q 0)), (1, .int x3)] → va_P G.1 vwCl (wMs q G.2 e10) H → va_D A (wMs q G.2 e10) → va_S A s.heap H locs → W p l e (rmD 5 0 0) s m ([.ref (q 0)] : List Value).toArray below meth c H locs 0 0 (MQ below (qV G (fun (_ : Unit) => True) (fun _ => (wMs q G.2 st0)) A) ([.ref (q 0)] : List Value).toArray s 0 0 A) (F0 m 129 ls []) := by
      intro H locs ls hl hP hD hS
      refine lv_aload_n hx hb d15_70_129 rfl (lv_at hl 0 rfl) ?_
      refine va_get (D := G.1) (ci := 13) (v := .int (e10.1 2)) (C := r_13) (T := f_13) (N := 42) (ref := "PagedValuesModel") hx hb hts (fun w h => List.mem_cons_of_mem _ (ly_13 w h)) hown hK hP 0 rfl rfl 3 (by decide) (hts _ (List.mem_cons_of_mem _ k1154)) (fun _ h9 => h9) rfl d15_70_130 ?_
      obtain ⟨e13, hX, h⟩ := ob h
      have hj : ∀ (H : Heap) (locs : List Loc) (ls : Array Slot), lv_has ls 4 [(0, .ref (q 0)), (1, .int x3)] → va_P G.1 vwCl (wMs q G.2 e13) H → va_D A (wMs q G.2 e13) → va_S A s.heap H locs → W p l e (rmD 5 0 0) s m ([.ref (q 0)] : List Value).toArray below meth c H locs 0 0 (MQ below (qV G (fun (_ : Unit) => True) (fun _ => (wMs q G.2 st0)) A) ([.ref (q 0)] : List Value).toArray s 0 0 A) (F0 m 159 ls []) := by
        intro H locs ls hl hP hD hS
        cases h
        exact fin_v hx hb hr hlk hS () trivial hP hD (Nat.le_of_ble_eq_true rfl) (Nat.le_of_ble_eq_true rfl) d15_70_159
      clear h
      refine lv_if_ge (tgt := 159) hx hb d15_70_133 rfl (fun c12 => ?_) (fun c12 => ?_)
      ·
        replace h := (if_pos c12).symm.trans hX
        have e9 := Option.some.inj h
        subst e13
        have hl := lv_sub hl (l' := [(0, .ref (q 0)), (1, .int x3)]) [0, 1] rfl
        exact hj _ _ _ hl hP hD hS
      ·
        replace h := (if_neg c12).symm.trans hX
        refine lv_aload_n hx hb d15_70_136 rfl (lv_at hl 0 rfl) ?_
        refine va_get (D := G.1) (ci := 13) (v := .ref (q 10)) (C := r_13) (T := f_13) (N := 42) (ref := "PagedValuesModel") hx hb hts (fun w h => List.mem_cons_of_mem _ (ly_13 w h)) hown hK hP 0 rfl rfl 17 (by decide) (hts _ (List.mem_cons_of_mem _ k1168)) (fun _ h9 => h9) rfl d15_70_137 ?_
        refine lv_aload_n hx hb d15_70_140 rfl (lv_at hl 0 rfl) ?_
        refine va_get (D := G.1) (ci := 13) (v := .int (e10.1 5)) (C := r_13) (T := f_13) (N := 42) (ref := "PagedValuesModel") hx hb hts (fun w h => List.mem_cons_of_mem _ (ly_13 w h)) hown hK hP 0 rfl rfl 15 (by decide) (hts _ (List.mem_cons_of_mem _ k1166)) (fun _ h9 => h9) rfl d15_70_141 ?_
        refine lv_aload_n hx hb d15_70_144 rfl (lv_at hl 0 rfl) ?_
        refine va_get (D := G.1) (ci := 13) (v := .int (e10.1 6)) (C := r_13) (T := f_13) (N := 42) (ref := "PagedValuesModel") hx hb hts (fun w h => List.mem_cons_of_mem _ (ly_13 w h)) hown hK hP 0 rfl rfl 18 (by decide) (hts _ (List.mem_cons_of_mem _ k1169)) (fun _ h9 => h9) rfl d15_70_145 ?_
        obtain ⟨k15z, hr, h⟩ := ob h
        obtain ⟨hi, hk⟩ := ix_some hr
        clear hr
        refine va_iast (D := G.1) hx hb hK hP hD hS 10 1 rfl rfl (i := e10.1 5) (x := e10.1 6) hi d15_70_148 (fun H locs hP hD hS => ?_)
        rw [hk] at hP hD
        clear hk hi
        have hP : va_P G.1 vwCl (wMs q G.2 (e10.1, e10.2.1, va_up e10.2.2.1 5 (upd (e10.2.2.1 5) k15z (e10.1 6)), e10.2.2.2)) H := hP
        have hD : va_D A (wMs q G.2 (e10.1, e10.2.1, va_up e10.2.2.1 5 (upd (e10.2.2.1 5) k15z (e10.1 6)), e10.2.2.2)) := hD
        refine lv_aload_n hx hb d15_70_149 rfl (lv_at hl 0 rfl) ?_
        refine lv_dup hx hb d15_70_150 rfl ?_
        refine va_get (D := G.1) (ci := 13) (v := .int (e10.1 5)) (C := r_13) (T := f_13) (N := 42) (ref := "PagedValuesModel") hx hb hts (fun w h => List.mem_cons_of_mem _ (ly_13 w h)) hown hK hP 0 rfl rfl 15 (by decide) (hts _ (List.mem_cons_of_mem _ k1166)) (fun _ h9 => h9) rfl d15_70_151 ?_
        refine lv_iconst (v := 1) hx hb d15_70_154 (by decide) ?_
        refine lv_iadd hx hb d15_70_155 ?_
        obtain ⟨y16, hr, h⟩ := ob h
        refine lv_topi (fun y9 ey => ?_)
        have e9 := ey.trans (Option.some.inj hr)
        clear ey
        subst y9
        clear hr
        refine va_put (D := G.1) (ci := 13) (v := .int y16) (ty := .int) (C := r_13) (T := f_13) (N := 42) (ref := "PagedValuesModel") hx hb hts (fun w h => List.mem_cons_of_mem _ (ly_13 w h)) ft_13 ft_13_ok nm_13 hown hK hP hD hS 0 rfl rfl 15 (by decide) (hts _ (List.mem_cons_of_mem _ k1166)) (fun _ h9 => h9) rfl (by decide +kernel) rfl rfl (Nat.le_of_ble_eq_true rfl) d15_70_156 (fun H locs hP hD hS => ?_)
        have hP : va_P G.1 vwCl (wMs q G.2 (upd e10.1 5 y16, e10.2.1, va_up e10.2.2.1 5 (upd (e10.2.2.1 5) k15z (e10.1 6)), e10.2.2.2)) H := hP
        have hD : va_D A (wMs q G.2 (upd e10.1 5 y16, e10.2.1, va_up e10.2.2.1 5 (upd (e10.2.2.1 5) k15z (e10.1 6)), e10.2.2.2)) := hD
        have e9 := Option.some.inj h
        subst e13
        have hl := lv_sub hl (l' := [(0, .ref (q 0)), (1, .int x3)]) [0, 1] rfl
        exact hj _ _ _ hl hP hD hS
    clear h
    refine lv_if_eq (tgt := 68) hx hb d15_70_37 rfl (fun c9 => ?_) (fun c9 => ?_)
    ·
      replace h := (if_pos c9).symm.trans hX
      refine lv_aload_n hx hb d15_70_68 rfl (lv_at hl 0 rfl) ?_
      refine lv_bipush (v := 91) hx hb d15_70_69 (by decide) ?_
      obtain ⟨st18, hc, h⟩ := ob h
      refine sV_v (As := [.int 91]) (rest := []) ⟨hx, hb, hml, hown, hts⟩ (cm_must l G Zd q (91 : Int32) e7 st18 hc _) (kw_V (n := 1) hts k1336 k1333 k15 k1335 ks44 (by decide +kernel) ⟨Nat.le_of_ble_eq_true rfl, Nat.le_of_ble_eq_true rfl⟩) hP hD hK hS hA hZ (va_recv (ci := 13) (q0 := 0) hK hP rfl rfl) rfl hl.1 rfl (Nat.le_of_ble_eq_true rfl) d15_70_71 ⟨Nat.le_of_ble_eq_true rfl, Nat.le_of_ble_eq_true rfl⟩ (fun u9 H locs hp hP hD hS => ?_)
      clear u9
      clear hp
      clear hc
      refine W.eq (g2 := F0 m 74 ls []) rfl ?_
      have hP : va_P G.1 vwCl (wMs q G.2 st18) H := hP
      have hD : va_D A (wMs q G.2 st18) := hD
      refine lv_aload_n hx hb d15_70_74 rfl (lv_at hl 0 rfl) ?_
      refine va_get (D := G.1) (ci := 13) (v := .int (st18.1 2)) (C := r_13) (T := f_13) (N := 42) (ref := "PagedValuesModel") hx hb hts (fun w h => List.mem_cons_of_mem _ (ly_13 w h)) hown hK hP 0 rfl rfl 3 (by decide) (hts _ (List.mem_cons_of_mem _ k1154)) (fun _ h9 => h9) rfl d15_70_75 ?_
      obtain ⟨e21, hX, h⟩ := ob h
      have hj : ∀ (H : Heap) (locs : List Loc) (ls : Array Slot), lv_has ls 4 [(0, .ref (q 0)), (1, .int x3)] → va_P G.1 vwCl (wMs q G.2 st18) H → va_D A (wMs q G.2 st18) → va_S A s.heap H locs → W p l e (rmD 5 0 0) s m ([.ref (q 0)] : List Value).toArray below meth c H locs 0 0 (MQ below (qV G (fun (_ : Unit) => True) (fun _ => (wMs q G.2 st0)) A) ([.ref (q 0)] : List Value).toArray s 0 0 A) (F0 m 86 ls [.int e21]) := by
        intro H locs ls hl hP hD hS
        refine lv_istore_n (lv' := [(2, .int e21), (0, .ref (q 0)), (1, .int x3)]) hx hb d15_70_86 rfl hl (by decide) rfl (fun ls hl => ?_)
        refine lv_iconst (v := 0) hx hb d15_70_87 (by decide) ?_
        refine lv_istore_n (lv' := [(3, .int 0), (2, .int e21), (0, .ref (q 0)), (1, .int x3)]) hx hb d15_70_88 rfl hl (by decide) rfl (fun ls hl => ?_)
        obtain ⟨e23, hX, hrest⟩ := ob h
        clear h
        have hj : ∀ (v28 : Int32) (v29 : Int32) (v30 : MS), e23 = (v28, v29, v30) → ∀ (H : Heap) (locs : List Loc) (ls : Array Slot), lv_has ls 4 [(0, .ref (q 0)), (1, .int x3), (2, .int v28), (3, .int v29)] → va_P G.1 vwCl (wMs q G.2 v30) H → va_D A (wMs q G.2 v30) → va_S A s.heap H locs → W p l e (rmD 5 0 0) s m ([.ref (q 0)] : List Value).toArray below meth c H locs 0 0 (MQ below (qV G (fun (_ : Unit) => True) (fun _ => (wMs q G.2 st0)) A) ([.ref (q 0)] : List Value).toArray s 0 0 A) (F0 m 123 ls []) := by
          intro v28 v29 v30 he H locs ls hl hP hD hS
          subst e23
          have h := hrest
          refine lv_aload_n hx hb d15_70_123 rfl (lv_at hl 0 rfl) ?_
          refine lv_bipush (v := 93) hx hb d15_70_124 (by decide) ?_
          obtain ⟨st32, hc, h⟩ := ob h
          refine sV_v (As := [.int 93]) (rest := []) ⟨hx, hb, hml, hown, hts⟩ (cm_must l G Zd q (93 : Int32) v30 st32 hc _) (kw_V (n := 1) hts k1336 k1333 k15 k1335 ks44 (by decide +kernel) ⟨Nat.le_of_ble_eq_true rfl, Nat.le_of_ble_eq_true rfl⟩) hP hD hK hS hA hZ (va_recv (ci := 13) (q0 := 0) hK hP rfl rfl) rfl hl.1 rfl (Nat.le_of_ble_eq_true rfl) d15_70_126 ⟨Nat.le_of_ble_eq_true rfl, Nat.le_of_ble_eq_true rfl⟩ (fun u9 H locs hp hP hD hS => ?_)
          clear u9
          clear hp
          clear hc
          refine W.eq (g2 := F0 m 129 ls []) rfl ?_
          have hP : va_P G.1 vwCl (wMs q G.2 st32) H := hP
          have hD : va_D A (wMs q G.2 st32) := hD
          have e9 := Option.some.inj h
          subst e10
          have hl := lv_sub hl (l' := [(0, .ref (q 0)), (1, .int x3)]) [0, 1] rfl
          exact hj _ _ _ hl hP hD hS
        have hloop : ∀ (n9 : Nat) (v24 : Int32) (v25 : Int32) (v26 : MS), m_segment_l1  n9 (v24, v25, v26) = some e23 → ∀ (H : Heap) (locs : List Loc) (ls : Array Slot), lv_has ls 4 [(0, .ref (q 0)), (1, .int x3), (2, .int v24), (3, .int v25)] → va_P G.1 vwCl (wMs q G.2 v26) H → va_D A (wMs q G.2 v26) → va_S A s.heap H locs → W p l e (rmD 5 0 0) s m ([.ref (q 0)] : List Value).toArray below meth c H locs 0 0 (MQ below (qV G (fun (_ : Unit) => True) (fun _ => (wMs q G.2 st0)) A) ([.ref (q 0)] : List Value).toArray s 0 0 A) (F0 m 89 ls []) := by
          intro n9
          induction n9 with
          | zero =>
            intro v24 v25 v26 h
            cases h
          | succ n9 ih =>
            intro v24 v25 v26 h H locs ls hl hP hD hS
            replace h := (m_segment_l1_s  n9 (v24, v25, v26)).symm.trans h
            refine lv_iload_n hx hb d15_70_89 rfl (lv_at hl 3 rfl) ?_
            refine lv_bipush (v := 10) hx hb d15_70_90 (by decide) ?_
            refine lv_icmp_ge (tgt := 123) hx hb d15_70_92 rfl (fun c34 => ?_) (fun c34 => ?_)
            ·
              replace h := (if_pos c34).symm.trans h
              have e9 := Option.some.inj h
              subst e23
              have hl := lv_sub hl (l' := [(0, .ref (q 0)), (1, .int x3), (2, .int v24), (3, .int v25)]) [0, 1, 2, 3] rfl
              exact hj _ _ _ rfl _ _ _ hl hP hD hS
            ·
              replace h := (if_neg c34).symm.trans h
              refine lv_iload_n hx hb d15_70_95 rfl (lv_at hl 2 rfl) ?_
              refine lv_if_eq (tgt := 123) hx hb d15_70_96 rfl (fun c35 => ?_) (fun c35 => ?_)
              ·
                replace h := (if_pos c35).symm.trans h
                have e9 := Option.some.inj h
                subst e23
                have hl := lv_sub hl (l' := [(0, .ref (q 0)), (1, .int x3), (2, .int v24), (3, .int v25)]) [0, 1, 2, 3] rfl
                exact hj _ _ _ rfl _ _ _ hl hP hD hS
              ·
                replace h := (if_neg c35).symm.trans h
                refine lv_aload_n hx hb d15_70_99 rfl (lv_at hl 0 rfl) ?_
                refine va_get (D := G.1) (ci := 13) (v := .int (v26.1 2)) (C := r_13) (T := f_13) (N := 42) (ref := "PagedValuesModel") hx hb hts (fun w h => List.mem_cons_of_mem _ (ly_13 w h)) hown hK hP 0 rfl rfl 3 (by decide) (hts _ (List.mem_cons_of_mem _ k1154)) (fun _ h9 => h9) rfl d15_70_100 ?_
                refine lv_if_ge (tgt := 123) hx hb d15_70_103 rfl (fun c36 => ?_) (fun c36 => ?_)
                ·
                  replace h := (if_pos c36).symm.trans h
                  have e9 := Option.some.inj h
                  subst e23
                  have hl := lv_sub hl (l' := [(0, .ref (q 0)), (1, .int x3), (2, .int v24), (3, .int v25)]) [0, 1, 2, 3] rfl
                  exact hj _ _ _ rfl _ _ _ hl hP hD hS
                ·
                  replace h := (if_neg c36).symm.trans h
                  refine lv_aload_n hx hb d15_70_106 rfl (lv_at hl 0 rfl) ?_
                  obtain ⟨st38, hc, h⟩ := ob h
                  refine sV_v (As := []) (rest := []) ⟨hx, hb, hml, hown, hts⟩ (cm_selector l G Zd q v26 st38 hc _) (kw_V (n := 0) hts k1569 k1566 k15 k1568 ks92 (by decide +kernel) ⟨Nat.le_of_ble_eq_true rfl, Nat.le_of_ble_eq_true rfl⟩) hP hD hK hS hA hZ (va_recv (ci := 13) (q0 := 0) hK hP rfl rfl) rfl hl.1 rfl (Nat.le_of_ble_eq_true rfl) d15_70_107 ⟨Nat.le_of_ble_eq_true rfl, Nat.le_of_ble_eq_true rfl⟩ (fun u9 H locs hp hP hD hS => ?_)
                  clear u9
                  clear hp
                  clear hc
                  refine W.eq (g2 := F0 m 110 ls []) rfl ?_
                  have hP : va_P G.1 vwCl (wMs q G.2 st38) H := hP
                  have hD : va_D A (wMs q G.2 st38) := hD
                  refine lv_aload_n hx hb d15_70_110 rfl (lv_at hl 0 rfl) ?_
                  refine lv_bipush (v := 44) hx hb d15_70_111 (by decide) ?_
                  obtain ⟨⟨x40, st41⟩, hc, h⟩ := ob h
                  refine sV_i (As := [.int 44]) (rest := []) ⟨hx, hb, hml, hown, hts⟩ (cm_takes l G Zd q (44 : Int32) st38 x40 st41 hc _) (kw_V (n := 1) hts k1359 k1356 k15 k1358 ks48 (by decide +kernel) ⟨Nat.le_of_ble_eq_true rfl, Nat.le_of_ble_eq_true rfl⟩) hP hD hK hS hA hZ (va_recv (ci := 13) (q0 := 0) hK hP rfl rfl) rfl hl.1 rfl (Nat.le_of_ble_eq_true rfl) d15_70_113 ⟨Nat.le_of_ble_eq_true rfl, Nat.le_of_ble_eq_true rfl⟩ (fun rr u9 H locs hp hP hD hS => ?_)
                  clear u9
                  subst rr
                  clear hc
                  refine W.eq (g2 := F0 m 116 ls [.int x40]) rfl ?_
                  have hP : va_P G.1 vwCl (wMs q G.2 st41) H := hP
                  have hD : va_D A (wMs q G.2 st41) := hD
                  refine lv_istore_n (lv' := [(2, .int x40), (0, .ref (q 0)), (1, .int x3), (3, .int v25)]) hx hb d15_70_116 rfl hl (by decide) rfl (fun ls hl => ?_)
                  refine lv_iinc (k := 3) (v := v25 + 1) (lv' := [(3, .int (v25 + 1)), (2, .int x40), (0, .ref (q 0)), (1, .int x3)]) hx hb d15_70_117 hl rfl (by first | decide | rfl) (by decide) rfl (fun ls hl => ?_)
                  refine lv_goto (tgt := 89) hx hb d15_70_120 rfl ?_
                  have hl := lv_sub hl (l' := [(0, .ref (q 0)), (1, .int x3), (2, .int x40), (3, .int (v25 + 1))]) [2, 3, 1, 0] rfl
                  exact ih _ _ _ h _ _ _ hl hP hD hS
        have hl := lv_sub hl (l' := [(0, .ref (q 0)), (1, .int x3), (2, .int e21), (3, .int 0)]) [2, 3, 1, 0] rfl
        exact hloop _ _ _ _ hX _ _ _ hl hP hD hS
      clear h
      refine lv_if_ge (tgt := 85) hx hb d15_70_78 rfl (fun c20 => ?_) (fun c20 => ?_)
      ·
        replace h := (if_pos c20).symm.trans hX
        refine lv_iconst (v := 0) hx hb d15_70_85 (by decide) ?_
        have e9 := Option.some.inj h
        subst e21
        have hl := lv_sub hl (l' := [(0, .ref (q 0)), (1, .int x3)]) [0, 1] rfl
        exact hj _ _ _ hl hP hD hS
      ·
        replace h := (if_neg c20).symm.trans hX
        refine lv_iconst (v := 1) hx hb d15_70_81 (by decide) ?_
        refine lv_goto (tgt := 86) hx hb d15_70_82 rfl ?_
        have e9 := Option.some.inj h
        subst e21
        have hl := lv_sub hl (l' := [(0, .ref (q 0)), (1, .int x3)]) [0, 1] rfl
        exact hj _ _ _ hl hP hD hS
    ·
      replace h := (if_neg c9).symm.trans hX
      refine lv_aload_n hx hb d15_70_40 rfl (lv_at hl 0 rfl) ?_
      refine va_get (D := G.1) (ci := 13) (v := .ref (q 9)) (C := r_13) (T := f_13) (N := 42) (ref := "PagedValuesModel") hx hb hts (fun w h => List.mem_cons_of_mem _ (ly_13 w h)) hown hK hP 0 rfl rfl 16 (by decide) (hts _ (List.mem_cons_of_mem _ k1167)) (fun _ h9 => h9) rfl d15_70_41 ?_
      refine lv_aload_n hx hb d15_70_44 rfl (lv_at hl 0 rfl) ?_
      refine va_get (D := G.1) (ci := 13) (v := .int (e7.1 5)) (C := r_13) (T := f_13) (N := 42) (ref := "PagedValuesModel") hx hb hts (fun w h => List.mem_cons_of_mem _ (ly_13 w h)) hown hK hP 0 rfl rfl 15 (by decide) (hts _ (List.mem_cons_of_mem _ k1166)) (fun _ h9 => h9) rfl d15_70_45 ?_
      obtain ⟨x43, hr, h⟩ := ob h
      obtain ⟨hi, hv⟩ := rd_some hr
      refine va_zald (D := G.1) hx hb hK hP 9 3 rfl rfl (i := e7.1 5) hi d15_70_48 ?_
      refine lv_topi (fun y9 ey => ?_)
      have e9 := ey.trans hv
      clear ey
      subst y9
      clear hv hi hr
      refine lv_if_eq (tgt := 61) hx hb d15_70_49 rfl (fun c44 => ?_) (fun c44 => ?_)
      ·
        replace h := (if_pos c44).symm.trans h
        refine lv_aload_n hx hb d15_70_61 rfl (lv_at hl 0 rfl) ?_
        obtain ⟨st46, hc, h⟩ := ob h
        refine sV_v (As := []) (rest := []) ⟨hx, hb, hml, hown, hts⟩ (cm_shortSegment l G Zd q e7 st46 hc _) (kw_V (n := 0) hts k1558 k1555 k15 k1557 ks90 (by decide +kernel) ⟨Nat.le_of_ble_eq_true rfl, Nat.le_of_ble_eq_true rfl⟩) hP hD hK hS hA hZ (va_recv (ci := 13) (q0 := 0) hK hP rfl rfl) rfl hl.1 rfl (Nat.le_of_ble_eq_true rfl) d15_70_62 ⟨Nat.le_of_ble_eq_true rfl, Nat.le_of_ble_eq_true rfl⟩ (fun u9 H locs hp hP hD hS => ?_)
        clear u9
        clear hp
        clear hc
        refine W.eq (g2 := F0 m 65 ls []) rfl ?_
        have hP : va_P G.1 vwCl (wMs q G.2 st46) H := hP
        have hD : va_D A (wMs q G.2 st46) := hD
        refine lv_goto (tgt := 129) hx hb d15_70_65 rfl ?_
        have e9 := Option.some.inj h
        subst e10
        have hl := lv_sub hl (l' := [(0, .ref (q 0)), (1, .int x3)]) [0, 1] rfl
        exact hj _ _ _ hl hP hD hS
      ·
        replace h := (if_neg c44).symm.trans h
        refine lv_aload_n hx hb d15_70_52 rfl (lv_at hl 0 rfl) ?_
        refine lv_bipush (v := 91) hx hb d15_70_53 (by decide) ?_
        obtain ⟨x48, hc, h⟩ := ob h
        refine sV_i (As := [.int 91]) (rest := []) ⟨hx, hb, hml, hown, hts⟩ (cm_sees l G Zd q (91 : Int32) e7 x48 hc _) (kw_V (n := 1) hts k1301 k1298 k15 k1300 ks36 (by decide +kernel) ⟨Nat.le_of_ble_eq_true rfl, Nat.le_of_ble_eq_true rfl⟩) hP hD hK hS hA hZ (va_recv (ci := 13) (q0 := 0) hK hP rfl rfl) rfl hl.1 rfl (Nat.le_of_ble_eq_true rfl) d15_70_55 ⟨Nat.le_of_ble_eq_true rfl, Nat.le_of_ble_eq_true rfl⟩ (fun rr u9 H locs hp hP hD hS => ?_)
        clear u9
        subst rr
        clear hc
        refine W.eq (g2 := F0 m 58 ls [.int x48]) rfl ?_
        have hP : va_P G.1 vwCl (wMs q G.2 e7) H := hP
        have hD : va_D A (wMs q G.2 e7) := hD
        refine lv_if_ne (tgt := 68) hx hb d15_70_58 rfl (fun c51 => ?_) (fun c51 => ?_)
        ·
          replace h := (if_neg c51).symm.trans h
          refine lv_aload_n hx hb d15_70_68 rfl (lv_at hl 0 rfl) ?_
          refine lv_bipush (v := 91) hx hb d15_70_69 (by decide) ?_
          obtain ⟨st53, hc, h⟩ := ob h
          refine sV_v (As := [.int 91]) (rest := []) ⟨hx, hb, hml, hown, hts⟩ (cm_must l G Zd q (91 : Int32) e7 st53 hc _) (kw_V (n := 1) hts k1336 k1333 k15 k1335 ks44 (by decide +kernel) ⟨Nat.le_of_ble_eq_true rfl, Nat.le_of_ble_eq_true rfl⟩) hP hD hK hS hA hZ (va_recv (ci := 13) (q0 := 0) hK hP rfl rfl) rfl hl.1 rfl (Nat.le_of_ble_eq_true rfl) d15_70_71 ⟨Nat.le_of_ble_eq_true rfl, Nat.le_of_ble_eq_true rfl⟩ (fun u9 H locs hp hP hD hS => ?_)
          clear u9
          clear hp
          clear hc
          refine W.eq (g2 := F0 m 74 ls []) rfl ?_
          have hP : va_P G.1 vwCl (wMs q G.2 st53) H := hP
          have hD : va_D A (wMs q G.2 st53) := hD
          refine lv_aload_n hx hb d15_70_74 rfl (lv_at hl 0 rfl) ?_
          refine va_get (D := G.1) (ci := 13) (v := .int (st53.1 2)) (C := r_13) (T := f_13) (N := 42) (ref := "PagedValuesModel") hx hb hts (fun w h => List.mem_cons_of_mem _ (ly_13 w h)) hown hK hP 0 rfl rfl 3 (by decide) (hts _ (List.mem_cons_of_mem _ k1154)) (fun _ h9 => h9) rfl d15_70_75 ?_
          obtain ⟨e56, hX, h⟩ := ob h
          have hj : ∀ (H : Heap) (locs : List Loc) (ls : Array Slot), lv_has ls 4 [(0, .ref (q 0)), (1, .int x3)] → va_P G.1 vwCl (wMs q G.2 st53) H → va_D A (wMs q G.2 st53) → va_S A s.heap H locs → W p l e (rmD 5 0 0) s m ([.ref (q 0)] : List Value).toArray below meth c H locs 0 0 (MQ below (qV G (fun (_ : Unit) => True) (fun _ => (wMs q G.2 st0)) A) ([.ref (q 0)] : List Value).toArray s 0 0 A) (F0 m 86 ls [.int e56]) := by
            intro H locs ls hl hP hD hS
            refine lv_istore_n (lv' := [(2, .int e56), (0, .ref (q 0)), (1, .int x3)]) hx hb d15_70_86 rfl hl (by decide) rfl (fun ls hl => ?_)
            refine lv_iconst (v := 0) hx hb d15_70_87 (by decide) ?_
            refine lv_istore_n (lv' := [(3, .int 0), (2, .int e56), (0, .ref (q 0)), (1, .int x3)]) hx hb d15_70_88 rfl hl (by decide) rfl (fun ls hl => ?_)
            obtain ⟨e58, hX, hrest⟩ := ob h
            clear h
            have hj : ∀ (v63 : Int32) (v64 : Int32) (v65 : MS), e58 = (v63, v64, v65) → ∀ (H : Heap) (locs : List Loc) (ls : Array Slot), lv_has ls 4 [(0, .ref (q 0)), (1, .int x3), (2, .int v63), (3, .int v64)] → va_P G.1 vwCl (wMs q G.2 v65) H → va_D A (wMs q G.2 v65) → va_S A s.heap H locs → W p l e (rmD 5 0 0) s m ([.ref (q 0)] : List Value).toArray below meth c H locs 0 0 (MQ below (qV G (fun (_ : Unit) => True) (fun _ => (wMs q G.2 st0)) A) ([.ref (q 0)] : List Value).toArray s 0 0 A) (F0 m 123 ls []) := by
              intro v63 v64 v65 he H locs ls hl hP hD hS
              subst e58
              have h := hrest
              refine lv_aload_n hx hb d15_70_123 rfl (lv_at hl 0 rfl) ?_
              refine lv_bipush (v := 93) hx hb d15_70_124 (by decide) ?_
              obtain ⟨st67, hc, h⟩ := ob h
              refine sV_v (As := [.int 93]) (rest := []) ⟨hx, hb, hml, hown, hts⟩ (cm_must l G Zd q (93 : Int32) v65 st67 hc _) (kw_V (n := 1) hts k1336 k1333 k15 k1335 ks44 (by decide +kernel) ⟨Nat.le_of_ble_eq_true rfl, Nat.le_of_ble_eq_true rfl⟩) hP hD hK hS hA hZ (va_recv (ci := 13) (q0 := 0) hK hP rfl rfl) rfl hl.1 rfl (Nat.le_of_ble_eq_true rfl) d15_70_126 ⟨Nat.le_of_ble_eq_true rfl, Nat.le_of_ble_eq_true rfl⟩ (fun u9 H locs hp hP hD hS => ?_)
              clear u9
              clear hp
              clear hc
              refine W.eq (g2 := F0 m 129 ls []) rfl ?_
              have hP : va_P G.1 vwCl (wMs q G.2 st67) H := hP
              have hD : va_D A (wMs q G.2 st67) := hD
              have e9 := Option.some.inj h
              subst e10
              have hl := lv_sub hl (l' := [(0, .ref (q 0)), (1, .int x3)]) [0, 1] rfl
              exact hj _ _ _ hl hP hD hS
            have hloop : ∀ (n9 : Nat) (v59 : Int32) (v60 : Int32) (v61 : MS), m_segment_l2  n9 (v59, v60, v61) = some e58 → ∀ (H : Heap) (locs : List Loc) (ls : Array Slot), lv_has ls 4 [(0, .ref (q 0)), (1, .int x3), (2, .int v59), (3, .int v60)] → va_P G.1 vwCl (wMs q G.2 v61) H → va_D A (wMs q G.2 v61) → va_S A s.heap H locs → W p l e (rmD 5 0 0) s m ([.ref (q 0)] : List Value).toArray below meth c H locs 0 0 (MQ below (qV G (fun (_ : Unit) => True) (fun _ => (wMs q G.2 st0)) A) ([.ref (q 0)] : List Value).toArray s 0 0 A) (F0 m 89 ls []) := by
              intro n9
              induction n9 with
              | zero =>
                intro v59 v60 v61 h
                cases h
              | succ n9 ih =>
                intro v59 v60 v61 h H locs ls hl hP hD hS
                replace h := (m_segment_l2_s  n9 (v59, v60, v61)).symm.trans h
                refine lv_iload_n hx hb d15_70_89 rfl (lv_at hl 3 rfl) ?_
                refine lv_bipush (v := 10) hx hb d15_70_90 (by decide) ?_
                refine lv_icmp_ge (tgt := 123) hx hb d15_70_92 rfl (fun c69 => ?_) (fun c69 => ?_)
                ·
                  replace h := (if_pos c69).symm.trans h
                  have e9 := Option.some.inj h
                  subst e58
                  have hl := lv_sub hl (l' := [(0, .ref (q 0)), (1, .int x3), (2, .int v59), (3, .int v60)]) [0, 1, 2, 3] rfl
                  exact hj _ _ _ rfl _ _ _ hl hP hD hS
                ·
                  replace h := (if_neg c69).symm.trans h
                  refine lv_iload_n hx hb d15_70_95 rfl (lv_at hl 2 rfl) ?_
                  refine lv_if_eq (tgt := 123) hx hb d15_70_96 rfl (fun c70 => ?_) (fun c70 => ?_)
                  ·
                    replace h := (if_pos c70).symm.trans h
                    have e9 := Option.some.inj h
                    subst e58
                    have hl := lv_sub hl (l' := [(0, .ref (q 0)), (1, .int x3), (2, .int v59), (3, .int v60)]) [0, 1, 2, 3] rfl
                    exact hj _ _ _ rfl _ _ _ hl hP hD hS
                  ·
                    replace h := (if_neg c70).symm.trans h
                    refine lv_aload_n hx hb d15_70_99 rfl (lv_at hl 0 rfl) ?_
                    refine va_get (D := G.1) (ci := 13) (v := .int (v61.1 2)) (C := r_13) (T := f_13) (N := 42) (ref := "PagedValuesModel") hx hb hts (fun w h => List.mem_cons_of_mem _ (ly_13 w h)) hown hK hP 0 rfl rfl 3 (by decide) (hts _ (List.mem_cons_of_mem _ k1154)) (fun _ h9 => h9) rfl d15_70_100 ?_
                    refine lv_if_ge (tgt := 123) hx hb d15_70_103 rfl (fun c71 => ?_) (fun c71 => ?_)
                    ·
                      replace h := (if_pos c71).symm.trans h
                      have e9 := Option.some.inj h
                      subst e58
                      have hl := lv_sub hl (l' := [(0, .ref (q 0)), (1, .int x3), (2, .int v59), (3, .int v60)]) [0, 1, 2, 3] rfl
                      exact hj _ _ _ rfl _ _ _ hl hP hD hS
                    ·
                      replace h := (if_neg c71).symm.trans h
                      refine lv_aload_n hx hb d15_70_106 rfl (lv_at hl 0 rfl) ?_
                      obtain ⟨st73, hc, h⟩ := ob h
                      refine sV_v (As := []) (rest := []) ⟨hx, hb, hml, hown, hts⟩ (cm_selector l G Zd q v61 st73 hc _) (kw_V (n := 0) hts k1569 k1566 k15 k1568 ks92 (by decide +kernel) ⟨Nat.le_of_ble_eq_true rfl, Nat.le_of_ble_eq_true rfl⟩) hP hD hK hS hA hZ (va_recv (ci := 13) (q0 := 0) hK hP rfl rfl) rfl hl.1 rfl (Nat.le_of_ble_eq_true rfl) d15_70_107 ⟨Nat.le_of_ble_eq_true rfl, Nat.le_of_ble_eq_true rfl⟩ (fun u9 H locs hp hP hD hS => ?_)
                      clear u9
                      clear hp
                      clear hc
                      refine W.eq (g2 := F0 m 110 ls []) rfl ?_
                      have hP : va_P G.1 vwCl (wMs q G.2 st73) H := hP
                      have hD : va_D A (wMs q G.2 st73) := hD
                      refine lv_aload_n hx hb d15_70_110 rfl (lv_at hl 0 rfl) ?_
                      refine lv_bipush (v := 44) hx hb d15_70_111 (by decide) ?_
                      obtain ⟨⟨x75, st76⟩, hc, h⟩ := ob h
                      refine sV_i (As := [.int 44]) (rest := []) ⟨hx, hb, hml, hown, hts⟩ (cm_takes l G Zd q (44 : Int32) st73 x75 st76 hc _) (kw_V (n := 1) hts k1359 k1356 k15 k1358 ks48 (by decide +kernel) ⟨Nat.le_of_ble_eq_true rfl, Nat.le_of_ble_eq_true rfl⟩) hP hD hK hS hA hZ (va_recv (ci := 13) (q0 := 0) hK hP rfl rfl) rfl hl.1 rfl (Nat.le_of_ble_eq_true rfl) d15_70_113 ⟨Nat.le_of_ble_eq_true rfl, Nat.le_of_ble_eq_true rfl⟩ (fun rr u9 H locs hp hP hD hS => ?_)
                      clear u9
                      subst rr
                      clear hc
                      refine W.eq (g2 := F0 m 116 ls [.int x75]) rfl ?_
                      have hP : va_P G.1 vwCl (wMs q G.2 st76) H := hP
                      have hD : va_D A (wMs q G.2 st76) := hD
                      refine lv_istore_n (lv' := [(2, .int x75), (0, .ref (q 0)), (1, .int x3), (3, .int v60)]) hx hb d15_70_116 rfl hl (by decide) rfl (fun ls hl => ?_)
                      refine lv_iinc (k := 3) (v := v60 + 1) (lv' := [(3, .int (v60 + 1)), (2, .int x75), (0, .ref (q 0)), (1, .int x3)]) hx hb d15_70_117 hl rfl (by first | decide | rfl) (by decide) rfl (fun ls hl => ?_)
                      refine lv_goto (tgt := 89) hx hb d15_70_120 rfl ?_
                      have hl := lv_sub hl (l' := [(0, .ref (q 0)), (1, .int x3), (2, .int x75), (3, .int (v60 + 1))]) [2, 3, 1, 0] rfl
                      exact ih _ _ _ h _ _ _ hl hP hD hS
            have hl := lv_sub hl (l' := [(0, .ref (q 0)), (1, .int x3), (2, .int e56), (3, .int 0)]) [2, 3, 1, 0] rfl
            exact hloop _ _ _ _ hX _ _ _ hl hP hD hS
          clear h
          refine lv_if_ge (tgt := 85) hx hb d15_70_78 rfl (fun c55 => ?_) (fun c55 => ?_)
          ·
            replace h := (if_pos c55).symm.trans hX
            refine lv_iconst (v := 0) hx hb d15_70_85 (by decide) ?_
            have e9 := Option.some.inj h
            subst e56
            have hl := lv_sub hl (l' := [(0, .ref (q 0)), (1, .int x3)]) [0, 1] rfl
            exact hj _ _ _ hl hP hD hS
          ·
            replace h := (if_neg c55).symm.trans hX
            refine lv_iconst (v := 1) hx hb d15_70_81 (by decide) ?_
            refine lv_goto (tgt := 86) hx hb d15_70_82 rfl ?_
            have e9 := Option.some.inj h
            subst e56
            have hl := lv_sub hl (l' := [(0, .ref (q 0)), (1, .int x3)]) [0, 1] rfl
            exact hj _ _ _ hl hP hD hS
        ·
          replace h := (if_pos c51).symm.trans h
          refine lv_aload_n hx hb d15_70_61 rfl (lv_at hl 0 rfl) ?_
          obtain ⟨st79, hc, h⟩ := ob h
          refine sV_v (As := []) (rest := []) ⟨hx, hb, hml, hown, hts⟩ (cm_shortSegment l G Zd q e7 st79 hc _) (kw_V (n := 0) hts k1558 k1555 k15 k1557 ks90 (by decide +kernel) ⟨Nat.le_of_ble_eq_true rfl, Nat.le_of_ble_eq_true rfl⟩) hP hD hK hS hA hZ (va_recv (ci := 13) (q0 := 0) hK hP rfl rfl) rfl hl.1 rfl (Nat.le_of_ble_eq_true rfl) d15_70_62 ⟨Nat.le_of_ble_eq_true rfl, Nat.le_of_ble_eq_true rfl⟩ (fun u9 H locs hp hP hD hS => ?_)
          clear u9
          clear hp
          clear hc
          refine W.eq (g2 := F0 m 65 ls []) rfl ?_
          have hP : va_P G.1 vwCl (wMs q G.2 st79) H := hP
          have hD : va_D A (wMs q G.2 st79) := hD
          refine lv_goto (tgt := 129) hx hb d15_70_65 rfl ?_
          have e9 := Option.some.inj h
          subst e10
          have hl := lv_sub hl (l' := [(0, .ref (q 0)), (1, .int x3)]) [0, 1] rfl
          exact hj _ _ _ hl hP hD hS
  clear h
  refine lv_if_eq (tgt := 36) hx hb d15_70_18 rfl (fun c6 => ?_) (fun c6 => ?_)
  ·
    replace h := (if_pos c6).symm.trans hX
    have e9 := Option.some.inj h
    subst e7
    have hl := lv_sub hl (l' := [(0, .ref (q 0)), (1, .int x3)]) [1, 0] rfl
    exact hj _ _ _ hl hP hD hS
  ·
    replace h := (if_neg c6).symm.trans hX
    refine lv_aload_n hx hb d15_70_21 rfl (lv_at hl 1 rfl) ?_
    refine va_get (D := G.1) (ci := 13) (v := .ref (q 9)) (C := r_13) (T := f_13) (N := 42) (ref := "PagedValuesModel") hx hb hts (fun w h => List.mem_cons_of_mem _ (ly_13 w h)) hown hK hP 0 rfl rfl 16 (by decide) (hts _ (List.mem_cons_of_mem _ k1167)) (fun _ h9 => h9) rfl d15_70_22 ?_
    refine lv_aload_n hx hb d15_70_25 rfl (lv_at hl 1 rfl) ?_
    refine va_get (D := G.1) (ci := 13) (v := .int (st4.1 5)) (C := r_13) (T := f_13) (N := 42) (ref := "PagedValuesModel") hx hb hts (fun w h => List.mem_cons_of_mem _ (ly_13 w h)) hown hK hP 0 rfl rfl 15 (by decide) (hts _ (List.mem_cons_of_mem _ k1166)) (fun _ h9 => h9) rfl d15_70_26 ?_
    refine lv_aload_n hx hb d15_70_29 rfl (lv_at hl 1 rfl) ?_
    refine lv_bipush (v := 46) hx hb d15_70_30 (by decide) ?_
    obtain ⟨⟨x81, st82⟩, hc, h⟩ := ob h
    refine sV_i (As := [.int 46]) (rest := [.int (st4.1 5), .ref (q 9)]) ⟨hx, hb, hml, hown, hts⟩ (cm_takes l G Zd q (46 : Int32) st4 x81 st82 hc _) (kw_V (n := 1) hts k1359 k1356 k15 k1358 ks48 (by decide +kernel) ⟨Nat.le_of_ble_eq_true rfl, Nat.le_of_ble_eq_true rfl⟩) hP hD hK hS hA hZ (va_recv (ci := 13) (q0 := 0) hK hP rfl rfl) rfl hl.1 rfl (Nat.le_of_ble_eq_true rfl) d15_70_32 ⟨Nat.le_of_ble_eq_true rfl, Nat.le_of_ble_eq_true rfl⟩ (fun rr u9 H locs hp hP hD hS => ?_)
    clear u9
    subst rr
    clear hc
    refine W.eq (g2 := F0 m 35 ls [.int x81, .int (st4.1 5), .ref (q 9)]) rfl ?_
    have hP : va_P G.1 vwCl (wMs q G.2 st82) H := hP
    have hD : va_D A (wMs q G.2 st82) := hD
    obtain ⟨k84z, hr, h⟩ := ob h
    obtain ⟨hi, hk⟩ := ix_some hr
    clear hr
    refine va_zast (D := G.1) hx hb hK hP hD hS 9 3 rfl rfl (i := st4.1 5) (x := x81) hi d15_70_35 (fun H locs hP hD hS => ?_)
    rw [hk] at hP hD
    clear hk hi
    obtain ⟨y85, hr, h⟩ := ob h
    rw [Option.some.inj hr] at hP hD
    clear hr
    have hP : va_P G.1 vwCl (wMs q G.2 (st82.1, st82.2.1, va_up st82.2.2.1 4 (upd (st82.2.2.1 4) k84z y85), st82.2.2.2)) H := hP
    have hD : va_D A (wMs q G.2 (st82.1, st82.2.1, va_up st82.2.2.1 4 (upd (st82.2.2.1 4) k84z y85), st82.2.2.2)) := hD
    have e9 := Option.some.inj h
    subst e7
    have hl := lv_sub hl (l' := [(0, .ref (q 0)), (1, .int x3)]) [1, 0] rfl
    exact hj _ _ _ hl hP hD hS
