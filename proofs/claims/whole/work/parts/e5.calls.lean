theorem dlaw_108 : decode code 108 = .ok (.aload_n 1, 1) := by decide +kernel
theorem dlaw_109 : decode code 109 = .ok (.aload_n 0, 1) := by decide +kernel
theorem dlaw_110 : decode code 110 = .ok (.iload_n 3, 1) := by decide +kernel
theorem dlaw_111 : decode code 111 = .ok (.iconst 1, 1) := by decide +kernel
theorem dlaw_112 : decode code 112 = .ok (.iadd, 1) := by decide +kernel
theorem dlaw_113 : decode code 113 = .ok (.iaload, 1) := by decide +kernel
theorem dlaw_114 : decode code 114 = .ok (.i2c, 1) := by decide +kernel
theorem k295 : (Jvm.Cond.code ({ cls := "PagedValues", name := "type", desc := "(C)I" } : Jvm.MethodName) prog_1_method_2_code (2 : Nat) (Option.some Jvm.ClassFile.FieldType.int)) ∈ TB := tk_2 55 rfl rfl
theorem k292 : (Jvm.Cond.methodLink "PagedValuesLaw" (13 : Nat) ({ cls := "PagedValues", name := "type", desc := "(C)I" } : Jvm.MethodName)) ∈ TB := tk_2 52 rfl rfl
theorem k293 : (Jvm.Cond.instanceMethod ({ cls := "PagedValues", name := "type", desc := "(C)I" } : Jvm.MethodName)) ∈ TB := tk_2 53 rfl rfl
theorem k294 : (Jvm.Cond.selects "PagedValues" ({ cls := "PagedValues", name := "type", desc := "(C)I" } : Jvm.MethodName) ({ cls := "PagedValues", name := "type", desc := "(C)I" } : Jvm.MethodName)) ∈ TB := tk_2 54 rfl rfl
theorem dlaw_115 : decode code 115 = .ok (.invokevirtual 13, 3) := by decide +kernel
theorem dlaw_118 : decode code 118 = .ok (.aload_n 2, 1) := by decide +kernel
theorem dlaw_119 : decode code 119 = .ok (.aload_n 0, 1) := by decide +kernel
theorem dlaw_120 : decode code 120 = .ok (.iload_n 3, 1) := by decide +kernel
theorem dlaw_121 : decode code 121 = .ok (.iconst 1, 1) := by decide +kernel
theorem dlaw_122 : decode code 122 = .ok (.iadd, 1) := by decide +kernel
theorem dlaw_123 : decode code 123 = .ok (.iaload, 1) := by decide +kernel
theorem dlaw_124 : decode code 124 = .ok (.i2c, 1) := by decide +kernel
theorem k1282 : (Jvm.Cond.code ({ cls := "PagedValuesModel", name := "type", desc := "(C)I" } : Jvm.MethodName) prog_15_method_61_code (2 : Nat) (Option.some Jvm.ClassFile.FieldType.int)) ∈ TB := tk_6 82 rfl rfl
theorem k1279 : (Jvm.Cond.methodLink "PagedValuesLaw" (17 : Nat) ({ cls := "PagedValuesModel", name := "type", desc := "(C)I" } : Jvm.MethodName)) ∈ TB := tk_6 79 rfl rfl
theorem k1280 : (Jvm.Cond.instanceMethod ({ cls := "PagedValuesModel", name := "type", desc := "(C)I" } : Jvm.MethodName)) ∈ TB := tk_6 80 rfl rfl
theorem k1281 : (Jvm.Cond.selects "PagedValuesModel" ({ cls := "PagedValuesModel", name := "type", desc := "(C)I" } : Jvm.MethodName) ({ cls := "PagedValuesModel", name := "type", desc := "(C)I" } : Jvm.MethodName)) ∈ TB := tk_6 81 rfl rfl
theorem dlaw_125 : decode code 125 = .ok (.invokevirtual 17, 3) := by decide +kernel
theorem dlaw_128 : decode code 128 = .ok (.if_icmp .eq 327, 3) := by decide +kernel
theorem dlaw_133 : decode code 133 = .ok (.aload_n 1, 1) := by decide +kernel
theorem dlaw_134 : decode code 134 = .ok (.aload_n 0, 1) := by decide +kernel
theorem dlaw_135 : decode code 135 = .ok (.iload_n 3, 1) := by decide +kernel
theorem dlaw_136 : decode code 136 = .ok (.iconst 1, 1) := by decide +kernel
theorem dlaw_137 : decode code 137 = .ok (.iadd, 1) := by decide +kernel
theorem dlaw_138 : decode code 138 = .ok (.iaload, 1) := by decide +kernel
theorem k303 : (Jvm.Cond.code ({ cls := "PagedValues", name := "put", desc := "(I)I" } : Jvm.MethodName) prog_1_method_3_code (4 : Nat) (Option.some Jvm.ClassFile.FieldType.int)) ∈ TB := tk_2 63 rfl rfl
theorem k300 : (Jvm.Cond.methodLink "PagedValuesLaw" (18 : Nat) ({ cls := "PagedValues", name := "put", desc := "(I)I" } : Jvm.MethodName)) ∈ TB := tk_2 60 rfl rfl
theorem k301 : (Jvm.Cond.instanceMethod ({ cls := "PagedValues", name := "put", desc := "(I)I" } : Jvm.MethodName)) ∈ TB := tk_2 61 rfl rfl
theorem k302 : (Jvm.Cond.selects "PagedValues" ({ cls := "PagedValues", name := "put", desc := "(I)I" } : Jvm.MethodName) ({ cls := "PagedValues", name := "put", desc := "(I)I" } : Jvm.MethodName)) ∈ TB := tk_2 62 rfl rfl
theorem dlaw_139 : decode code 139 = .ok (.invokevirtual 18, 3) := by decide +kernel
theorem dlaw_142 : decode code 142 = .ok (.aload_n 2, 1) := by decide +kernel
theorem dlaw_143 : decode code 143 = .ok (.aload_n 0, 1) := by decide +kernel
theorem dlaw_144 : decode code 144 = .ok (.iload_n 3, 1) := by decide +kernel
theorem dlaw_145 : decode code 145 = .ok (.iconst 1, 1) := by decide +kernel
theorem dlaw_146 : decode code 146 = .ok (.iadd, 1) := by decide +kernel
theorem dlaw_147 : decode code 147 = .ok (.iaload, 1) := by decide +kernel
theorem k1286 : (Jvm.Cond.code ({ cls := "PagedValuesModel", name := "put", desc := "(I)I" } : Jvm.MethodName) prog_15_method_62_code (3 : Nat) (Option.some Jvm.ClassFile.FieldType.int)) ∈ TB := tk_6 86 rfl rfl
theorem k1283 : (Jvm.Cond.methodLink "PagedValuesLaw" (22 : Nat) ({ cls := "PagedValuesModel", name := "put", desc := "(I)I" } : Jvm.MethodName)) ∈ TB := tk_6 83 rfl rfl
theorem k1284 : (Jvm.Cond.instanceMethod ({ cls := "PagedValuesModel", name := "put", desc := "(I)I" } : Jvm.MethodName)) ∈ TB := tk_6 84 rfl rfl
theorem k1285 : (Jvm.Cond.selects "PagedValuesModel" ({ cls := "PagedValuesModel", name := "put", desc := "(I)I" } : Jvm.MethodName) ({ cls := "PagedValuesModel", name := "put", desc := "(I)I" } : Jvm.MethodName)) ∈ TB := tk_6 85 rfl rfl
theorem dlaw_148 : decode code 148 = .ok (.invokevirtual 22, 3) := by decide +kernel
theorem dlaw_151 : decode code 151 = .ok (.if_icmp .eq 304, 3) := by decide +kernel
theorem dlaw_156 : decode code 156 = .ok (.aload_n 1, 1) := by decide +kernel
theorem dlaw_157 : decode code 157 = .ok (.aload_n 0, 1) := by decide +kernel
theorem dlaw_158 : decode code 158 = .ok (.iload_n 3, 1) := by decide +kernel
theorem dlaw_159 : decode code 159 = .ok (.iconst 1, 1) := by decide +kernel
theorem dlaw_160 : decode code 160 = .ok (.iadd, 1) := by decide +kernel
theorem dlaw_161 : decode code 161 = .ok (.iaload, 1) := by decide +kernel
theorem k744 : (Jvm.Cond.code ({ cls := "PagedValues", name := "patch", desc := "(I)I" } : Jvm.MethodName) prog_1_method_4_code (5 : Nat) (Option.some Jvm.ClassFile.FieldType.int)) ∈ TB := tk_4 24 rfl rfl
theorem k741 : (Jvm.Cond.methodLink "PagedValuesLaw" (23 : Nat) ({ cls := "PagedValues", name := "patch", desc := "(I)I" } : Jvm.MethodName)) ∈ TB := tk_4 21 rfl rfl
theorem k742 : (Jvm.Cond.instanceMethod ({ cls := "PagedValues", name := "patch", desc := "(I)I" } : Jvm.MethodName)) ∈ TB := tk_4 22 rfl rfl
theorem k743 : (Jvm.Cond.selects "PagedValues" ({ cls := "PagedValues", name := "patch", desc := "(I)I" } : Jvm.MethodName) ({ cls := "PagedValues", name := "patch", desc := "(I)I" } : Jvm.MethodName)) ∈ TB := tk_4 23 rfl rfl
theorem dlaw_162 : decode code 162 = .ok (.invokevirtual 23, 3) := by decide +kernel
theorem dlaw_165 : decode code 165 = .ok (.aload_n 2, 1) := by decide +kernel
theorem dlaw_166 : decode code 166 = .ok (.aload_n 0, 1) := by decide +kernel
theorem dlaw_167 : decode code 167 = .ok (.iload_n 3, 1) := by decide +kernel
theorem dlaw_168 : decode code 168 = .ok (.iconst 1, 1) := by decide +kernel
theorem dlaw_169 : decode code 169 = .ok (.iadd, 1) := by decide +kernel
theorem dlaw_170 : decode code 170 = .ok (.iaload, 1) := by decide +kernel
theorem k1432 : (Jvm.Cond.code ({ cls := "PagedValuesModel", name := "patch", desc := "(I)I" } : Jvm.MethodName) prog_15_method_63_code (4 : Nat) (Option.some Jvm.ClassFile.FieldType.int)) ∈ TB := tk_6 232 rfl rfl
theorem k1429 : (Jvm.Cond.methodLink "PagedValuesLaw" (26 : Nat) ({ cls := "PagedValuesModel", name := "patch", desc := "(I)I" } : Jvm.MethodName)) ∈ TB := tk_6 229 rfl rfl
theorem k1430 : (Jvm.Cond.instanceMethod ({ cls := "PagedValuesModel", name := "patch", desc := "(I)I" } : Jvm.MethodName)) ∈ TB := tk_6 230 rfl rfl
theorem k1431 : (Jvm.Cond.selects "PagedValuesModel" ({ cls := "PagedValuesModel", name := "patch", desc := "(I)I" } : Jvm.MethodName) ({ cls := "PagedValuesModel", name := "patch", desc := "(I)I" } : Jvm.MethodName)) ∈ TB := tk_6 231 rfl rfl
theorem dlaw_171 : decode code 171 = .ok (.invokevirtual 26, 3) := by decide +kernel
theorem dlaw_174 : decode code 174 = .ok (.if_icmp .eq 281, 3) := by decide +kernel
theorem dlaw_179 : decode code 179 = .ok (.aload_n 1, 1) := by decide +kernel
theorem dlaw_180 : decode code 180 = .ok (.aload_n 0, 1) := by decide +kernel
theorem dlaw_181 : decode code 181 = .ok (.iload_n 3, 1) := by decide +kernel
theorem dlaw_182 : decode code 182 = .ok (.iconst 1, 1) := by decide +kernel
theorem dlaw_183 : decode code 183 = .ok (.iadd, 1) := by decide +kernel
theorem dlaw_184 : decode code 184 = .ok (.iaload, 1) := by decide +kernel
theorem k871 : (Jvm.Cond.code ({ cls := "PagedValues", name := "remove", desc := "(I)I" } : Jvm.MethodName) prog_1_method_5_code (3 : Nat) (Option.some Jvm.ClassFile.FieldType.int)) ∈ TB := tk_4 151 rfl rfl
theorem k868 : (Jvm.Cond.methodLink "PagedValuesLaw" (27 : Nat) ({ cls := "PagedValues", name := "remove", desc := "(I)I" } : Jvm.MethodName)) ∈ TB := tk_4 148 rfl rfl
theorem k869 : (Jvm.Cond.instanceMethod ({ cls := "PagedValues", name := "remove", desc := "(I)I" } : Jvm.MethodName)) ∈ TB := tk_4 149 rfl rfl
theorem k870 : (Jvm.Cond.selects "PagedValues" ({ cls := "PagedValues", name := "remove", desc := "(I)I" } : Jvm.MethodName) ({ cls := "PagedValues", name := "remove", desc := "(I)I" } : Jvm.MethodName)) ∈ TB := tk_4 150 rfl rfl
theorem dlaw_185 : decode code 185 = .ok (.invokevirtual 27, 3) := by decide +kernel
theorem dlaw_188 : decode code 188 = .ok (.aload_n 2, 1) := by decide +kernel
theorem dlaw_189 : decode code 189 = .ok (.aload_n 0, 1) := by decide +kernel
theorem dlaw_190 : decode code 190 = .ok (.iload_n 3, 1) := by decide +kernel
theorem dlaw_191 : decode code 191 = .ok (.iconst 1, 1) := by decide +kernel
theorem dlaw_192 : decode code 192 = .ok (.iadd, 1) := by decide +kernel
theorem dlaw_193 : decode code 193 = .ok (.iaload, 1) := by decide +kernel
theorem k1530 : (Jvm.Cond.code ({ cls := "PagedValuesModel", name := "remove", desc := "(I)I" } : Jvm.MethodName) prog_15_method_64_code (4 : Nat) (Option.some Jvm.ClassFile.FieldType.int)) ∈ TB := tk_7 90 rfl rfl
theorem k1527 : (Jvm.Cond.methodLink "PagedValuesLaw" (30 : Nat) ({ cls := "PagedValuesModel", name := "remove", desc := "(I)I" } : Jvm.MethodName)) ∈ TB := tk_7 87 rfl rfl
theorem k1528 : (Jvm.Cond.instanceMethod ({ cls := "PagedValuesModel", name := "remove", desc := "(I)I" } : Jvm.MethodName)) ∈ TB := tk_7 88 rfl rfl
theorem k1529 : (Jvm.Cond.selects "PagedValuesModel" ({ cls := "PagedValuesModel", name := "remove", desc := "(I)I" } : Jvm.MethodName) ({ cls := "PagedValuesModel", name := "remove", desc := "(I)I" } : Jvm.MethodName)) ∈ TB := tk_7 89 rfl rfl
theorem dlaw_194 : decode code 194 = .ok (.invokevirtual 30, 3) := by decide +kernel
theorem dlaw_197 : decode code 197 = .ok (.if_icmp .eq 258, 3) := by decide +kernel
theorem dlaw_202 : decode code 202 = .ok (.aload_n 1, 1) := by decide +kernel
theorem dlaw_203 : decode code 203 = .ok (.aload_n 0, 1) := by decide +kernel
theorem dlaw_204 : decode code 204 = .ok (.iload_n 3, 1) := by decide +kernel
theorem dlaw_205 : decode code 205 = .ok (.iconst 1, 1) := by decide +kernel
theorem dlaw_206 : decode code 206 = .ok (.iadd, 1) := by decide +kernel
theorem dlaw_207 : decode code 207 = .ok (.iaload, 1) := by decide +kernel
theorem dlaw_208 : decode code 208 = .ok (.aload_n 0, 1) := by decide +kernel
theorem dlaw_209 : decode code 209 = .ok (.iload_n 3, 1) := by decide +kernel
theorem dlaw_210 : decode code 210 = .ok (.iconst 2, 1) := by decide +kernel
theorem dlaw_211 : decode code 211 = .ok (.iadd, 1) := by decide +kernel
theorem dlaw_212 : decode code 212 = .ok (.iaload, 1) := by decide +kernel
theorem k879 : (Jvm.Cond.code ({ cls := "PagedValues", name := "query", desc := "(II)I" } : Jvm.MethodName) prog_1_method_6_code (5 : Nat) (Option.some Jvm.ClassFile.FieldType.int)) ∈ TB := tk_4 159 rfl rfl
theorem k876 : (Jvm.Cond.methodLink "PagedValuesLaw" (31 : Nat) ({ cls := "PagedValues", name := "query", desc := "(II)I" } : Jvm.MethodName)) ∈ TB := tk_4 156 rfl rfl
theorem k877 : (Jvm.Cond.instanceMethod ({ cls := "PagedValues", name := "query", desc := "(II)I" } : Jvm.MethodName)) ∈ TB := tk_4 157 rfl rfl
theorem k878 : (Jvm.Cond.selects "PagedValues" ({ cls := "PagedValues", name := "query", desc := "(II)I" } : Jvm.MethodName) ({ cls := "PagedValues", name := "query", desc := "(II)I" } : Jvm.MethodName)) ∈ TB := tk_4 158 rfl rfl
theorem dlaw_213 : decode code 213 = .ok (.invokevirtual 31, 3) := by decide +kernel
theorem dlaw_216 : decode code 216 = .ok (.aload_n 2, 1) := by decide +kernel
theorem dlaw_217 : decode code 217 = .ok (.aload_n 0, 1) := by decide +kernel
theorem dlaw_218 : decode code 218 = .ok (.iload_n 3, 1) := by decide +kernel
theorem dlaw_219 : decode code 219 = .ok (.iconst 1, 1) := by decide +kernel
theorem dlaw_220 : decode code 220 = .ok (.iadd, 1) := by decide +kernel
theorem dlaw_221 : decode code 221 = .ok (.iaload, 1) := by decide +kernel
theorem dlaw_222 : decode code 222 = .ok (.aload_n 0, 1) := by decide +kernel
theorem dlaw_223 : decode code 223 = .ok (.iload_n 3, 1) := by decide +kernel
theorem dlaw_224 : decode code 224 = .ok (.iconst 2, 1) := by decide +kernel
theorem dlaw_225 : decode code 225 = .ok (.iadd, 1) := by decide +kernel
theorem dlaw_226 : decode code 226 = .ok (.iaload, 1) := by decide +kernel
theorem k1538 : (Jvm.Cond.code ({ cls := "PagedValuesModel", name := "query", desc := "(II)I" } : Jvm.MethodName) prog_15_method_78_code (5 : Nat) (Option.some Jvm.ClassFile.FieldType.int)) ∈ TB := tk_7 98 rfl rfl
theorem k1535 : (Jvm.Cond.methodLink "PagedValuesLaw" (35 : Nat) ({ cls := "PagedValuesModel", name := "query", desc := "(II)I" } : Jvm.MethodName)) ∈ TB := tk_7 95 rfl rfl
theorem k1536 : (Jvm.Cond.instanceMethod ({ cls := "PagedValuesModel", name := "query", desc := "(II)I" } : Jvm.MethodName)) ∈ TB := tk_7 96 rfl rfl
theorem k1537 : (Jvm.Cond.selects "PagedValuesModel" ({ cls := "PagedValuesModel", name := "query", desc := "(II)I" } : Jvm.MethodName) ({ cls := "PagedValuesModel", name := "query", desc := "(II)I" } : Jvm.MethodName)) ∈ TB := tk_7 97 rfl rfl
theorem dlaw_227 : decode code 227 = .ok (.invokevirtual 35, 3) := by decide +kernel
theorem dlaw_230 : decode code 230 = .ok (.if_icmp .eq 225, 3) := by decide +kernel
theorem dlaw_235 : decode code 235 = .ok (.aload_n 1, 1) := by decide +kernel
theorem dlaw_236 : decode code 236 = .ok (.aload_n 0, 1) := by decide +kernel
theorem dlaw_237 : decode code 237 = .ok (.iload_n 3, 1) := by decide +kernel
theorem dlaw_238 : decode code 238 = .ok (.iconst 1, 1) := by decide +kernel
theorem dlaw_239 : decode code 239 = .ok (.iadd, 1) := by decide +kernel
theorem dlaw_240 : decode code 240 = .ok (.iaload, 1) := by decide +kernel
theorem k986 : (Jvm.Cond.code ({ cls := "PagedValues", name := "result", desc := "(I)I" } : Jvm.MethodName) prog_1_method_7_code (2 : Nat) (Option.some Jvm.ClassFile.FieldType.int)) ∈ TB := tk_5 26 rfl rfl
theorem k983 : (Jvm.Cond.methodLink "PagedValuesLaw" (36 : Nat) ({ cls := "PagedValues", name := "result", desc := "(I)I" } : Jvm.MethodName)) ∈ TB := tk_5 23 rfl rfl
theorem k984 : (Jvm.Cond.instanceMethod ({ cls := "PagedValues", name := "result", desc := "(I)I" } : Jvm.MethodName)) ∈ TB := tk_5 24 rfl rfl
theorem k985 : (Jvm.Cond.selects "PagedValues" ({ cls := "PagedValues", name := "result", desc := "(I)I" } : Jvm.MethodName) ({ cls := "PagedValues", name := "result", desc := "(I)I" } : Jvm.MethodName)) ∈ TB := tk_5 25 rfl rfl
theorem dlaw_241 : decode code 241 = .ok (.invokevirtual 36, 3) := by decide +kernel
theorem dlaw_244 : decode code 244 = .ok (.aload_n 2, 1) := by decide +kernel
theorem dlaw_245 : decode code 245 = .ok (.aload_n 0, 1) := by decide +kernel
theorem dlaw_246 : decode code 246 = .ok (.iload_n 3, 1) := by decide +kernel
theorem dlaw_247 : decode code 247 = .ok (.iconst 1, 1) := by decide +kernel
theorem dlaw_248 : decode code 248 = .ok (.iadd, 1) := by decide +kernel
theorem dlaw_249 : decode code 249 = .ok (.iaload, 1) := by decide +kernel
theorem k1593 : (Jvm.Cond.code ({ cls := "PagedValuesModel", name := "result", desc := "(I)I" } : Jvm.MethodName) prog_15_method_79_code (2 : Nat) (Option.some Jvm.ClassFile.FieldType.int)) ∈ TB := tk_7 153 rfl rfl
theorem k1590 : (Jvm.Cond.methodLink "PagedValuesLaw" (39 : Nat) ({ cls := "PagedValuesModel", name := "result", desc := "(I)I" } : Jvm.MethodName)) ∈ TB := tk_7 150 rfl rfl
theorem k1591 : (Jvm.Cond.instanceMethod ({ cls := "PagedValuesModel", name := "result", desc := "(I)I" } : Jvm.MethodName)) ∈ TB := tk_7 151 rfl rfl
theorem k1592 : (Jvm.Cond.selects "PagedValuesModel" ({ cls := "PagedValuesModel", name := "result", desc := "(I)I" } : Jvm.MethodName) ({ cls := "PagedValuesModel", name := "result", desc := "(I)I" } : Jvm.MethodName)) ∈ TB := tk_7 152 rfl rfl
theorem dlaw_250 : decode code 250 = .ok (.invokevirtual 39, 3) := by decide +kernel
theorem dlaw_253 : decode code 253 = .ok (.if_icmp .eq 202, 3) := by decide +kernel
theorem dlaw_258 : decode code 258 = .ok (.aload_n 1, 1) := by decide +kernel
theorem dlaw_259 : decode code 259 = .ok (.aload_n 0, 1) := by decide +kernel
theorem dlaw_260 : decode code 260 = .ok (.iload_n 3, 1) := by decide +kernel
theorem dlaw_261 : decode code 261 = .ok (.iconst 1, 1) := by decide +kernel
theorem dlaw_262 : decode code 262 = .ok (.iadd, 1) := by decide +kernel
theorem dlaw_263 : decode code 263 = .ok (.iaload, 1) := by decide +kernel
theorem k994 : (Jvm.Cond.code ({ cls := "PagedValues", name := "show", desc := "(I)I" } : Jvm.MethodName) prog_1_method_8_code (2 : Nat) (Option.some Jvm.ClassFile.FieldType.int)) ∈ TB := tk_5 34 rfl rfl
theorem k991 : (Jvm.Cond.methodLink "PagedValuesLaw" (40 : Nat) ({ cls := "PagedValues", name := "show", desc := "(I)I" } : Jvm.MethodName)) ∈ TB := tk_5 31 rfl rfl
theorem k992 : (Jvm.Cond.instanceMethod ({ cls := "PagedValues", name := "show", desc := "(I)I" } : Jvm.MethodName)) ∈ TB := tk_5 32 rfl rfl
theorem k993 : (Jvm.Cond.selects "PagedValues" ({ cls := "PagedValues", name := "show", desc := "(I)I" } : Jvm.MethodName) ({ cls := "PagedValues", name := "show", desc := "(I)I" } : Jvm.MethodName)) ∈ TB := tk_5 33 rfl rfl
theorem dlaw_264 : decode code 264 = .ok (.invokevirtual 40, 3) := by decide +kernel
theorem dlaw_267 : decode code 267 = .ok (.aload_n 2, 1) := by decide +kernel
theorem dlaw_268 : decode code 268 = .ok (.aload_n 0, 1) := by decide +kernel
theorem dlaw_269 : decode code 269 = .ok (.iload_n 3, 1) := by decide +kernel
theorem dlaw_270 : decode code 270 = .ok (.iconst 1, 1) := by decide +kernel
theorem dlaw_271 : decode code 271 = .ok (.iadd, 1) := by decide +kernel
theorem dlaw_272 : decode code 272 = .ok (.iaload, 1) := by decide +kernel
theorem k1597 : (Jvm.Cond.code ({ cls := "PagedValuesModel", name := "show", desc := "(I)I" } : Jvm.MethodName) prog_15_method_86_code (2 : Nat) (Option.some Jvm.ClassFile.FieldType.int)) ∈ TB := tk_7 157 rfl rfl
theorem k1594 : (Jvm.Cond.methodLink "PagedValuesLaw" (43 : Nat) ({ cls := "PagedValuesModel", name := "show", desc := "(I)I" } : Jvm.MethodName)) ∈ TB := tk_7 154 rfl rfl
theorem k1595 : (Jvm.Cond.instanceMethod ({ cls := "PagedValuesModel", name := "show", desc := "(I)I" } : Jvm.MethodName)) ∈ TB := tk_7 155 rfl rfl
theorem k1596 : (Jvm.Cond.selects "PagedValuesModel" ({ cls := "PagedValuesModel", name := "show", desc := "(I)I" } : Jvm.MethodName) ({ cls := "PagedValuesModel", name := "show", desc := "(I)I" } : Jvm.MethodName)) ∈ TB := tk_7 156 rfl rfl
theorem dlaw_273 : decode code 273 = .ok (.invokevirtual 43, 3) := by decide +kernel
theorem dlaw_276 : decode code 276 = .ok (.if_icmp .eq 179, 3) := by decide +kernel
theorem dlaw_281 : decode code 281 = .ok (.aload_n 1, 1) := by decide +kernel
theorem dlaw_282 : decode code 282 = .ok (.aload_n 0, 1) := by decide +kernel
theorem dlaw_283 : decode code 283 = .ok (.iload_n 3, 1) := by decide +kernel
theorem dlaw_284 : decode code 284 = .ok (.iconst 1, 1) := by decide +kernel
theorem dlaw_285 : decode code 285 = .ok (.iadd, 1) := by decide +kernel
theorem dlaw_286 : decode code 286 = .ok (.iaload, 1) := by decide +kernel
theorem dlaw_287 : decode code 287 = .ok (.aload_n 0, 1) := by decide +kernel
theorem dlaw_288 : decode code 288 = .ok (.iload_n 3, 1) := by decide +kernel
theorem dlaw_289 : decode code 289 = .ok (.iconst 2, 1) := by decide +kernel
theorem dlaw_290 : decode code 290 = .ok (.iadd, 1) := by decide +kernel
theorem dlaw_291 : decode code 291 = .ok (.iaload, 1) := by decide +kernel
theorem k1092 : (Jvm.Cond.code ({ cls := "PagedValues", name := "print", desc := "(II)I" } : Jvm.MethodName) prog_1_method_9_code (4 : Nat) (Option.some Jvm.ClassFile.FieldType.int)) ∈ TB := tk_5 132 rfl rfl
theorem k1089 : (Jvm.Cond.methodLink "PagedValuesLaw" (44 : Nat) ({ cls := "PagedValues", name := "print", desc := "(II)I" } : Jvm.MethodName)) ∈ TB := tk_5 129 rfl rfl
theorem k1090 : (Jvm.Cond.instanceMethod ({ cls := "PagedValues", name := "print", desc := "(II)I" } : Jvm.MethodName)) ∈ TB := tk_5 130 rfl rfl
theorem k1091 : (Jvm.Cond.selects "PagedValues" ({ cls := "PagedValues", name := "print", desc := "(II)I" } : Jvm.MethodName) ({ cls := "PagedValues", name := "print", desc := "(II)I" } : Jvm.MethodName)) ∈ TB := tk_5 131 rfl rfl
theorem dlaw_292 : decode code 292 = .ok (.invokevirtual 44, 3) := by decide +kernel
theorem dlaw_295 : decode code 295 = .ok (.aload_n 2, 1) := by decide +kernel
theorem dlaw_296 : decode code 296 = .ok (.aload_n 0, 1) := by decide +kernel
theorem dlaw_297 : decode code 297 = .ok (.iload_n 3, 1) := by decide +kernel
theorem dlaw_298 : decode code 298 = .ok (.iconst 1, 1) := by decide +kernel
theorem dlaw_299 : decode code 299 = .ok (.iadd, 1) := by decide +kernel
theorem dlaw_300 : decode code 300 = .ok (.iaload, 1) := by decide +kernel
theorem dlaw_301 : decode code 301 = .ok (.aload_n 0, 1) := by decide +kernel
theorem dlaw_302 : decode code 302 = .ok (.iload_n 3, 1) := by decide +kernel
theorem dlaw_303 : decode code 303 = .ok (.iconst 2, 1) := by decide +kernel
theorem dlaw_304 : decode code 304 = .ok (.iadd, 1) := by decide +kernel
theorem dlaw_305 : decode code 305 = .ok (.iaload, 1) := by decide +kernel
theorem k1625 : (Jvm.Cond.code ({ cls := "PagedValuesModel", name := "print", desc := "(II)I" } : Jvm.MethodName) prog_15_method_87_code (4 : Nat) (Option.some Jvm.ClassFile.FieldType.int)) ∈ TB := tk_7 185 rfl rfl
theorem k1622 : (Jvm.Cond.methodLink "PagedValuesLaw" (47 : Nat) ({ cls := "PagedValuesModel", name := "print", desc := "(II)I" } : Jvm.MethodName)) ∈ TB := tk_7 182 rfl rfl
theorem k1623 : (Jvm.Cond.instanceMethod ({ cls := "PagedValuesModel", name := "print", desc := "(II)I" } : Jvm.MethodName)) ∈ TB := tk_7 183 rfl rfl
theorem k1624 : (Jvm.Cond.selects "PagedValuesModel" ({ cls := "PagedValuesModel", name := "print", desc := "(II)I" } : Jvm.MethodName) ({ cls := "PagedValuesModel", name := "print", desc := "(II)I" } : Jvm.MethodName)) ∈ TB := tk_7 184 rfl rfl
theorem dlaw_306 : decode code 306 = .ok (.invokevirtual 47, 3) := by decide +kernel
theorem dlaw_309 : decode code 309 = .ok (.if_icmp .eq 146, 3) := by decide +kernel
theorem dlaw_314 : decode code 314 = .ok (.aload_n 1, 1) := by decide +kernel
theorem dlaw_315 : decode code 315 = .ok (.aload_n 0, 1) := by decide +kernel
theorem dlaw_316 : decode code 316 = .ok (.iload_n 3, 1) := by decide +kernel
theorem dlaw_317 : decode code 317 = .ok (.iconst 1, 1) := by decide +kernel
theorem dlaw_318 : decode code 318 = .ok (.iadd, 1) := by decide +kernel
theorem dlaw_319 : decode code 319 = .ok (.iaload, 1) := by decide +kernel
theorem k1096 : (Jvm.Cond.code ({ cls := "PagedValues", name := "output", desc := "(I)I" } : Jvm.MethodName) prog_1_method_10_code (2 : Nat) (Option.some Jvm.ClassFile.FieldType.int)) ∈ TB := tk_5 136 rfl rfl
theorem k1093 : (Jvm.Cond.methodLink "PagedValuesLaw" (48 : Nat) ({ cls := "PagedValues", name := "output", desc := "(I)I" } : Jvm.MethodName)) ∈ TB := tk_5 133 rfl rfl
theorem k1094 : (Jvm.Cond.instanceMethod ({ cls := "PagedValues", name := "output", desc := "(I)I" } : Jvm.MethodName)) ∈ TB := tk_5 134 rfl rfl
theorem k1095 : (Jvm.Cond.selects "PagedValues" ({ cls := "PagedValues", name := "output", desc := "(I)I" } : Jvm.MethodName) ({ cls := "PagedValues", name := "output", desc := "(I)I" } : Jvm.MethodName)) ∈ TB := tk_5 135 rfl rfl
theorem dlaw_320 : decode code 320 = .ok (.invokevirtual 48, 3) := by decide +kernel
theorem dlaw_323 : decode code 323 = .ok (.aload_n 2, 1) := by decide +kernel
theorem dlaw_324 : decode code 324 = .ok (.aload_n 0, 1) := by decide +kernel
theorem dlaw_325 : decode code 325 = .ok (.iload_n 3, 1) := by decide +kernel
theorem dlaw_326 : decode code 326 = .ok (.iconst 1, 1) := by decide +kernel
theorem dlaw_327 : decode code 327 = .ok (.iadd, 1) := by decide +kernel
theorem dlaw_328 : decode code 328 = .ok (.iaload, 1) := by decide +kernel
theorem k1629 : (Jvm.Cond.code ({ cls := "PagedValuesModel", name := "output", desc := "(I)I" } : Jvm.MethodName) prog_15_method_88_code (2 : Nat) (Option.some Jvm.ClassFile.FieldType.int)) ∈ TB := tk_7 189 rfl rfl
theorem k1626 : (Jvm.Cond.methodLink "PagedValuesLaw" (51 : Nat) ({ cls := "PagedValuesModel", name := "output", desc := "(I)I" } : Jvm.MethodName)) ∈ TB := tk_7 186 rfl rfl
theorem k1627 : (Jvm.Cond.instanceMethod ({ cls := "PagedValuesModel", name := "output", desc := "(I)I" } : Jvm.MethodName)) ∈ TB := tk_7 187 rfl rfl
theorem k1628 : (Jvm.Cond.selects "PagedValuesModel" ({ cls := "PagedValuesModel", name := "output", desc := "(I)I" } : Jvm.MethodName) ({ cls := "PagedValuesModel", name := "output", desc := "(I)I" } : Jvm.MethodName)) ∈ TB := tk_7 188 rfl rfl
theorem dlaw_329 : decode code 329 = .ok (.invokevirtual 51, 3) := by decide +kernel
theorem dlaw_332 : decode code 332 = .ok (.if_icmp .eq 123, 3) := by decide +kernel
theorem dlaw_337 : decode code 337 = .ok (.aload_n 1, 1) := by decide +kernel
theorem k1110 : (Jvm.Cond.code ({ cls := "PagedValues", name := "open", desc := "()I" } : Jvm.MethodName) prog_1_method_11_code (1 : Nat) (Option.some Jvm.ClassFile.FieldType.int)) ∈ TB := tk_5 150 rfl rfl
theorem k1107 : (Jvm.Cond.methodLink "PagedValuesLaw" (52 : Nat) ({ cls := "PagedValues", name := "open", desc := "()I" } : Jvm.MethodName)) ∈ TB := tk_5 147 rfl rfl
theorem k1108 : (Jvm.Cond.instanceMethod ({ cls := "PagedValues", name := "open", desc := "()I" } : Jvm.MethodName)) ∈ TB := tk_5 148 rfl rfl
theorem k1109 : (Jvm.Cond.selects "PagedValues" ({ cls := "PagedValues", name := "open", desc := "()I" } : Jvm.MethodName) ({ cls := "PagedValues", name := "open", desc := "()I" } : Jvm.MethodName)) ∈ TB := tk_5 149 rfl rfl
theorem dlaw_338 : decode code 338 = .ok (.invokevirtual 52, 3) := by decide +kernel
theorem dlaw_341 : decode code 341 = .ok (.aload_n 2, 1) := by decide +kernel
theorem k1633 : (Jvm.Cond.code ({ cls := "PagedValuesModel", name := "open", desc := "()I" } : Jvm.MethodName) prog_15_method_89_code (2 : Nat) (Option.some Jvm.ClassFile.FieldType.int)) ∈ TB := tk_7 193 rfl rfl
theorem k1630 : (Jvm.Cond.methodLink "PagedValuesLaw" (56 : Nat) ({ cls := "PagedValuesModel", name := "open", desc := "()I" } : Jvm.MethodName)) ∈ TB := tk_7 190 rfl rfl
theorem k1631 : (Jvm.Cond.instanceMethod ({ cls := "PagedValuesModel", name := "open", desc := "()I" } : Jvm.MethodName)) ∈ TB := tk_7 191 rfl rfl
theorem k1632 : (Jvm.Cond.selects "PagedValuesModel" ({ cls := "PagedValuesModel", name := "open", desc := "()I" } : Jvm.MethodName) ({ cls := "PagedValuesModel", name := "open", desc := "()I" } : Jvm.MethodName)) ∈ TB := tk_7 192 rfl rfl
theorem dlaw_342 : decode code 342 = .ok (.invokevirtual 56, 3) := by decide +kernel
theorem dlaw_345 : decode code 345 = .ok (.if_icmp .eq 110, 3) := by decide +kernel
theorem dlaw_350 : decode code 350 = .ok (.aload_n 1, 1) := by decide +kernel
theorem dlaw_351 : decode code 351 = .ok (.aload_n 0, 1) := by decide +kernel
theorem dlaw_352 : decode code 352 = .ok (.iload_n 3, 1) := by decide +kernel
theorem dlaw_353 : decode code 353 = .ok (.iconst 1, 1) := by decide +kernel
theorem dlaw_354 : decode code 354 = .ok (.iadd, 1) := by decide +kernel
theorem dlaw_355 : decode code 355 = .ok (.iaload, 1) := by decide +kernel
theorem k1118 : (Jvm.Cond.code ({ cls := "PagedValues", name := "close", desc := "(I)Z" } : Jvm.MethodName) prog_1_method_12_code (2 : Nat) (Option.some Jvm.ClassFile.FieldType.boolean)) ∈ TB := tk_5 158 rfl rfl
theorem k1115 : (Jvm.Cond.methodLink "PagedValuesLaw" (57 : Nat) ({ cls := "PagedValues", name := "close", desc := "(I)Z" } : Jvm.MethodName)) ∈ TB := tk_5 155 rfl rfl
theorem k1116 : (Jvm.Cond.instanceMethod ({ cls := "PagedValues", name := "close", desc := "(I)Z" } : Jvm.MethodName)) ∈ TB := tk_5 156 rfl rfl
theorem k1117 : (Jvm.Cond.selects "PagedValues" ({ cls := "PagedValues", name := "close", desc := "(I)Z" } : Jvm.MethodName) ({ cls := "PagedValues", name := "close", desc := "(I)Z" } : Jvm.MethodName)) ∈ TB := tk_5 157 rfl rfl
theorem dlaw_356 : decode code 356 = .ok (.invokevirtual 57, 3) := by decide +kernel
theorem dlaw_359 : decode code 359 = .ok (.aload_n 2, 1) := by decide +kernel
theorem dlaw_360 : decode code 360 = .ok (.aload_n 0, 1) := by decide +kernel
theorem dlaw_361 : decode code 361 = .ok (.iload_n 3, 1) := by decide +kernel
theorem dlaw_362 : decode code 362 = .ok (.iconst 1, 1) := by decide +kernel
theorem dlaw_363 : decode code 363 = .ok (.iadd, 1) := by decide +kernel
theorem dlaw_364 : decode code 364 = .ok (.iaload, 1) := by decide +kernel
theorem k1637 : (Jvm.Cond.code ({ cls := "PagedValuesModel", name := "close", desc := "(I)Z" } : Jvm.MethodName) prog_15_method_90_code (2 : Nat) (Option.some Jvm.ClassFile.FieldType.boolean)) ∈ TB := tk_7 197 rfl rfl
theorem k1634 : (Jvm.Cond.methodLink "PagedValuesLaw" (61 : Nat) ({ cls := "PagedValuesModel", name := "close", desc := "(I)Z" } : Jvm.MethodName)) ∈ TB := tk_7 194 rfl rfl
theorem k1635 : (Jvm.Cond.instanceMethod ({ cls := "PagedValuesModel", name := "close", desc := "(I)Z" } : Jvm.MethodName)) ∈ TB := tk_7 195 rfl rfl
theorem k1636 : (Jvm.Cond.selects "PagedValuesModel" ({ cls := "PagedValuesModel", name := "close", desc := "(I)Z" } : Jvm.MethodName) ({ cls := "PagedValuesModel", name := "close", desc := "(I)Z" } : Jvm.MethodName)) ∈ TB := tk_7 196 rfl rfl
theorem dlaw_365 : decode code 365 = .ok (.invokevirtual 61, 3) := by decide +kernel
theorem dlaw_368 : decode code 368 = .ok (.if_icmp .eq 87, 3) := by decide +kernel
theorem dlaw_373 : decode code 373 = .ok (.aload_n 1, 1) := by decide +kernel
theorem dlaw_374 : decode code 374 = .ok (.aload_n 0, 1) := by decide +kernel
theorem dlaw_375 : decode code 375 = .ok (.iload_n 3, 1) := by decide +kernel
theorem dlaw_376 : decode code 376 = .ok (.iconst 1, 1) := by decide +kernel
theorem dlaw_377 : decode code 377 = .ok (.iadd, 1) := by decide +kernel
theorem dlaw_378 : decode code 378 = .ok (.iaload, 1) := by decide +kernel
theorem k1126 : (Jvm.Cond.code ({ cls := "PagedValues", name := "fuse", desc := "(I)Z" } : Jvm.MethodName) prog_1_method_13_code (2 : Nat) (Option.some Jvm.ClassFile.FieldType.boolean)) ∈ TB := tk_5 166 rfl rfl
theorem k1123 : (Jvm.Cond.methodLink "PagedValuesLaw" (62 : Nat) ({ cls := "PagedValues", name := "fuse", desc := "(I)Z" } : Jvm.MethodName)) ∈ TB := tk_5 163 rfl rfl
theorem k1124 : (Jvm.Cond.instanceMethod ({ cls := "PagedValues", name := "fuse", desc := "(I)Z" } : Jvm.MethodName)) ∈ TB := tk_5 164 rfl rfl
theorem k1125 : (Jvm.Cond.selects "PagedValues" ({ cls := "PagedValues", name := "fuse", desc := "(I)Z" } : Jvm.MethodName) ({ cls := "PagedValues", name := "fuse", desc := "(I)Z" } : Jvm.MethodName)) ∈ TB := tk_5 165 rfl rfl
theorem dlaw_379 : decode code 379 = .ok (.invokevirtual 62, 3) := by decide +kernel
theorem dlaw_382 : decode code 382 = .ok (.aload_n 2, 1) := by decide +kernel
theorem dlaw_383 : decode code 383 = .ok (.aload_n 0, 1) := by decide +kernel
theorem dlaw_384 : decode code 384 = .ok (.iload_n 3, 1) := by decide +kernel
theorem dlaw_385 : decode code 385 = .ok (.iconst 1, 1) := by decide +kernel
theorem dlaw_386 : decode code 386 = .ok (.iadd, 1) := by decide +kernel
theorem dlaw_387 : decode code 387 = .ok (.iaload, 1) := by decide +kernel
theorem k1641 : (Jvm.Cond.code ({ cls := "PagedValuesModel", name := "fuse", desc := "(I)Z" } : Jvm.MethodName) prog_15_method_91_code (2 : Nat) (Option.some Jvm.ClassFile.FieldType.boolean)) ∈ TB := tk_7 201 rfl rfl
theorem k1638 : (Jvm.Cond.methodLink "PagedValuesLaw" (65 : Nat) ({ cls := "PagedValuesModel", name := "fuse", desc := "(I)Z" } : Jvm.MethodName)) ∈ TB := tk_7 198 rfl rfl
theorem k1639 : (Jvm.Cond.instanceMethod ({ cls := "PagedValuesModel", name := "fuse", desc := "(I)Z" } : Jvm.MethodName)) ∈ TB := tk_7 199 rfl rfl
theorem k1640 : (Jvm.Cond.selects "PagedValuesModel" ({ cls := "PagedValuesModel", name := "fuse", desc := "(I)Z" } : Jvm.MethodName) ({ cls := "PagedValuesModel", name := "fuse", desc := "(I)Z" } : Jvm.MethodName)) ∈ TB := tk_7 200 rfl rfl
theorem dlaw_388 : decode code 388 = .ok (.invokevirtual 65, 3) := by decide +kernel
theorem dlaw_391 : decode code 391 = .ok (.if_icmp .eq 64, 3) := by decide +kernel
theorem dlaw_396 : decode code 396 = .ok (.aload_n 1, 1) := by decide +kernel
theorem k1130 : (Jvm.Cond.code ({ cls := "PagedValues", name := "restart", desc := "()Z" } : Jvm.MethodName) prog_1_method_14_code (2 : Nat) (Option.some Jvm.ClassFile.FieldType.boolean)) ∈ TB := tk_5 170 rfl rfl
theorem k1127 : (Jvm.Cond.methodLink "PagedValuesLaw" (66 : Nat) ({ cls := "PagedValues", name := "restart", desc := "()Z" } : Jvm.MethodName)) ∈ TB := tk_5 167 rfl rfl
theorem k1128 : (Jvm.Cond.instanceMethod ({ cls := "PagedValues", name := "restart", desc := "()Z" } : Jvm.MethodName)) ∈ TB := tk_5 168 rfl rfl
theorem k1129 : (Jvm.Cond.selects "PagedValues" ({ cls := "PagedValues", name := "restart", desc := "()Z" } : Jvm.MethodName) ({ cls := "PagedValues", name := "restart", desc := "()Z" } : Jvm.MethodName)) ∈ TB := tk_5 169 rfl rfl
theorem dlaw_397 : decode code 397 = .ok (.invokevirtual 66, 3) := by decide +kernel
theorem dlaw_400 : decode code 400 = .ok (.aload_n 2, 1) := by decide +kernel
theorem k1645 : (Jvm.Cond.code ({ cls := "PagedValuesModel", name := "restart", desc := "()Z" } : Jvm.MethodName) prog_15_method_92_code (2 : Nat) (Option.some Jvm.ClassFile.FieldType.boolean)) ∈ TB := tk_7 205 rfl rfl
theorem k1642 : (Jvm.Cond.methodLink "PagedValuesLaw" (70 : Nat) ({ cls := "PagedValuesModel", name := "restart", desc := "()Z" } : Jvm.MethodName)) ∈ TB := tk_7 202 rfl rfl
theorem k1643 : (Jvm.Cond.instanceMethod ({ cls := "PagedValuesModel", name := "restart", desc := "()Z" } : Jvm.MethodName)) ∈ TB := tk_7 203 rfl rfl
theorem k1644 : (Jvm.Cond.selects "PagedValuesModel" ({ cls := "PagedValuesModel", name := "restart", desc := "()Z" } : Jvm.MethodName) ({ cls := "PagedValuesModel", name := "restart", desc := "()Z" } : Jvm.MethodName)) ∈ TB := tk_7 204 rfl rfl
theorem dlaw_401 : decode code 401 = .ok (.invokevirtual 70, 3) := by decide +kernel
theorem dlaw_404 : decode code 404 = .ok (.if_icmp .eq 51, 3) := by decide +kernel
theorem dlaw_409 : decode code 409 = .ok (.aload_n 1, 1) := by decide +kernel
theorem dlaw_410 : decode code 410 = .ok (.aload_n 0, 1) := by decide +kernel
theorem dlaw_411 : decode code 411 = .ok (.iload_n 3, 1) := by decide +kernel
theorem dlaw_412 : decode code 412 = .ok (.iconst 1, 1) := by decide +kernel
theorem dlaw_413 : decode code 413 = .ok (.iadd, 1) := by decide +kernel
theorem dlaw_414 : decode code 414 = .ok (.iaload, 1) := by decide +kernel
theorem k1134 : (Jvm.Cond.code ({ cls := "PagedValues", name := "page", desc := "(I)I" } : Jvm.MethodName) prog_1_method_15_code (2 : Nat) (Option.some Jvm.ClassFile.FieldType.int)) ∈ TB := tk_5 174 rfl rfl
theorem k1131 : (Jvm.Cond.methodLink "PagedValuesLaw" (71 : Nat) ({ cls := "PagedValues", name := "page", desc := "(I)I" } : Jvm.MethodName)) ∈ TB := tk_5 171 rfl rfl
theorem k1132 : (Jvm.Cond.instanceMethod ({ cls := "PagedValues", name := "page", desc := "(I)I" } : Jvm.MethodName)) ∈ TB := tk_5 172 rfl rfl
theorem k1133 : (Jvm.Cond.selects "PagedValues" ({ cls := "PagedValues", name := "page", desc := "(I)I" } : Jvm.MethodName) ({ cls := "PagedValues", name := "page", desc := "(I)I" } : Jvm.MethodName)) ∈ TB := tk_5 173 rfl rfl
theorem dlaw_415 : decode code 415 = .ok (.invokevirtual 71, 3) := by decide +kernel
theorem dlaw_418 : decode code 418 = .ok (.aload_n 2, 1) := by decide +kernel
theorem dlaw_419 : decode code 419 = .ok (.aload_n 0, 1) := by decide +kernel
theorem dlaw_420 : decode code 420 = .ok (.iload_n 3, 1) := by decide +kernel
theorem dlaw_421 : decode code 421 = .ok (.iconst 1, 1) := by decide +kernel
theorem dlaw_422 : decode code 422 = .ok (.iadd, 1) := by decide +kernel
theorem dlaw_423 : decode code 423 = .ok (.iaload, 1) := by decide +kernel
theorem k1649 : (Jvm.Cond.code ({ cls := "PagedValuesModel", name := "page", desc := "(I)I" } : Jvm.MethodName) prog_15_method_93_code (2 : Nat) (Option.some Jvm.ClassFile.FieldType.int)) ∈ TB := tk_7 209 rfl rfl
theorem k1646 : (Jvm.Cond.methodLink "PagedValuesLaw" (74 : Nat) ({ cls := "PagedValuesModel", name := "page", desc := "(I)I" } : Jvm.MethodName)) ∈ TB := tk_7 206 rfl rfl
theorem k1647 : (Jvm.Cond.instanceMethod ({ cls := "PagedValuesModel", name := "page", desc := "(I)I" } : Jvm.MethodName)) ∈ TB := tk_7 207 rfl rfl
theorem k1648 : (Jvm.Cond.selects "PagedValuesModel" ({ cls := "PagedValuesModel", name := "page", desc := "(I)I" } : Jvm.MethodName) ({ cls := "PagedValuesModel", name := "page", desc := "(I)I" } : Jvm.MethodName)) ∈ TB := tk_7 208 rfl rfl
theorem dlaw_424 : decode code 424 = .ok (.invokevirtual 74, 3) := by decide +kernel
theorem dlaw_427 : decode code 427 = .ok (.if_icmp .eq 28, 3) := by decide +kernel
theorem dlaw_432 : decode code 432 = .ok (.aload_n 1, 1) := by decide +kernel
theorem dlaw_433 : decode code 433 = .ok (.aload_n 0, 1) := by decide +kernel
theorem dlaw_434 : decode code 434 = .ok (.iload_n 3, 1) := by decide +kernel
theorem dlaw_435 : decode code 435 = .ok (.iconst 1, 1) := by decide +kernel
theorem dlaw_436 : decode code 436 = .ok (.iadd, 1) := by decide +kernel
theorem dlaw_437 : decode code 437 = .ok (.iaload, 1) := by decide +kernel
theorem k1139 : (Jvm.Cond.code ({ cls := "PagedValues", name := "size", desc := "(I)I" } : Jvm.MethodName) prog_1_method_16_code (2 : Nat) (Option.some Jvm.ClassFile.FieldType.int)) ∈ TB := tk_5 179 rfl rfl
theorem k1136 : (Jvm.Cond.methodLink "PagedValuesLaw" (75 : Nat) ({ cls := "PagedValues", name := "size", desc := "(I)I" } : Jvm.MethodName)) ∈ TB := tk_5 176 rfl rfl
theorem k1137 : (Jvm.Cond.instanceMethod ({ cls := "PagedValues", name := "size", desc := "(I)I" } : Jvm.MethodName)) ∈ TB := tk_5 177 rfl rfl
theorem k1138 : (Jvm.Cond.selects "PagedValues" ({ cls := "PagedValues", name := "size", desc := "(I)I" } : Jvm.MethodName) ({ cls := "PagedValues", name := "size", desc := "(I)I" } : Jvm.MethodName)) ∈ TB := tk_5 178 rfl rfl
theorem dlaw_438 : decode code 438 = .ok (.invokevirtual 75, 3) := by decide +kernel
theorem dlaw_441 : decode code 441 = .ok (.aload_n 2, 1) := by decide +kernel
theorem dlaw_442 : decode code 442 = .ok (.aload_n 0, 1) := by decide +kernel
theorem dlaw_443 : decode code 443 = .ok (.iload_n 3, 1) := by decide +kernel
theorem dlaw_444 : decode code 444 = .ok (.iconst 1, 1) := by decide +kernel
theorem dlaw_445 : decode code 445 = .ok (.iadd, 1) := by decide +kernel
theorem dlaw_446 : decode code 446 = .ok (.iaload, 1) := by decide +kernel
theorem k1653 : (Jvm.Cond.code ({ cls := "PagedValuesModel", name := "size", desc := "(I)I" } : Jvm.MethodName) prog_15_method_94_code (4 : Nat) (Option.some Jvm.ClassFile.FieldType.int)) ∈ TB := tk_7 213 rfl rfl
theorem k1650 : (Jvm.Cond.methodLink "PagedValuesLaw" (78 : Nat) ({ cls := "PagedValuesModel", name := "size", desc := "(I)I" } : Jvm.MethodName)) ∈ TB := tk_7 210 rfl rfl
theorem k1651 : (Jvm.Cond.instanceMethod ({ cls := "PagedValuesModel", name := "size", desc := "(I)I" } : Jvm.MethodName)) ∈ TB := tk_7 211 rfl rfl
theorem k1652 : (Jvm.Cond.selects "PagedValuesModel" ({ cls := "PagedValuesModel", name := "size", desc := "(I)I" } : Jvm.MethodName) ({ cls := "PagedValuesModel", name := "size", desc := "(I)I" } : Jvm.MethodName)) ∈ TB := tk_7 212 rfl rfl
theorem dlaw_447 : decode code 447 = .ok (.invokevirtual 78, 3) := by decide +kernel
theorem dlaw_450 : decode code 450 = .ok (.if_icmp .eq 5, 3) := by decide +kernel
section LWO
variable {p : Program} {l : Launch} {e : Env} {s : State} {m : MethodId} {below : List Frame} {meth : Method} {c : Code} {H : Heap} {locs : List Loc} {cells slots : Nat} {Q : State → Prop} {ls : Array Slot} {G : Gk} {Zd : Nat → Nat} {K : KE} {A : Nat → Prop} {b a1 n i L : Nat} {qm : Nat → Nat} {xs : Nat → Int32} {st : CS} {ms : MS}
/-- what the law's calls may take as given -/
def LG (p : Program) (s : State) (m : MethodId) (c : Code) (b L : Nat) (xs : Nat → Int32) (G : Gk) (Zd : Nat → Nat) (K : KE) (A : Nat → Prop) : Prop := p.tables.exec = Jvm.exec ∧ c.code = code ∧ c.maxLocals = 4 ∧ s.vm.findClass "PagedValuesLaw" = some m.cls ∧ (∀ w ∈ (Cond.initialized "PagedValuesLaw" :: TB), w.before #[Value.ref b] s = true) ∧ va_X b L xs s s.heap ∧ b < s.heap.size ∧ ¬ A b ∧ cxH G Zd K A room_1 s ∧ kc Zd K ∧ kt Zd K ∧ L ≤ 1536
set_option maxHeartbeats 4000000 in
set_option maxRecDepth 100000 in
theorem lp_type (C : LG p s m c b L xs G Zd K A) (hi : i + 3 ≤ L) (hl : lv_has ls 4 [(3, .int (Int32.ofNat i)), (2, .ref (qm 0)), (1, .ref a1), (0, .ref b)]) (h : LSt G Zd K A s a1 qm (n + 1) st ms H locs) (kk : ∀ (st1 : CS) (ms1 : MS) (H1 : Heap) (locs1 : List Loc) (cells1 slots1 : Nat), LSt G Zd K A s a1 qm n st1 ms1 H1 locs1 → W p l e room_1 s m #[Value.ref b] below meth c H1 locs1 cells1 slots1 Q (F0 m 455 ls [])) : W p l e room_1 s m #[Value.ref b] below meth c H locs cells slots Q (F0 m 108 ls []) := by
  obtain ⟨hx, hb, hml, hown, hts, hX, hbl, hbA, hE, hkc, hkt, hL⟩ := C
  obtain ⟨hz, hP, hD, hS, hLI⟩ := h
  obtain ⟨v0, v1, v2⟩ := vi_in hi hL
  have ho := hLI.isO
  refine lv_aload_n hx hb dlaw_108 rfl (lv_at hl 2 rfl) ?_
  refine lv_aload_n hx hb dlaw_109 rfl (lv_at hl 3 rfl) ?_
  refine lv_iload_n hx hb dlaw_110 rfl (lv_at hl 0 rfl) ?_
  refine lv_iconst (v := 1) hx hb dlaw_111 (by decide) ?_
  refine lv_iadd hx hb dlaw_112 ?_
  refine va_sld hx hb hX hbl hbA hS (i := Int32.ofNat i + 1) v1 dlaw_113 ?_
  refine lv_i2c hx hb dlaw_114 rfl ?_
  obtain ⟨r, st1, ms1, hc, hm, hLI⟩ := li_type hkc hkt hLI (((xs ((Int32.ofNat i + 1).toNatClampNeg)).toUInt32 % 65536).toInt32)
  refine hV_x (ci := 0) (As := [.int (((xs ((Int32.ofNat i + 1).toNatClampNeg)).toUInt32 % 65536).toInt32)]) (rest := []) (wm := wMs qm G.2 ms) ⟨hx, hb, hml, hown, hts⟩ (cc_PagedValues_type l G Zd K a1 (((xs ((Int32.ofNat i + 1).toNatClampNeg)).toUInt32 % 65536).toInt32) st r st1 hc) (kw_V (n := 1) hts k295 k292 k1 k293 k294 (by decide +kernel) ⟨Nat.le_of_ble_eq_true rfl, Nat.le_of_ble_eq_true rfl⟩) hE hz hP hD hS rfl rfl ho rfl hl.1 rfl (Nat.le_of_ble_eq_true rfl) dlaw_115 (fun H locs cells slots hz hP hD hS => ?_)
  refine lv_aload_n hx hb dlaw_118 rfl (lv_at hl 1 rfl) ?_
  refine lv_aload_n hx hb dlaw_119 rfl (lv_at hl 3 rfl) ?_
  refine lv_iload_n hx hb dlaw_120 rfl (lv_at hl 0 rfl) ?_
  refine lv_iconst (v := 1) hx hb dlaw_121 (by decide) ?_
  refine lv_iadd hx hb dlaw_122 ?_
  refine va_sld hx hb hX hbl hbA hS (i := Int32.ofNat i + 1) v1 dlaw_123 ?_
  refine lv_i2c hx hb dlaw_124 rfl ?_
  have hP2 := sw_P hP
  have hD2 := sw_D hD
  refine xM_i (b := qm 0) (As := [.int (((xs ((Int32.ofNat i + 1).toNatClampNeg)).toUInt32 % 65536).toInt32)]) (rest := [.int r]) (pl := wH G.2 st1) ⟨hx, hb, hml, hown, hts⟩ (cm_type l G Zd qm (((xs ((Int32.ofNat i + 1).toNatClampNeg)).toUInt32 % 65536).toInt32) ms r ms1 hm _) (kw_V (n := 1) hts k1282 k1279 k15 k1280 k1281 (by decide +kernel) ⟨Nat.le_of_ble_eq_true rfl, Nat.le_of_ble_eq_true rfl⟩) hE hz hP2 hD2 hS (va_recv (ci := 13) (q0 := 0) hE.1 hP2 rfl rfl) rfl hl.1 rfl (Nat.le_of_ble_eq_true rfl) dlaw_125 (fun rr u H locs cells slots hp hP hD hS hs1 hs2 => ?_)
  obtain rfl := hp
  refine lv_icmp_eq (tgt := 455) hx hb dlaw_128 rfl (fun _ => ?_) (fun hc => absurd rfl hc)
  exact kk _ ms1 H locs cells slots (LSt.of hz hP hD hS hs1 hs2 hLI)
set_option maxHeartbeats 4000000 in
set_option maxRecDepth 100000 in
theorem lp_put (C : LG p s m c b L xs G Zd K A) (hi : i + 3 ≤ L) (hl : lv_has ls 4 [(3, .int (Int32.ofNat i)), (2, .ref (qm 0)), (1, .ref a1), (0, .ref b)]) (h : LSt G Zd K A s a1 qm (n + 1) st ms H locs) (kk : ∀ (st1 : CS) (ms1 : MS) (H1 : Heap) (locs1 : List Loc) (cells1 slots1 : Nat), LSt G Zd K A s a1 qm n st1 ms1 H1 locs1 → W p l e room_1 s m #[Value.ref b] below meth c H1 locs1 cells1 slots1 Q (F0 m 455 ls [])) : W p l e room_1 s m #[Value.ref b] below meth c H locs cells slots Q (F0 m 133 ls []) := by
  obtain ⟨hx, hb, hml, hown, hts, hX, hbl, hbA, hE, hkc, hkt, hL⟩ := C
  obtain ⟨hz, hP, hD, hS, hLI⟩ := h
  obtain ⟨v0, v1, v2⟩ := vi_in hi hL
  have ho := hLI.isO
  refine lv_aload_n hx hb dlaw_133 rfl (lv_at hl 2 rfl) ?_
  refine lv_aload_n hx hb dlaw_134 rfl (lv_at hl 3 rfl) ?_
  refine lv_iload_n hx hb dlaw_135 rfl (lv_at hl 0 rfl) ?_
  refine lv_iconst (v := 1) hx hb dlaw_136 (by decide) ?_
  refine lv_iadd hx hb dlaw_137 ?_
  refine va_sld hx hb hX hbl hbA hS (i := Int32.ofNat i + 1) v1 dlaw_138 ?_
  obtain ⟨r, st1, ms1, hc, hm, hLI⟩ := li_put hkc hkt hLI (xs ((Int32.ofNat i + 1).toNatClampNeg))
  refine hV_x (ci := 0) (As := [.int (xs ((Int32.ofNat i + 1).toNatClampNeg))]) (rest := []) (wm := wMs qm G.2 ms) ⟨hx, hb, hml, hown, hts⟩ (cc_PagedValues_put l G Zd K a1 (xs ((Int32.ofNat i + 1).toNatClampNeg)) st r st1 hc) (kw_V (n := 1) hts k303 k300 k1 k301 k302 (by decide +kernel) ⟨Nat.le_of_ble_eq_true rfl, Nat.le_of_ble_eq_true rfl⟩) hE hz hP hD hS rfl rfl ho rfl hl.1 rfl (Nat.le_of_ble_eq_true rfl) dlaw_139 (fun H locs cells slots hz hP hD hS => ?_)
  refine lv_aload_n hx hb dlaw_142 rfl (lv_at hl 1 rfl) ?_
  refine lv_aload_n hx hb dlaw_143 rfl (lv_at hl 3 rfl) ?_
  refine lv_iload_n hx hb dlaw_144 rfl (lv_at hl 0 rfl) ?_
  refine lv_iconst (v := 1) hx hb dlaw_145 (by decide) ?_
  refine lv_iadd hx hb dlaw_146 ?_
  refine va_sld hx hb hX hbl hbA hS (i := Int32.ofNat i + 1) v1 dlaw_147 ?_
  have hP2 := sw_P hP
  have hD2 := sw_D hD
  refine xM_i (b := qm 0) (As := [.int (xs ((Int32.ofNat i + 1).toNatClampNeg))]) (rest := [.int r]) (pl := wH G.2 st1) ⟨hx, hb, hml, hown, hts⟩ (cm_put l G Zd qm (xs ((Int32.ofNat i + 1).toNatClampNeg)) ms r ms1 hm _) (kw_V (n := 1) hts k1286 k1283 k15 k1284 k1285 (by decide +kernel) ⟨Nat.le_of_ble_eq_true rfl, Nat.le_of_ble_eq_true rfl⟩) hE hz hP2 hD2 hS (va_recv (ci := 13) (q0 := 0) hE.1 hP2 rfl rfl) rfl hl.1 rfl (Nat.le_of_ble_eq_true rfl) dlaw_148 (fun rr u H locs cells slots hp hP hD hS hs1 hs2 => ?_)
  obtain rfl := hp
  refine lv_icmp_eq (tgt := 455) hx hb dlaw_151 rfl (fun _ => ?_) (fun hc => absurd rfl hc)
  exact kk _ ms1 H locs cells slots (LSt.of hz hP hD hS hs1 hs2 hLI)
set_option maxHeartbeats 4000000 in
set_option maxRecDepth 100000 in
theorem lp_patch (C : LG p s m c b L xs G Zd K A) (hi : i + 3 ≤ L) (hl : lv_has ls 4 [(3, .int (Int32.ofNat i)), (2, .ref (qm 0)), (1, .ref a1), (0, .ref b)]) (h : LSt G Zd K A s a1 qm (n + 1) st ms H locs) (kk : ∀ (st1 : CS) (ms1 : MS) (H1 : Heap) (locs1 : List Loc) (cells1 slots1 : Nat), LSt G Zd K A s a1 qm n st1 ms1 H1 locs1 → W p l e room_1 s m #[Value.ref b] below meth c H1 locs1 cells1 slots1 Q (F0 m 455 ls [])) : W p l e room_1 s m #[Value.ref b] below meth c H locs cells slots Q (F0 m 156 ls []) := by
  obtain ⟨hx, hb, hml, hown, hts, hX, hbl, hbA, hE, hkc, hkt, hL⟩ := C
  obtain ⟨hz, hP, hD, hS, hLI⟩ := h
  obtain ⟨v0, v1, v2⟩ := vi_in hi hL
  have ho := hLI.isO
  refine lv_aload_n hx hb dlaw_156 rfl (lv_at hl 2 rfl) ?_
  refine lv_aload_n hx hb dlaw_157 rfl (lv_at hl 3 rfl) ?_
  refine lv_iload_n hx hb dlaw_158 rfl (lv_at hl 0 rfl) ?_
  refine lv_iconst (v := 1) hx hb dlaw_159 (by decide) ?_
  refine lv_iadd hx hb dlaw_160 ?_
  refine va_sld hx hb hX hbl hbA hS (i := Int32.ofNat i + 1) v1 dlaw_161 ?_
  obtain ⟨r, st1, ms1, hc, hm, hLI⟩ := li_patch hkc hkt hLI (xs ((Int32.ofNat i + 1).toNatClampNeg))
  refine hV_x (ci := 0) (As := [.int (xs ((Int32.ofNat i + 1).toNatClampNeg))]) (rest := []) (wm := wMs qm G.2 ms) ⟨hx, hb, hml, hown, hts⟩ (cc_PagedValues_patch l G Zd K a1 (xs ((Int32.ofNat i + 1).toNatClampNeg)) st r st1 hc) (kw_V (n := 1) hts k744 k741 k1 k742 k743 (by decide +kernel) ⟨Nat.le_of_ble_eq_true rfl, Nat.le_of_ble_eq_true rfl⟩) hE hz hP hD hS rfl rfl ho rfl hl.1 rfl (Nat.le_of_ble_eq_true rfl) dlaw_162 (fun H locs cells slots hz hP hD hS => ?_)
  refine lv_aload_n hx hb dlaw_165 rfl (lv_at hl 1 rfl) ?_
  refine lv_aload_n hx hb dlaw_166 rfl (lv_at hl 3 rfl) ?_
  refine lv_iload_n hx hb dlaw_167 rfl (lv_at hl 0 rfl) ?_
  refine lv_iconst (v := 1) hx hb dlaw_168 (by decide) ?_
  refine lv_iadd hx hb dlaw_169 ?_
  refine va_sld hx hb hX hbl hbA hS (i := Int32.ofNat i + 1) v1 dlaw_170 ?_
  have hP2 := sw_P hP
  have hD2 := sw_D hD
  refine xM_i (b := qm 0) (As := [.int (xs ((Int32.ofNat i + 1).toNatClampNeg))]) (rest := [.int r]) (pl := wH G.2 st1) ⟨hx, hb, hml, hown, hts⟩ (cm_patch l G Zd qm (xs ((Int32.ofNat i + 1).toNatClampNeg)) ms r ms1 hm _) (kw_V (n := 1) hts k1432 k1429 k15 k1430 k1431 (by decide +kernel) ⟨Nat.le_of_ble_eq_true rfl, Nat.le_of_ble_eq_true rfl⟩) hE hz hP2 hD2 hS (va_recv (ci := 13) (q0 := 0) hE.1 hP2 rfl rfl) rfl hl.1 rfl (Nat.le_of_ble_eq_true rfl) dlaw_171 (fun rr u H locs cells slots hp hP hD hS hs1 hs2 => ?_)
  obtain rfl := hp
  refine lv_icmp_eq (tgt := 455) hx hb dlaw_174 rfl (fun _ => ?_) (fun hc => absurd rfl hc)
  exact kk _ ms1 H locs cells slots (LSt.of hz hP hD hS hs1 hs2 hLI)
set_option maxHeartbeats 4000000 in
set_option maxRecDepth 100000 in
theorem lp_remove (C : LG p s m c b L xs G Zd K A) (hi : i + 3 ≤ L) (hl : lv_has ls 4 [(3, .int (Int32.ofNat i)), (2, .ref (qm 0)), (1, .ref a1), (0, .ref b)]) (h : LSt G Zd K A s a1 qm (n + 1) st ms H locs) (kk : ∀ (st1 : CS) (ms1 : MS) (H1 : Heap) (locs1 : List Loc) (cells1 slots1 : Nat), LSt G Zd K A s a1 qm n st1 ms1 H1 locs1 → W p l e room_1 s m #[Value.ref b] below meth c H1 locs1 cells1 slots1 Q (F0 m 455 ls [])) : W p l e room_1 s m #[Value.ref b] below meth c H locs cells slots Q (F0 m 179 ls []) := by
  obtain ⟨hx, hb, hml, hown, hts, hX, hbl, hbA, hE, hkc, hkt, hL⟩ := C
  obtain ⟨hz, hP, hD, hS, hLI⟩ := h
  obtain ⟨v0, v1, v2⟩ := vi_in hi hL
  have ho := hLI.isO
  refine lv_aload_n hx hb dlaw_179 rfl (lv_at hl 2 rfl) ?_
  refine lv_aload_n hx hb dlaw_180 rfl (lv_at hl 3 rfl) ?_
  refine lv_iload_n hx hb dlaw_181 rfl (lv_at hl 0 rfl) ?_
  refine lv_iconst (v := 1) hx hb dlaw_182 (by decide) ?_
  refine lv_iadd hx hb dlaw_183 ?_
  refine va_sld hx hb hX hbl hbA hS (i := Int32.ofNat i + 1) v1 dlaw_184 ?_
  obtain ⟨r, st1, ms1, hc, hm, hLI⟩ := li_remove hkc hkt hLI (xs ((Int32.ofNat i + 1).toNatClampNeg))
  refine hV_x (ci := 0) (As := [.int (xs ((Int32.ofNat i + 1).toNatClampNeg))]) (rest := []) (wm := wMs qm G.2 ms) ⟨hx, hb, hml, hown, hts⟩ (cc_PagedValues_remove l G Zd K a1 (xs ((Int32.ofNat i + 1).toNatClampNeg)) st r st1 hc) (kw_V (n := 1) hts k871 k868 k1 k869 k870 (by decide +kernel) ⟨Nat.le_of_ble_eq_true rfl, Nat.le_of_ble_eq_true rfl⟩) hE hz hP hD hS rfl rfl ho rfl hl.1 rfl (Nat.le_of_ble_eq_true rfl) dlaw_185 (fun H locs cells slots hz hP hD hS => ?_)
  refine lv_aload_n hx hb dlaw_188 rfl (lv_at hl 1 rfl) ?_
  refine lv_aload_n hx hb dlaw_189 rfl (lv_at hl 3 rfl) ?_
  refine lv_iload_n hx hb dlaw_190 rfl (lv_at hl 0 rfl) ?_
  refine lv_iconst (v := 1) hx hb dlaw_191 (by decide) ?_
  refine lv_iadd hx hb dlaw_192 ?_
  refine va_sld hx hb hX hbl hbA hS (i := Int32.ofNat i + 1) v1 dlaw_193 ?_
  have hP2 := sw_P hP
  have hD2 := sw_D hD
  refine xM_i (b := qm 0) (As := [.int (xs ((Int32.ofNat i + 1).toNatClampNeg))]) (rest := [.int r]) (pl := wH G.2 st1) ⟨hx, hb, hml, hown, hts⟩ (cm_remove l G Zd qm (xs ((Int32.ofNat i + 1).toNatClampNeg)) ms r ms1 hm _) (kw_V (n := 1) hts k1530 k1527 k15 k1528 k1529 (by decide +kernel) ⟨Nat.le_of_ble_eq_true rfl, Nat.le_of_ble_eq_true rfl⟩) hE hz hP2 hD2 hS (va_recv (ci := 13) (q0 := 0) hE.1 hP2 rfl rfl) rfl hl.1 rfl (Nat.le_of_ble_eq_true rfl) dlaw_194 (fun rr u H locs cells slots hp hP hD hS hs1 hs2 => ?_)
  obtain rfl := hp
  refine lv_icmp_eq (tgt := 455) hx hb dlaw_197 rfl (fun _ => ?_) (fun hc => absurd rfl hc)
  exact kk _ ms1 H locs cells slots (LSt.of hz hP hD hS hs1 hs2 hLI)
set_option maxHeartbeats 4000000 in
set_option maxRecDepth 100000 in
theorem lp_query (C : LG p s m c b L xs G Zd K A) (hi : i + 3 ≤ L) (hl : lv_has ls 4 [(3, .int (Int32.ofNat i)), (2, .ref (qm 0)), (1, .ref a1), (0, .ref b)]) (h : LSt G Zd K A s a1 qm (n + 1) st ms H locs) (kk : ∀ (st1 : CS) (ms1 : MS) (H1 : Heap) (locs1 : List Loc) (cells1 slots1 : Nat), LSt G Zd K A s a1 qm n st1 ms1 H1 locs1 → W p l e room_1 s m #[Value.ref b] below meth c H1 locs1 cells1 slots1 Q (F0 m 455 ls [])) : W p l e room_1 s m #[Value.ref b] below meth c H locs cells slots Q (F0 m 202 ls []) := by
  obtain ⟨hx, hb, hml, hown, hts, hX, hbl, hbA, hE, hkc, hkt, hL⟩ := C
  obtain ⟨hz, hP, hD, hS, hLI⟩ := h
  obtain ⟨v0, v1, v2⟩ := vi_in hi hL
  have ho := hLI.isO
  refine lv_aload_n hx hb dlaw_202 rfl (lv_at hl 2 rfl) ?_
  refine lv_aload_n hx hb dlaw_203 rfl (lv_at hl 3 rfl) ?_
  refine lv_iload_n hx hb dlaw_204 rfl (lv_at hl 0 rfl) ?_
  refine lv_iconst (v := 1) hx hb dlaw_205 (by decide) ?_
  refine lv_iadd hx hb dlaw_206 ?_
  refine va_sld hx hb hX hbl hbA hS (i := Int32.ofNat i + 1) v1 dlaw_207 ?_
  refine lv_aload_n hx hb dlaw_208 rfl (lv_at hl 3 rfl) ?_
  refine lv_iload_n hx hb dlaw_209 rfl (lv_at hl 0 rfl) ?_
  refine lv_iconst (v := 2) hx hb dlaw_210 (by decide) ?_
  refine lv_iadd hx hb dlaw_211 ?_
  refine va_sld hx hb hX hbl hbA hS (i := Int32.ofNat i + 2) v2 dlaw_212 ?_
  obtain ⟨r, st1, ms1, hc, hm, hLI⟩ := li_query hkc hkt hLI (xs ((Int32.ofNat i + 1).toNatClampNeg)) (xs ((Int32.ofNat i + 2).toNatClampNeg))
  refine hV_x (ci := 0) (As := [.int (xs ((Int32.ofNat i + 1).toNatClampNeg)), .int (xs ((Int32.ofNat i + 2).toNatClampNeg))]) (rest := []) (wm := wMs qm G.2 ms) ⟨hx, hb, hml, hown, hts⟩ (cc_PagedValues_query l G Zd K a1 (xs ((Int32.ofNat i + 1).toNatClampNeg)) (xs ((Int32.ofNat i + 2).toNatClampNeg)) st r st1 hc) (kw_V (n := 2) hts k879 k876 k1 k877 k878 (by decide +kernel) ⟨Nat.le_of_ble_eq_true rfl, Nat.le_of_ble_eq_true rfl⟩) hE hz hP hD hS rfl rfl ho rfl hl.1 rfl (Nat.le_of_ble_eq_true rfl) dlaw_213 (fun H locs cells slots hz hP hD hS => ?_)
  refine lv_aload_n hx hb dlaw_216 rfl (lv_at hl 1 rfl) ?_
  refine lv_aload_n hx hb dlaw_217 rfl (lv_at hl 3 rfl) ?_
  refine lv_iload_n hx hb dlaw_218 rfl (lv_at hl 0 rfl) ?_
  refine lv_iconst (v := 1) hx hb dlaw_219 (by decide) ?_
  refine lv_iadd hx hb dlaw_220 ?_
  refine va_sld hx hb hX hbl hbA hS (i := Int32.ofNat i + 1) v1 dlaw_221 ?_
  refine lv_aload_n hx hb dlaw_222 rfl (lv_at hl 3 rfl) ?_
  refine lv_iload_n hx hb dlaw_223 rfl (lv_at hl 0 rfl) ?_
  refine lv_iconst (v := 2) hx hb dlaw_224 (by decide) ?_
  refine lv_iadd hx hb dlaw_225 ?_
  refine va_sld hx hb hX hbl hbA hS (i := Int32.ofNat i + 2) v2 dlaw_226 ?_
  have hP2 := sw_P hP
  have hD2 := sw_D hD
  refine xM_i (b := qm 0) (As := [.int (xs ((Int32.ofNat i + 1).toNatClampNeg)), .int (xs ((Int32.ofNat i + 2).toNatClampNeg))]) (rest := [.int r]) (pl := wH G.2 st1) ⟨hx, hb, hml, hown, hts⟩ (cm_query l G Zd qm (xs ((Int32.ofNat i + 1).toNatClampNeg)) (xs ((Int32.ofNat i + 2).toNatClampNeg)) ms r ms1 hm _) (kw_V (n := 2) hts k1538 k1535 k15 k1536 k1537 (by decide +kernel) ⟨Nat.le_of_ble_eq_true rfl, Nat.le_of_ble_eq_true rfl⟩) hE hz hP2 hD2 hS (va_recv (ci := 13) (q0 := 0) hE.1 hP2 rfl rfl) rfl hl.1 rfl (Nat.le_of_ble_eq_true rfl) dlaw_227 (fun rr u H locs cells slots hp hP hD hS hs1 hs2 => ?_)
  obtain rfl := hp
  refine lv_icmp_eq (tgt := 455) hx hb dlaw_230 rfl (fun _ => ?_) (fun hc => absurd rfl hc)
  exact kk _ ms1 H locs cells slots (LSt.of hz hP hD hS hs1 hs2 hLI)
set_option maxHeartbeats 4000000 in
set_option maxRecDepth 100000 in
theorem lp_result (C : LG p s m c b L xs G Zd K A) (hi : i + 3 ≤ L) (hl : lv_has ls 4 [(3, .int (Int32.ofNat i)), (2, .ref (qm 0)), (1, .ref a1), (0, .ref b)]) (h : LSt G Zd K A s a1 qm (n + 1) st ms H locs) (kk : ∀ (st1 : CS) (ms1 : MS) (H1 : Heap) (locs1 : List Loc) (cells1 slots1 : Nat), LSt G Zd K A s a1 qm n st1 ms1 H1 locs1 → W p l e room_1 s m #[Value.ref b] below meth c H1 locs1 cells1 slots1 Q (F0 m 455 ls [])) : W p l e room_1 s m #[Value.ref b] below meth c H locs cells slots Q (F0 m 235 ls []) := by
  obtain ⟨hx, hb, hml, hown, hts, hX, hbl, hbA, hE, hkc, hkt, hL⟩ := C
  obtain ⟨hz, hP, hD, hS, hLI⟩ := h
  obtain ⟨v0, v1, v2⟩ := vi_in hi hL
  have ho := hLI.isO
  refine lv_aload_n hx hb dlaw_235 rfl (lv_at hl 2 rfl) ?_
  refine lv_aload_n hx hb dlaw_236 rfl (lv_at hl 3 rfl) ?_
  refine lv_iload_n hx hb dlaw_237 rfl (lv_at hl 0 rfl) ?_
  refine lv_iconst (v := 1) hx hb dlaw_238 (by decide) ?_
  refine lv_iadd hx hb dlaw_239 ?_
  refine va_sld hx hb hX hbl hbA hS (i := Int32.ofNat i + 1) v1 dlaw_240 ?_
  obtain ⟨r, hc, hm, hLI⟩ := li_result hkc hkt hLI (xs ((Int32.ofNat i + 1).toNatClampNeg))
  refine hV_x (ci := 0) (As := [.int (xs ((Int32.ofNat i + 1).toNatClampNeg))]) (rest := []) (wm := wMs qm G.2 ms) ⟨hx, hb, hml, hown, hts⟩ (cc_PagedValues_result l G Zd K a1 (xs ((Int32.ofNat i + 1).toNatClampNeg)) st r hc) (kw_V (n := 1) hts k986 k983 k1 k984 k985 (by decide +kernel) ⟨Nat.le_of_ble_eq_true rfl, Nat.le_of_ble_eq_true rfl⟩) hE hz hP hD hS rfl rfl ho rfl hl.1 rfl (Nat.le_of_ble_eq_true rfl) dlaw_241 (fun H locs cells slots hz hP hD hS => ?_)
  refine lv_aload_n hx hb dlaw_244 rfl (lv_at hl 1 rfl) ?_
  refine lv_aload_n hx hb dlaw_245 rfl (lv_at hl 3 rfl) ?_
  refine lv_iload_n hx hb dlaw_246 rfl (lv_at hl 0 rfl) ?_
  refine lv_iconst (v := 1) hx hb dlaw_247 (by decide) ?_
  refine lv_iadd hx hb dlaw_248 ?_
  refine va_sld hx hb hX hbl hbA hS (i := Int32.ofNat i + 1) v1 dlaw_249 ?_
  have hP2 := sw_P hP
  have hD2 := sw_D hD
  refine xM_i (b := qm 0) (As := [.int (xs ((Int32.ofNat i + 1).toNatClampNeg))]) (rest := [.int r]) (pl := wH G.2 st) ⟨hx, hb, hml, hown, hts⟩ (cm_result l G Zd qm (xs ((Int32.ofNat i + 1).toNatClampNeg)) ms r hm _) (kw_V (n := 1) hts k1593 k1590 k15 k1591 k1592 (by decide +kernel) ⟨Nat.le_of_ble_eq_true rfl, Nat.le_of_ble_eq_true rfl⟩) hE hz hP2 hD2 hS (va_recv (ci := 13) (q0 := 0) hE.1 hP2 rfl rfl) rfl hl.1 rfl (Nat.le_of_ble_eq_true rfl) dlaw_250 (fun rr u H locs cells slots hp hP hD hS hs1 hs2 => ?_)
  obtain rfl := hp
  refine lv_icmp_eq (tgt := 455) hx hb dlaw_253 rfl (fun _ => ?_) (fun hc => absurd rfl hc)
  exact kk _ ms H locs cells slots (LSt.of hz hP hD hS hs1 hs2 hLI)
set_option maxHeartbeats 4000000 in
set_option maxRecDepth 100000 in
theorem lp_show (C : LG p s m c b L xs G Zd K A) (hi : i + 3 ≤ L) (hl : lv_has ls 4 [(3, .int (Int32.ofNat i)), (2, .ref (qm 0)), (1, .ref a1), (0, .ref b)]) (h : LSt G Zd K A s a1 qm (n + 1) st ms H locs) (kk : ∀ (st1 : CS) (ms1 : MS) (H1 : Heap) (locs1 : List Loc) (cells1 slots1 : Nat), LSt G Zd K A s a1 qm n st1 ms1 H1 locs1 → W p l e room_1 s m #[Value.ref b] below meth c H1 locs1 cells1 slots1 Q (F0 m 455 ls [])) : W p l e room_1 s m #[Value.ref b] below meth c H locs cells slots Q (F0 m 258 ls []) := by
  obtain ⟨hx, hb, hml, hown, hts, hX, hbl, hbA, hE, hkc, hkt, hL⟩ := C
  obtain ⟨hz, hP, hD, hS, hLI⟩ := h
  obtain ⟨v0, v1, v2⟩ := vi_in hi hL
  have ho := hLI.isO
  refine lv_aload_n hx hb dlaw_258 rfl (lv_at hl 2 rfl) ?_
  refine lv_aload_n hx hb dlaw_259 rfl (lv_at hl 3 rfl) ?_
  refine lv_iload_n hx hb dlaw_260 rfl (lv_at hl 0 rfl) ?_
  refine lv_iconst (v := 1) hx hb dlaw_261 (by decide) ?_
  refine lv_iadd hx hb dlaw_262 ?_
  refine va_sld hx hb hX hbl hbA hS (i := Int32.ofNat i + 1) v1 dlaw_263 ?_
  obtain ⟨r, st1, ms1, hc, hm, hLI⟩ := li_show hkc hkt hLI (xs ((Int32.ofNat i + 1).toNatClampNeg))
  refine hV_x (ci := 0) (As := [.int (xs ((Int32.ofNat i + 1).toNatClampNeg))]) (rest := []) (wm := wMs qm G.2 ms) ⟨hx, hb, hml, hown, hts⟩ (cc_PagedValues_show l G Zd K a1 (xs ((Int32.ofNat i + 1).toNatClampNeg)) st r st1 hc) (kw_V (n := 1) hts k994 k991 k1 k992 k993 (by decide +kernel) ⟨Nat.le_of_ble_eq_true rfl, Nat.le_of_ble_eq_true rfl⟩) hE hz hP hD hS rfl rfl ho rfl hl.1 rfl (Nat.le_of_ble_eq_true rfl) dlaw_264 (fun H locs cells slots hz hP hD hS => ?_)
  refine lv_aload_n hx hb dlaw_267 rfl (lv_at hl 1 rfl) ?_
  refine lv_aload_n hx hb dlaw_268 rfl (lv_at hl 3 rfl) ?_
  refine lv_iload_n hx hb dlaw_269 rfl (lv_at hl 0 rfl) ?_
  refine lv_iconst (v := 1) hx hb dlaw_270 (by decide) ?_
  refine lv_iadd hx hb dlaw_271 ?_
  refine va_sld hx hb hX hbl hbA hS (i := Int32.ofNat i + 1) v1 dlaw_272 ?_
  have hP2 := sw_P hP
  have hD2 := sw_D hD
  refine xM_i (b := qm 0) (As := [.int (xs ((Int32.ofNat i + 1).toNatClampNeg))]) (rest := [.int r]) (pl := wH G.2 st1) ⟨hx, hb, hml, hown, hts⟩ (cm_show l G Zd qm (xs ((Int32.ofNat i + 1).toNatClampNeg)) ms r ms1 hm _) (kw_V (n := 1) hts k1597 k1594 k15 k1595 k1596 (by decide +kernel) ⟨Nat.le_of_ble_eq_true rfl, Nat.le_of_ble_eq_true rfl⟩) hE hz hP2 hD2 hS (va_recv (ci := 13) (q0 := 0) hE.1 hP2 rfl rfl) rfl hl.1 rfl (Nat.le_of_ble_eq_true rfl) dlaw_273 (fun rr u H locs cells slots hp hP hD hS hs1 hs2 => ?_)
  obtain rfl := hp
  refine lv_icmp_eq (tgt := 455) hx hb dlaw_276 rfl (fun _ => ?_) (fun hc => absurd rfl hc)
  exact kk _ ms1 H locs cells slots (LSt.of hz hP hD hS hs1 hs2 hLI)
set_option maxHeartbeats 4000000 in
set_option maxRecDepth 100000 in
theorem lp_print (C : LG p s m c b L xs G Zd K A) (hi : i + 3 ≤ L) (hl : lv_has ls 4 [(3, .int (Int32.ofNat i)), (2, .ref (qm 0)), (1, .ref a1), (0, .ref b)]) (h : LSt G Zd K A s a1 qm (n + 1) st ms H locs) (kk : ∀ (st1 : CS) (ms1 : MS) (H1 : Heap) (locs1 : List Loc) (cells1 slots1 : Nat), LSt G Zd K A s a1 qm n st1 ms1 H1 locs1 → W p l e room_1 s m #[Value.ref b] below meth c H1 locs1 cells1 slots1 Q (F0 m 455 ls [])) : W p l e room_1 s m #[Value.ref b] below meth c H locs cells slots Q (F0 m 281 ls []) := by
  obtain ⟨hx, hb, hml, hown, hts, hX, hbl, hbA, hE, hkc, hkt, hL⟩ := C
  obtain ⟨hz, hP, hD, hS, hLI⟩ := h
  obtain ⟨v0, v1, v2⟩ := vi_in hi hL
  have ho := hLI.isO
  refine lv_aload_n hx hb dlaw_281 rfl (lv_at hl 2 rfl) ?_
  refine lv_aload_n hx hb dlaw_282 rfl (lv_at hl 3 rfl) ?_
  refine lv_iload_n hx hb dlaw_283 rfl (lv_at hl 0 rfl) ?_
  refine lv_iconst (v := 1) hx hb dlaw_284 (by decide) ?_
  refine lv_iadd hx hb dlaw_285 ?_
  refine va_sld hx hb hX hbl hbA hS (i := Int32.ofNat i + 1) v1 dlaw_286 ?_
  refine lv_aload_n hx hb dlaw_287 rfl (lv_at hl 3 rfl) ?_
  refine lv_iload_n hx hb dlaw_288 rfl (lv_at hl 0 rfl) ?_
  refine lv_iconst (v := 2) hx hb dlaw_289 (by decide) ?_
  refine lv_iadd hx hb dlaw_290 ?_
  refine va_sld hx hb hX hbl hbA hS (i := Int32.ofNat i + 2) v2 dlaw_291 ?_
  obtain ⟨r, st1, ms1, hc, hm, hLI⟩ := li_print hkc hkt hLI (xs ((Int32.ofNat i + 1).toNatClampNeg)) (xs ((Int32.ofNat i + 2).toNatClampNeg))
  refine hV_x (ci := 0) (As := [.int (xs ((Int32.ofNat i + 1).toNatClampNeg)), .int (xs ((Int32.ofNat i + 2).toNatClampNeg))]) (rest := []) (wm := wMs qm G.2 ms) ⟨hx, hb, hml, hown, hts⟩ (cc_PagedValues_print l G Zd K a1 (xs ((Int32.ofNat i + 1).toNatClampNeg)) (xs ((Int32.ofNat i + 2).toNatClampNeg)) st r st1 hc) (kw_V (n := 2) hts k1092 k1089 k1 k1090 k1091 (by decide +kernel) ⟨Nat.le_of_ble_eq_true rfl, Nat.le_of_ble_eq_true rfl⟩) hE hz hP hD hS rfl rfl ho rfl hl.1 rfl (Nat.le_of_ble_eq_true rfl) dlaw_292 (fun H locs cells slots hz hP hD hS => ?_)
  refine lv_aload_n hx hb dlaw_295 rfl (lv_at hl 1 rfl) ?_
  refine lv_aload_n hx hb dlaw_296 rfl (lv_at hl 3 rfl) ?_
  refine lv_iload_n hx hb dlaw_297 rfl (lv_at hl 0 rfl) ?_
  refine lv_iconst (v := 1) hx hb dlaw_298 (by decide) ?_
  refine lv_iadd hx hb dlaw_299 ?_
  refine va_sld hx hb hX hbl hbA hS (i := Int32.ofNat i + 1) v1 dlaw_300 ?_
  refine lv_aload_n hx hb dlaw_301 rfl (lv_at hl 3 rfl) ?_
  refine lv_iload_n hx hb dlaw_302 rfl (lv_at hl 0 rfl) ?_
  refine lv_iconst (v := 2) hx hb dlaw_303 (by decide) ?_
  refine lv_iadd hx hb dlaw_304 ?_
  refine va_sld hx hb hX hbl hbA hS (i := Int32.ofNat i + 2) v2 dlaw_305 ?_
  have hP2 := sw_P hP
  have hD2 := sw_D hD
  refine xM_i (b := qm 0) (As := [.int (xs ((Int32.ofNat i + 1).toNatClampNeg)), .int (xs ((Int32.ofNat i + 2).toNatClampNeg))]) (rest := [.int r]) (pl := wH G.2 st1) ⟨hx, hb, hml, hown, hts⟩ (cm_print l G Zd qm (xs ((Int32.ofNat i + 1).toNatClampNeg)) (xs ((Int32.ofNat i + 2).toNatClampNeg)) ms r ms1 hm _) (kw_V (n := 2) hts k1625 k1622 k15 k1623 k1624 (by decide +kernel) ⟨Nat.le_of_ble_eq_true rfl, Nat.le_of_ble_eq_true rfl⟩) hE hz hP2 hD2 hS (va_recv (ci := 13) (q0 := 0) hE.1 hP2 rfl rfl) rfl hl.1 rfl (Nat.le_of_ble_eq_true rfl) dlaw_306 (fun rr u H locs cells slots hp hP hD hS hs1 hs2 => ?_)
  obtain rfl := hp
  refine lv_icmp_eq (tgt := 455) hx hb dlaw_309 rfl (fun _ => ?_) (fun hc => absurd rfl hc)
  exact kk _ ms1 H locs cells slots (LSt.of hz hP hD hS hs1 hs2 hLI)
set_option maxHeartbeats 4000000 in
set_option maxRecDepth 100000 in
theorem lp_output (C : LG p s m c b L xs G Zd K A) (hi : i + 3 ≤ L) (hl : lv_has ls 4 [(3, .int (Int32.ofNat i)), (2, .ref (qm 0)), (1, .ref a1), (0, .ref b)]) (h : LSt G Zd K A s a1 qm (n + 1) st ms H locs) (kk : ∀ (st1 : CS) (ms1 : MS) (H1 : Heap) (locs1 : List Loc) (cells1 slots1 : Nat), LSt G Zd K A s a1 qm n st1 ms1 H1 locs1 → W p l e room_1 s m #[Value.ref b] below meth c H1 locs1 cells1 slots1 Q (F0 m 455 ls [])) : W p l e room_1 s m #[Value.ref b] below meth c H locs cells slots Q (F0 m 314 ls []) := by
  obtain ⟨hx, hb, hml, hown, hts, hX, hbl, hbA, hE, hkc, hkt, hL⟩ := C
  obtain ⟨hz, hP, hD, hS, hLI⟩ := h
  obtain ⟨v0, v1, v2⟩ := vi_in hi hL
  have ho := hLI.isO
  refine lv_aload_n hx hb dlaw_314 rfl (lv_at hl 2 rfl) ?_
  refine lv_aload_n hx hb dlaw_315 rfl (lv_at hl 3 rfl) ?_
  refine lv_iload_n hx hb dlaw_316 rfl (lv_at hl 0 rfl) ?_
  refine lv_iconst (v := 1) hx hb dlaw_317 (by decide) ?_
  refine lv_iadd hx hb dlaw_318 ?_
  refine va_sld hx hb hX hbl hbA hS (i := Int32.ofNat i + 1) v1 dlaw_319 ?_
  obtain ⟨r, hc, hm, hLI⟩ := li_output hkc hkt hLI (xs ((Int32.ofNat i + 1).toNatClampNeg))
  refine hV_x (ci := 0) (As := [.int (xs ((Int32.ofNat i + 1).toNatClampNeg))]) (rest := []) (wm := wMs qm G.2 ms) ⟨hx, hb, hml, hown, hts⟩ (cc_PagedValues_output l G Zd K a1 (xs ((Int32.ofNat i + 1).toNatClampNeg)) st r hc) (kw_V (n := 1) hts k1096 k1093 k1 k1094 k1095 (by decide +kernel) ⟨Nat.le_of_ble_eq_true rfl, Nat.le_of_ble_eq_true rfl⟩) hE hz hP hD hS rfl rfl ho rfl hl.1 rfl (Nat.le_of_ble_eq_true rfl) dlaw_320 (fun H locs cells slots hz hP hD hS => ?_)
  refine lv_aload_n hx hb dlaw_323 rfl (lv_at hl 1 rfl) ?_
  refine lv_aload_n hx hb dlaw_324 rfl (lv_at hl 3 rfl) ?_
  refine lv_iload_n hx hb dlaw_325 rfl (lv_at hl 0 rfl) ?_
  refine lv_iconst (v := 1) hx hb dlaw_326 (by decide) ?_
  refine lv_iadd hx hb dlaw_327 ?_
  refine va_sld hx hb hX hbl hbA hS (i := Int32.ofNat i + 1) v1 dlaw_328 ?_
  have hP2 := sw_P hP
  have hD2 := sw_D hD
  refine xM_i (b := qm 0) (As := [.int (xs ((Int32.ofNat i + 1).toNatClampNeg))]) (rest := [.int r]) (pl := wH G.2 st) ⟨hx, hb, hml, hown, hts⟩ (cm_output l G Zd qm (xs ((Int32.ofNat i + 1).toNatClampNeg)) ms r hm _) (kw_V (n := 1) hts k1629 k1626 k15 k1627 k1628 (by decide +kernel) ⟨Nat.le_of_ble_eq_true rfl, Nat.le_of_ble_eq_true rfl⟩) hE hz hP2 hD2 hS (va_recv (ci := 13) (q0 := 0) hE.1 hP2 rfl rfl) rfl hl.1 rfl (Nat.le_of_ble_eq_true rfl) dlaw_329 (fun rr u H locs cells slots hp hP hD hS hs1 hs2 => ?_)
  obtain rfl := hp
  refine lv_icmp_eq (tgt := 455) hx hb dlaw_332 rfl (fun _ => ?_) (fun hc => absurd rfl hc)
  exact kk _ ms H locs cells slots (LSt.of hz hP hD hS hs1 hs2 hLI)
set_option maxHeartbeats 4000000 in
set_option maxRecDepth 100000 in
theorem lp_open (C : LG p s m c b L xs G Zd K A) (hi : i + 3 ≤ L) (hl : lv_has ls 4 [(3, .int (Int32.ofNat i)), (2, .ref (qm 0)), (1, .ref a1), (0, .ref b)]) (h : LSt G Zd K A s a1 qm (n + 1) st ms H locs) (kk : ∀ (st1 : CS) (ms1 : MS) (H1 : Heap) (locs1 : List Loc) (cells1 slots1 : Nat), LSt G Zd K A s a1 qm n st1 ms1 H1 locs1 → W p l e room_1 s m #[Value.ref b] below meth c H1 locs1 cells1 slots1 Q (F0 m 455 ls [])) : W p l e room_1 s m #[Value.ref b] below meth c H locs cells slots Q (F0 m 337 ls []) := by
  obtain ⟨hx, hb, hml, hown, hts, hX, hbl, hbA, hE, hkc, hkt, hL⟩ := C
  obtain ⟨hz, hP, hD, hS, hLI⟩ := h
  obtain ⟨v0, v1, v2⟩ := vi_in hi hL
  have ho := hLI.isO
  refine lv_aload_n hx hb dlaw_337 rfl (lv_at hl 2 rfl) ?_
  obtain ⟨r, st1, ms1, hc, hm, hLI⟩ := li_open hkc hkt hLI
  refine hV_x (ci := 0) (As := []) (rest := []) (wm := wMs qm G.2 ms) ⟨hx, hb, hml, hown, hts⟩ (cc_PagedValues_open l G Zd K a1 st r st1 hc) (kw_V (n := 0) hts k1110 k1107 k1 k1108 k1109 (by decide +kernel) ⟨Nat.le_of_ble_eq_true rfl, Nat.le_of_ble_eq_true rfl⟩) hE hz hP hD hS rfl rfl ho rfl hl.1 rfl (Nat.le_of_ble_eq_true rfl) dlaw_338 (fun H locs cells slots hz hP hD hS => ?_)
  refine lv_aload_n hx hb dlaw_341 rfl (lv_at hl 1 rfl) ?_
  have hP2 := sw_P hP
  have hD2 := sw_D hD
  refine xM_i (b := qm 0) (As := []) (rest := [.int r]) (pl := wH G.2 st1) ⟨hx, hb, hml, hown, hts⟩ (cm_open l G Zd qm ms r ms1 hm _) (kw_V (n := 0) hts k1633 k1630 k15 k1631 k1632 (by decide +kernel) ⟨Nat.le_of_ble_eq_true rfl, Nat.le_of_ble_eq_true rfl⟩) hE hz hP2 hD2 hS (va_recv (ci := 13) (q0 := 0) hE.1 hP2 rfl rfl) rfl hl.1 rfl (Nat.le_of_ble_eq_true rfl) dlaw_342 (fun rr u H locs cells slots hp hP hD hS hs1 hs2 => ?_)
  obtain rfl := hp
  refine lv_icmp_eq (tgt := 455) hx hb dlaw_345 rfl (fun _ => ?_) (fun hc => absurd rfl hc)
  exact kk _ ms1 H locs cells slots (LSt.of hz hP hD hS hs1 hs2 hLI)
set_option maxHeartbeats 4000000 in
set_option maxRecDepth 100000 in
theorem lp_close (C : LG p s m c b L xs G Zd K A) (hi : i + 3 ≤ L) (hl : lv_has ls 4 [(3, .int (Int32.ofNat i)), (2, .ref (qm 0)), (1, .ref a1), (0, .ref b)]) (h : LSt G Zd K A s a1 qm (n + 1) st ms H locs) (kk : ∀ (st1 : CS) (ms1 : MS) (H1 : Heap) (locs1 : List Loc) (cells1 slots1 : Nat), LSt G Zd K A s a1 qm n st1 ms1 H1 locs1 → W p l e room_1 s m #[Value.ref b] below meth c H1 locs1 cells1 slots1 Q (F0 m 455 ls [])) : W p l e room_1 s m #[Value.ref b] below meth c H locs cells slots Q (F0 m 350 ls []) := by
  obtain ⟨hx, hb, hml, hown, hts, hX, hbl, hbA, hE, hkc, hkt, hL⟩ := C
  obtain ⟨hz, hP, hD, hS, hLI⟩ := h
  obtain ⟨v0, v1, v2⟩ := vi_in hi hL
  have ho := hLI.isO
  refine lv_aload_n hx hb dlaw_350 rfl (lv_at hl 2 rfl) ?_
  refine lv_aload_n hx hb dlaw_351 rfl (lv_at hl 3 rfl) ?_
  refine lv_iload_n hx hb dlaw_352 rfl (lv_at hl 0 rfl) ?_
  refine lv_iconst (v := 1) hx hb dlaw_353 (by decide) ?_
  refine lv_iadd hx hb dlaw_354 ?_
  refine va_sld hx hb hX hbl hbA hS (i := Int32.ofNat i + 1) v1 dlaw_355 ?_
  obtain ⟨r, st1, ms1, hc, hm, hLI⟩ := li_close hkc hkt hLI (xs ((Int32.ofNat i + 1).toNatClampNeg))
  refine hV_x (ci := 0) (As := [.int (xs ((Int32.ofNat i + 1).toNatClampNeg))]) (rest := []) (wm := wMs qm G.2 ms) ⟨hx, hb, hml, hown, hts⟩ (cc_PagedValues_close l G Zd K a1 (xs ((Int32.ofNat i + 1).toNatClampNeg)) st r st1 hc) (kw_V (n := 1) hts k1118 k1115 k1 k1116 k1117 (by decide +kernel) ⟨Nat.le_of_ble_eq_true rfl, Nat.le_of_ble_eq_true rfl⟩) hE hz hP hD hS rfl rfl ho rfl hl.1 rfl (Nat.le_of_ble_eq_true rfl) dlaw_356 (fun H locs cells slots hz hP hD hS => ?_)
  refine lv_aload_n hx hb dlaw_359 rfl (lv_at hl 1 rfl) ?_
  refine lv_aload_n hx hb dlaw_360 rfl (lv_at hl 3 rfl) ?_
  refine lv_iload_n hx hb dlaw_361 rfl (lv_at hl 0 rfl) ?_
  refine lv_iconst (v := 1) hx hb dlaw_362 (by decide) ?_
  refine lv_iadd hx hb dlaw_363 ?_
  refine va_sld hx hb hX hbl hbA hS (i := Int32.ofNat i + 1) v1 dlaw_364 ?_
  have hP2 := sw_P hP
  have hD2 := sw_D hD
  refine xM_i (b := qm 0) (As := [.int (xs ((Int32.ofNat i + 1).toNatClampNeg))]) (rest := [.int r]) (pl := wH G.2 st1) ⟨hx, hb, hml, hown, hts⟩ (cm_close l G Zd qm (xs ((Int32.ofNat i + 1).toNatClampNeg)) ms r ms1 hm _) (kw_V (n := 1) hts k1637 k1634 k15 k1635 k1636 (by decide +kernel) ⟨Nat.le_of_ble_eq_true rfl, Nat.le_of_ble_eq_true rfl⟩) hE hz hP2 hD2 hS (va_recv (ci := 13) (q0 := 0) hE.1 hP2 rfl rfl) rfl hl.1 rfl (Nat.le_of_ble_eq_true rfl) dlaw_365 (fun rr u H locs cells slots hp hP hD hS hs1 hs2 => ?_)
  obtain rfl := hp
  refine lv_icmp_eq (tgt := 455) hx hb dlaw_368 rfl (fun _ => ?_) (fun hc => absurd rfl hc)
  exact kk _ ms1 H locs cells slots (LSt.of hz hP hD hS hs1 hs2 hLI)
set_option maxHeartbeats 4000000 in
set_option maxRecDepth 100000 in
theorem lp_fuse (C : LG p s m c b L xs G Zd K A) (hi : i + 3 ≤ L) (hl : lv_has ls 4 [(3, .int (Int32.ofNat i)), (2, .ref (qm 0)), (1, .ref a1), (0, .ref b)]) (h : LSt G Zd K A s a1 qm (n + 1) st ms H locs) (kk : ∀ (st1 : CS) (ms1 : MS) (H1 : Heap) (locs1 : List Loc) (cells1 slots1 : Nat), LSt G Zd K A s a1 qm n st1 ms1 H1 locs1 → W p l e room_1 s m #[Value.ref b] below meth c H1 locs1 cells1 slots1 Q (F0 m 455 ls [])) : W p l e room_1 s m #[Value.ref b] below meth c H locs cells slots Q (F0 m 373 ls []) := by
  obtain ⟨hx, hb, hml, hown, hts, hX, hbl, hbA, hE, hkc, hkt, hL⟩ := C
  obtain ⟨hz, hP, hD, hS, hLI⟩ := h
  obtain ⟨v0, v1, v2⟩ := vi_in hi hL
  have ho := hLI.isO
  refine lv_aload_n hx hb dlaw_373 rfl (lv_at hl 2 rfl) ?_
  refine lv_aload_n hx hb dlaw_374 rfl (lv_at hl 3 rfl) ?_
  refine lv_iload_n hx hb dlaw_375 rfl (lv_at hl 0 rfl) ?_
  refine lv_iconst (v := 1) hx hb dlaw_376 (by decide) ?_
  refine lv_iadd hx hb dlaw_377 ?_
  refine va_sld hx hb hX hbl hbA hS (i := Int32.ofNat i + 1) v1 dlaw_378 ?_
  obtain ⟨r, st1, ms1, hc, hm, hLI⟩ := li_fuse hkc hkt hLI (xs ((Int32.ofNat i + 1).toNatClampNeg))
  refine hV_x (ci := 0) (As := [.int (xs ((Int32.ofNat i + 1).toNatClampNeg))]) (rest := []) (wm := wMs qm G.2 ms) ⟨hx, hb, hml, hown, hts⟩ (cc_PagedValues_fuse l G Zd K a1 (xs ((Int32.ofNat i + 1).toNatClampNeg)) st r st1 hc) (kw_V (n := 1) hts k1126 k1123 k1 k1124 k1125 (by decide +kernel) ⟨Nat.le_of_ble_eq_true rfl, Nat.le_of_ble_eq_true rfl⟩) hE hz hP hD hS rfl rfl ho rfl hl.1 rfl (Nat.le_of_ble_eq_true rfl) dlaw_379 (fun H locs cells slots hz hP hD hS => ?_)
  refine lv_aload_n hx hb dlaw_382 rfl (lv_at hl 1 rfl) ?_
  refine lv_aload_n hx hb dlaw_383 rfl (lv_at hl 3 rfl) ?_
  refine lv_iload_n hx hb dlaw_384 rfl (lv_at hl 0 rfl) ?_
  refine lv_iconst (v := 1) hx hb dlaw_385 (by decide) ?_
  refine lv_iadd hx hb dlaw_386 ?_
  refine va_sld hx hb hX hbl hbA hS (i := Int32.ofNat i + 1) v1 dlaw_387 ?_
  have hP2 := sw_P hP
  have hD2 := sw_D hD
  refine xM_i (b := qm 0) (As := [.int (xs ((Int32.ofNat i + 1).toNatClampNeg))]) (rest := [.int r]) (pl := wH G.2 st1) ⟨hx, hb, hml, hown, hts⟩ (cm_fuse l G Zd qm (xs ((Int32.ofNat i + 1).toNatClampNeg)) ms r ms1 hm _) (kw_V (n := 1) hts k1641 k1638 k15 k1639 k1640 (by decide +kernel) ⟨Nat.le_of_ble_eq_true rfl, Nat.le_of_ble_eq_true rfl⟩) hE hz hP2 hD2 hS (va_recv (ci := 13) (q0 := 0) hE.1 hP2 rfl rfl) rfl hl.1 rfl (Nat.le_of_ble_eq_true rfl) dlaw_388 (fun rr u H locs cells slots hp hP hD hS hs1 hs2 => ?_)
  obtain rfl := hp
  refine lv_icmp_eq (tgt := 455) hx hb dlaw_391 rfl (fun _ => ?_) (fun hc => absurd rfl hc)
  exact kk _ ms1 H locs cells slots (LSt.of hz hP hD hS hs1 hs2 hLI)
set_option maxHeartbeats 4000000 in
set_option maxRecDepth 100000 in
theorem lp_restart (C : LG p s m c b L xs G Zd K A) (hi : i + 3 ≤ L) (hl : lv_has ls 4 [(3, .int (Int32.ofNat i)), (2, .ref (qm 0)), (1, .ref a1), (0, .ref b)]) (h : LSt G Zd K A s a1 qm (n + 1) st ms H locs) (kk : ∀ (st1 : CS) (ms1 : MS) (H1 : Heap) (locs1 : List Loc) (cells1 slots1 : Nat), LSt G Zd K A s a1 qm n st1 ms1 H1 locs1 → W p l e room_1 s m #[Value.ref b] below meth c H1 locs1 cells1 slots1 Q (F0 m 455 ls [])) : W p l e room_1 s m #[Value.ref b] below meth c H locs cells slots Q (F0 m 396 ls []) := by
  obtain ⟨hx, hb, hml, hown, hts, hX, hbl, hbA, hE, hkc, hkt, hL⟩ := C
  obtain ⟨hz, hP, hD, hS, hLI⟩ := h
  obtain ⟨v0, v1, v2⟩ := vi_in hi hL
  have ho := hLI.isO
  refine lv_aload_n hx hb dlaw_396 rfl (lv_at hl 2 rfl) ?_
  obtain ⟨r, st1, ms1, hc, hm, hLI⟩ := li_restart hkc hkt hLI
  refine hV_x (ci := 0) (As := []) (rest := []) (wm := wMs qm G.2 ms) ⟨hx, hb, hml, hown, hts⟩ (cc_PagedValues_restart l G Zd K a1 st r st1 hc) (kw_V (n := 0) hts k1130 k1127 k1 k1128 k1129 (by decide +kernel) ⟨Nat.le_of_ble_eq_true rfl, Nat.le_of_ble_eq_true rfl⟩) hE hz hP hD hS rfl rfl ho rfl hl.1 rfl (Nat.le_of_ble_eq_true rfl) dlaw_397 (fun H locs cells slots hz hP hD hS => ?_)
  refine lv_aload_n hx hb dlaw_400 rfl (lv_at hl 1 rfl) ?_
  have hP2 := sw_P hP
  have hD2 := sw_D hD
  refine xM_i (b := qm 0) (As := []) (rest := [.int r]) (pl := wH G.2 st1) ⟨hx, hb, hml, hown, hts⟩ (cm_restart l G Zd qm ms r ms1 hm _) (kw_V (n := 0) hts k1645 k1642 k15 k1643 k1644 (by decide +kernel) ⟨Nat.le_of_ble_eq_true rfl, Nat.le_of_ble_eq_true rfl⟩) hE hz hP2 hD2 hS (va_recv (ci := 13) (q0 := 0) hE.1 hP2 rfl rfl) rfl hl.1 rfl (Nat.le_of_ble_eq_true rfl) dlaw_401 (fun rr u H locs cells slots hp hP hD hS hs1 hs2 => ?_)
  obtain rfl := hp
  refine lv_icmp_eq (tgt := 455) hx hb dlaw_404 rfl (fun _ => ?_) (fun hc => absurd rfl hc)
  exact kk _ ms1 H locs cells slots (LSt.of hz hP hD hS hs1 hs2 hLI)
set_option maxHeartbeats 4000000 in
set_option maxRecDepth 100000 in
theorem lp_page (C : LG p s m c b L xs G Zd K A) (hi : i + 3 ≤ L) (hl : lv_has ls 4 [(3, .int (Int32.ofNat i)), (2, .ref (qm 0)), (1, .ref a1), (0, .ref b)]) (h : LSt G Zd K A s a1 qm (n + 1) st ms H locs) (kk : ∀ (st1 : CS) (ms1 : MS) (H1 : Heap) (locs1 : List Loc) (cells1 slots1 : Nat), LSt G Zd K A s a1 qm n st1 ms1 H1 locs1 → W p l e room_1 s m #[Value.ref b] below meth c H1 locs1 cells1 slots1 Q (F0 m 455 ls [])) : W p l e room_1 s m #[Value.ref b] below meth c H locs cells slots Q (F0 m 409 ls []) := by
  obtain ⟨hx, hb, hml, hown, hts, hX, hbl, hbA, hE, hkc, hkt, hL⟩ := C
  obtain ⟨hz, hP, hD, hS, hLI⟩ := h
  obtain ⟨v0, v1, v2⟩ := vi_in hi hL
  have ho := hLI.isO
  refine lv_aload_n hx hb dlaw_409 rfl (lv_at hl 2 rfl) ?_
  refine lv_aload_n hx hb dlaw_410 rfl (lv_at hl 3 rfl) ?_
  refine lv_iload_n hx hb dlaw_411 rfl (lv_at hl 0 rfl) ?_
  refine lv_iconst (v := 1) hx hb dlaw_412 (by decide) ?_
  refine lv_iadd hx hb dlaw_413 ?_
  refine va_sld hx hb hX hbl hbA hS (i := Int32.ofNat i + 1) v1 dlaw_414 ?_
  obtain ⟨r, hc, hm, hLI⟩ := li_page hkc hkt hLI (xs ((Int32.ofNat i + 1).toNatClampNeg))
  refine hV_x (ci := 0) (As := [.int (xs ((Int32.ofNat i + 1).toNatClampNeg))]) (rest := []) (wm := wMs qm G.2 ms) ⟨hx, hb, hml, hown, hts⟩ (cc_PagedValues_page l G Zd K a1 (xs ((Int32.ofNat i + 1).toNatClampNeg)) st r hc) (kw_V (n := 1) hts k1134 k1131 k1 k1132 k1133 (by decide +kernel) ⟨Nat.le_of_ble_eq_true rfl, Nat.le_of_ble_eq_true rfl⟩) hE hz hP hD hS rfl rfl ho rfl hl.1 rfl (Nat.le_of_ble_eq_true rfl) dlaw_415 (fun H locs cells slots hz hP hD hS => ?_)
  refine lv_aload_n hx hb dlaw_418 rfl (lv_at hl 1 rfl) ?_
  refine lv_aload_n hx hb dlaw_419 rfl (lv_at hl 3 rfl) ?_
  refine lv_iload_n hx hb dlaw_420 rfl (lv_at hl 0 rfl) ?_
  refine lv_iconst (v := 1) hx hb dlaw_421 (by decide) ?_
  refine lv_iadd hx hb dlaw_422 ?_
  refine va_sld hx hb hX hbl hbA hS (i := Int32.ofNat i + 1) v1 dlaw_423 ?_
  have hP2 := sw_P hP
  have hD2 := sw_D hD
  refine xM_i (b := qm 0) (As := [.int (xs ((Int32.ofNat i + 1).toNatClampNeg))]) (rest := [.int r]) (pl := wH G.2 st) ⟨hx, hb, hml, hown, hts⟩ (cm_page l G Zd qm (xs ((Int32.ofNat i + 1).toNatClampNeg)) ms r hm _) (kw_V (n := 1) hts k1649 k1646 k15 k1647 k1648 (by decide +kernel) ⟨Nat.le_of_ble_eq_true rfl, Nat.le_of_ble_eq_true rfl⟩) hE hz hP2 hD2 hS (va_recv (ci := 13) (q0 := 0) hE.1 hP2 rfl rfl) rfl hl.1 rfl (Nat.le_of_ble_eq_true rfl) dlaw_424 (fun rr u H locs cells slots hp hP hD hS hs1 hs2 => ?_)
  obtain rfl := hp
  refine lv_icmp_eq (tgt := 455) hx hb dlaw_427 rfl (fun _ => ?_) (fun hc => absurd rfl hc)
  exact kk _ ms H locs cells slots (LSt.of hz hP hD hS hs1 hs2 hLI)
set_option maxHeartbeats 4000000 in
set_option maxRecDepth 100000 in
theorem lp_size (C : LG p s m c b L xs G Zd K A) (hi : i + 3 ≤ L) (hl : lv_has ls 4 [(3, .int (Int32.ofNat i)), (2, .ref (qm 0)), (1, .ref a1), (0, .ref b)]) (h : LSt G Zd K A s a1 qm (n + 1) st ms H locs) (kk : ∀ (st1 : CS) (ms1 : MS) (H1 : Heap) (locs1 : List Loc) (cells1 slots1 : Nat), LSt G Zd K A s a1 qm n st1 ms1 H1 locs1 → W p l e room_1 s m #[Value.ref b] below meth c H1 locs1 cells1 slots1 Q (F0 m 455 ls [])) : W p l e room_1 s m #[Value.ref b] below meth c H locs cells slots Q (F0 m 432 ls []) := by
  obtain ⟨hx, hb, hml, hown, hts, hX, hbl, hbA, hE, hkc, hkt, hL⟩ := C
  obtain ⟨hz, hP, hD, hS, hLI⟩ := h
  obtain ⟨v0, v1, v2⟩ := vi_in hi hL
  have ho := hLI.isO
  refine lv_aload_n hx hb dlaw_432 rfl (lv_at hl 2 rfl) ?_
  refine lv_aload_n hx hb dlaw_433 rfl (lv_at hl 3 rfl) ?_
  refine lv_iload_n hx hb dlaw_434 rfl (lv_at hl 0 rfl) ?_
  refine lv_iconst (v := 1) hx hb dlaw_435 (by decide) ?_
  refine lv_iadd hx hb dlaw_436 ?_
  refine va_sld hx hb hX hbl hbA hS (i := Int32.ofNat i + 1) v1 dlaw_437 ?_
  obtain ⟨r, hc, hm, hLI⟩ := li_size hkc hkt hLI (xs ((Int32.ofNat i + 1).toNatClampNeg))
  refine hV_x (ci := 0) (As := [.int (xs ((Int32.ofNat i + 1).toNatClampNeg))]) (rest := []) (wm := wMs qm G.2 ms) ⟨hx, hb, hml, hown, hts⟩ (cc_PagedValues_size l G Zd K a1 (xs ((Int32.ofNat i + 1).toNatClampNeg)) st r hc) (kw_V (n := 1) hts k1139 k1136 k1 k1137 k1138 (by decide +kernel) ⟨Nat.le_of_ble_eq_true rfl, Nat.le_of_ble_eq_true rfl⟩) hE hz hP hD hS rfl rfl ho rfl hl.1 rfl (Nat.le_of_ble_eq_true rfl) dlaw_438 (fun H locs cells slots hz hP hD hS => ?_)
  refine lv_aload_n hx hb dlaw_441 rfl (lv_at hl 1 rfl) ?_
  refine lv_aload_n hx hb dlaw_442 rfl (lv_at hl 3 rfl) ?_
  refine lv_iload_n hx hb dlaw_443 rfl (lv_at hl 0 rfl) ?_
  refine lv_iconst (v := 1) hx hb dlaw_444 (by decide) ?_
  refine lv_iadd hx hb dlaw_445 ?_
  refine va_sld hx hb hX hbl hbA hS (i := Int32.ofNat i + 1) v1 dlaw_446 ?_
  have hP2 := sw_P hP
  have hD2 := sw_D hD
  refine xM_i (b := qm 0) (As := [.int (xs ((Int32.ofNat i + 1).toNatClampNeg))]) (rest := [.int r]) (pl := wH G.2 st) ⟨hx, hb, hml, hown, hts⟩ (cm_size l G Zd qm (xs ((Int32.ofNat i + 1).toNatClampNeg)) ms r hm _) (kw_V (n := 1) hts k1653 k1650 k15 k1651 k1652 (by decide +kernel) ⟨Nat.le_of_ble_eq_true rfl, Nat.le_of_ble_eq_true rfl⟩) hE hz hP2 hD2 hS (va_recv (ci := 13) (q0 := 0) hE.1 hP2 rfl rfl) rfl hl.1 rfl (Nat.le_of_ble_eq_true rfl) dlaw_447 (fun rr u H locs cells slots hp hP hD hS hs1 hs2 => ?_)
  obtain rfl := hp
  refine lv_icmp_eq (tgt := 455) hx hb dlaw_450 rfl (fun _ => ?_) (fun hc => absurd rfl hc)
  exact kk _ ms H locs cells slots (LSt.of hz hP hD hS hs1 hs2 hLI)
end LWO
