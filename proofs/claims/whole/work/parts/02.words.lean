theorem m_0 : Cond.initialized R_L ∈ gk_big := gk_in (i := 0) (by decide +kernel) rfl
theorem m_1 : Cond.initialized R_C ∈ gk_big := gk_in (i := 1) (by decide +kernel) rfl
theorem m_2 : Cond.initialized R_P ∈ gk_big := gk_in (i := 2) (by decide +kernel) rfl
theorem m_3 : Cond.initialized R_E ∈ gk_big := gk_in (i := 3) (by decide +kernel) rfl
theorem m_4 : Cond.initialized R_T ∈ gk_big := gk_in (i := 4) (by decide +kernel) rfl
theorem m_5 : Cond.initialized R_K ∈ gk_big := gk_in (i := 5) (by decide +kernel) rfl
theorem m_6 : Cond.initialized R_M ∈ gk_big := gk_in (i := 6) (by decide +kernel) rfl
theorem m_7 : Cond.initialized "java/lang/Math" ∈ gk_big := gk_in (i := 7) (by decide +kernel) rfl
theorem m_8 : Cond.initialized R_B ∈ gk_big := gk_in (i := 8) (by decide +kernel) rfl
theorem m_9 : Cond.initialized R_A ∈ gk_big := gk_in (i := 9) (by decide +kernel) rfl
theorem m_10 : Cond.classLink R_L 7 R_C ∈ gk_big := gk_in (i := 10) (by decide +kernel) rfl
theorem m_11 : Cond.instantiable R_C 7 ∈ gk_big := gk_in (i := 11) (by decide +kernel) rfl
theorem m_12 : Cond.methodLink R_L 9 y_C_init ∈ gk_big := gk_in (i := 12) (by decide +kernel) rfl
theorem m_13 : Cond.instanceMethod y_C_init ∈ gk_big := gk_in (i := 13) (by decide +kernel) rfl
set_option maxRecDepth 20000 in
theorem m_14 : k_C_init ∈ gk_big := gk_in (i := 14) (by rfl) rfl
theorem m_15 : Cond.methodLink R_C 1 objectInit ∈ gk_big := gk_in (i := 15) (by decide +kernel) rfl
theorem m_16 : Cond.instanceMethod objectInit ∈ gk_big := gk_in (i := 16) (by decide +kernel) rfl
set_option maxRecDepth 20000 in
theorem m_17 : Cond.code objectInit ⟨#[0xb1]⟩ 1 none ∈ gk_big := gk_in (i := 17) (by rfl) rfl
theorem m_18 : Cond.classLink R_C 7 R_P ∈ gk_big := gk_in (i := 18) (by decide +kernel) rfl
theorem m_19 : Cond.instantiable R_P 4 ∈ gk_big := gk_in (i := 19) (by decide +kernel) rfl
theorem m_21 : Cond.instanceMethod y_P_init ∈ gk_big := gk_in (i := 21) (by decide +kernel) rfl
set_option maxRecDepth 20000 in
theorem m_22 : k_P_init ∈ gk_big := gk_in (i := 22) (by rfl) rfl
theorem m_23 : Cond.methodLink R_P 3 objectInit ∈ gk_big := gk_in (i := 23) (by decide +kernel) rfl
theorem m_24 : Cond.classLink R_P 9 R_E ∈ gk_big := gk_in (i := 24) (by decide +kernel) rfl
theorem m_25 : Cond.instantiable R_E 5 ∈ gk_big := gk_in (i := 25) (by decide +kernel) rfl
theorem m_27 : Cond.instanceMethod y_E_init ∈ gk_big := gk_in (i := 27) (by decide +kernel) rfl
set_option maxRecDepth 20000 in
theorem m_28 : k_E_init ∈ gk_big := gk_in (i := 28) (by rfl) rfl
theorem m_29 : Cond.methodLink R_E 3 objectInit ∈ gk_big := gk_in (i := 29) (by decide +kernel) rfl
theorem m_30 : Cond.fieldLink R_E 9 "DerivativeCompiler$Expressions" "kinds" "[I" ∈ gk_big := gk_in (i := 30) (by decide +kernel) rfl
theorem m_32 : Cond.fieldLink R_E 15 "DerivativeCompiler$Expressions" "lefts" "[I" ∈ gk_big := gk_in (i := 32) (by decide +kernel) rfl
theorem m_34 : Cond.fieldLink R_E 18 "DerivativeCompiler$Expressions" "rights" "[I" ∈ gk_big := gk_in (i := 34) (by decide +kernel) rfl
theorem m_36 : Cond.fieldLink R_E 21 "DerivativeCompiler$Expressions" "callees" "[I" ∈ gk_big := gk_in (i := 36) (by decide +kernel) rfl
theorem m_38 : Cond.fieldLink R_E 24 "DerivativeCompiler$Expressions" "made" "I" ∈ gk_big := gk_in (i := 38) (by decide +kernel) rfl
theorem m_51 : Cond.arrayClass .int ∈ gk_big := gk_in (i := 51) (by decide +kernel) rfl
theorem m_52 : Cond.classLink R_P 18 R_B ∈ gk_big := gk_in (i := 52) (by decide +kernel) rfl
theorem m_54 : Cond.classLink R_P 24 R_T ∈ gk_big := gk_in (i := 54) (by decide +kernel) rfl
theorem m_55 : Cond.instantiable R_T 9 ∈ gk_big := gk_in (i := 55) (by decide +kernel) rfl
theorem m_57 : Cond.instanceMethod y_T_init ∈ gk_big := gk_in (i := 57) (by decide +kernel) rfl
set_option maxRecDepth 20000 in
theorem m_58 : k_T_init ∈ gk_big := gk_in (i := 58) (by rfl) rfl
theorem m_59 : Cond.methodLink R_T 3 objectInit ∈ gk_big := gk_in (i := 59) (by decide +kernel) rfl
theorem m_60 : Cond.fieldLink R_T 11 "DerivativeCompiler$Trace" "kinds" "[I" ∈ gk_big := gk_in (i := 60) (by decide +kernel) rfl
theorem m_61 : Cond.fieldLink R_T 15 "DerivativeCompiler$Trace" "lefts" "[I" ∈ gk_big := gk_in (i := 61) (by decide +kernel) rfl
theorem m_62 : Cond.fieldLink R_T 18 "DerivativeCompiler$Trace" "rights" "[I" ∈ gk_big := gk_in (i := 62) (by decide +kernel) rfl
theorem m_63 : Cond.fieldLink R_T 21 "DerivativeCompiler$Trace" "values" "[J" ∈ gk_big := gk_in (i := 63) (by decide +kernel) rfl
theorem m_66 : Cond.fieldLink R_T 25 "DerivativeCompiler$Trace" "firsts" "[J" ∈ gk_big := gk_in (i := 66) (by decide +kernel) rfl
theorem m_67 : Cond.fieldLink R_T 28 "DerivativeCompiler$Trace" "seconds" "[J" ∈ gk_big := gk_in (i := 67) (by decide +kernel) rfl
theorem m_68 : Cond.fieldLink R_T 31 "DerivativeCompiler$Trace" "mixed" "[J" ∈ gk_big := gk_in (i := 68) (by decide +kernel) rfl
theorem m_69 : Cond.fieldLink R_T 34 "DerivativeCompiler$Trace" "shares" "[J" ∈ gk_big := gk_in (i := 69) (by decide +kernel) rfl
theorem m_70 : Cond.fieldLink R_T 37 "DerivativeCompiler$Trace" "length" "I" ∈ gk_big := gk_in (i := 70) (by decide +kernel) rfl
theorem m_90 : Cond.arrayClass .long ∈ gk_big := gk_in (i := 90) (by decide +kernel) rfl
theorem m_91 : Cond.fieldLink R_P 12 "DerivativeCompiler$Program" "expressions" "LDerivativeCompiler$Expressions;" ∈ gk_big := gk_in (i := 91) (by decide +kernel) rfl
theorem m_93 : Cond.fieldLink R_P 20 "DerivativeCompiler$Program" "bodies" "[LDerivativeCompiler$Body;" ∈ gk_big := gk_in (i := 93) (by decide +kernel) rfl
theorem m_95 : Cond.fieldLink R_P 27 "DerivativeCompiler$Program" "trace" "LDerivativeCompiler$Trace;" ∈ gk_big := gk_in (i := 95) (by decide +kernel) rfl
theorem m_97 : Cond.fieldLink R_P 31 "DerivativeCompiler$Program" "cells" "[I" ∈ gk_big := gk_in (i := 97) (by decide +kernel) rfl
theorem m_107 : Cond.classLink R_C 16 R_K ∈ gk_big := gk_in (i := 107) (by decide +kernel) rfl
theorem m_108 : Cond.instantiable R_K 5 ∈ gk_big := gk_in (i := 108) (by decide +kernel) rfl
theorem m_110 : Cond.instanceMethod y_K_init ∈ gk_big := gk_in (i := 110) (by decide +kernel) rfl
set_option maxRecDepth 20000 in
theorem m_111 : k_K_init ∈ gk_big := gk_in (i := 111) (by rfl) rfl
theorem m_112 : Cond.methodLink R_K 3 objectInit ∈ gk_big := gk_in (i := 112) (by decide +kernel) rfl
theorem m_113 : Cond.fieldLink R_K 9 "DerivativeCompiler$Costs" "plain" "[I" ∈ gk_big := gk_in (i := 113) (by decide +kernel) rfl
theorem m_114 : Cond.fieldLink R_K 15 "DerivativeCompiler$Costs" "named" "[I" ∈ gk_big := gk_in (i := 114) (by decide +kernel) rfl
theorem m_115 : Cond.fieldLink R_K 18 "DerivativeCompiler$Costs" "counted" "[I" ∈ gk_big := gk_in (i := 115) (by decide +kernel) rfl
theorem m_116 : Cond.fieldLink R_K 21 "DerivativeCompiler$Costs" "totals" "[I" ∈ gk_big := gk_in (i := 116) (by decide +kernel) rfl
theorem m_118 : Cond.fieldLink R_K 24 "DerivativeCompiler$Costs" "added" "[I" ∈ gk_big := gk_in (i := 118) (by decide +kernel) rfl
theorem m_130 : Cond.fieldLink R_C 10 "DerivativeCompiler" "program" "LDerivativeCompiler$Program;" ∈ gk_big := gk_in (i := 130) (by decide +kernel) rfl
theorem m_131 : Cond.fieldLink R_C 19 "DerivativeCompiler" "costs" "LDerivativeCompiler$Costs;" ∈ gk_big := gk_in (i := 131) (by decide +kernel) rfl
theorem m_132 : Cond.fieldLink R_C 23 "DerivativeCompiler" "roots" "[I" ∈ gk_big := gk_in (i := 132) (by decide +kernel) rfl
theorem m_133 : Cond.fieldLink R_C 27 "DerivativeCompiler" "sources" "[I" ∈ gk_big := gk_in (i := 133) (by decide +kernel) rfl
theorem m_134 : Cond.fieldLink R_C 30 "DerivativeCompiler" "directions" "[I" ∈ gk_big := gk_in (i := 134) (by decide +kernel) rfl
theorem m_135 : Cond.fieldLink R_C 33 "DerivativeCompiler" "orders" "[I" ∈ gk_big := gk_in (i := 135) (by decide +kernel) rfl
theorem m_136 : Cond.fieldLink R_C 36 "DerivativeCompiler" "functions" "I" ∈ gk_big := gk_in (i := 136) (by decide +kernel) rfl
theorem m_152 : Cond.methodLink R_L 13 y_C_expression ∈ gk_big := gk_in (i := 152) (by decide +kernel) rfl
theorem m_153 : Cond.instanceMethod y_C_expression ∈ gk_big := gk_in (i := 153) (by decide +kernel) rfl
theorem m_154 : Cond.selects R_C y_C_expression y_C_expression ∈ gk_big := gk_in (i := 154) (by decide +kernel) rfl
set_option maxRecDepth 20000 in
theorem m_155 : k_C_expression ∈ gk_big := gk_in (i := 155) (by rfl) rfl
theorem m_156 : Cond.methodLink R_C 44 y_E_isFull ∈ gk_big := gk_in (i := 156) (by decide +kernel) rfl
theorem m_157 : Cond.instanceMethod y_E_isFull ∈ gk_big := gk_in (i := 157) (by decide +kernel) rfl
theorem m_158 : Cond.selects R_E y_E_isFull y_E_isFull ∈ gk_big := gk_in (i := 158) (by decide +kernel) rfl
set_option maxRecDepth 20000 in
theorem m_159 : k_E_isFull ∈ gk_big := gk_in (i := 159) (by rfl) rfl
theorem m_160 : Cond.methodLink R_C 50 y_C_isSoundExpression ∈ gk_big := gk_in (i := 160) (by decide +kernel) rfl
theorem m_162 : Cond.instanceMethod y_C_isSoundExpression ∈ gk_big := gk_in (i := 162) (by decide +kernel) rfl
set_option maxRecDepth 20000 in
theorem m_163 : k_C_isSoundExpression ∈ gk_big := gk_in (i := 163) (by rfl) rfl
theorem m_164 : Cond.methodLink R_C 147 y_E_hasLeft ∈ gk_big := gk_in (i := 164) (by decide +kernel) rfl
theorem m_165 : Cond.static y_E_hasLeft ∈ gk_big := gk_in (i := 165) (by decide +kernel) rfl
set_option maxRecDepth 20000 in
theorem m_166 : k_E_hasLeft ∈ gk_big := gk_in (i := 166) (by rfl) rfl
theorem m_167 : Cond.methodLink R_C 150 y_E_has ∈ gk_big := gk_in (i := 167) (by decide +kernel) rfl
theorem m_168 : Cond.instanceMethod y_E_has ∈ gk_big := gk_in (i := 168) (by decide +kernel) rfl
theorem m_169 : Cond.selects R_E y_E_has y_E_has ∈ gk_big := gk_in (i := 169) (by decide +kernel) rfl
set_option maxRecDepth 20000 in
theorem m_170 : k_E_has ∈ gk_big := gk_in (i := 170) (by rfl) rfl
theorem m_172 : Cond.static y_C_isBelow ∈ gk_big := gk_in (i := 172) (by decide +kernel) rfl
set_option maxRecDepth 20000 in
theorem m_173 : k_C_isBelow ∈ gk_big := gk_in (i := 173) (by rfl) rfl
theorem m_174 : Cond.methodLink R_C 153 y_E_hasRight ∈ gk_big := gk_in (i := 174) (by decide +kernel) rfl
theorem m_175 : Cond.static y_E_hasRight ∈ gk_big := gk_in (i := 175) (by decide +kernel) rfl
set_option maxRecDepth 20000 in
theorem m_176 : k_E_hasRight ∈ gk_big := gk_in (i := 176) (by rfl) rfl
theorem m_177 : Cond.methodLink R_C 101 y_C_isBelow ∈ gk_big := gk_in (i := 177) (by decide +kernel) rfl
theorem m_178 : Cond.methodLink R_C 73 y_C_isOwn ∈ gk_big := gk_in (i := 178) (by decide +kernel) rfl
theorem m_180 : Cond.instanceMethod y_C_isOwn ∈ gk_big := gk_in (i := 180) (by decide +kernel) rfl
set_option maxRecDepth 20000 in
theorem m_181 : k_C_isOwn ∈ gk_big := gk_in (i := 181) (by rfl) rfl
theorem m_182 : Cond.methodLink R_C 98 y_C_isMade ∈ gk_big := gk_in (i := 182) (by decide +kernel) rfl
theorem m_184 : Cond.instanceMethod y_C_isMade ∈ gk_big := gk_in (i := 184) (by decide +kernel) rfl
set_option maxRecDepth 20000 in
theorem m_185 : k_C_isMade ∈ gk_big := gk_in (i := 185) (by rfl) rfl
theorem m_186 : Cond.methodLink R_C 54 y_E_add ∈ gk_big := gk_in (i := 186) (by decide +kernel) rfl
theorem m_187 : Cond.instanceMethod y_E_add ∈ gk_big := gk_in (i := 187) (by decide +kernel) rfl
theorem m_188 : Cond.selects R_E y_E_add y_E_add ∈ gk_big := gk_in (i := 188) (by decide +kernel) rfl
set_option maxRecDepth 20000 in
theorem m_189 : k_E_add ∈ gk_big := gk_in (i := 189) (by rfl) rfl
theorem m_190 : Cond.methodLink R_C 58 y_K_addExpression ∈ gk_big := gk_in (i := 190) (by decide +kernel) rfl
theorem m_191 : Cond.instanceMethod y_K_addExpression ∈ gk_big := gk_in (i := 191) (by decide +kernel) rfl
theorem m_192 : Cond.selects R_K y_K_addExpression y_K_addExpression ∈ gk_big := gk_in (i := 192) (by decide +kernel) rfl
set_option maxRecDepth 20000 in
theorem m_193 : k_K_addExpression ∈ gk_big := gk_in (i := 193) (by rfl) rfl
theorem m_194 : Cond.methodLink R_K 27 y_K_factorOf ∈ gk_big := gk_in (i := 194) (by decide +kernel) rfl
theorem m_195 : Cond.static y_K_factorOf ∈ gk_big := gk_in (i := 195) (by decide +kernel) rfl
set_option maxRecDepth 20000 in
theorem m_196 : k_K_factorOf ∈ gk_big := gk_in (i := 196) (by rfl) rfl
theorem m_197 : Cond.methodLink R_K 45 ⟨"java/lang/Math", "max", "(II)I"⟩ ∈ gk_big := gk_in (i := 197) (by decide +kernel) rfl
theorem m_198 : Cond.static ⟨"java/lang/Math", "max", "(II)I"⟩ ∈ gk_big := gk_in (i := 198) (by decide +kernel) rfl
theorem m_200 : Cond.methodLink R_K 31 y_E_hasLeft ∈ gk_big := gk_in (i := 200) (by decide +kernel) rfl
theorem m_201 : Cond.methodLink R_K 37 y_E_hasRight ∈ gk_big := gk_in (i := 201) (by decide +kernel) rfl
theorem m_202 : Cond.methodLink R_K 40 ⟨"java/lang/Math", "min", "(II)I"⟩ ∈ gk_big := gk_in (i := 202) (by decide +kernel) rfl
theorem m_203 : Cond.static ⟨"java/lang/Math", "min", "(II)I"⟩ ∈ gk_big := gk_in (i := 203) (by decide +kernel) rfl
theorem m_205 : Cond.methodLink R_L 18 y_C_function ∈ gk_big := gk_in (i := 205) (by decide +kernel) rfl
theorem m_206 : Cond.instanceMethod y_C_function ∈ gk_big := gk_in (i := 206) (by decide +kernel) rfl
theorem m_207 : Cond.selects R_C y_C_function y_C_function ∈ gk_big := gk_in (i := 207) (by decide +kernel) rfl
set_option maxRecDepth 20000 in
theorem m_208 : k_C_function ∈ gk_big := gk_in (i := 208) (by rfl) rfl
theorem m_209 : Cond.classLink R_C 66 R_B ∈ gk_big := gk_in (i := 209) (by decide +kernel) rfl
theorem m_210 : Cond.instantiable R_B 8 ∈ gk_big := gk_in (i := 210) (by decide +kernel) rfl
theorem m_211 : Cond.methodLink R_C 68 y_B_init ∈ gk_big := gk_in (i := 211) (by decide +kernel) rfl
theorem m_212 : Cond.instanceMethod y_B_init ∈ gk_big := gk_in (i := 212) (by decide +kernel) rfl
set_option maxRecDepth 20000 in
theorem m_213 : k_B_init ∈ gk_big := gk_in (i := 213) (by rfl) rfl
theorem m_214 : Cond.methodLink R_B 3 objectInit ∈ gk_big := gk_in (i := 214) (by decide +kernel) rfl
theorem m_215 : Cond.fieldLink R_B 9 "DerivativeCompiler$Body" "kinds" "[I" ∈ gk_big := gk_in (i := 215) (by decide +kernel) rfl
theorem m_217 : Cond.fieldLink R_B 15 "DerivativeCompiler$Body" "targets" "[I" ∈ gk_big := gk_in (i := 217) (by decide +kernel) rfl
theorem m_219 : Cond.fieldLink R_B 18 "DerivativeCompiler$Body" "operands" "[I" ∈ gk_big := gk_in (i := 219) (by decide +kernel) rfl
theorem m_221 : Cond.fieldLink R_B 21 "DerivativeCompiler$Body" "closes" "[I" ∈ gk_big := gk_in (i := 221) (by decide +kernel) rfl
theorem m_222 : Cond.fieldLink R_B 24 "DerivativeCompiler$Body" "opens" "[I" ∈ gk_big := gk_in (i := 222) (by decide +kernel) rfl
theorem m_223 : Cond.fieldLink R_B 27 "DerivativeCompiler$Body" "times" "[I" ∈ gk_big := gk_in (i := 223) (by decide +kernel) rfl
theorem m_224 : Cond.fieldLink R_B 30 "DerivativeCompiler$Body" "size" "I" ∈ gk_big := gk_in (i := 224) (by decide +kernel) rfl
theorem m_227 : Cond.fieldLink R_B 34 "DerivativeCompiler$Body" "depth" "I" ∈ gk_big := gk_in (i := 227) (by decide +kernel) rfl
theorem m_246 : Cond.methodLink R_C 69 y_K_addFunction ∈ gk_big := gk_in (i := 246) (by decide +kernel) rfl
theorem m_247 : Cond.instanceMethod y_K_addFunction ∈ gk_big := gk_in (i := 247) (by decide +kernel) rfl
theorem m_248 : Cond.selects R_K y_K_addFunction y_K_addFunction ∈ gk_big := gk_in (i := 248) (by decide +kernel) rfl
set_option maxRecDepth 20000 in
theorem m_249 : k_K_addFunction ∈ gk_big := gk_in (i := 249) (by rfl) rfl
theorem m_250 : Cond.methodLink R_L 23 y_C_statement ∈ gk_big := gk_in (i := 250) (by decide +kernel) rfl
theorem m_251 : Cond.instanceMethod y_C_statement ∈ gk_big := gk_in (i := 251) (by decide +kernel) rfl
theorem m_252 : Cond.selects R_C y_C_statement y_C_statement ∈ gk_big := gk_in (i := 252) (by decide +kernel) rfl
set_option maxRecDepth 20000 in
theorem m_253 : k_C_statement ∈ gk_big := gk_in (i := 253) (by rfl) rfl
theorem m_254 : Cond.methodLink R_C 77 y_C_isSoundStatement ∈ gk_big := gk_in (i := 254) (by decide +kernel) rfl
theorem m_256 : Cond.instanceMethod y_C_isSoundStatement ∈ gk_big := gk_in (i := 256) (by decide +kernel) rfl
set_option maxRecDepth 20000 in
theorem m_257 : k_C_isSoundStatement ∈ gk_big := gk_in (i := 257) (by rfl) rfl
theorem m_258 : Cond.methodLink R_C 81 y_B_isFull ∈ gk_big := gk_in (i := 258) (by decide +kernel) rfl
theorem m_259 : Cond.instanceMethod y_B_isFull ∈ gk_big := gk_in (i := 259) (by decide +kernel) rfl
theorem m_260 : Cond.selects R_B y_B_isFull y_B_isFull ∈ gk_big := gk_in (i := 260) (by decide +kernel) rfl
set_option maxRecDepth 20000 in
theorem m_261 : k_B_isFull ∈ gk_big := gk_in (i := 261) (by rfl) rfl
theorem m_262 : Cond.methodLink R_C 82 y_B_hasRoomFor ∈ gk_big := gk_in (i := 262) (by decide +kernel) rfl
theorem m_263 : Cond.instanceMethod y_B_hasRoomFor ∈ gk_big := gk_in (i := 263) (by decide +kernel) rfl
theorem m_264 : Cond.selects R_B y_B_hasRoomFor y_B_hasRoomFor ∈ gk_big := gk_in (i := 264) (by decide +kernel) rfl
set_option maxRecDepth 20000 in
theorem m_265 : k_B_hasRoomFor ∈ gk_big := gk_in (i := 265) (by rfl) rfl
theorem m_266 : Cond.methodLink R_C 85 y_B_timesDone ∈ gk_big := gk_in (i := 266) (by decide +kernel) rfl
theorem m_267 : Cond.instanceMethod y_B_timesDone ∈ gk_big := gk_in (i := 267) (by decide +kernel) rfl
theorem m_268 : Cond.selects R_B y_B_timesDone y_B_timesDone ∈ gk_big := gk_in (i := 268) (by decide +kernel) rfl
set_option maxRecDepth 20000 in
theorem m_269 : k_B_timesDone ∈ gk_big := gk_in (i := 269) (by rfl) rfl
theorem m_270 : Cond.methodLink R_C 89 y_C_chargeFor ∈ gk_big := gk_in (i := 270) (by decide +kernel) rfl
theorem m_272 : Cond.instanceMethod y_C_chargeFor ∈ gk_big := gk_in (i := 272) (by decide +kernel) rfl
set_option maxRecDepth 20000 in
theorem m_273 : k_C_chargeFor ∈ gk_big := gk_in (i := 273) (by rfl) rfl
theorem m_274 : Cond.methodLink R_C 156 y_K_charge ∈ gk_big := gk_in (i := 274) (by decide +kernel) rfl
theorem m_275 : Cond.instanceMethod y_K_charge ∈ gk_big := gk_in (i := 275) (by decide +kernel) rfl
theorem m_276 : Cond.selects R_K y_K_charge y_K_charge ∈ gk_big := gk_in (i := 276) (by decide +kernel) rfl
set_option maxRecDepth 20000 in
theorem m_277 : k_K_charge ∈ gk_big := gk_in (i := 277) (by rfl) rfl
theorem m_278 : Cond.methodLink R_K 48 y_A_fillI ∈ gk_big := gk_in (i := 278) (by decide +kernel) rfl
theorem m_279 : Cond.static y_A_fillI ∈ gk_big := gk_in (i := 279) (by decide +kernel) rfl
set_option maxRecDepth 20000 in
theorem m_280 : k_A_fillI ∈ gk_big := gk_in (i := 280) (by rfl) rfl
theorem m_281 : Cond.methodLink R_K 54 y_K_costOf ∈ gk_big := gk_in (i := 281) (by decide +kernel) rfl
theorem m_283 : Cond.instanceMethod y_K_costOf ∈ gk_big := gk_in (i := 283) (by decide +kernel) rfl
set_option maxRecDepth 20000 in
theorem m_284 : k_K_costOf ∈ gk_big := gk_in (i := 284) (by rfl) rfl
theorem m_285 : Cond.methodLink R_K 58 y_K_workOutAdded ∈ gk_big := gk_in (i := 285) (by decide +kernel) rfl
theorem m_287 : Cond.instanceMethod y_K_workOutAdded ∈ gk_big := gk_in (i := 287) (by decide +kernel) rfl
set_option maxRecDepth 20000 in
theorem m_288 : k_K_workOutAdded ∈ gk_big := gk_in (i := 288) (by rfl) rfl
theorem m_289 : Cond.methodLink R_K 62 y_K_isTooDear ∈ gk_big := gk_in (i := 289) (by decide +kernel) rfl
theorem m_291 : Cond.instanceMethod y_K_isTooDear ∈ gk_big := gk_in (i := 291) (by decide +kernel) rfl
set_option maxRecDepth 20000 in
theorem m_292 : k_K_isTooDear ∈ gk_big := gk_in (i := 292) (by rfl) rfl
theorem m_293 : Cond.constantLong R_K 66 (40) ∈ gk_big := gk_in (i := 293) (by decide +kernel) rfl
theorem m_294 : Cond.methodLink R_C 92 y_B_add ∈ gk_big := gk_in (i := 294) (by decide +kernel) rfl
theorem m_295 : Cond.instanceMethod y_B_add ∈ gk_big := gk_in (i := 295) (by decide +kernel) rfl
theorem m_296 : Cond.selects R_B y_B_add y_B_add ∈ gk_big := gk_in (i := 296) (by decide +kernel) rfl
set_option maxRecDepth 20000 in
theorem m_297 : k_B_add ∈ gk_big := gk_in (i := 297) (by rfl) rfl
theorem m_298 : Cond.methodLink R_L 27 y_C_derive ∈ gk_big := gk_in (i := 298) (by decide +kernel) rfl
theorem m_299 : Cond.instanceMethod y_C_derive ∈ gk_big := gk_in (i := 299) (by decide +kernel) rfl
theorem m_300 : Cond.selects R_C y_C_derive y_C_derive ∈ gk_big := gk_in (i := 300) (by decide +kernel) rfl
set_option maxRecDepth 20000 in
theorem m_301 : k_C_derive ∈ gk_big := gk_in (i := 301) (by rfl) rfl
theorem m_302 : Cond.methodLink R_L 34 y_C_run ∈ gk_big := gk_in (i := 302) (by decide +kernel) rfl
theorem m_303 : Cond.instanceMethod y_C_run ∈ gk_big := gk_in (i := 303) (by decide +kernel) rfl
theorem m_304 : Cond.selects R_C y_C_run y_C_run ∈ gk_big := gk_in (i := 304) (by decide +kernel) rfl
set_option maxRecDepth 20000 in
theorem m_305 : k_C_run ∈ gk_big := gk_in (i := 305) (by rfl) rfl
theorem m_306 : Cond.constantLong R_C 105 (-1000000000000000000) ∈ gk_big := gk_in (i := 306) (by decide +kernel) rfl
theorem m_307 : Cond.methodLink R_C 107 y_P_follow ∈ gk_big := gk_in (i := 307) (by decide +kernel) rfl
theorem m_308 : Cond.instanceMethod y_P_follow ∈ gk_big := gk_in (i := 308) (by decide +kernel) rfl
theorem m_309 : Cond.selects R_P y_P_follow y_P_follow ∈ gk_big := gk_in (i := 309) (by decide +kernel) rfl
set_option maxRecDepth 20000 in
theorem m_310 : k_P_follow ∈ gk_big := gk_in (i := 310) (by rfl) rfl
theorem m_311 : Cond.methodLink R_P 35 y_T_begin ∈ gk_big := gk_in (i := 311) (by decide +kernel) rfl
theorem m_312 : Cond.instanceMethod y_T_begin ∈ gk_big := gk_in (i := 312) (by decide +kernel) rfl
theorem m_313 : Cond.selects R_T y_T_begin y_T_begin ∈ gk_big := gk_in (i := 313) (by decide +kernel) rfl
set_option maxRecDepth 20000 in
theorem m_314 : k_T_begin ∈ gk_big := gk_in (i := 314) (by rfl) rfl
theorem m_315 : Cond.methodLink R_T 41 y_T_add ∈ gk_big := gk_in (i := 315) (by decide +kernel) rfl
theorem m_317 : Cond.instanceMethod y_T_add ∈ gk_big := gk_in (i := 317) (by decide +kernel) rfl
set_option maxRecDepth 20000 in
theorem m_318 : k_T_add ∈ gk_big := gk_in (i := 318) (by rfl) rfl
theorem m_319 : Cond.methodLink R_P 39 y_P_enter ∈ gk_big := gk_in (i := 319) (by decide +kernel) rfl
theorem m_321 : Cond.instanceMethod y_P_enter ∈ gk_big := gk_in (i := 321) (by decide +kernel) rfl
set_option maxRecDepth 20000 in
theorem m_322 : k_P_enter ∈ gk_big := gk_in (i := 322) (by rfl) rfl
theorem m_323 : Cond.methodLink R_P 43 y_A_fillR ∈ gk_big := gk_in (i := 323) (by decide +kernel) rfl
theorem m_324 : Cond.static y_A_fillR ∈ gk_big := gk_in (i := 324) (by decide +kernel) rfl
set_option maxRecDepth 20000 in
theorem m_325 : k_A_fillR ∈ gk_big := gk_in (i := 325) (by rfl) rfl
theorem m_326 : Cond.methodLink R_A 13 y_A_rangeCheck ∈ gk_big := gk_in (i := 326) (by decide +kernel) rfl
theorem m_327 : Cond.static y_A_rangeCheck ∈ gk_big := gk_in (i := 327) (by decide +kernel) rfl
set_option maxRecDepth 20000 in
theorem m_328 : k_A_rangeCheck ∈ gk_big := gk_in (i := 328) (by rfl) rfl
theorem m_329 : Cond.methodLink R_P 53 y_P_doBlock ∈ gk_big := gk_in (i := 329) (by decide +kernel) rfl
theorem m_331 : Cond.instanceMethod y_P_doBlock ∈ gk_big := gk_in (i := 331) (by decide +kernel) rfl
set_option maxRecDepth 20000 in
theorem m_332 : k_P_doBlock ∈ gk_big := gk_in (i := 332) (by rfl) rfl
theorem m_333 : Cond.methodLink R_P 57 y_P_doStatement ∈ gk_big := gk_in (i := 333) (by decide +kernel) rfl
theorem m_335 : Cond.instanceMethod y_P_doStatement ∈ gk_big := gk_in (i := 335) (by decide +kernel) rfl
set_option maxRecDepth 20000 in
theorem m_336 : k_P_doStatement ∈ gk_big := gk_in (i := 336) (by rfl) rfl
theorem m_337 : Cond.methodLink R_P 70 y_P_evaluate ∈ gk_big := gk_in (i := 337) (by decide +kernel) rfl
theorem m_339 : Cond.instanceMethod y_P_evaluate ∈ gk_big := gk_in (i := 339) (by decide +kernel) rfl
set_option maxRecDepth 20000 in
theorem m_340 : k_P_evaluate ∈ gk_big := gk_in (i := 340) (by rfl) rfl
theorem m_341 : Cond.methodLink R_P 100 y_E_hasLeft ∈ gk_big := gk_in (i := 341) (by decide +kernel) rfl
theorem m_342 : Cond.methodLink R_P 104 y_E_hasRight ∈ gk_big := gk_in (i := 342) (by decide +kernel) rfl
theorem m_343 : Cond.methodLink R_P 107 y_T_constant ∈ gk_big := gk_in (i := 343) (by decide +kernel) rfl
theorem m_344 : Cond.instanceMethod y_T_constant ∈ gk_big := gk_in (i := 344) (by decide +kernel) rfl
theorem m_345 : Cond.selects R_T y_T_constant y_T_constant ∈ gk_big := gk_in (i := 345) (by decide +kernel) rfl
set_option maxRecDepth 20000 in
theorem m_346 : k_T_constant ∈ gk_big := gk_in (i := 346) (by rfl) rfl
theorem m_347 : Cond.methodLink R_P 111 y_T_power ∈ gk_big := gk_in (i := 347) (by decide +kernel) rfl
theorem m_348 : Cond.instanceMethod y_T_power ∈ gk_big := gk_in (i := 348) (by decide +kernel) rfl
theorem m_349 : Cond.selects R_T y_T_power y_T_power ∈ gk_big := gk_in (i := 349) (by decide +kernel) rfl
set_option maxRecDepth 20000 in
theorem m_350 : k_T_power ∈ gk_big := gk_in (i := 350) (by rfl) rfl
theorem m_351 : Cond.methodLink R_T 45 y_T_constant ∈ gk_big := gk_in (i := 351) (by decide +kernel) rfl
theorem m_352 : Cond.methodLink R_T 49 y_T_product ∈ gk_big := gk_in (i := 352) (by decide +kernel) rfl
theorem m_353 : Cond.instanceMethod y_T_product ∈ gk_big := gk_in (i := 353) (by decide +kernel) rfl
theorem m_354 : Cond.selects R_T y_T_product y_T_product ∈ gk_big := gk_in (i := 354) (by decide +kernel) rfl
set_option maxRecDepth 20000 in
theorem m_355 : k_T_product ∈ gk_big := gk_in (i := 355) (by rfl) rfl
theorem m_356 : Cond.methodLink R_P 74 y_P_elementCell ∈ gk_big := gk_in (i := 356) (by decide +kernel) rfl
theorem m_358 : Cond.instanceMethod y_P_elementCell ∈ gk_big := gk_in (i := 358) (by decide +kernel) rfl
set_option maxRecDepth 20000 in
theorem m_359 : k_P_elementCell ∈ gk_big := gk_in (i := 359) (by rfl) rfl
theorem m_360 : Cond.constantLong R_P 91 (3) ∈ gk_big := gk_in (i := 360) (by decide +kernel) rfl
theorem m_361 : Cond.methodLink R_P 118 y_P_combine ∈ gk_big := gk_in (i := 361) (by decide +kernel) rfl
theorem m_363 : Cond.instanceMethod y_P_combine ∈ gk_big := gk_in (i := 363) (by decide +kernel) rfl
set_option maxRecDepth 20000 in
theorem m_364 : k_P_combine ∈ gk_big := gk_in (i := 364) (by rfl) rfl
theorem m_365 : Cond.methodLink R_P 121 y_T_sum ∈ gk_big := gk_in (i := 365) (by decide +kernel) rfl
theorem m_366 : Cond.instanceMethod y_T_sum ∈ gk_big := gk_in (i := 366) (by decide +kernel) rfl
theorem m_367 : Cond.selects R_T y_T_sum y_T_sum ∈ gk_big := gk_in (i := 367) (by decide +kernel) rfl
set_option maxRecDepth 20000 in
theorem m_368 : k_T_sum ∈ gk_big := gk_in (i := 368) (by rfl) rfl
theorem m_369 : Cond.methodLink R_P 124 y_T_difference ∈ gk_big := gk_in (i := 369) (by decide +kernel) rfl
theorem m_370 : Cond.instanceMethod y_T_difference ∈ gk_big := gk_in (i := 370) (by decide +kernel) rfl
theorem m_371 : Cond.selects R_T y_T_difference y_T_difference ∈ gk_big := gk_in (i := 371) (by decide +kernel) rfl
set_option maxRecDepth 20000 in
theorem m_372 : k_T_difference ∈ gk_big := gk_in (i := 372) (by rfl) rfl
theorem m_373 : Cond.methodLink R_P 127 y_T_product ∈ gk_big := gk_in (i := 373) (by decide +kernel) rfl
theorem m_374 : Cond.methodLink R_P 130 y_T_magnitude ∈ gk_big := gk_in (i := 374) (by decide +kernel) rfl
theorem m_375 : Cond.instanceMethod y_T_magnitude ∈ gk_big := gk_in (i := 375) (by decide +kernel) rfl
theorem m_376 : Cond.selects R_T y_T_magnitude y_T_magnitude ∈ gk_big := gk_in (i := 376) (by decide +kernel) rfl
set_option maxRecDepth 20000 in
theorem m_377 : k_T_magnitude ∈ gk_big := gk_in (i := 377) (by rfl) rfl
theorem m_378 : Cond.methodLink R_T 53 y_T_difference ∈ gk_big := gk_in (i := 378) (by decide +kernel) rfl
theorem m_379 : Cond.methodLink R_P 77 y_P_doIf ∈ gk_big := gk_in (i := 379) (by decide +kernel) rfl
theorem m_381 : Cond.instanceMethod y_P_doIf ∈ gk_big := gk_in (i := 381) (by decide +kernel) rfl
set_option maxRecDepth 20000 in
theorem m_382 : k_P_doIf ∈ gk_big := gk_in (i := 382) (by rfl) rfl
theorem m_383 : Cond.methodLink R_P 80 y_B_closeOf ∈ gk_big := gk_in (i := 383) (by decide +kernel) rfl
theorem m_384 : Cond.instanceMethod y_B_closeOf ∈ gk_big := gk_in (i := 384) (by decide +kernel) rfl
theorem m_385 : Cond.selects R_B y_B_closeOf y_B_closeOf ∈ gk_big := gk_in (i := 385) (by decide +kernel) rfl
set_option maxRecDepth 20000 in
theorem m_386 : k_B_closeOf ∈ gk_big := gk_in (i := 386) (by rfl) rfl
theorem m_387 : Cond.methodLink R_B 37 ⟨"java/lang/Math", "min", "(II)I"⟩ ∈ gk_big := gk_in (i := 387) (by decide +kernel) rfl
theorem m_388 : Cond.methodLink R_P 84 y_B_endOfIf ∈ gk_big := gk_in (i := 388) (by decide +kernel) rfl
theorem m_389 : Cond.instanceMethod y_B_endOfIf ∈ gk_big := gk_in (i := 389) (by decide +kernel) rfl
theorem m_390 : Cond.selects R_B y_B_endOfIf y_B_endOfIf ∈ gk_big := gk_in (i := 390) (by decide +kernel) rfl
set_option maxRecDepth 20000 in
theorem m_391 : k_B_endOfIf ∈ gk_big := gk_in (i := 391) (by rfl) rfl
theorem m_392 : Cond.methodLink R_B 43 y_B_closeOf ∈ gk_big := gk_in (i := 392) (by decide +kernel) rfl
theorem m_393 : Cond.methodLink R_C 121 y_T_slope ∈ gk_big := gk_in (i := 393) (by decide +kernel) rfl
theorem m_394 : Cond.instanceMethod y_T_slope ∈ gk_big := gk_in (i := 394) (by decide +kernel) rfl
theorem m_395 : Cond.selects R_T y_T_slope y_T_slope ∈ gk_big := gk_in (i := 395) (by decide +kernel) rfl
set_option maxRecDepth 20000 in
theorem m_396 : k_T_slope ∈ gk_big := gk_in (i := 396) (by rfl) rfl
theorem m_397 : Cond.methodLink R_T 56 y_T_workOutSlopes ∈ gk_big := gk_in (i := 397) (by decide +kernel) rfl
theorem m_399 : Cond.instanceMethod y_T_workOutSlopes ∈ gk_big := gk_in (i := 399) (by decide +kernel) rfl
set_option maxRecDepth 20000 in
theorem m_400 : k_T_workOutSlopes ∈ gk_big := gk_in (i := 400) (by rfl) rfl
theorem m_401 : Cond.methodLink R_T 60 y_T_slopeFromParts ∈ gk_big := gk_in (i := 401) (by decide +kernel) rfl
theorem m_403 : Cond.instanceMethod y_T_slopeFromParts ∈ gk_big := gk_in (i := 403) (by decide +kernel) rfl
set_option maxRecDepth 20000 in
theorem m_404 : k_T_slopeFromParts ∈ gk_big := gk_in (i := 404) (by rfl) rfl
theorem m_405 : Cond.methodLink R_C 125 y_T_slopeOfSlope ∈ gk_big := gk_in (i := 405) (by decide +kernel) rfl
theorem m_406 : Cond.instanceMethod y_T_slopeOfSlope ∈ gk_big := gk_in (i := 406) (by decide +kernel) rfl
theorem m_407 : Cond.selects R_T y_T_slopeOfSlope y_T_slopeOfSlope ∈ gk_big := gk_in (i := 407) (by decide +kernel) rfl
set_option maxRecDepth 20000 in
theorem m_408 : k_T_slopeOfSlope ∈ gk_big := gk_in (i := 408) (by rfl) rfl
theorem m_409 : Cond.methodLink R_L 39 y_C_gradient ∈ gk_big := gk_in (i := 409) (by decide +kernel) rfl
theorem m_410 : Cond.instanceMethod y_C_gradient ∈ gk_big := gk_in (i := 410) (by decide +kernel) rfl
theorem m_411 : Cond.selects R_C y_C_gradient y_C_gradient ∈ gk_big := gk_in (i := 411) (by decide +kernel) rfl
set_option maxRecDepth 20000 in
theorem m_412 : k_C_gradient ∈ gk_big := gk_in (i := 412) (by rfl) rfl
theorem m_413 : Cond.methodLink R_C 129 y_T_slopeBackwards ∈ gk_big := gk_in (i := 413) (by decide +kernel) rfl
theorem m_414 : Cond.instanceMethod y_T_slopeBackwards ∈ gk_big := gk_in (i := 414) (by decide +kernel) rfl
theorem m_415 : Cond.selects R_T y_T_slopeBackwards y_T_slopeBackwards ∈ gk_big := gk_in (i := 415) (by decide +kernel) rfl
set_option maxRecDepth 20000 in
theorem m_416 : k_T_slopeBackwards ∈ gk_big := gk_in (i := 416) (by rfl) rfl
theorem m_417 : Cond.methodLink R_T 64 y_A_fillJ ∈ gk_big := gk_in (i := 417) (by decide +kernel) rfl
theorem m_418 : Cond.static y_A_fillJ ∈ gk_big := gk_in (i := 418) (by decide +kernel) rfl
set_option maxRecDepth 20000 in
theorem m_419 : k_A_fillJ ∈ gk_big := gk_in (i := 419) (by rfl) rfl
theorem m_420 : Cond.methodLink R_L 44 y_C_cost ∈ gk_big := gk_in (i := 420) (by decide +kernel) rfl
theorem m_421 : Cond.instanceMethod y_C_cost ∈ gk_big := gk_in (i := 421) (by decide +kernel) rfl
theorem m_422 : Cond.selects R_C y_C_cost y_C_cost ∈ gk_big := gk_in (i := 422) (by decide +kernel) rfl
set_option maxRecDepth 20000 in
theorem m_423 : k_C_cost ∈ gk_big := gk_in (i := 423) (by rfl) rfl
theorem m_424 : Cond.methodLink R_L 49 y_C_order ∈ gk_big := gk_in (i := 424) (by decide +kernel) rfl
theorem m_425 : Cond.instanceMethod y_C_order ∈ gk_big := gk_in (i := 425) (by decide +kernel) rfl
theorem m_426 : Cond.selects R_C y_C_order y_C_order ∈ gk_big := gk_in (i := 426) (by decide +kernel) rfl
set_option maxRecDepth 20000 in
theorem m_427 : k_C_order ∈ gk_big := gk_in (i := 427) (by rfl) rfl
theorem m_428 : Cond.methodLink R_L 53 y_C_calls ∈ gk_big := gk_in (i := 428) (by decide +kernel) rfl
theorem m_429 : Cond.instanceMethod y_C_calls ∈ gk_big := gk_in (i := 429) (by decide +kernel) rfl
theorem m_430 : Cond.selects R_C y_C_calls y_C_calls ∈ gk_big := gk_in (i := 430) (by decide +kernel) rfl
set_option maxRecDepth 20000 in
theorem m_431 : k_C_calls ∈ gk_big := gk_in (i := 431) (by rfl) rfl
theorem m_432 : Cond.methodLink R_C 135 y_K_doesCall ∈ gk_big := gk_in (i := 432) (by decide +kernel) rfl
theorem m_433 : Cond.instanceMethod y_K_doesCall ∈ gk_big := gk_in (i := 433) (by decide +kernel) rfl
theorem m_434 : Cond.selects R_K y_K_doesCall y_K_doesCall ∈ gk_big := gk_in (i := 434) (by decide +kernel) rfl
set_option maxRecDepth 20000 in
theorem m_435 : k_K_doesCall ∈ gk_big := gk_in (i := 435) (by rfl) rfl
theorem m_436 : Cond.methodLink R_L 57 y_C_count ∈ gk_big := gk_in (i := 436) (by decide +kernel) rfl
theorem m_437 : Cond.instanceMethod y_C_count ∈ gk_big := gk_in (i := 437) (by decide +kernel) rfl
theorem m_438 : Cond.selects R_C y_C_count y_C_count ∈ gk_big := gk_in (i := 438) (by decide +kernel) rfl
set_option maxRecDepth 20000 in
theorem m_439 : k_C_count ∈ gk_big := gk_in (i := 439) (by rfl) rfl
theorem m_440 : Cond.methodLink R_C 141 y_P_statementsInAll ∈ gk_big := gk_in (i := 440) (by decide +kernel) rfl
theorem m_441 : Cond.instanceMethod y_P_statementsInAll ∈ gk_big := gk_in (i := 441) (by decide +kernel) rfl
theorem m_442 : Cond.selects R_P y_P_statementsInAll y_P_statementsInAll ∈ gk_big := gk_in (i := 442) (by decide +kernel) rfl
set_option maxRecDepth 20000 in
theorem m_443 : k_P_statementsInAll ∈ gk_big := gk_in (i := 443) (by rfl) rfl
theorem m_444 : Cond.methodLink R_C 144 y_P_openInAll ∈ gk_big := gk_in (i := 444) (by decide +kernel) rfl
theorem m_445 : Cond.instanceMethod y_P_openInAll ∈ gk_big := gk_in (i := 445) (by decide +kernel) rfl
theorem m_446 : Cond.selects R_P y_P_openInAll y_P_openInAll ∈ gk_big := gk_in (i := 446) (by decide +kernel) rfl
set_option maxRecDepth 20000 in
theorem m_447 : k_P_openInAll ∈ gk_big := gk_in (i := 447) (by rfl) rfl
theorem m_448 : Cond.classLink R_L 10 R_M ∈ gk_big := gk_in (i := 448) (by decide +kernel) rfl
theorem m_449 : Cond.instantiable R_M 24 ∈ gk_big := gk_in (i := 449) (by decide +kernel) rfl
theorem m_450 : Cond.methodLink R_L 12 y_M_init ∈ gk_big := gk_in (i := 450) (by decide +kernel) rfl
theorem m_451 : Cond.instanceMethod y_M_init ∈ gk_big := gk_in (i := 451) (by decide +kernel) rfl
set_option maxRecDepth 20000 in
theorem m_452 : k_M_init ∈ gk_big := gk_in (i := 452) (by rfl) rfl
theorem m_453 : Cond.methodLink R_M 1 objectInit ∈ gk_big := gk_in (i := 453) (by decide +kernel) rfl
theorem m_454 : Cond.fieldLink R_M 7 "DerivativeCompilerModel" "eKind" "[I" ∈ gk_big := gk_in (i := 454) (by decide +kernel) rfl
theorem m_455 : Cond.fieldLink R_M 13 "DerivativeCompilerModel" "ea" "[I" ∈ gk_big := gk_in (i := 455) (by decide +kernel) rfl
theorem m_456 : Cond.fieldLink R_M 16 "DerivativeCompilerModel" "eb" "[I" ∈ gk_big := gk_in (i := 456) (by decide +kernel) rfl
theorem m_457 : Cond.fieldLink R_M 19 "DerivativeCompilerModel" "ec" "[I" ∈ gk_big := gk_in (i := 457) (by decide +kernel) rfl
theorem m_458 : Cond.fieldLink R_M 75 "DerivativeCompilerModel" "expressions" "I" ∈ gk_big := gk_in (i := 458) (by decide +kernel) rfl
theorem m_459 : Cond.fieldLink R_M 22 "DerivativeCompilerModel" "of" "[I" ∈ gk_big := gk_in (i := 459) (by decide +kernel) rfl
theorem m_460 : Cond.fieldLink R_M 25 "DerivativeCompilerModel" "by" "[I" ∈ gk_big := gk_in (i := 460) (by decide +kernel) rfl
theorem m_461 : Cond.fieldLink R_M 83 "DerivativeCompilerModel" "functions" "I" ∈ gk_big := gk_in (i := 461) (by decide +kernel) rfl
theorem m_462 : Cond.fieldLink R_M 28 "DerivativeCompilerModel" "sKind" "[I" ∈ gk_big := gk_in (i := 462) (by decide +kernel) rfl
theorem m_463 : Cond.fieldLink R_M 31 "DerivativeCompilerModel" "sa" "[I" ∈ gk_big := gk_in (i := 463) (by decide +kernel) rfl
theorem m_464 : Cond.fieldLink R_M 34 "DerivativeCompilerModel" "sb" "[I" ∈ gk_big := gk_in (i := 464) (by decide +kernel) rfl
theorem m_465 : Cond.fieldLink R_M 37 "DerivativeCompilerModel" "size" "[I" ∈ gk_big := gk_in (i := 465) (by decide +kernel) rfl
theorem m_466 : Cond.fieldLink R_M 40 "DerivativeCompilerModel" "eCost" "[I" ∈ gk_big := gk_in (i := 466) (by decide +kernel) rfl
theorem m_467 : Cond.fieldLink R_M 43 "DerivativeCompilerModel" "fCost" "[I" ∈ gk_big := gk_in (i := 467) (by decide +kernel) rfl
theorem m_468 : Cond.fieldLink R_M 46 "DerivativeCompilerModel" "met" "[Z" ∈ gk_big := gk_in (i := 468) (by decide +kernel) rfl
theorem m_469 : Cond.fieldLink R_M 50 "DerivativeCompilerModel" "reached" "[Z" ∈ gk_big := gk_in (i := 469) (by decide +kernel) rfl
theorem m_470 : Cond.fieldLink R_M 53 "DerivativeCompilerModel" "cell" "[J" ∈ gk_big := gk_in (i := 470) (by decide +kernel) rfl
theorem m_471 : Cond.fieldLink R_M 57 "DerivativeCompilerModel" "part" "[J" ∈ gk_big := gk_in (i := 471) (by decide +kernel) rfl
theorem m_472 : Cond.fieldLink R_M 60 "DerivativeCompilerModel" "needed" "[Z" ∈ gk_big := gk_in (i := 472) (by decide +kernel) rfl
theorem m_473 : Cond.fieldLink R_M 63 "DerivativeCompilerModel" "fFunction" "[I" ∈ gk_big := gk_in (i := 473) (by decide +kernel) rfl
theorem m_474 : Cond.fieldLink R_M 66 "DerivativeCompilerModel" "fPc" "[I" ∈ gk_big := gk_in (i := 474) (by decide +kernel) rfl
theorem m_475 : Cond.fieldLink R_M 69 "DerivativeCompilerModel" "fAt" "[I" ∈ gk_big := gk_in (i := 475) (by decide +kernel) rfl
theorem m_476 : Cond.fieldLink R_M 72 "DerivativeCompilerModel" "left" "[I" ∈ gk_big := gk_in (i := 476) (by decide +kernel) rfl
theorem m_477 : Cond.fieldLink R_M 143 "DerivativeCompilerModel" "depth" "I" ∈ gk_big := gk_in (i := 477) (by decide +kernel) rfl
theorem m_527 : Cond.arrayClass .boolean ∈ gk_big := gk_in (i := 527) (by decide +kernel) rfl
theorem m_528 : Cond.methodLink R_L 17 y_M_expression ∈ gk_big := gk_in (i := 528) (by decide +kernel) rfl
theorem m_529 : Cond.instanceMethod y_M_expression ∈ gk_big := gk_in (i := 529) (by decide +kernel) rfl
theorem m_530 : Cond.selects R_M y_M_expression y_M_expression ∈ gk_big := gk_in (i := 530) (by decide +kernel) rfl
set_option maxRecDepth 20000 in
theorem m_531 : k_M_expression ∈ gk_big := gk_in (i := 531) (by rfl) rfl
theorem m_532 : Cond.methodLink R_M 79 y_M_out ∈ gk_big := gk_in (i := 532) (by decide +kernel) rfl
theorem m_533 : Cond.static y_M_out ∈ gk_big := gk_in (i := 533) (by decide +kernel) rfl
set_option maxRecDepth 20000 in
theorem m_534 : k_M_out ∈ gk_big := gk_in (i := 534) (by rfl) rfl
theorem m_535 : Cond.methodLink R_M 86 y_M_noExpression ∈ gk_big := gk_in (i := 535) (by decide +kernel) rfl
theorem m_537 : Cond.instanceMethod y_M_noExpression ∈ gk_big := gk_in (i := 537) (by decide +kernel) rfl
set_option maxRecDepth 20000 in
theorem m_538 : k_M_noExpression ∈ gk_big := gk_in (i := 538) (by rfl) rfl
theorem m_539 : Cond.methodLink R_M 90 y_M_hasSecond ∈ gk_big := gk_in (i := 539) (by decide +kernel) rfl
theorem m_540 : Cond.static y_M_hasSecond ∈ gk_big := gk_in (i := 540) (by decide +kernel) rfl
set_option maxRecDepth 20000 in
theorem m_541 : k_M_hasSecond ∈ gk_big := gk_in (i := 541) (by rfl) rfl
theorem m_542 : Cond.methodLink R_M 93 y_M_noOwn ∈ gk_big := gk_in (i := 542) (by decide +kernel) rfl
theorem m_544 : Cond.instanceMethod y_M_noOwn ∈ gk_big := gk_in (i := 544) (by decide +kernel) rfl
set_option maxRecDepth 20000 in
theorem m_545 : k_M_noOwn ∈ gk_big := gk_in (i := 545) (by rfl) rfl
theorem m_546 : Cond.methodLink R_L 22 y_M_function ∈ gk_big := gk_in (i := 546) (by decide +kernel) rfl
theorem m_547 : Cond.instanceMethod y_M_function ∈ gk_big := gk_in (i := 547) (by decide +kernel) rfl
theorem m_548 : Cond.selects R_M y_M_function y_M_function ∈ gk_big := gk_in (i := 548) (by decide +kernel) rfl
set_option maxRecDepth 20000 in
theorem m_549 : k_M_function ∈ gk_big := gk_in (i := 549) (by rfl) rfl
theorem m_550 : Cond.methodLink R_L 31 y_M_derive ∈ gk_big := gk_in (i := 550) (by decide +kernel) rfl
theorem m_551 : Cond.instanceMethod y_M_derive ∈ gk_big := gk_in (i := 551) (by decide +kernel) rfl
theorem m_552 : Cond.selects R_M y_M_derive y_M_derive ∈ gk_big := gk_in (i := 552) (by decide +kernel) rfl
set_option maxRecDepth 20000 in
theorem m_553 : k_M_derive ∈ gk_big := gk_in (i := 553) (by rfl) rfl
theorem m_554 : Cond.methodLink R_M 96 y_M_order ∈ gk_big := gk_in (i := 554) (by decide +kernel) rfl
theorem m_555 : Cond.instanceMethod y_M_order ∈ gk_big := gk_in (i := 555) (by decide +kernel) rfl
theorem m_556 : Cond.selects R_M y_M_order y_M_order ∈ gk_big := gk_in (i := 556) (by decide +kernel) rfl
set_option maxRecDepth 20000 in
theorem m_557 : k_M_order ∈ gk_big := gk_in (i := 557) (by rfl) rfl
theorem m_558 : Cond.methodLink R_L 52 y_M_order ∈ gk_big := gk_in (i := 558) (by decide +kernel) rfl
theorem m_559 : Cond.methodLink R_L 26 y_M_statement ∈ gk_big := gk_in (i := 559) (by decide +kernel) rfl
theorem m_560 : Cond.instanceMethod y_M_statement ∈ gk_big := gk_in (i := 560) (by decide +kernel) rfl
theorem m_561 : Cond.selects R_M y_M_statement y_M_statement ∈ gk_big := gk_in (i := 561) (by decide +kernel) rfl
set_option maxRecDepth 20000 in
theorem m_562 : k_M_statement ∈ gk_big := gk_in (i := 562) (by rfl) rfl
theorem m_563 : Cond.methodLink R_M 118 y_M_uses ∈ gk_big := gk_in (i := 563) (by decide +kernel) rfl
theorem m_564 : Cond.static y_M_uses ∈ gk_big := gk_in (i := 564) (by decide +kernel) rfl
set_option maxRecDepth 20000 in
theorem m_565 : k_M_uses ∈ gk_big := gk_in (i := 565) (by rfl) rfl
theorem m_566 : Cond.methodLink R_M 133 y_M_misplaced ∈ gk_big := gk_in (i := 566) (by decide +kernel) rfl
theorem m_568 : Cond.instanceMethod y_M_misplaced ∈ gk_big := gk_in (i := 568) (by decide +kernel) rfl
set_option maxRecDepth 20000 in
theorem m_569 : k_M_misplaced ∈ gk_big := gk_in (i := 569) (by rfl) rfl
theorem m_570 : Cond.methodLink R_M 107 y_M_within ∈ gk_big := gk_in (i := 570) (by decide +kernel) rfl
theorem m_572 : Cond.instanceMethod y_M_within ∈ gk_big := gk_in (i := 572) (by decide +kernel) rfl
set_option maxRecDepth 20000 in
theorem m_573 : k_M_within ∈ gk_big := gk_in (i := 573) (by rfl) rfl
theorem m_574 : Cond.methodLink R_M 100 y_M_kindAt ∈ gk_big := gk_in (i := 574) (by decide +kernel) rfl
theorem m_576 : Cond.instanceMethod y_M_kindAt ∈ gk_big := gk_in (i := 576) (by decide +kernel) rfl
set_option maxRecDepth 20000 in
theorem m_577 : k_M_kindAt ∈ gk_big := gk_in (i := 577) (by rfl) rfl
theorem m_578 : Cond.methodLink R_M 104 y_M_opens ∈ gk_big := gk_in (i := 578) (by decide +kernel) rfl
theorem m_579 : Cond.static y_M_opens ∈ gk_big := gk_in (i := 579) (by decide +kernel) rfl
set_option maxRecDepth 20000 in
theorem m_580 : k_M_opens ∈ gk_big := gk_in (i := 580) (by rfl) rfl
theorem m_581 : Cond.methodLink R_M 110 y_M_close ∈ gk_big := gk_in (i := 581) (by decide +kernel) rfl
theorem m_583 : Cond.instanceMethod y_M_close ∈ gk_big := gk_in (i := 583) (by decide +kernel) rfl
set_option maxRecDepth 20000 in
theorem m_584 : k_M_close ∈ gk_big := gk_in (i := 584) (by rfl) rfl
theorem m_585 : Cond.methodLink R_M 136 y_M_reach ∈ gk_big := gk_in (i := 585) (by decide +kernel) rfl
theorem m_587 : Cond.instanceMethod y_M_reach ∈ gk_big := gk_in (i := 587) (by decide +kernel) rfl
set_option maxRecDepth 20000 in
theorem m_588 : k_M_reach ∈ gk_big := gk_in (i := 588) (by rfl) rfl
theorem m_589 : Cond.methodLink R_M 114 y_M_direct ∈ gk_big := gk_in (i := 589) (by decide +kernel) rfl
theorem m_591 : Cond.instanceMethod y_M_direct ∈ gk_big := gk_in (i := 591) (by decide +kernel) rfl
set_option maxRecDepth 20000 in
theorem m_592 : k_M_direct ∈ gk_big := gk_in (i := 592) (by rfl) rfl
theorem m_593 : Cond.methodLink R_M 139 y_M_tooDear ∈ gk_big := gk_in (i := 593) (by decide +kernel) rfl
theorem m_595 : Cond.instanceMethod y_M_tooDear ∈ gk_big := gk_in (i := 595) (by decide +kernel) rfl
set_option maxRecDepth 20000 in
theorem m_596 : k_M_tooDear ∈ gk_big := gk_in (i := 596) (by rfl) rfl
theorem m_597 : Cond.methodLink R_M 124 y_M_costOf ∈ gk_big := gk_in (i := 597) (by decide +kernel) rfl
theorem m_599 : Cond.instanceMethod y_M_costOf ∈ gk_big := gk_in (i := 599) (by decide +kernel) rfl
set_option maxRecDepth 20000 in
theorem m_600 : k_M_costOf ∈ gk_big := gk_in (i := 600) (by rfl) rfl
theorem m_601 : Cond.methodLink R_M 121 y_M_cap ∈ gk_big := gk_in (i := 601) (by decide +kernel) rfl
theorem m_602 : Cond.static y_M_cap ∈ gk_big := gk_in (i := 602) (by decide +kernel) rfl
set_option maxRecDepth 20000 in
theorem m_603 : k_M_cap ∈ gk_big := gk_in (i := 603) (by rfl) rfl
theorem m_604 : Cond.methodLink R_M 127 y_M_sumOf ∈ gk_big := gk_in (i := 604) (by decide +kernel) rfl
theorem m_606 : Cond.instanceMethod y_M_sumOf ∈ gk_big := gk_in (i := 606) (by decide +kernel) rfl
set_option maxRecDepth 20000 in
theorem m_607 : k_M_sumOf ∈ gk_big := gk_in (i := 607) (by rfl) rfl
theorem m_608 : Cond.methodLink R_M 130 y_M_times ∈ gk_big := gk_in (i := 608) (by decide +kernel) rfl
theorem m_610 : Cond.instanceMethod y_M_times ∈ gk_big := gk_in (i := 610) (by decide +kernel) rfl
set_option maxRecDepth 20000 in
theorem m_611 : k_M_times ∈ gk_big := gk_in (i := 611) (by rfl) rfl
theorem m_612 : Cond.methodLink R_L 38 y_M_run ∈ gk_big := gk_in (i := 612) (by decide +kernel) rfl
theorem m_613 : Cond.instanceMethod y_M_run ∈ gk_big := gk_in (i := 613) (by decide +kernel) rfl
theorem m_614 : Cond.selects R_M y_M_run y_M_run ∈ gk_big := gk_in (i := 614) (by decide +kernel) rfl
set_option maxRecDepth 20000 in
theorem m_615 : k_M_run ∈ gk_big := gk_in (i := 615) (by rfl) rfl
theorem m_616 : Cond.constantLong R_M 201 (-1000000000000000000) ∈ gk_big := gk_in (i := 616) (by decide +kernel) rfl
theorem m_617 : Cond.methodLink R_M 203 y_M_start ∈ gk_big := gk_in (i := 617) (by decide +kernel) rfl
theorem m_619 : Cond.instanceMethod y_M_start ∈ gk_big := gk_in (i := 619) (by decide +kernel) rfl
set_option maxRecDepth 20000 in
theorem m_620 : k_M_start ∈ gk_big := gk_in (i := 620) (by rfl) rfl
theorem m_621 : Cond.methodLink R_M 176 y_M_enter ∈ gk_big := gk_in (i := 621) (by decide +kernel) rfl
theorem m_623 : Cond.instanceMethod y_M_enter ∈ gk_big := gk_in (i := 623) (by decide +kernel) rfl
set_option maxRecDepth 20000 in
theorem m_624 : k_M_enter ∈ gk_big := gk_in (i := 624) (by rfl) rfl
theorem m_625 : Cond.methodLink R_M 192 y_M_lacking ∈ gk_big := gk_in (i := 625) (by decide +kernel) rfl
theorem m_627 : Cond.instanceMethod y_M_lacking ∈ gk_big := gk_in (i := 627) (by decide +kernel) rfl
set_option maxRecDepth 20000 in
theorem m_628 : k_M_lacking ∈ gk_big := gk_in (i := 628) (by rfl) rfl
theorem m_629 : Cond.methodLink R_M 195 y_M_leave ∈ gk_big := gk_in (i := 629) (by decide +kernel) rfl
theorem m_631 : Cond.instanceMethod y_M_leave ∈ gk_big := gk_in (i := 631) (by decide +kernel) rfl
set_option maxRecDepth 20000 in
theorem m_632 : k_M_leave ∈ gk_big := gk_in (i := 632) (by rfl) rfl
theorem m_633 : Cond.methodLink R_M 153 y_M_slot ∈ gk_big := gk_in (i := 633) (by decide +kernel) rfl
theorem m_635 : Cond.instanceMethod y_M_slot ∈ gk_big := gk_in (i := 635) (by decide +kernel) rfl
set_option maxRecDepth 20000 in
theorem m_636 : k_M_slot ∈ gk_big := gk_in (i := 636) (by rfl) rfl
theorem m_637 : Cond.methodLink R_M 146 y_M_base ∈ gk_big := gk_in (i := 637) (by decide +kernel) rfl
theorem m_639 : Cond.instanceMethod y_M_base ∈ gk_big := gk_in (i := 639) (by decide +kernel) rfl
set_option maxRecDepth 20000 in
theorem m_640 : k_M_base ∈ gk_big := gk_in (i := 640) (by rfl) rfl
theorem m_641 : Cond.methodLink R_M 198 y_M_step ∈ gk_big := gk_in (i := 641) (by decide +kernel) rfl
theorem m_643 : Cond.instanceMethod y_M_step ∈ gk_big := gk_in (i := 643) (by decide +kernel) rfl
set_option maxRecDepth 20000 in
theorem m_644 : k_M_step ∈ gk_big := gk_in (i := 644) (by rfl) rfl
theorem m_645 : Cond.methodLink R_M 185 y_M_evaluate ∈ gk_big := gk_in (i := 645) (by decide +kernel) rfl
theorem m_647 : Cond.instanceMethod y_M_evaluate ∈ gk_big := gk_in (i := 647) (by decide +kernel) rfl
set_option maxRecDepth 20000 in
theorem m_648 : k_M_evaluate ∈ gk_big := gk_in (i := 648) (by rfl) rfl
theorem m_649 : Cond.methodLink R_M 179 y_M_need ∈ gk_big := gk_in (i := 649) (by decide +kernel) rfl
theorem m_651 : Cond.instanceMethod y_M_need ∈ gk_big := gk_in (i := 651) (by decide +kernel) rfl
set_option maxRecDepth 20000 in
theorem m_652 : k_M_need ∈ gk_big := gk_in (i := 652) (by rfl) rfl
theorem m_653 : Cond.methodLink R_M 182 y_M_work ∈ gk_big := gk_in (i := 653) (by decide +kernel) rfl
theorem m_655 : Cond.instanceMethod y_M_work ∈ gk_big := gk_in (i := 655) (by decide +kernel) rfl
set_option maxRecDepth 20000 in
theorem m_656 : k_M_work ∈ gk_big := gk_in (i := 656) (by rfl) rfl
theorem m_657 : Cond.methodLink R_M 149 y_M_constant ∈ gk_big := gk_in (i := 657) (by decide +kernel) rfl
theorem m_659 : Cond.instanceMethod y_M_constant ∈ gk_big := gk_in (i := 659) (by decide +kernel) rfl
set_option maxRecDepth 20000 in
theorem m_660 : k_M_constant ∈ gk_big := gk_in (i := 660) (by rfl) rfl
theorem m_661 : Cond.methodLink R_M 156 y_M_copy ∈ gk_big := gk_in (i := 661) (by decide +kernel) rfl
theorem m_663 : Cond.instanceMethod y_M_copy ∈ gk_big := gk_in (i := 663) (by decide +kernel) rfl
set_option maxRecDepth 20000 in
theorem m_664 : k_M_copy ∈ gk_big := gk_in (i := 664) (by rfl) rfl
theorem m_665 : Cond.methodLink R_M 160 y_M_combine ∈ gk_big := gk_in (i := 665) (by decide +kernel) rfl
theorem m_667 : Cond.instanceMethod y_M_combine ∈ gk_big := gk_in (i := 667) (by decide +kernel) rfl
set_option maxRecDepth 20000 in
theorem m_668 : k_M_combine ∈ gk_big := gk_in (i := 668) (by rfl) rfl
theorem m_669 : Cond.constantLong R_M 164 (-1) ∈ gk_big := gk_in (i := 669) (by decide +kernel) rfl
theorem m_670 : Cond.methodLink R_M 166 y_M_multiply ∈ gk_big := gk_in (i := 670) (by decide +kernel) rfl
theorem m_672 : Cond.instanceMethod y_M_multiply ∈ gk_big := gk_in (i := 672) (by decide +kernel) rfl
set_option maxRecDepth 20000 in
theorem m_673 : k_M_multiply ∈ gk_big := gk_in (i := 673) (by rfl) rfl
theorem m_674 : Cond.methodLink R_M 170 y_M_scale ∈ gk_big := gk_in (i := 674) (by decide +kernel) rfl
theorem m_676 : Cond.instanceMethod y_M_scale ∈ gk_big := gk_in (i := 676) (by decide +kernel) rfl
set_option maxRecDepth 20000 in
theorem m_677 : k_M_scale ∈ gk_big := gk_in (i := 677) (by rfl) rfl
theorem m_678 : Cond.constantLong R_M 174 (3) ∈ gk_big := gk_in (i := 678) (by decide +kernel) rfl
theorem m_679 : Cond.methodLink R_M 188 y_M_store ∈ gk_big := gk_in (i := 679) (by decide +kernel) rfl
theorem m_681 : Cond.instanceMethod y_M_store ∈ gk_big := gk_in (i := 681) (by decide +kernel) rfl
set_option maxRecDepth 20000 in
theorem m_682 : k_M_store ∈ gk_big := gk_in (i := 682) (by rfl) rfl
theorem m_683 : Cond.methodLink R_L 43 y_M_gradient ∈ gk_big := gk_in (i := 683) (by decide +kernel) rfl
theorem m_684 : Cond.instanceMethod y_M_gradient ∈ gk_big := gk_in (i := 684) (by decide +kernel) rfl
theorem m_685 : Cond.selects R_M y_M_gradient y_M_gradient ∈ gk_big := gk_in (i := 685) (by decide +kernel) rfl
set_option maxRecDepth 20000 in
theorem m_686 : k_M_gradient ∈ gk_big := gk_in (i := 686) (by rfl) rfl
theorem m_687 : Cond.methodLink R_L 48 y_M_cost ∈ gk_big := gk_in (i := 687) (by decide +kernel) rfl
theorem m_688 : Cond.instanceMethod y_M_cost ∈ gk_big := gk_in (i := 688) (by decide +kernel) rfl
theorem m_689 : Cond.selects R_M y_M_cost y_M_cost ∈ gk_big := gk_in (i := 689) (by decide +kernel) rfl
set_option maxRecDepth 20000 in
theorem m_690 : k_M_cost ∈ gk_big := gk_in (i := 690) (by rfl) rfl
theorem m_691 : Cond.methodLink R_L 56 y_M_calls ∈ gk_big := gk_in (i := 691) (by decide +kernel) rfl
theorem m_692 : Cond.instanceMethod y_M_calls ∈ gk_big := gk_in (i := 692) (by decide +kernel) rfl
theorem m_693 : Cond.selects R_M y_M_calls y_M_calls ∈ gk_big := gk_in (i := 693) (by decide +kernel) rfl
set_option maxRecDepth 20000 in
theorem m_694 : k_M_calls ∈ gk_big := gk_in (i := 694) (by rfl) rfl
theorem m_695 : Cond.methodLink R_L 60 y_M_count ∈ gk_big := gk_in (i := 695) (by decide +kernel) rfl
theorem m_696 : Cond.instanceMethod y_M_count ∈ gk_big := gk_in (i := 696) (by decide +kernel) rfl
theorem m_697 : Cond.selects R_M y_M_count y_M_count ∈ gk_big := gk_in (i := 697) (by decide +kernel) rfl
set_option maxRecDepth 20000 in
theorem m_698 : k_M_count ∈ gk_big := gk_in (i := 698) (by rfl) rfl
theorem m_699 : Cond.constantLong R_L 32 (4294967295) ∈ gk_big := gk_in (i := 699) (by decide +kernel) rfl
theorem gk_sel {q : MethodName × Nat} {i : Nat} (h : lw_privs[i]? = some q) : Cond.selects q.1.cls q.1 q.1 ∈ gk_big := List.mem_filter.mpr ⟨List.mem_append_left _ (List.mem_map.mpr ⟨q, List.mem_of_getElem? h, rfl⟩), rfl⟩
theorem ms_0 : Cond.selects R_C y_C_isSoundExpression y_C_isSoundExpression ∈ gk_big := gk_sel (q := (y_C_isSoundExpression, 7)) (i := 0) (by decide +kernel)
theorem ms_1 : Cond.selects R_C y_C_isOwn y_C_isOwn ∈ gk_big := gk_sel (q := (y_C_isOwn, 7)) (i := 1) (by decide +kernel)
theorem ms_2 : Cond.selects R_C y_C_isMade y_C_isMade ∈ gk_big := gk_sel (q := (y_C_isMade, 7)) (i := 2) (by decide +kernel)
theorem ms_3 : Cond.selects R_C y_C_isSoundStatement y_C_isSoundStatement ∈ gk_big := gk_sel (q := (y_C_isSoundStatement, 7)) (i := 3) (by decide +kernel)
theorem ms_4 : Cond.selects R_C y_C_chargeFor y_C_chargeFor ∈ gk_big := gk_sel (q := (y_C_chargeFor, 7)) (i := 4) (by decide +kernel)
theorem ms_5 : Cond.selects R_K y_K_costOf y_K_costOf ∈ gk_big := gk_sel (q := (y_K_costOf, 5)) (i := 5) (by decide +kernel)
theorem ms_6 : Cond.selects R_K y_K_workOutAdded y_K_workOutAdded ∈ gk_big := gk_sel (q := (y_K_workOutAdded, 5)) (i := 6) (by decide +kernel)
theorem ms_7 : Cond.selects R_K y_K_isTooDear y_K_isTooDear ∈ gk_big := gk_sel (q := (y_K_isTooDear, 5)) (i := 7) (by decide +kernel)
theorem ms_8 : Cond.selects R_T y_T_add y_T_add ∈ gk_big := gk_sel (q := (y_T_add, 9)) (i := 8) (by decide +kernel)
theorem ms_9 : Cond.selects R_P y_P_enter y_P_enter ∈ gk_big := gk_sel (q := (y_P_enter, 4)) (i := 9) (by decide +kernel)
theorem ms_10 : Cond.selects R_P y_P_doBlock y_P_doBlock ∈ gk_big := gk_sel (q := (y_P_doBlock, 4)) (i := 10) (by decide +kernel)
theorem ms_11 : Cond.selects R_P y_P_doStatement y_P_doStatement ∈ gk_big := gk_sel (q := (y_P_doStatement, 4)) (i := 11) (by decide +kernel)
theorem ms_12 : Cond.selects R_P y_P_evaluate y_P_evaluate ∈ gk_big := gk_sel (q := (y_P_evaluate, 4)) (i := 12) (by decide +kernel)
theorem ms_13 : Cond.selects R_P y_P_elementCell y_P_elementCell ∈ gk_big := gk_sel (q := (y_P_elementCell, 4)) (i := 13) (by decide +kernel)
theorem ms_14 : Cond.selects R_P y_P_combine y_P_combine ∈ gk_big := gk_sel (q := (y_P_combine, 4)) (i := 14) (by decide +kernel)
theorem ms_15 : Cond.selects R_P y_P_doIf y_P_doIf ∈ gk_big := gk_sel (q := (y_P_doIf, 4)) (i := 15) (by decide +kernel)
theorem ms_16 : Cond.selects R_T y_T_workOutSlopes y_T_workOutSlopes ∈ gk_big := gk_sel (q := (y_T_workOutSlopes, 9)) (i := 16) (by decide +kernel)
theorem ms_17 : Cond.selects R_T y_T_slopeFromParts y_T_slopeFromParts ∈ gk_big := gk_sel (q := (y_T_slopeFromParts, 9)) (i := 17) (by decide +kernel)
theorem ms_18 : Cond.selects R_M y_M_noExpression y_M_noExpression ∈ gk_big := gk_sel (q := (y_M_noExpression, 24)) (i := 18) (by decide +kernel)
theorem ms_19 : Cond.selects R_M y_M_noOwn y_M_noOwn ∈ gk_big := gk_sel (q := (y_M_noOwn, 24)) (i := 19) (by decide +kernel)
theorem ms_20 : Cond.selects R_M y_M_misplaced y_M_misplaced ∈ gk_big := gk_sel (q := (y_M_misplaced, 24)) (i := 20) (by decide +kernel)
theorem ms_21 : Cond.selects R_M y_M_within y_M_within ∈ gk_big := gk_sel (q := (y_M_within, 24)) (i := 21) (by decide +kernel)
theorem ms_22 : Cond.selects R_M y_M_kindAt y_M_kindAt ∈ gk_big := gk_sel (q := (y_M_kindAt, 24)) (i := 22) (by decide +kernel)
theorem ms_23 : Cond.selects R_M y_M_close y_M_close ∈ gk_big := gk_sel (q := (y_M_close, 24)) (i := 23) (by decide +kernel)
theorem ms_24 : Cond.selects R_M y_M_reach y_M_reach ∈ gk_big := gk_sel (q := (y_M_reach, 24)) (i := 24) (by decide +kernel)
theorem ms_25 : Cond.selects R_M y_M_direct y_M_direct ∈ gk_big := gk_sel (q := (y_M_direct, 24)) (i := 25) (by decide +kernel)
theorem ms_26 : Cond.selects R_M y_M_tooDear y_M_tooDear ∈ gk_big := gk_sel (q := (y_M_tooDear, 24)) (i := 26) (by decide +kernel)
theorem ms_27 : Cond.selects R_M y_M_costOf y_M_costOf ∈ gk_big := gk_sel (q := (y_M_costOf, 24)) (i := 27) (by decide +kernel)
theorem ms_28 : Cond.selects R_M y_M_sumOf y_M_sumOf ∈ gk_big := gk_sel (q := (y_M_sumOf, 24)) (i := 28) (by decide +kernel)
theorem ms_29 : Cond.selects R_M y_M_times y_M_times ∈ gk_big := gk_sel (q := (y_M_times, 24)) (i := 29) (by decide +kernel)
theorem ms_30 : Cond.selects R_M y_M_start y_M_start ∈ gk_big := gk_sel (q := (y_M_start, 24)) (i := 30) (by decide +kernel)
theorem ms_31 : Cond.selects R_M y_M_enter y_M_enter ∈ gk_big := gk_sel (q := (y_M_enter, 24)) (i := 31) (by decide +kernel)
theorem ms_32 : Cond.selects R_M y_M_lacking y_M_lacking ∈ gk_big := gk_sel (q := (y_M_lacking, 24)) (i := 32) (by decide +kernel)
theorem ms_33 : Cond.selects R_M y_M_leave y_M_leave ∈ gk_big := gk_sel (q := (y_M_leave, 24)) (i := 33) (by decide +kernel)
theorem ms_34 : Cond.selects R_M y_M_slot y_M_slot ∈ gk_big := gk_sel (q := (y_M_slot, 24)) (i := 34) (by decide +kernel)
theorem ms_35 : Cond.selects R_M y_M_base y_M_base ∈ gk_big := gk_sel (q := (y_M_base, 24)) (i := 35) (by decide +kernel)
theorem ms_36 : Cond.selects R_M y_M_step y_M_step ∈ gk_big := gk_sel (q := (y_M_step, 24)) (i := 36) (by decide +kernel)
theorem ms_37 : Cond.selects R_M y_M_evaluate y_M_evaluate ∈ gk_big := gk_sel (q := (y_M_evaluate, 24)) (i := 37) (by decide +kernel)
theorem ms_38 : Cond.selects R_M y_M_need y_M_need ∈ gk_big := gk_sel (q := (y_M_need, 24)) (i := 38) (by decide +kernel)
theorem ms_39 : Cond.selects R_M y_M_work y_M_work ∈ gk_big := gk_sel (q := (y_M_work, 24)) (i := 39) (by decide +kernel)
theorem ms_40 : Cond.selects R_M y_M_constant y_M_constant ∈ gk_big := gk_sel (q := (y_M_constant, 24)) (i := 40) (by decide +kernel)
theorem ms_41 : Cond.selects R_M y_M_copy y_M_copy ∈ gk_big := gk_sel (q := (y_M_copy, 24)) (i := 41) (by decide +kernel)
theorem ms_42 : Cond.selects R_M y_M_combine y_M_combine ∈ gk_big := gk_sel (q := (y_M_combine, 24)) (i := 42) (by decide +kernel)
theorem ms_43 : Cond.selects R_M y_M_multiply y_M_multiply ∈ gk_big := gk_sel (q := (y_M_multiply, 24)) (i := 43) (by decide +kernel)
theorem ms_44 : Cond.selects R_M y_M_scale y_M_scale ∈ gk_big := gk_sel (q := (y_M_scale, 24)) (i := 44) (by decide +kernel)
theorem ms_45 : Cond.selects R_M y_M_store y_M_store ∈ gk_big := gk_sel (q := (y_M_store, 24)) (i := 45) (by decide +kernel)
def gk_nw : List Cond := [Cond.methodLinkNest R_C 9 y_P_init "DerivativeCompiler", Cond.methodLinkNest R_P 11 y_E_init "DerivativeCompiler", Cond.fieldLinkNest R_P 93 "DerivativeCompiler$Expressions" "kinds" "[I" "DerivativeCompiler", Cond.fieldLinkNest R_P 94 "DerivativeCompiler$Expressions" "lefts" "[I" "DerivativeCompiler", Cond.fieldLinkNest R_P 97 "DerivativeCompiler$Expressions" "rights" "[I" "DerivativeCompiler", Cond.fieldLinkNest R_P 115 "DerivativeCompiler$Expressions" "callees" "[I" "DerivativeCompiler", Cond.fieldLinkNest R_C 138 "DerivativeCompiler$Expressions" "made" "I" "DerivativeCompiler", Cond.arrayOver (.object R_B), Cond.methodLinkNest R_P 26 y_T_init "DerivativeCompiler", Cond.fieldLinkNest R_P 87 "DerivativeCompiler$Trace" "values" "[J" "DerivativeCompiler", Cond.fieldLinkNest R_C 115 "DerivativeCompiler$Trace" "values" "[J" "DerivativeCompiler", Cond.fieldLinkNest R_C 40 "DerivativeCompiler$Program" "expressions" "LDerivativeCompiler$Expressions;" "DerivativeCompiler", Cond.fieldLinkNest R_C 62 "DerivativeCompiler$Program" "bodies" "[LDerivativeCompiler$Body;" "DerivativeCompiler", Cond.fieldLinkNest R_C 111 "DerivativeCompiler$Program" "trace" "LDerivativeCompiler$Trace;" "DerivativeCompiler", Cond.methodLinkNest R_C 18 y_K_init "DerivativeCompiler", Cond.fieldLinkNest R_C 132 "DerivativeCompiler$Costs" "totals" "[I" "DerivativeCompiler", Cond.methodLinkNest R_E 28 y_C_isBelow "DerivativeCompiler", Cond.fieldLinkNest R_P 67 "DerivativeCompiler$Body" "kinds" "[I" "DerivativeCompiler", Cond.fieldLinkNest R_P 61 "DerivativeCompiler$Body" "targets" "[I" "DerivativeCompiler", Cond.fieldLinkNest R_P 64 "DerivativeCompiler$Body" "operands" "[I" "DerivativeCompiler", Cond.fieldLinkNest R_P 49 "DerivativeCompiler$Body" "size" "I" "DerivativeCompiler", Cond.fieldLinkNest R_C 95 "DerivativeCompiler$Body" "size" "I" "DerivativeCompiler", Cond.fieldLinkNest R_P 133 "DerivativeCompiler$Body" "depth" "I" "DerivativeCompiler"]
theorem i_B : ∀ w ∈ u_ws R_B F_B 8, w ∈ gk_big := by decide +kernel
theorem i_K : ∀ w ∈ u_ws R_K F_K 5, w ∈ gk_big := by decide +kernel
theorem i_E : ∀ w ∈ u_ws R_E F_E 5, w ∈ gk_big := by decide +kernel
theorem i_P : ∀ w ∈ u_ws R_P F_P 4, w ∈ gk_big := by decide +kernel
theorem i_T : ∀ w ∈ u_ws R_T F_T 9, w ∈ gk_big := by decide +kernel
theorem i_C : ∀ w ∈ u_ws R_C F_C 7, w ∈ gk_big := by decide +kernel
theorem i_M : ∀ w ∈ u_ws R_M F_M 24, w ∈ gk_big := by decide +kernel
