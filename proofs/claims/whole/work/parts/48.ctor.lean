/-! CONSTRUCTORS: the form of their contracts, and a row for each of their instructions that touches the heap -/
theorem tc_44 : Cond.initialized "BathBaskets" ∈ tbG := mem_tb 44 (by decide +kernel) (by decide +kernel)
theorem tc_45 : Cond.initialized "BathBaskets$Bath" ∈ tbG := mem_tb 45 (by decide +kernel) (by decide +kernel)
theorem tc_46 : Cond.initialized "BathBaskets$Notes" ∈ tbG := mem_tb 46 (by decide +kernel) (by decide +kernel)
theorem tc_47 : Cond.initialized "BathBaskets$Pad" ∈ tbG := mem_tb 47 (by decide +kernel) (by decide +kernel)
theorem tc_48 : Cond.initialized "BathBaskets$Image" ∈ tbG := mem_tb 48 (by decide +kernel) (by decide +kernel)
theorem tc_49 : Cond.initialized "BathBaskets$Evening" ∈ tbG := mem_tb 49 (by decide +kernel) (by decide +kernel)
theorem tc_50 : Cond.initialized "BathBaskets$Choice" ∈ tbG := mem_tb 50 (by decide +kernel) (by decide +kernel)
theorem tc_51 : Cond.initialized "BathBaskets$Matching" ∈ tbG := mem_tb 51 (by decide +kernel) (by decide +kernel)
theorem tc_52 : Cond.initialized "BathBaskets$Hooks" ∈ tbG := mem_tb 52 (by decide +kernel) (by decide +kernel)
theorem tc_53 : Cond.initialized "BathBaskets$Laws" ∈ tbG := mem_tb 53 (by decide +kernel) (by decide +kernel)
theorem tc_54 : Cond.initialized "BathBaskets$TwoPiles" ∈ tbG := mem_tb 54 (by decide +kernel) (by decide +kernel)
theorem tc_55 : Cond.initialized "BathBaskets$Swim" ∈ tbG := mem_tb 55 (by decide +kernel) (by decide +kernel)
theorem tc_56 : Cond.initialized "BathBasketsModel" ∈ tbG := mem_tb 56 (by decide +kernel) (by decide +kernel)
theorem tc_60 : Cond.classLink "BathBasketsLaw" 7 "BathBaskets" ∈ tbG := mem_tb 60 (by decide +kernel) (by decide +kernel)
theorem tc_61 : Cond.instantiable "BathBaskets" 12 ∈ tbG := mem_tb 61 (by decide +kernel) (by decide +kernel)
theorem tc_62 : Cond.methodLink "BathBasketsLaw" 9 ⟨"BathBaskets", "<init>", "()V"⟩ ∈ tbG := mem_tb 62 (by decide +kernel) (by decide +kernel)
theorem tc_63 : Cond.instanceMethod ⟨"BathBaskets", "<init>", "()V"⟩ ∈ tbG := mem_tb 63 (by decide +kernel) (by decide +kernel)
theorem tc_64 : Cond.code ⟨"BathBaskets", "<init>", "()V"⟩ prog_1_method_1_code 1 none ∈ tbG := mem_tb 64 (by decide +kernel) (by decide +kernel)
theorem tc_65 : Cond.methodLink "BathBaskets" 3 ⟨"java/lang/Object", "<init>", "()V"⟩ ∈ tbG := mem_tb 65 (by decide +kernel) (by decide +kernel)
theorem tc_66 : Cond.instanceMethod ⟨"java/lang/Object", "<init>", "()V"⟩ ∈ tbG := mem_tb 66 (by decide +kernel) (by decide +kernel)
theorem tc_67 : Cond.code ⟨"java/lang/Object", "<init>", "()V"⟩ object_method_1_code 1 none ∈ tbG := mem_tb 67 (by decide +kernel) (by decide +kernel)
theorem tc_68 : Cond.classLink "BathBaskets" 9 "BathBaskets$Bath" ∈ tbG := mem_tb 68 (by decide +kernel) (by decide +kernel)
theorem tc_69 : Cond.instantiable "BathBaskets$Bath" 8 ∈ tbG := mem_tb 69 (by decide +kernel) (by decide +kernel)
theorem tc_70 : Cond.methodLink "BathBaskets" 11 ⟨"BathBaskets$Bath", "<init>", "()V"⟩ ∈ tbG := mem_tb 70 (by decide +kernel) (by decide +kernel)
theorem tc_71 : Cond.instanceMethod ⟨"BathBaskets$Bath", "<init>", "()V"⟩ ∈ tbG := mem_tb 71 (by decide +kernel) (by decide +kernel)
theorem tc_72 : Cond.code ⟨"BathBaskets$Bath", "<init>", "()V"⟩ prog_2_method_1_code 2 none ∈ tbG := mem_tb 72 (by decide +kernel) (by decide +kernel)
theorem tc_73 : Cond.methodLink "BathBaskets$Bath" 3 ⟨"java/lang/Object", "<init>", "()V"⟩ ∈ tbG := mem_tb 73 (by decide +kernel) (by decide +kernel)
theorem tc_74 : Cond.fieldLink "BathBaskets$Bath" 9 "BathBaskets$Bath" "standing" "[I" ∈ tbG := mem_tb 74 (by decide +kernel) (by decide +kernel)
theorem tc_78 : Cond.fieldLink "BathBaskets$Bath" 15 "BathBaskets$Bath" "things" "[I" ∈ tbG := mem_tb 78 (by decide +kernel) (by decide +kernel)
theorem tc_82 : Cond.fieldLink "BathBaskets$Bath" 18 "BathBaskets$Bath" "minutes" "[I" ∈ tbG := mem_tb 82 (by decide +kernel) (by decide +kernel)
theorem tc_97 : Cond.fieldLink "BathBaskets$Bath" 21 "BathBaskets$Bath" "bell" "I" ∈ tbG := mem_tb 97 (by decide +kernel) (by decide +kernel)
theorem tc_117 : Cond.arrayClass FieldType.int ∈ tbG := mem_tb 117 (by decide +kernel) (by decide +kernel)
theorem tc_118 : Cond.classLink "BathBaskets" 16 "BathBaskets$Notes" ∈ tbG := mem_tb 118 (by decide +kernel) (by decide +kernel)
theorem tc_119 : Cond.instantiable "BathBaskets$Notes" 3 ∈ tbG := mem_tb 119 (by decide +kernel) (by decide +kernel)
theorem tc_120 : Cond.methodLinkNest "BathBaskets" 18 ⟨"BathBaskets$Notes", "<init>", "()V"⟩ "BathBaskets" ∈ lw_tbl := List.mem_of_getElem? (i := 120) (by decide +kernel)
theorem tc_121 : Cond.instanceMethod ⟨"BathBaskets$Notes", "<init>", "()V"⟩ ∈ tbG := mem_tb 121 (by decide +kernel) (by decide +kernel)
theorem tc_122 : Cond.code ⟨"BathBaskets$Notes", "<init>", "()V"⟩ prog_9_method_1_code 1 none ∈ tbG := mem_tb 122 (by decide +kernel) (by decide +kernel)
theorem tc_123 : Cond.methodLink "BathBaskets$Notes" 1 ⟨"java/lang/Object", "<init>", "()V"⟩ ∈ tbG := mem_tb 123 (by decide +kernel) (by decide +kernel)
theorem tc_124 : Cond.fieldLink "BathBaskets$Notes" 7 "BathBaskets$Notes" "days" "[I" ∈ tbG := mem_tb 124 (by decide +kernel) (by decide +kernel)
theorem tc_126 : Cond.fieldLink "BathBaskets$Notes" 13 "BathBaskets$Notes" "things" "[I" ∈ tbG := mem_tb 126 (by decide +kernel) (by decide +kernel)
theorem tc_138 : Cond.classLink "BathBaskets" 23 "BathBaskets$Pad" ∈ tbG := mem_tb 138 (by decide +kernel) (by decide +kernel)
theorem tc_139 : Cond.instantiable "BathBaskets$Pad" 2 ∈ tbG := mem_tb 139 (by decide +kernel) (by decide +kernel)
theorem tc_140 : Cond.methodLinkNest "BathBaskets" 25 ⟨"BathBaskets$Pad", "<init>", "()V"⟩ "BathBaskets" ∈ lw_tbl := List.mem_of_getElem? (i := 140) (by decide +kernel)
theorem tc_141 : Cond.instanceMethod ⟨"BathBaskets$Pad", "<init>", "()V"⟩ ∈ tbG := mem_tb 141 (by decide +kernel) (by decide +kernel)
theorem tc_142 : Cond.code ⟨"BathBaskets$Pad", "<init>", "()V"⟩ prog_10_method_1_code 1 none ∈ tbG := mem_tb 142 (by decide +kernel) (by decide +kernel)
theorem tc_143 : Cond.methodLink "BathBaskets$Pad" 3 ⟨"java/lang/Object", "<init>", "()V"⟩ ∈ tbG := mem_tb 143 (by decide +kernel) (by decide +kernel)
theorem tc_144 : Cond.fieldLink "BathBaskets$Pad" 9 "BathBaskets$Pad" "signs" "[I" ∈ tbG := mem_tb 144 (by decide +kernel) (by decide +kernel)
theorem tc_153 : Cond.classLink "BathBaskets" 30 "BathBaskets$Image" ∈ tbG := mem_tb 153 (by decide +kernel) (by decide +kernel)
theorem tc_154 : Cond.instantiable "BathBaskets$Image" 3 ∈ tbG := mem_tb 154 (by decide +kernel) (by decide +kernel)
theorem tc_155 : Cond.methodLinkNest "BathBaskets" 32 ⟨"BathBaskets$Image", "<init>", "()V"⟩ "BathBaskets" ∈ lw_tbl := List.mem_of_getElem? (i := 155) (by decide +kernel)
theorem tc_156 : Cond.instanceMethod ⟨"BathBaskets$Image", "<init>", "()V"⟩ ∈ tbG := mem_tb 156 (by decide +kernel) (by decide +kernel)
theorem tc_157 : Cond.code ⟨"BathBaskets$Image", "<init>", "()V"⟩ prog_6_method_1_code 1 none ∈ tbG := mem_tb 157 (by decide +kernel) (by decide +kernel)
theorem tc_158 : Cond.methodLink "BathBaskets$Image" 1 ⟨"java/lang/Object", "<init>", "()V"⟩ ∈ tbG := mem_tb 158 (by decide +kernel) (by decide +kernel)
theorem tc_159 : Cond.classLink "BathBaskets$Image" 7 "BathBaskets$Bath" ∈ tbG := mem_tb 159 (by decide +kernel) (by decide +kernel)
theorem tc_160 : Cond.methodLink "BathBaskets$Image" 9 ⟨"BathBaskets$Bath", "<init>", "()V"⟩ ∈ tbG := mem_tb 160 (by decide +kernel) (by decide +kernel)
theorem tc_161 : Cond.classLink "BathBaskets$Image" 16 "BathBaskets$Notes" ∈ tbG := mem_tb 161 (by decide +kernel) (by decide +kernel)
theorem tc_162 : Cond.methodLinkNest "BathBaskets$Image" 18 ⟨"BathBaskets$Notes", "<init>", "()V"⟩ "BathBaskets" ∈ lw_tbl := List.mem_of_getElem? (i := 162) (by decide +kernel)
theorem tc_163 : Cond.fieldLink "BathBaskets$Image" 10 "BathBaskets$Image" "bath" "LBathBaskets$Bath;" ∈ tbG := mem_tb 163 (by decide +kernel) (by decide +kernel)
theorem tc_165 : Cond.fieldLink "BathBaskets$Image" 19 "BathBaskets$Image" "notes" "LBathBaskets$Notes;" ∈ tbG := mem_tb 165 (by decide +kernel) (by decide +kernel)
theorem tc_175 : Cond.classLink "BathBaskets" 40 "BathBaskets$Evening" ∈ tbG := mem_tb 175 (by decide +kernel) (by decide +kernel)
theorem tc_176 : Cond.instantiable "BathBaskets$Evening" 7 ∈ tbG := mem_tb 176 (by decide +kernel) (by decide +kernel)
theorem tc_177 : Cond.methodLinkNest "BathBaskets" 42 ⟨"BathBaskets$Evening", "<init>", "()V"⟩ "BathBaskets" ∈ lw_tbl := List.mem_of_getElem? (i := 177) (by decide +kernel)
theorem tc_178 : Cond.instanceMethod ⟨"BathBaskets$Evening", "<init>", "()V"⟩ ∈ tbG := mem_tb 178 (by decide +kernel) (by decide +kernel)
theorem tc_179 : Cond.code ⟨"BathBaskets$Evening", "<init>", "()V"⟩ prog_4_method_1_code 1 none ∈ tbG := mem_tb 179 (by decide +kernel) (by decide +kernel)
theorem tc_180 : Cond.methodLink "BathBaskets$Evening" 3 ⟨"java/lang/Object", "<init>", "()V"⟩ ∈ tbG := mem_tb 180 (by decide +kernel) (by decide +kernel)
theorem tc_181 : Cond.classLink "BathBaskets$Evening" 9 "BathBaskets$Bath" ∈ tbG := mem_tb 181 (by decide +kernel) (by decide +kernel)
theorem tc_182 : Cond.methodLink "BathBaskets$Evening" 11 ⟨"BathBaskets$Bath", "<init>", "()V"⟩ ∈ tbG := mem_tb 182 (by decide +kernel) (by decide +kernel)
theorem tc_183 : Cond.fieldLink "BathBaskets$Evening" 12 "BathBaskets$Evening" "bath" "LBathBaskets$Bath;" ∈ tbG := mem_tb 183 (by decide +kernel) (by decide +kernel)
theorem tc_212 : Cond.classLink "BathBaskets" 47 "BathBaskets$Choice" ∈ tbG := mem_tb 212 (by decide +kernel) (by decide +kernel)
theorem tc_213 : Cond.instantiable "BathBaskets$Choice" 3 ∈ tbG := mem_tb 213 (by decide +kernel) (by decide +kernel)
theorem tc_214 : Cond.methodLinkNest "BathBaskets" 49 ⟨"BathBaskets$Choice", "<init>", "()V"⟩ "BathBaskets" ∈ lw_tbl := List.mem_of_getElem? (i := 214) (by decide +kernel)
theorem tc_215 : Cond.instanceMethod ⟨"BathBaskets$Choice", "<init>", "()V"⟩ ∈ tbG := mem_tb 215 (by decide +kernel) (by decide +kernel)
theorem tc_216 : Cond.code ⟨"BathBaskets$Choice", "<init>", "()V"⟩ prog_3_method_1_code 1 none ∈ tbG := mem_tb 216 (by decide +kernel) (by decide +kernel)
theorem tc_217 : Cond.methodLink "BathBaskets$Choice" 3 ⟨"java/lang/Object", "<init>", "()V"⟩ ∈ tbG := mem_tb 217 (by decide +kernel) (by decide +kernel)
theorem tc_218 : Cond.fieldLink "BathBaskets$Choice" 9 "BathBaskets$Choice" "totals" "[I" ∈ tbG := mem_tb 218 (by decide +kernel) (by decide +kernel)
theorem tc_230 : Cond.classLink "BathBaskets" 54 "BathBaskets$Matching" ∈ tbG := mem_tb 230 (by decide +kernel) (by decide +kernel)
theorem tc_231 : Cond.instantiable "BathBaskets$Matching" 3 ∈ tbG := mem_tb 231 (by decide +kernel) (by decide +kernel)
theorem tc_232 : Cond.methodLinkNest "BathBaskets" 56 ⟨"BathBaskets$Matching", "<init>", "()V"⟩ "BathBaskets" ∈ lw_tbl := List.mem_of_getElem? (i := 232) (by decide +kernel)
theorem tc_233 : Cond.instanceMethod ⟨"BathBaskets$Matching", "<init>", "()V"⟩ ∈ tbG := mem_tb 233 (by decide +kernel) (by decide +kernel)
theorem tc_234 : Cond.code ⟨"BathBaskets$Matching", "<init>", "()V"⟩ prog_8_method_1_code 1 none ∈ tbG := mem_tb 234 (by decide +kernel) (by decide +kernel)
theorem tc_235 : Cond.methodLink "BathBaskets$Matching" 3 ⟨"java/lang/Object", "<init>", "()V"⟩ ∈ tbG := mem_tb 235 (by decide +kernel) (by decide +kernel)
theorem tc_236 : Cond.fieldLink "BathBaskets$Matching" 9 "BathBaskets$Matching" "homes" "[I" ∈ tbG := mem_tb 236 (by decide +kernel) (by decide +kernel)
theorem tc_237 : Cond.fieldLink "BathBaskets$Matching" 15 "BathBaskets$Matching" "basketOf" "[I" ∈ tbG := mem_tb 237 (by decide +kernel) (by decide +kernel)
theorem tc_248 : Cond.classLink "BathBaskets" 61 "BathBaskets$Hooks" ∈ tbG := mem_tb 248 (by decide +kernel) (by decide +kernel)
theorem tc_249 : Cond.instantiable "BathBaskets$Hooks" 3 ∈ tbG := mem_tb 249 (by decide +kernel) (by decide +kernel)
theorem tc_250 : Cond.methodLinkNest "BathBaskets" 63 ⟨"BathBaskets$Hooks", "<init>", "()V"⟩ "BathBaskets" ∈ lw_tbl := List.mem_of_getElem? (i := 250) (by decide +kernel)
theorem tc_251 : Cond.instanceMethod ⟨"BathBaskets$Hooks", "<init>", "()V"⟩ ∈ tbG := mem_tb 251 (by decide +kernel) (by decide +kernel)
theorem tc_252 : Cond.code ⟨"BathBaskets$Hooks", "<init>", "()V"⟩ prog_5_method_1_code 1 none ∈ tbG := mem_tb 252 (by decide +kernel) (by decide +kernel)
theorem tc_253 : Cond.methodLink "BathBaskets$Hooks" 1 ⟨"java/lang/Object", "<init>", "()V"⟩ ∈ tbG := mem_tb 253 (by decide +kernel) (by decide +kernel)
theorem tc_254 : Cond.fieldLink "BathBaskets$Hooks" 7 "BathBaskets$Hooks" "whose" "[I" ∈ tbG := mem_tb 254 (by decide +kernel) (by decide +kernel)
theorem tc_266 : Cond.classLink "BathBaskets" 68 "BathBaskets$Laws" ∈ tbG := mem_tb 266 (by decide +kernel) (by decide +kernel)
theorem tc_267 : Cond.instantiable "BathBaskets$Laws" 5 ∈ tbG := mem_tb 267 (by decide +kernel) (by decide +kernel)
theorem tc_268 : Cond.methodLinkNest "BathBaskets" 70 ⟨"BathBaskets$Laws", "<init>", "()V"⟩ "BathBaskets" ∈ lw_tbl := List.mem_of_getElem? (i := 268) (by decide +kernel)
theorem tc_269 : Cond.instanceMethod ⟨"BathBaskets$Laws", "<init>", "()V"⟩ ∈ tbG := mem_tb 269 (by decide +kernel) (by decide +kernel)
theorem tc_270 : Cond.code ⟨"BathBaskets$Laws", "<init>", "()V"⟩ prog_7_method_1_code 1 none ∈ tbG := mem_tb 270 (by decide +kernel) (by decide +kernel)
theorem tc_271 : Cond.methodLink "BathBaskets$Laws" 3 ⟨"java/lang/Object", "<init>", "()V"⟩ ∈ tbG := mem_tb 271 (by decide +kernel) (by decide +kernel)
theorem tc_272 : Cond.fieldLink "BathBaskets$Laws" 9 "BathBaskets$Laws" "fitting" "[I" ∈ tbG := mem_tb 272 (by decide +kernel) (by decide +kernel)
theorem tc_274 : Cond.fieldLink "BathBaskets$Laws" 15 "BathBaskets$Laws" "left" "[I" ∈ tbG := mem_tb 274 (by decide +kernel) (by decide +kernel)
theorem tc_292 : Cond.classLink "BathBaskets" 75 "BathBaskets$TwoPiles" ∈ tbG := mem_tb 292 (by decide +kernel) (by decide +kernel)
theorem tc_293 : Cond.instantiable "BathBaskets$TwoPiles" 1 ∈ tbG := mem_tb 293 (by decide +kernel) (by decide +kernel)
theorem tc_294 : Cond.methodLink "BathBaskets" 77 ⟨"BathBaskets$TwoPiles", "<init>", "()V"⟩ ∈ tbG := mem_tb 294 (by decide +kernel) (by decide +kernel)
theorem tc_295 : Cond.instanceMethod ⟨"BathBaskets$TwoPiles", "<init>", "()V"⟩ ∈ tbG := mem_tb 295 (by decide +kernel) (by decide +kernel)
theorem tc_296 : Cond.code ⟨"BathBaskets$TwoPiles", "<init>", "()V"⟩ prog_12_method_1_code 3 none ∈ tbG := mem_tb 296 (by decide +kernel) (by decide +kernel)
theorem tc_297 : Cond.methodLink "BathBaskets$TwoPiles" 3 ⟨"java/lang/Object", "<init>", "()V"⟩ ∈ tbG := mem_tb 297 (by decide +kernel) (by decide +kernel)
theorem tc_298 : Cond.fieldLink "BathBaskets$TwoPiles" 9 "BathBaskets$TwoPiles" "lostWith" "[I" ∈ tbG := mem_tb 298 (by decide +kernel) (by decide +kernel)
theorem tc_302 : Cond.classLink "BathBaskets" 82 "BathBaskets$Swim" ∈ tbG := mem_tb 302 (by decide +kernel) (by decide +kernel)
theorem tc_303 : Cond.instantiable "BathBaskets$Swim" 2 ∈ tbG := mem_tb 303 (by decide +kernel) (by decide +kernel)
theorem tc_304 : Cond.methodLinkNest "BathBaskets" 84 ⟨"BathBaskets$Swim", "<init>", "()V"⟩ "BathBaskets" ∈ lw_tbl := List.mem_of_getElem? (i := 304) (by decide +kernel)
theorem tc_305 : Cond.instanceMethod ⟨"BathBaskets$Swim", "<init>", "()V"⟩ ∈ tbG := mem_tb 305 (by decide +kernel) (by decide +kernel)
theorem tc_306 : Cond.code ⟨"BathBaskets$Swim", "<init>", "()V"⟩ prog_11_method_1_code 1 none ∈ tbG := mem_tb 306 (by decide +kernel) (by decide +kernel)
theorem tc_307 : Cond.methodLink "BathBaskets$Swim" 3 ⟨"java/lang/Object", "<init>", "()V"⟩ ∈ tbG := mem_tb 307 (by decide +kernel) (by decide +kernel)
theorem tc_308 : Cond.fieldLink "BathBaskets$Swim" 9 "BathBaskets$Swim" "ways" "[J" ∈ tbG := mem_tb 308 (by decide +kernel) (by decide +kernel)
theorem tc_316 : Cond.arrayClass FieldType.long ∈ tbG := mem_tb 316 (by decide +kernel) (by decide +kernel)
theorem tc_317 : Cond.fieldLink "BathBaskets" 12 "BathBaskets" "bath" "LBathBaskets$Bath;" ∈ tbG := mem_tb 317 (by decide +kernel) (by decide +kernel)
theorem tc_318 : Cond.fieldLink "BathBaskets" 19 "BathBaskets" "notes" "LBathBaskets$Notes;" ∈ tbG := mem_tb 318 (by decide +kernel) (by decide +kernel)
theorem tc_319 : Cond.fieldLink "BathBaskets" 26 "BathBaskets" "pad" "LBathBaskets$Pad;" ∈ tbG := mem_tb 319 (by decide +kernel) (by decide +kernel)
theorem tc_320 : Cond.fieldLink "BathBaskets" 33 "BathBaskets" "firstImage" "LBathBaskets$Image;" ∈ tbG := mem_tb 320 (by decide +kernel) (by decide +kernel)
theorem tc_321 : Cond.fieldLink "BathBaskets" 37 "BathBaskets" "secondImage" "LBathBaskets$Image;" ∈ tbG := mem_tb 321 (by decide +kernel) (by decide +kernel)
theorem tc_322 : Cond.fieldLink "BathBaskets" 43 "BathBaskets" "evening" "LBathBaskets$Evening;" ∈ tbG := mem_tb 322 (by decide +kernel) (by decide +kernel)
theorem tc_323 : Cond.fieldLink "BathBaskets" 50 "BathBaskets" "choice" "LBathBaskets$Choice;" ∈ tbG := mem_tb 323 (by decide +kernel) (by decide +kernel)
theorem tc_324 : Cond.fieldLink "BathBaskets" 57 "BathBaskets" "matching" "LBathBaskets$Matching;" ∈ tbG := mem_tb 324 (by decide +kernel) (by decide +kernel)
theorem tc_325 : Cond.fieldLink "BathBaskets" 64 "BathBaskets" "hooks" "LBathBaskets$Hooks;" ∈ tbG := mem_tb 325 (by decide +kernel) (by decide +kernel)
theorem tc_326 : Cond.fieldLink "BathBaskets" 71 "BathBaskets" "laws" "LBathBaskets$Laws;" ∈ tbG := mem_tb 326 (by decide +kernel) (by decide +kernel)
theorem tc_327 : Cond.fieldLink "BathBaskets" 78 "BathBaskets" "twoPiles" "LBathBaskets$TwoPiles;" ∈ tbG := mem_tb 327 (by decide +kernel) (by decide +kernel)
theorem tc_328 : Cond.fieldLink "BathBaskets" 85 "BathBaskets" "swim" "LBathBaskets$Swim;" ∈ tbG := mem_tb 328 (by decide +kernel) (by decide +kernel)
theorem tc_707 : Cond.classLink "BathBasketsLaw" 10 "BathBasketsModel" ∈ tbG := mem_tb 707 (by decide +kernel) (by decide +kernel)
theorem tc_708 : Cond.instantiable "BathBasketsModel" 31 ∈ tbG := mem_tb 708 (by decide +kernel) (by decide +kernel)
theorem tc_709 : Cond.methodLink "BathBasketsLaw" 12 ⟨"BathBasketsModel", "<init>", "()V"⟩ ∈ tbG := mem_tb 709 (by decide +kernel) (by decide +kernel)
theorem tc_710 : Cond.instanceMethod ⟨"BathBasketsModel", "<init>", "()V"⟩ ∈ tbG := mem_tb 710 (by decide +kernel) (by decide +kernel)
theorem tc_711 : Cond.code ⟨"BathBasketsModel", "<init>", "()V"⟩ prog_14_method_1_code 2 none ∈ tbG := mem_tb 711 (by decide +kernel) (by decide +kernel)
theorem tc_712 : Cond.methodLink "BathBasketsModel" 1 ⟨"java/lang/Object", "<init>", "()V"⟩ ∈ tbG := mem_tb 712 (by decide +kernel) (by decide +kernel)
theorem tc_713 : Cond.fieldLink "BathBasketsModel" 7 "BathBasketsModel" "stands" "[I" ∈ tbG := mem_tb 713 (by decide +kernel) (by decide +kernel)
theorem tc_714 : Cond.fieldLink "BathBasketsModel" 13 "BathBasketsModel" "things" "[I" ∈ tbG := mem_tb 714 (by decide +kernel) (by decide +kernel)
theorem tc_715 : Cond.fieldLink "BathBasketsModel" 16 "BathBasketsModel" "wants" "[I" ∈ tbG := mem_tb 715 (by decide +kernel) (by decide +kernel)
theorem tc_720 : Cond.fieldLink "BathBasketsModel" 60 "BathBasketsModel" "bell" "I" ∈ tbG := mem_tb 720 (by decide +kernel) (by decide +kernel)
theorem tc_721 : Cond.fieldLink "BathBasketsModel" 19 "BathBasketsModel" "noteDay" "[I" ∈ tbG := mem_tb 721 (by decide +kernel) (by decide +kernel)
theorem tc_722 : Cond.fieldLink "BathBasketsModel" 22 "BathBasketsModel" "noteThing" "[I" ∈ tbG := mem_tb 722 (by decide +kernel) (by decide +kernel)
theorem tc_724 : Cond.fieldLink "BathBasketsModel" 25 "BathBasketsModel" "pad" "[I" ∈ tbG := mem_tb 724 (by decide +kernel) (by decide +kernel)
theorem tc_726 : Cond.fieldLink "BathBasketsModel" 28 "BathBasketsModel" "act" "[I" ∈ tbG := mem_tb 726 (by decide +kernel) (by decide +kernel)
theorem tc_727 : Cond.fieldLink "BathBasketsModel" 31 "BathBasketsModel" "which" "[I" ∈ tbG := mem_tb 727 (by decide +kernel) (by decide +kernel)
theorem tc_730 : Cond.fieldLink "BathBasketsModel" 34 "BathBasketsModel" "had" "[I" ∈ tbG := mem_tb 730 (by decide +kernel) (by decide +kernel)
theorem tc_735 : Cond.fieldLink "BathBasketsModel" 37 "BathBasketsModel" "most" "[I" ∈ tbG := mem_tb 735 (by decide +kernel) (by decide +kernel)
theorem tc_736 : Cond.fieldLink "BathBasketsModel" 40 "BathBasketsModel" "hook" "[I" ∈ tbG := mem_tb 736 (by decide +kernel) (by decide +kernel)
theorem tc_737 : Cond.fieldLink "BathBasketsModel" 43 "BathBasketsModel" "byThing" "[I" ∈ tbG := mem_tb 737 (by decide +kernel) (by decide +kernel)
theorem tc_738 : Cond.fieldLink "BathBasketsModel" 46 "BathBasketsModel" "wins" "[Z" ∈ tbG := mem_tb 738 (by decide +kernel) (by decide +kernel)
theorem tc_739 : Cond.fieldLink "BathBasketsModel" 50 "BathBasketsModel" "parts" "[J" ∈ tbG := mem_tb 739 (by decide +kernel) (by decide +kernel)
theorem tc_740 : Cond.fieldLink "BathBasketsModel" 54 "BathBasketsModel" "kept" "[I" ∈ tbG := mem_tb 740 (by decide +kernel) (by decide +kernel)
theorem tc_741 : Cond.fieldLink "BathBasketsModel" 57 "BathBasketsModel" "isKept" "[Z" ∈ tbG := mem_tb 741 (by decide +kernel) (by decide +kernel)
theorem tc_807 : Cond.arrayClass FieldType.boolean ∈ tbG := mem_tb 807 (by decide +kernel) (by decide +kernel)
theorem fd_0 : ∀ j, j < 8 → defaultValue (tyX0 j) = vp_V [.null, .null, .null, .int 0, .int 0, .int 0, .int 0, .int 0] j := by
  intro j hj
  rcases (show j = 0 ∨ j = 1 ∨ j = 2 ∨ j = 3 ∨ j = 4 ∨ j = 5 ∨ j = 6 ∨ j = 7 by omega) with rfl | rfl | rfl | rfl | rfl | rfl | rfl | rfl <;> rfl
theorem fd_1 : ∀ j, j < 3 → defaultValue (tyX1 j) = vp_V [.null, .int 0, .int 0] j := by
  intro j hj
  rcases (show j = 0 ∨ j = 1 ∨ j = 2 by omega) with rfl | rfl | rfl <;> rfl
theorem fd_2 : ∀ j, j < 7 → defaultValue (tyX2 j) = vp_V [.null, .int 0, .int 0, .int 0, .int 0, .int 0, .int 0] j := by
  intro j hj
  rcases (show j = 0 ∨ j = 1 ∨ j = 2 ∨ j = 3 ∨ j = 4 ∨ j = 5 ∨ j = 6 by omega) with rfl | rfl | rfl | rfl | rfl | rfl | rfl <;> rfl
theorem fd_3 : ∀ j, j < 3 → defaultValue (tyX3 j) = vp_V [.null, .int 0, .int 0] j := by
  intro j hj
  rcases (show j = 0 ∨ j = 1 ∨ j = 2 by omega) with rfl | rfl | rfl <;> rfl
theorem fd_4 : ∀ j, j < 3 → defaultValue (tyX4 j) = vp_V [.null, .null, .int 0] j := by
  intro j hj
  rcases (show j = 0 ∨ j = 1 ∨ j = 2 by omega) with rfl | rfl | rfl <;> rfl
theorem fd_5 : ∀ j, j < 5 → defaultValue (tyX5 j) = vp_V [.null, .null, .int 0, .int 0, .int 0] j := by
  intro j hj
  rcases (show j = 0 ∨ j = 1 ∨ j = 2 ∨ j = 3 ∨ j = 4 by omega) with rfl | rfl | rfl | rfl | rfl <;> rfl
theorem fd_6 : ∀ j, j < 3 → defaultValue (tyX6 j) = vp_V [.null, .null, .int 0] j := by
  intro j hj
  rcases (show j = 0 ∨ j = 1 ∨ j = 2 by omega) with rfl | rfl | rfl <;> rfl
theorem fd_7 : ∀ j, j < 3 → defaultValue (tyX7 j) = vp_V [.null, .null, .int 0] j := by
  intro j hj
  rcases (show j = 0 ∨ j = 1 ∨ j = 2 by omega) with rfl | rfl | rfl <;> rfl
theorem fd_8 : ∀ j, j < 2 → defaultValue (tyX8 j) = vp_V [.null, .int 0] j := by
  intro j hj
  rcases (show j = 0 ∨ j = 1 by omega) with rfl | rfl <;> rfl
theorem fd_9 : ∀ j, j < 2 → defaultValue (tyX9 j) = vp_V [.null, .long 0] j := by
  intro j hj
  rcases (show j = 0 ∨ j = 1 by omega) with rfl | rfl <;> rfl
theorem fd_10 : ∀ j, j < 1 → defaultValue (tyX10 j) = vp_V [.null] j := by
  intro j hj
  rcases (show j = 0 by omega) with rfl <;> rfl
theorem fd_11 : ∀ j, j < 12 → defaultValue (tyX11 j) = vp_V [.null, .null, .null, .null, .null, .null, .null, .null, .null, .null, .null, .null] j := by
  intro j hj
  rcases (show j = 0 ∨ j = 1 ∨ j = 2 ∨ j = 3 ∨ j = 4 ∨ j = 5 ∨ j = 6 ∨ j = 7 ∨ j = 8 ∨ j = 9 ∨ j = 10 ∨ j = 11 by omega) with rfl | rfl | rfl | rfl | rfl | rfl | rfl | rfl | rfl | rfl | rfl | rfl <;> rfl
theorem fd_12 : ∀ j, j < 31 → defaultValue (tyX12 j) = vp_V [.null, .null, .null, .int 0, .int 0, .int 0, .int 0, .int 0, .null, .null, .int 0, .null, .int 0, .null, .null, .int 0, .int 0, .null, .int 0, .int 0, .int 0, .int 0, .null, .null, .null, .null, .null, .null, .null, .int 0, .int 0] j := by
  intro j hj
  rcases (show j = 0 ∨ j = 1 ∨ j = 2 ∨ j = 3 ∨ j = 4 ∨ j = 5 ∨ j = 6 ∨ j = 7 ∨ j = 8 ∨ j = 9 ∨ j = 10 ∨ j = 11 ∨ j = 12 ∨ j = 13 ∨ j = 14 ∨ j = 15 ∨ j = 16 ∨ j = 17 ∨ j = 18 ∨ j = 19 ∨ j = 20 ∨ j = 21 ∨ j = 22 ∨ j = 23 ∨ j = 24 ∨ j = 25 ∨ j = 26 ∨ j = 27 ∨ j = 28 ∨ j = 29 ∨ j = 30 by omega) with rfl | rfl | rfl | rfl | rfl | rfl | rfl | rfl | rfl | rfl | rfl | rfl | rfl | rfl | rfl | rfl | rfl | rfl | rfl | rfl | rfl | rfl | rfl | rfl | rfl | rfl | rfl | rfl | rfl | rfl | rfl <;> rfl
abbrev tyC (cI cL cZ : ClassId) : List (ClassId × FieldType) := [(cI, .int), (cL, .long), (cZ, .boolean)]
/-- at a constructor's start: its cells -/
def PreC (D : va_G) (tys : List (ClassId × FieldType)) (sz : Nat) (ws : va_W) (U : State) : Prop := U.heap.size = sz ∧ va_P D vwCl ws U.heap ∧ va_K D vwCl tys U ∧ va_D (fun _ => True) ws ∧ NW U
theorem PreC.blind {D : va_G} {tys : List (ClassId × FieldType)} {sz : Nat} {ws : va_W} {av : List Value} : FrameBlind (va_Pc av (PreC D tys sz ws)) := by
  intro a U g mk ⟨h0, h1, hP, hK, hD, hN⟩
  exact ⟨h0, h1, hP, va_K.moved (u := U) (U := U.calling g mk a) (Vm.Alike.refl U.vm) hK, hD, NW.same (u := U) (U := U.calling g mk a) rfl hN⟩
/-- at its end: its cells and those that it made, at addresses u -/
def PostC {S : Type} (D : va_G) (A : Nat → Prop) (w : S → va_W) (u : S) (t : State) : Prop := va_P D vwCl (w u) t.heap ∧ va_D A (w u)
def rmC (y : MD) (mc ms : Nat) : Room := { frames := mdF y, cells := mc, slots := ms, locals := mdW y }
def CtC {S : Type} (y : MD) (mc ms : Nat) (w0 : Nat → va_W) (w1 : ClassId → ClassId → ClassId → Nat → S → va_W) : Prop :=
  ∀ (l : Launch) (D : va_G) (cI cL cZ : ClassId) (h sz : Nat), Met l (mdN y) (WSy y) (rmC y mc ms) (va_Pc [.ref h] (PreC D (tyC cI cL cZ) sz (w0 h))) (va_Qv (fun _ : S => True) (PostC D (va_A (w0 h) sz) (w1 cI cL cZ h)) (va_A (w0 h) sz)) mc ms (va_A (w0 h) sz)
/-- what holds all through a constructor, and in the law -/
def CxC (y : MD) (p : Program) (s : State) (m : MethodId) (args : Array Value) (c : Code) : Prop :=
  p.tables.exec = Jvm.exec ∧ c.code = mdC y ∧ c.maxLocals = mdL y ∧ s.vm.findClass (mdN y).cls = some m.cls ∧ (∀ w ∈ tbG, w.before args s = true) ∧ NW s
set_option maxHeartbeats 1000000 in
theorem CtC_of {S : Type} {y : MD} {mc ms : Nat} {w0 : Nat → va_W} {w1 : ClassId → ClassId → ClassId → Nat → S → va_W} (hy : plainFor (mdN y) = true) (hL : 1 ≤ mdL y) (hn : (mdN y).name = "<init>") (hr0 : mdR y = none)
    (walk : ∀ (l : Launch) (D : va_G) (cI cL cZ : ClassId) (h : Nat) (p : Program) (e : Env) (s : State) (m : MethodId) (below : List Frame) (meth : Method) (c : Code) (A : Nat → Prop) (Q : State → Prop) (ls : Array Slot),
      CxC y p s m #[.ref h] c → meth.name = "<init>" → va_K D vwCl (tyC cI cL cZ) s → va_P D vwCl (w0 h) s.heap → va_D A (w0 h) → (∀ q : Nat, s.heap.size ≤ q → A q) → lv_has ls (mdL y) [(0, .ref h)] →
      (∀ (u : S) (H : Heap) (locs : List Loc) (pc : Nat) (ls : Array Slot), va_P D vwCl (w1 cI cL cZ h u) H → va_D A (w1 cI cL cZ h u) → va_S A s.heap H locs → decode (mdC y) pc = .ok (.return_, 1) → W p l e (rmC y mc ms) s m #[.ref h] below meth c H locs mc ms Q (F0 m pc ls [])) →
      W p l e (rmC y mc ms) s m #[.ref h] below meth c s.heap [] 0 0 Q (F0 m 0 ls [])) : CtC y mc ms w0 w1 := by
  intro l D cI cL cZ h sz
  refine Met_ofWF (cc := mdC y) (maxL := mdL y) (ret := mdR y) hy rfl ?_
  intro p e s m args below meth c s₁ B hml hv
  obtain ⟨rfl, hsz, hP, hK, hD0, hN⟩ := hv
  have hts := atoms_spec (ws := WSy y) B.pre
  have hown : s.vm.findClass (mdN y).cls = some m.cls := findClass_of_methodNamed B.named
  have hlocks := B.notSynchronized
  have hr := B.returns
  have hin : meth.name = "<init>" := (name_of_methodNamed B.named B.method).1.trans hn
  subst hsz
  have hD := hD0.self (sz := s.heap.size)
  rw [lg_entry_eq]
  have hl := lv_entry ([.ref h]) (n := mdL y) (by exact hL)
  refine walk l D cI cL cZ h p e s m below meth c (va_A (w0 h) s.heap.size) _ _ ⟨B.exec, B.bytes, hml, hown, fun w hw => hts w (List.mem_cons_of_mem _ hw), hN⟩ hin hK hP hD (fun q hq => Or.inr hq) hl ?_
  intro u H locs pc ls hP1 hD1 hS1 hdg
  exact W.vret B.exec B.bytes (hr.trans hr0) (fun t ht _ => ⟨⟨u, rfl, trivial, by rw [ht]; exact hP1, hD1⟩, hS1.F ht⟩) hS1.2.2 hdg
theorem fm_of {α β : Type} {f : α → Option β} {is : List α} {w : List β} (h : is.map f = w.map some) : is.filterMap f = w := by
  have e1 : is.filterMap f = (is.map f).filterMap id := by rw [List.filterMap_map]; rfl
  rw [e1, h, List.filterMap_map]
  exact List.filterMap_some
section CROWS
variable {y : MD} {p : Program} {l : Launch} {e : Env} {R : Room} {s : State} {m : MethodId} {args : Array Value} {below : List Frame} {meth : Method} {c : Code} {H H0 : Heap} {locs : List Loc} {cells slots : Nat} {Q : State → Prop} {pc : Nat} {ls : Array Slot} {rest : List Value} {D : va_G} {cI cL cZ : ClassId} {A : Nat → Prop} {ws ws' : va_W} {tys : List (ClassId × FieldType)}
theorem c_obj {idx a : Nat} {lv : List (Nat × Value)} (hC : CxC y p s m args c) (hl : lv_has ls (mdL y) lv) (hlk : Cond.methodLink (mdN y).cls idx ⟨"java/lang/Object", "<init>", "()V"⟩ ∈ tbG) (hdg : decode (mdC y) pc = .ok (.invokespecial idx, 3)) (hf : 1 ≤ R.frames) (hw : 12 ≤ R.locals) (kk : W p l e R s m args below meth c H locs cells slots Q (F0 m (pc + 3) ls [])) : W p l e R s m args below meth c H locs cells slots Q (F0 m pc ls [.ref a]) := by
  refine W.objInit hC.1 hC.2.1 hC.2.2.2.1 (hC.2.2.2.2.1 _ hlk) (hC.2.2.2.2.1 _ tc_66) (hC.2.2.2.2.1 _ tc_67) rfl (by rw [hC.2.2.1]; exact hl.1) rfl hdg hf ?_ kk
  show 2 * 0 + 0 + 12 ≤ R.locals
  exact hw
theorem c_new {ci idx N : Nat} {C : String} {T0 : u_T} (fs : List Value) (ty : Nat → FieldType) (hC : CxC y p s m args c) (hK : va_K D vwCl tys s) (hP : va_P D vwCl ws H) (hD : va_D A ws) (hS : va_S A H0 H locs) (hA : ∀ q : Nat, H0.size ≤ q → A q) (hF0 : FOk ci (C, T0, N)) (hty : ∀ k, k < N → parseFieldDescriptor (T0 k).2.2.1 = some (ty k)) (hcl : Cond.classLink (mdN y).cls idx C ∈ tbG) (hin : Cond.instantiable C N ∈ tbG) (hini : Cond.initialized C ∈ tbG) (hfs : ∀ j, j < N → defaultValue (ty j) = vp_V fs j) (hc : cells + 1 ≤ R.cells) (hs : slots + N ≤ R.slots) (hdg : decode (mdC y) pc = .ok (.new idx, 3))
    (kk : ∀ (q : Nat) (H1 : Heap), va_P D vwCl (ws ++ [(q, .inr (ci, fs))]) H1 → va_D A (ws ++ [(q, .inr (ci, fs))]) → va_S A H0 H1 locs → W p l e R s m args below meth c H1 locs (cells + 1) (slots + N) Q (F0 m (pc + 3) ls (.ref q :: rest))) : W p l e R s m args below meth c H locs cells slots Q (F0 m pc ls rest) :=
  va_new hC.1 hC.2.1 hC.2.2.2.2.1 hF0.2.1 ty hty hC.2.2.2.1 (hC.2.2.2.2.1 _ hcl) (hC.2.2.2.2.1 _ hin) (hC.2.2.2.2.1 _ hini) hK hP hD hS hA hF0.1 hfs hc hs hdg kk
theorem c_newa {atype : ArrayType} {ty : FieldType} (t : Nat) {cA : ClassId} {n : Int32} {N : Nat} (a0 : vp_A) (hC : CxC y p s m args c) (hK : va_K D vwCl tys s) (hP : va_P D vwCl ws H) (hD : va_D A ws) (hS : va_S A H0 H locs) (hA : ∀ q : Nat, H0.size ≤ q → A q) (harr : Cond.arrayClass (newarray.typeOf atype) ∈ tbG) (hty : newarray.typeOf atype = ty) (ht : tys[t]? = some (cA, ty)) (hra : ∀ (U : State) (k : ClassId), va_RA U k ty → U.vm.findClass ("[" ++ ty.toString) = some k) (ha : ∀ cA : ClassId, vp_cell cA a0 = arrV cA N (fun _ => defaultValue ty)) (hn : ¬ n < 0) (hN : n.toNatClampNeg = N) (hby : N * componentBytes ty ≤ 536870912) (hc : cells + 1 ≤ R.cells) (hs : slots + N ≤ R.slots) (hdg : decode (mdC y) pc = .ok (.newarray atype, 2))
    (kk : ∀ (q : Nat) (H1 : Heap), va_P D vwCl (ws ++ [(q, .inl (cA, a0))]) H1 → va_D A (ws ++ [(q, .inl (cA, a0))]) → va_S A H0 H1 locs → W p l e R s m args below meth c H1 locs (cells + 1) (slots + N) Q (F0 m (pc + 2) ls (.ref q :: rest))) : W p l e R s m args below meth c H locs cells slots Q (F0 m pc ls (.int n :: rest)) := by
  refine va_newa (atype := atype) hC.1 hC.2.1 (hC.2.2.2.2.1 _ harr) hty hK hP hD hS hA ha hn hN hby hc hs hdg (fun q cB H1 hK1 hP1 hD1 hS1 => ?_)
  have e1 := hra s cA (hK.2 t _ ht).2
  have e2 := hra s cB (hK1.2 tys.length (cB, ty) (by simp)).2
  have e3 : cB = cA := Option.some.inj (e2.symm.trans e1)
  subst e3
  exact kk q H1 hP1 hD1 hS1
theorem c_newI {n : Int32} (N : Nat) (hC : CxC y p s m args c) (hK : va_K D vwCl (tyC cI cL cZ) s) (hP : va_P D vwCl ws H) (hD : va_D A ws) (hS : va_S A H0 H locs) (hA : ∀ q : Nat, H0.size ≤ q → A q) (hn : ¬ n < 0) (hN : n.toNatClampNeg = N) (hby : N * 4 ≤ 536870912) (hc : cells + 1 ≤ R.cells) (hs : slots + N ≤ R.slots) (hdg : decode (mdC y) pc = .ok (.newarray .int, 2))
    (kk : ∀ (q : Nat) (H1 : Heap), va_P D vwCl (ws ++ [(q, .inl (cI, N, .inl (fun _ => 0)))]) H1 → va_D A (ws ++ [(q, .inl (cI, N, .inl (fun _ => 0)))]) → va_S A H0 H1 locs → W p l e R s m args below meth c H1 locs (cells + 1) (slots + N) Q (F0 m (pc + 2) ls (.ref q :: rest))) : W p l e R s m args below meth c H locs cells slots Q (F0 m pc ls (.int n :: rest)) :=
  c_newa (atype := .int) (ty := .int) 0 (N, .inl (fun _ => 0)) hC hK hP hD hS hA tc_117 rfl rfl (fun _ _ h => h) (fun _ => rfl) hn hN hby hc hs hdg kk
theorem c_newL {n : Int32} (N : Nat) (hC : CxC y p s m args c) (hK : va_K D vwCl (tyC cI cL cZ) s) (hP : va_P D vwCl ws H) (hD : va_D A ws) (hS : va_S A H0 H locs) (hA : ∀ q : Nat, H0.size ≤ q → A q) (hn : ¬ n < 0) (hN : n.toNatClampNeg = N) (hby : N * 8 ≤ 536870912) (hc : cells + 1 ≤ R.cells) (hs : slots + N ≤ R.slots) (hdg : decode (mdC y) pc = .ok (.newarray .long, 2))
    (kk : ∀ (q : Nat) (H1 : Heap), va_P D vwCl (ws ++ [(q, .inl (cL, N, .inr (.inl (fun _ => 0))))]) H1 → va_D A (ws ++ [(q, .inl (cL, N, .inr (.inl (fun _ => 0))))]) → va_S A H0 H1 locs → W p l e R s m args below meth c H1 locs (cells + 1) (slots + N) Q (F0 m (pc + 2) ls (.ref q :: rest))) : W p l e R s m args below meth c H locs cells slots Q (F0 m pc ls (.int n :: rest)) :=
  c_newa (atype := .long) (ty := .long) 1 (N, .inr (.inl (fun _ => 0))) hC hK hP hD hS hA tc_316 rfl rfl (fun _ _ h => h) (fun _ => rfl) hn hN hby hc hs hdg kk
theorem c_newZ {n : Int32} (N : Nat) (hC : CxC y p s m args c) (hK : va_K D vwCl (tyC cI cL cZ) s) (hP : va_P D vwCl ws H) (hD : va_D A ws) (hS : va_S A H0 H locs) (hA : ∀ q : Nat, H0.size ≤ q → A q) (hn : ¬ n < 0) (hN : n.toNatClampNeg = N) (hby : N * 1 ≤ 536870912) (hc : cells + 1 ≤ R.cells) (hs : slots + N ≤ R.slots) (hdg : decode (mdC y) pc = .ok (.newarray .boolean, 2))
    (kk : ∀ (q : Nat) (H1 : Heap), va_P D vwCl (ws ++ [(q, .inl (cZ, N, .inl (fun _ => 0)))]) H1 → va_D A (ws ++ [(q, .inl (cZ, N, .inl (fun _ => 0)))]) → va_S A H0 H1 locs → W p l e R s m args below meth c H1 locs (cells + 1) (slots + N) Q (F0 m (pc + 2) ls (.ref q :: rest))) : W p l e R s m args below meth c H locs cells slots Q (F0 m pc ls (.int n :: rest)) :=
  c_newa (atype := .boolean) (ty := .boolean) 2 (N, .inl (fun _ => 0)) hC hK hP hD hS hA tc_807 rfl rfl (fun _ _ h => h) (fun _ => rfl) hn hN hby hc hs hdg kk
theorem c_putF {a ci idx : Nat} {q : vw_C} {fs : List Value} {v : Value} {ty : FieldType} (q0 k : Nat) (ws' : va_W) (hC : CxC y p s m args c) (hin : meth.name = "<init>") (hK : va_K D vwCl tys s) (hP : va_P D vwCl ws H) (hD : va_D A ws) (hS : va_S A H0 H locs) (he : ws[q0]? = some (a, .inr (ci, fs))) (hF0 : FOk ci q) (hk : k < q.2.2) (hw : Cond.fieldLink (mdN y).cls idx (q.2.1 k).1 (q.2.1 k).2.1 (q.2.1 k).2.2.1 ∈ tbG) (hfin : (q.2.1 k).2.2.2 = true) (hdecl : (q.2.1 k).1 = (mdN y).cls) (hd : parseFieldDescriptor (q.2.1 k).2.2.1 = some ty) (hn : narrow ty v = v) (hfit : fits ty v = true) (hl : k < fs.length) (hdg : decode (mdC y) pc = .ok (.putfield idx, 3)) (hws : ws.set q0 (a, .inr (ci, fs.set k v)) = ws')
    (kk : ∀ (H1 : Heap) (locs1 : List Loc), va_P D vwCl ws' H1 → va_D A ws' → va_S A H0 H1 locs1 → W p l e R s m args below meth c H1 locs1 cells slots Q (F0 m (pc + 3) ls rest)) : W p l e R s m args below meth c H locs cells slots Q (F0 m pc ls (v :: .ref a :: rest)) := by
  obtain ⟨ty0, hty0⟩ := hF0.2.2.2.1
  subst hws
  exact va_putF hC.1 hC.2.1 hC.2.2.2.2.1 hF0.2.1 ty0 hty0 hF0.2.2.2.2 hC.2.2.2.1 hK hP hD hS q0 he hF0.1 k hk (hC.2.2.2.2.1 _ hw) (fun _ h9 => h9) hfin hin hdecl hd hn hfit hl hdg kk
theorem c_putI {a ci idx : Nat} {q : vw_C} {fs : List Value} {x : Int32} (q0 k : Nat) (ws' : va_W) (hC : CxC y p s m args c) (hK : va_K D vwCl tys s) (hP : va_P D vwCl ws H) (hD : va_D A ws) (hS : va_S A H0 H locs) (he : ws[q0]? = some (a, .inr (ci, fs))) (hF0 : FOk ci q) (hk : k < q.2.2) (hw : Cond.fieldLink (mdN y).cls idx (q.2.1 k).1 (q.2.1 k).2.1 (q.2.1 k).2.2.1 ∈ tbG) (hfin : (q.2.1 k).2.2.2 = false) (hd : parseFieldDescriptor (q.2.1 k).2.2.1 = some .int) (hl : k < fs.length) (hdg : decode (mdC y) pc = .ok (.putfield idx, 3)) (hws : ws.set q0 (a, .inr (ci, fs.set k (.int x))) = ws')
    (kk : ∀ (H1 : Heap) (locs1 : List Loc), va_P D vwCl ws' H1 → va_D A ws' → va_S A H0 H1 locs1 → W p l e R s m args below meth c H1 locs1 cells slots Q (F0 m (pc + 3) ls rest)) : W p l e R s m args below meth c H locs cells slots Q (F0 m pc ls (.int x :: .ref a :: rest)) := by
  obtain ⟨ty0, hty0⟩ := hF0.2.2.2.1
  subst hws
  exact va_put hC.1 hC.2.1 hC.2.2.2.2.1 hF0.2.1 ty0 hty0 hF0.2.2.2.2 hC.2.2.2.1 hK hP hD hS q0 he hF0.1 k hk (hC.2.2.2.2.1 _ hw) (fun _ h9 => h9) hfin hd rfl rfl hl hdg kk
theorem c_get {a ci idx : Nat} {q : vw_C} {fs : List Value} {v : Value} (q0 k : Nat) (hC : CxC y p s m args c) (hK : va_K D vwCl tys s) (hP : va_P D vwCl ws H) (he : ws[q0]? = some (a, .inr (ci, fs))) (hF0 : FOk ci q) (hk : k < q.2.2) (hw : Cond.fieldLink (mdN y).cls idx (q.2.1 k).1 (q.2.1 k).2.1 (q.2.1 k).2.2.1 ∈ tbG) (hv : fs[k]? = some v) (hdg : decode (mdC y) pc = .ok (.getfield idx, 3))
    (kk : W p l e R s m args below meth c H locs cells slots Q (F0 m (pc + 3) ls (v :: rest))) : W p l e R s m args below meth c H locs cells slots Q (F0 m pc ls (.ref a :: rest)) :=
  va_get hC.1 hC.2.1 hC.2.2.2.2.1 hF0.2.1 hC.2.2.2.1 hK hP q0 he hF0.1 k hk (hC.2.2.2.2.1 _ hw) (fun _ h9 => h9) hv hdg kk
theorem c_iast {a n j : Nat} {f : Nat → Int32} {x : Int32} (q0 : Nat) (ws' : va_W) (hC : CxC y p s m args c) (hK : va_K D vwCl (tyC cI cL cZ) s) (hP : va_P D vwCl ws H) (hD : va_D A ws) (hS : va_S A H0 H locs) (he : ws[q0]? = some (a, .inl (cI, n, .inl f))) (hj : j < n) (hn : n < 2 ^ 31) (hdg : decode (mdC y) pc = .ok (.iastore, 1)) (hws : ws.set q0 (a, .inl (cI, n, .inl (upd f j x))) = ws')
    (kk : ∀ (H1 : Heap) (locs1 : List Loc), va_P D vwCl ws' H1 → va_D A ws' → va_S A H0 H1 locs1 → W p l e R s m args below meth c H1 locs1 cells slots Q (F0 m (pc + 1) ls rest)) : W p l e R s m args below meth c H locs cells slots Q (F0 m pc ls (.int x :: .int (nI j) :: .ref a :: rest)) := by
  have e1 : (nI j).toNatClampNeg = j := nI_clamp (by omega)
  subst hws
  refine va_iast hC.1 hC.2.1 hK hP hD hS q0 0 he rfl (vp_in_nI hj hn) hdg ?_
  rw [e1]
  exact kk
theorem c_iald {a n j : Nat} {f : Nat → Int32} (q0 : Nat) (hC : CxC y p s m args c) (hK : va_K D vwCl (tyC cI cL cZ) s) (hP : va_P D vwCl ws H) (he : ws[q0]? = some (a, .inl (cI, n, .inl f))) (hj : j < n) (hn : n < 2 ^ 31) (hdg : decode (mdC y) pc = .ok (.iaload, 1))
    (kk : W p l e R s m args below meth c H locs cells slots Q (F0 m (pc + 1) ls (.int (f j) :: rest))) : W p l e R s m args below meth c H locs cells slots Q (F0 m pc ls (.int (nI j) :: .ref a :: rest)) := by
  have e1 : (nI j).toNatClampNeg = j := nI_clamp (by omega)
  refine va_iald hC.1 hC.2.1 hK hP q0 0 he rfl (vp_in_nI hj hn) hdg ?_
  rw [e1]
  exact kk
theorem c_call {S : Type} {z : MD} {mc ms h idx : Nat} {w0 : Nat → va_W} {w1 : ClassId → ClassId → ClassId → Nat → S → va_W} {lv : List (Nat × Value)} (isC isR : List Nat) (wr : va_W) (hC : CxC y p s m args c) (hM : CtC z mc ms w0 w1) (hz : MOk z 0) (hlk : Cond.methodLink (mdN y).cls idx (mdN z) ∈ tbG) (him : Cond.instanceMethod (mdN z) ∈ tbG) (hnm : (mdN z).name = "<init>") (hr0 : mdR z = none) (hR : mdF z + 1 ≤ R.frames ∧ 8 + (mdL z + 11) + mdW z ≤ R.locals) (hcs : cells + mc ≤ R.cells ∧ slots + ms ≤ R.slots) (hl : lv_has ls (mdL y) lv) (hst : (rest.map fun v => v.category).sum ≤ 8) (hdg : decode (mdC y) pc = .ok (.invokespecial idx, 3)) (hK : va_K D vwCl (tyC cI cL cZ) s) (hP : va_P D vwCl ws H) (hD : va_D A ws) (hS : va_S A H0 H locs) (hA : ∀ q : Nat, H0.size ≤ q → A q) (hCp : isC.map (fun i => ws[i]?) = (w0 h).map some) (hRp : isR.map (fun i => ws[i]?) = wr.map some) (hn1 : va_nd isC = true) (hn2 : va_nd isR = true) (hdis : ∀ i ∈ isR, i ∉ isC)
    (kk : ∀ (u : S) (H1 : Heap) (locs1 : List Loc), va_P D vwCl (wr ++ w1 cI cL cZ h u) H1 → va_D A (wr ++ w1 cI cL cZ h u) → va_S A H0 H1 locs1 → W p l e R s m args below meth c H1 locs1 (cells + mc) (slots + ms) Q (F0 m (pc + 3) ls rest)) : W p l e R s m args below meth c H locs cells slots Q (F0 m pc ls (.ref h :: rest)) := by
  have hPc := hP.sub (ws' := w0 h) isC (fm_of hCp)
  have hDc := hD.sub (ws' := w0 h) isC hn1 hCp
  have hFc := va_free (wc := w0 h) hD hS hA isC hCp
  have hts := hC.2.2.2.2.1
  refine va_callv (va_runI (b := h) (As := []) (rest := rest) (Ts := tbG) (own := (mdN y).cls) ⟨hC.1, hC.2.1, hC.2.2.1, hC.2.2.2.1, hts⟩ (hM l D cI cL cZ h H.size) ⟨callB_of (Ts := tbG) (ws' := tbG) (bytes := mdC z) (maxL := mdL z) 0 hts (ws_good hz) (by unfold WSy; rw [hr0]) rfl rfl (hts _ hz.2.1) (hts _ hlk) hz.2.2 hR, hnm, hts _ him⟩ ⟨PreC.blind, fun U hU hW => ⟨rfl, by rw [hU], by rw [hU]; exact hPc, va_K.moved hW.alike hK, hDc.weaken (fun _ _ _ _ => trivial), hC.2.2.2.2.2.warm hW⟩⟩ rfl rfl hl.1 rfl (lv_room hst) hdg hcs) hS (fun q _ h => hFc q h) hFc (fun u t H1 locs1 ht hvm _ hB hz1 hk1 hS1 => ?_)
  obtain ⟨hP1, hD1⟩ := hB
  rw [ht] at hP1
  obtain ⟨hP2, hD2⟩ := va_join hP hD isC isR hCp hRp hn2 hdis hk1 hFc hP1 hD1
  exact kk u H1 locs1 hP2 hD2 hS1
theorem c_callN {S : Type} {z : MD} {mc ms h idx : Nat} {host : String} {w0 : Nat → va_W} {w1 : ClassId → ClassId → ClassId → Nat → S → va_W} {lv : List (Nat × Value)} (isC isR : List Nat) (wr : va_W) (hC : CxC y p s m args c) (hM : CtC z mc ms w0 w1) (hz : MOk z 0) (hlk : Cond.methodLinkNest (mdN y).cls idx (mdN z) host ∈ lw_tbl) (him : Cond.instanceMethod (mdN z) ∈ tbG) (hnm : (mdN z).name = "<init>") (hr0 : mdR z = none) (hR : mdF z + 1 ≤ R.frames ∧ 8 + (mdL z + 11) + mdW z ≤ R.locals) (hcs : cells + mc ≤ R.cells ∧ slots + ms ≤ R.slots) (hl : lv_has ls (mdL y) lv) (hst : (rest.map fun v => v.category).sum ≤ 8) (hdg : decode (mdC y) pc = .ok (.invokespecial idx, 3)) (hK : va_K D vwCl (tyC cI cL cZ) s) (hP : va_P D vwCl ws H) (hD : va_D A ws) (hS : va_S A H0 H locs) (hA : ∀ q : Nat, H0.size ≤ q → A q) (hCp : isC.map (fun i => ws[i]?) = (w0 h).map some) (hRp : isR.map (fun i => ws[i]?) = wr.map some) (hn1 : va_nd isC = true) (hn2 : va_nd isR = true) (hdis : ∀ i ∈ isR, i ∉ isC)
    (kk : ∀ (u : S) (H1 : Heap) (locs1 : List Loc), va_P D vwCl (wr ++ w1 cI cL cZ h u) H1 → va_D A (wr ++ w1 cI cL cZ h u) → va_S A H0 H1 locs1 → W p l e R s m args below meth c H1 locs1 (cells + mc) (slots + ms) Q (F0 m (pc + 3) ls rest)) : W p l e R s m args below meth c H locs cells slots Q (F0 m pc ls (.ref h :: rest)) := by
  have hPc := hP.sub (ws' := w0 h) isC (fm_of hCp)
  have hDc := hD.sub (ws' := w0 h) isC hn1 hCp
  have hFc := va_free (wc := w0 h) hD hS hA isC hCp
  have hts := hC.2.2.2.2.1
  refine va_callv (va_runIN (b := h) (As := []) (rest := rest) (Ts := tbG) (own := (mdN y).cls) (host := host) ⟨hC.1, hC.2.1, hC.2.2.1, hC.2.2.2.1, hts⟩ (hM l D cI cL cZ h H.size) ⟨va_cnB (Ts := tbG) (ws' := tbG) (bytes := mdC z) (maxL := mdL z) 0 hts (ws_good hz) (by unfold WSy; rw [hr0]) rfl rfl (hC.2.2.2.2.2.1 _ _ _ _ hlk) (hts _ hz.2.1) hz.2.2 hR, hnm, hts _ him⟩ ⟨PreC.blind, fun U hU hW => ⟨rfl, by rw [hU], by rw [hU]; exact hPc, va_K.moved hW.alike hK, hDc.weaken (fun _ _ _ _ => trivial), hC.2.2.2.2.2.warm hW⟩⟩ rfl rfl hl.1 rfl (lv_room hst) hdg hcs) hS (fun q _ h => hFc q h) hFc (fun u t H1 locs1 ht hvm _ hB hz1 hk1 hS1 => ?_)
  obtain ⟨hP1, hD1⟩ := hB
  rw [ht] at hP1
  obtain ⟨hP2, hD2⟩ := va_join hP hD isC isR hCp hRp hn2 hdis hk1 hFc hP1 hD1
  exact kk u H1 locs1 hP2 hD2 hS1
end CROWS
theorem nd_of : ∀ (l : List Nat), l.Nodup → va_nd l = true
  | [], _ => rfl
  | a :: l, h => by
    have h2 := List.nodup_cons.mp h
    simp only [va_nd, Bool.and_eq_true, decide_eq_true_eq]
    exact ⟨h2.1, nd_of l h2.2⟩
theorem rng_left {α : Type} (ws t : List α) : (List.range ws.length).map (fun i => (ws ++ t)[i]?) = ws.map some := by
  apply List.ext_getElem?
  intro i
  by_cases h : i < ws.length
  · rw [List.getElem?_map, List.getElem?_range h, List.getElem?_map]
    simp [List.getElem?_append_left h, List.getElem?_eq_getElem h]
  · rw [List.getElem?_eq_none (by simp; omega), List.getElem?_eq_none (by simp; omega)]
theorem rng_last {α : Type} (ws : List α) (x : α) : [ws.length].map (fun i => (ws ++ [x])[i]?) = [x].map some := by simp
section CCALL
variable {y : MD} {p : Program} {l : Launch} {e : Env} {R : Room} {s : State} {m : MethodId} {args : Array Value} {below : List Frame} {meth : Method} {c : Code} {H H0 : Heap} {locs : List Loc} {cells slots : Nat} {Q : State → Prop} {pc : Nat} {ls : Array Slot} {rest : List Value} {D : va_G} {cI cL cZ : ClassId} {A : Nat → Prop}
/-- the constructor of the cell made last -/
theorem c_callL {S : Type} {z : MD} {mc ms h idx : Nat} {e0 : va_E} {w0 : Nat → va_W} {w1 : ClassId → ClassId → ClassId → Nat → S → va_W} {lv : List (Nat × Value)} (ws : va_W) (hw0 : w0 h = [(h, e0)]) (hC : CxC y p s m args c) (hM : CtC z mc ms w0 w1) (hz : MOk z 0) (hlk : Cond.methodLink (mdN y).cls idx (mdN z) ∈ tbG) (him : Cond.instanceMethod (mdN z) ∈ tbG) (hnm : (mdN z).name = "<init>") (hr0 : mdR z = none) (hR : mdF z + 1 ≤ R.frames ∧ 8 + (mdL z + 11) + mdW z ≤ R.locals) (hcs : cells + mc ≤ R.cells ∧ slots + ms ≤ R.slots) (hl : lv_has ls (mdL y) lv) (hst : (rest.map fun v => v.category).sum ≤ 8) (hdg : decode (mdC y) pc = .ok (.invokespecial idx, 3)) (hK : va_K D vwCl (tyC cI cL cZ) s) (hP : va_P D vwCl (ws ++ [(h, e0)]) H) (hD : va_D A (ws ++ [(h, e0)])) (hS : va_S A H0 H locs) (hA : ∀ q : Nat, H0.size ≤ q → A q)
    (kk : ∀ (u : S) (H1 : Heap) (locs1 : List Loc), va_P D vwCl (ws ++ w1 cI cL cZ h u) H1 → va_D A (ws ++ w1 cI cL cZ h u) → va_S A H0 H1 locs1 → W p l e R s m args below meth c H1 locs1 (cells + mc) (slots + ms) Q (F0 m (pc + 3) ls rest)) : W p l e R s m args below meth c H locs cells slots Q (F0 m pc ls (.ref h :: rest)) :=
  c_call [ws.length] (List.range ws.length) ws hC hM hz hlk him hnm hr0 hR hcs hl hst hdg hK hP hD hS hA (by rw [hw0]; exact rng_last ws _) (rng_left ws _) rfl (nd_of _ List.nodup_range) (fun i hi => by simp at hi ⊢; omega) kk
theorem c_callNL {S : Type} {z : MD} {mc ms h idx : Nat} {host : String} {e0 : va_E} {w0 : Nat → va_W} {w1 : ClassId → ClassId → ClassId → Nat → S → va_W} {lv : List (Nat × Value)} (ws : va_W) (hw0 : w0 h = [(h, e0)]) (hC : CxC y p s m args c) (hM : CtC z mc ms w0 w1) (hz : MOk z 0) (hlk : Cond.methodLinkNest (mdN y).cls idx (mdN z) host ∈ lw_tbl) (him : Cond.instanceMethod (mdN z) ∈ tbG) (hnm : (mdN z).name = "<init>") (hr0 : mdR z = none) (hR : mdF z + 1 ≤ R.frames ∧ 8 + (mdL z + 11) + mdW z ≤ R.locals) (hcs : cells + mc ≤ R.cells ∧ slots + ms ≤ R.slots) (hl : lv_has ls (mdL y) lv) (hst : (rest.map fun v => v.category).sum ≤ 8) (hdg : decode (mdC y) pc = .ok (.invokespecial idx, 3)) (hK : va_K D vwCl (tyC cI cL cZ) s) (hP : va_P D vwCl (ws ++ [(h, e0)]) H) (hD : va_D A (ws ++ [(h, e0)])) (hS : va_S A H0 H locs) (hA : ∀ q : Nat, H0.size ≤ q → A q)
    (kk : ∀ (u : S) (H1 : Heap) (locs1 : List Loc), va_P D vwCl (ws ++ w1 cI cL cZ h u) H1 → va_D A (ws ++ w1 cI cL cZ h u) → va_S A H0 H1 locs1 → W p l e R s m args below meth c H1 locs1 (cells + mc) (slots + ms) Q (F0 m (pc + 3) ls rest)) : W p l e R s m args below meth c H locs cells slots Q (F0 m pc ls (.ref h :: rest)) :=
  c_callN [ws.length] (List.range ws.length) ws hC hM hz hlk him hnm hr0 hR hcs hl hst hdg hK hP hD hS hA (by rw [hw0]; exact rng_last ws _) (rng_left ws _) rfl (nd_of _ List.nodup_range) (fun i hi => by simp at hi ⊢; omega) kk
end CCALL
