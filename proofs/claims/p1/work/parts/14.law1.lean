abbrev y_L_law : MethodName := ⟨"MapFramerLaw", "law", "([I)Z"⟩
theorem w_383 : (Cond.classLink "MapFramerLaw" 8 "MapFramer" : Cond) ∈ bigW := inB_1 37 (by decide +kernel) rfl
theorem w_384 : (Cond.instantiable "MapFramer" 4 : Cond) ∈ bigW := inB_1 38 (by decide +kernel) rfl
theorem w_385 : (Cond.methodLink "MapFramerLaw" 61 ⟨"MapFramer", "<init>", "()V"⟩ : Cond) ∈ bigW := inB_1 39 (by decide +kernel) rfl
theorem w_386 : (Cond.code ⟨"MapFramer", "<init>", "()V"⟩ prog_1_method_1_code 1 none : Cond) ∈ bigW := inB_1 41 rfl rfl
theorem w_387 : (Cond.instanceMethod ⟨"MapFramer", "<init>", "()V"⟩ : Cond) ∈ bigW := inB_1 40 (by decide +kernel) rfl
theorem w_388 : (Cond.classLink "MapFramerLaw" 62 "MapFramerModel" : Cond) ∈ bigW := inB_8 55 (by decide +kernel) rfl
theorem w_389 : (Cond.instantiable "MapFramerModel" 71 : Cond) ∈ bigW := inB_8 56 (by decide +kernel) rfl
theorem w_390 : (Cond.methodLink "MapFramerLaw" 64 ⟨"MapFramerModel", "<init>", "()V"⟩ : Cond) ∈ bigW := inB_8 57 (by decide +kernel) rfl
theorem w_391 : (Cond.code ⟨"MapFramerModel", "<init>", "()V"⟩ prog_14_method_1_code 2 none : Cond) ∈ bigW := inB_8 59 rfl rfl
theorem w_392 : (Cond.instanceMethod ⟨"MapFramerModel", "<init>", "()V"⟩ : Cond) ∈ bigW := inB_8 58 (by decide +kernel) rfl
theorem w_393 : (Cond.methodLink "MapFramerLaw" 65 ⟨"MapFramerLaw", "cls", "(LMapFramer;IZ[J)I"⟩ : Cond) ∈ bigW := inB_1 215 (by decide +kernel) rfl
theorem w_394 : (Cond.static ⟨"MapFramerLaw", "cls", "(LMapFramer;IZ[J)I"⟩ : Cond) ∈ bigW := inB_1 216 (by decide +kernel) rfl
theorem w_395 : (Cond.initialized "MapFramerLaw" : Cond) ∈ bigW := inB_1 0 (by decide +kernel) rfl
theorem w_396 : (Cond.codeWith ⟨"MapFramerLaw", "cls", "(LMapFramer;IZ[J)I"⟩ method_3_code 5 (some .int) [(0, 10, 13, 13), (0, 10, 17, 15)] : Cond) ∈ bigW := inB_1 217 rfl rfl
theorem w_397 : (Cond.methodLink "MapFramerLaw" 70 ⟨"MapFramerModel", "cls", "(IZ)I"⟩ : Cond) ∈ bigW := inB_9 38 (by decide +kernel) rfl
theorem w_398 : (Cond.instanceMethod ⟨"MapFramerModel", "cls", "(IZ)I"⟩ : Cond) ∈ bigW := inB_9 39 (by decide +kernel) rfl
theorem w_399 : (Cond.selects "MapFramerModel" ⟨"MapFramerModel", "cls", "(IZ)I"⟩ ⟨"MapFramerModel", "cls", "(IZ)I"⟩ : Cond) ∈ bigW := inB_9 40 (by decide +kernel) rfl
theorem w_400 : (Cond.code ⟨"MapFramerModel", "cls", "(IZ)I"⟩ prog_14_method_14_code 3 (some .int) : Cond) ∈ bigW := inB_9 41 rfl rfl
theorem w_401 : (Cond.methodLink "MapFramerLaw" 71 ⟨"MapFramerModel", "thrown", "()I"⟩ : Cond) ∈ bigW := inB_9 34 (by decide +kernel) rfl
theorem w_402 : (Cond.instanceMethod ⟨"MapFramerModel", "thrown", "()I"⟩ : Cond) ∈ bigW := inB_9 35 (by decide +kernel) rfl
theorem w_403 : (Cond.selects "MapFramerModel" ⟨"MapFramerModel", "thrown", "()I"⟩ ⟨"MapFramerModel", "thrown", "()I"⟩ : Cond) ∈ bigW := inB_9 36 (by decide +kernel) rfl
theorem w_404 : (Cond.code ⟨"MapFramerModel", "thrown", "()I"⟩ prog_14_method_2_code 1 (some .int) : Cond) ∈ bigW := inB_9 37 rfl rfl
theorem w_405 : (Cond.methodLink "MapFramerLaw" 75 ⟨"MapFramerLaw", "field", "(LMapFramer;IIZ[J)I"⟩ : Cond) ∈ bigW := inB_2 82 (by decide +kernel) rfl
theorem w_406 : (Cond.static ⟨"MapFramerLaw", "field", "(LMapFramer;IIZ[J)I"⟩ : Cond) ∈ bigW := inB_2 83 (by decide +kernel) rfl
theorem w_407 : (Cond.codeWith ⟨"MapFramerLaw", "field", "(LMapFramer;IIZ[J)I"⟩ method_4_code 6 (some .int) [(0, 12, 15, 13), (0, 12, 19, 15)] : Cond) ∈ bigW := inB_2 84 rfl rfl
theorem w_408 : (Cond.methodLink "MapFramerLaw" 78 ⟨"MapFramerModel", "field", "(IIZ)I"⟩ : Cond) ∈ bigW := inB_9 50 (by decide +kernel) rfl
theorem w_409 : (Cond.instanceMethod ⟨"MapFramerModel", "field", "(IIZ)I"⟩ : Cond) ∈ bigW := inB_9 51 (by decide +kernel) rfl
theorem w_410 : (Cond.selects "MapFramerModel" ⟨"MapFramerModel", "field", "(IIZ)I"⟩ ⟨"MapFramerModel", "field", "(IIZ)I"⟩ : Cond) ∈ bigW := inB_9 52 (by decide +kernel) rfl
theorem w_411 : (Cond.code ⟨"MapFramerModel", "field", "(IIZ)I"⟩ prog_14_method_15_code 4 (some .int) : Cond) ∈ bigW := inB_9 53 rfl rfl
theorem w_412 : (Cond.methodLink "MapFramerLaw" 79 ⟨"MapFramerLaw", "method", "(LMapFramer;II[J)I"⟩ : Cond) ∈ bigW := inB_2 101 (by decide +kernel) rfl
theorem w_413 : (Cond.static ⟨"MapFramerLaw", "method", "(LMapFramer;II[J)I"⟩ : Cond) ∈ bigW := inB_2 102 (by decide +kernel) rfl
theorem w_414 : (Cond.codeWith ⟨"MapFramerLaw", "method", "(LMapFramer;II[J)I"⟩ method_5_code 5 (some .int) [(0, 10, 13, 13), (0, 10, 17, 15)] : Cond) ∈ bigW := inB_2 103 rfl rfl
theorem w_415 : (Cond.methodLink "MapFramerLaw" 82 ⟨"MapFramerModel", "method", "(II)I"⟩ : Cond) ∈ bigW := inB_9 58 (by decide +kernel) rfl
theorem w_416 : (Cond.instanceMethod ⟨"MapFramerModel", "method", "(II)I"⟩ : Cond) ∈ bigW := inB_9 59 (by decide +kernel) rfl
theorem w_417 : (Cond.selects "MapFramerModel" ⟨"MapFramerModel", "method", "(II)I"⟩ ⟨"MapFramerModel", "method", "(II)I"⟩ : Cond) ∈ bigW := inB_9 60 (by decide +kernel) rfl
theorem w_418 : (Cond.code ⟨"MapFramerModel", "method", "(II)I"⟩ prog_14_method_16_code 6 (some .int) : Cond) ∈ bigW := inB_9 61 rfl rfl
theorem w_419 : (Cond.methodLink "MapFramerLaw" 83 ⟨"MapFramer", "feed", "(I)Z"⟩ : Cond) ∈ bigW := inB_1 203 (by decide +kernel) rfl
theorem w_420 : (Cond.instanceMethod ⟨"MapFramer", "feed", "(I)Z"⟩ : Cond) ∈ bigW := inB_1 204 (by decide +kernel) rfl
theorem w_421 : (Cond.selects "MapFramer" ⟨"MapFramer", "feed", "(I)Z"⟩ ⟨"MapFramer", "feed", "(I)Z"⟩ : Cond) ∈ bigW := inB_1 205 (by decide +kernel) rfl
theorem w_422 : (Cond.code ⟨"MapFramer", "feed", "(I)Z"⟩ prog_1_method_5_code 3 (some .boolean) : Cond) ∈ bigW := inB_1 206 rfl rfl
theorem w_423 : (Cond.methodLink "MapFramerLaw" 87 ⟨"MapFramerModel", "feed", "(I)Z"⟩ : Cond) ∈ bigW := inB_9 62 (by decide +kernel) rfl
theorem w_424 : (Cond.instanceMethod ⟨"MapFramerModel", "feed", "(I)Z"⟩ : Cond) ∈ bigW := inB_9 63 (by decide +kernel) rfl
theorem w_425 : (Cond.selects "MapFramerModel" ⟨"MapFramerModel", "feed", "(I)Z"⟩ ⟨"MapFramerModel", "feed", "(I)Z"⟩ : Cond) ∈ bigW := inB_9 64 (by decide +kernel) rfl
theorem w_426 : (Cond.code ⟨"MapFramerModel", "feed", "(I)Z"⟩ prog_14_method_18_code 3 (some .boolean) : Cond) ∈ bigW := inB_9 65 rfl rfl
theorem w_427 : (Cond.methodLink "MapFramerLaw" 88 ⟨"MapFramerLaw", "code", "(LMapFramer;IIII)I"⟩ : Cond) ∈ bigW := inB_2 220 (by decide +kernel) rfl
theorem w_428 : (Cond.static ⟨"MapFramerLaw", "code", "(LMapFramer;IIII)I"⟩ : Cond) ∈ bigW := inB_2 221 (by decide +kernel) rfl
theorem w_429 : (Cond.codeWith ⟨"MapFramerLaw", "code", "(LMapFramer;IIII)I"⟩ method_6_code 6 (some .int) [(0, 9, 12, 13), (0, 9, 16, 15)] : Cond) ∈ bigW := inB_2 222 rfl rfl
theorem w_430 : (Cond.methodLink "MapFramerLaw" 91 ⟨"MapFramerModel", "code", "(IIII)V"⟩ : Cond) ∈ bigW := inB_9 66 (by decide +kernel) rfl
theorem w_431 : (Cond.instanceMethod ⟨"MapFramerModel", "code", "(IIII)V"⟩ : Cond) ∈ bigW := inB_9 67 (by decide +kernel) rfl
theorem w_432 : (Cond.selects "MapFramerModel" ⟨"MapFramerModel", "code", "(IIII)V"⟩ ⟨"MapFramerModel", "code", "(IIII)V"⟩ : Cond) ∈ bigW := inB_9 68 (by decide +kernel) rfl
theorem w_433 : (Cond.code ⟨"MapFramerModel", "code", "(IIII)V"⟩ prog_14_method_20_code 8 none : Cond) ∈ bigW := inB_9 69 rfl rfl
theorem w_434 : (Cond.methodLink "MapFramerLaw" 92 ⟨"MapFramerLaw", "handler", "(LMapFramer;IIIII[J)I"⟩ : Cond) ∈ bigW := inB_3 21 (by decide +kernel) rfl
theorem w_435 : (Cond.static ⟨"MapFramerLaw", "handler", "(LMapFramer;IIIII[J)I"⟩ : Cond) ∈ bigW := inB_3 22 (by decide +kernel) rfl
theorem w_436 : (Cond.codeWith ⟨"MapFramerLaw", "handler", "(LMapFramer;IIIII[J)I"⟩ method_7_code 8 (some .int) [(0, 16, 19, 13), (0, 16, 23, 15)] : Cond) ∈ bigW := inB_3 23 rfl rfl
theorem w_437 : (Cond.methodLink "MapFramerLaw" 95 ⟨"MapFramerModel", "handler", "(IIIII)I"⟩ : Cond) ∈ bigW := inB_9 78 (by decide +kernel) rfl
theorem w_438 : (Cond.instanceMethod ⟨"MapFramerModel", "handler", "(IIIII)I"⟩ : Cond) ∈ bigW := inB_9 79 (by decide +kernel) rfl
theorem w_439 : (Cond.selects "MapFramerModel" ⟨"MapFramerModel", "handler", "(IIIII)I"⟩ ⟨"MapFramerModel", "handler", "(IIIII)I"⟩ : Cond) ∈ bigW := inB_9 80 (by decide +kernel) rfl
theorem w_440 : (Cond.code ⟨"MapFramerModel", "handler", "(IIIII)I"⟩ prog_14_method_21_code 8 (some .int) : Cond) ∈ bigW := inB_9 81 rfl rfl
theorem w_441 : (Cond.methodLink "MapFramerLaw" 96 ⟨"MapFramerLaw", "verify", "(LMapFramer;I[J)I"⟩ : Cond) ∈ bigW := inB_3 132 (by decide +kernel) rfl
theorem w_442 : (Cond.static ⟨"MapFramerLaw", "verify", "(LMapFramer;I[J)I"⟩ : Cond) ∈ bigW := inB_3 133 (by decide +kernel) rfl
theorem w_443 : (Cond.codeWith ⟨"MapFramerLaw", "verify", "(LMapFramer;I[J)I"⟩ method_8_code 4 (some .int) [(0, 9, 12, 13), (0, 9, 15, 15), (0, 9, 18, 37)] : Cond) ∈ bigW := inB_3 134 rfl rfl
theorem w_444 : (Cond.methodLink "MapFramerLaw" 99 ⟨"MapFramerModel", "verify", "(I)I"⟩ : Cond) ∈ bigW := inB_9 86 (by decide +kernel) rfl
theorem w_445 : (Cond.instanceMethod ⟨"MapFramerModel", "verify", "(I)I"⟩ : Cond) ∈ bigW := inB_9 87 (by decide +kernel) rfl
theorem w_446 : (Cond.selects "MapFramerModel" ⟨"MapFramerModel", "verify", "(I)I"⟩ ⟨"MapFramerModel", "verify", "(I)I"⟩ : Cond) ∈ bigW := inB_9 88 (by decide +kernel) rfl
theorem w_447 : (Cond.code ⟨"MapFramerModel", "verify", "(I)I"⟩ prog_14_method_66_code 3 (some .int) : Cond) ∈ bigW := inB_9 89 rfl rfl
theorem w_448 : (Cond.methodLink "MapFramerLaw" 100 ⟨"MapFramerLaw", "about", "(LMapFramer;II[J)I"⟩ : Cond) ∈ bigW := inB_7 15 (by decide +kernel) rfl
theorem w_449 : (Cond.static ⟨"MapFramerLaw", "about", "(LMapFramer;II[J)I"⟩ : Cond) ∈ bigW := inB_7 16 (by decide +kernel) rfl
theorem w_450 : (Cond.codeWith ⟨"MapFramerLaw", "about", "(LMapFramer;II[J)I"⟩ method_9_code 5 (some .int) [(0, 10, 13, 42)] : Cond) ∈ bigW := inB_7 17 rfl rfl
theorem w_451 : (Cond.methodLink "MapFramerLaw" 102 ⟨"MapFramerModel", "about", "(II)I"⟩ : Cond) ∈ bigW := inB_10 46 (by decide +kernel) rfl
theorem w_452 : (Cond.instanceMethod ⟨"MapFramerModel", "about", "(II)I"⟩ : Cond) ∈ bigW := inB_10 47 (by decide +kernel) rfl
theorem w_453 : (Cond.selects "MapFramerModel" ⟨"MapFramerModel", "about", "(II)I"⟩ ⟨"MapFramerModel", "about", "(II)I"⟩ : Cond) ∈ bigW := inB_10 48 (by decide +kernel) rfl
theorem w_454 : (Cond.code ⟨"MapFramerModel", "about", "(II)I"⟩ prog_14_method_75_code 5 (some .int) : Cond) ∈ bigW := inB_10 49 rfl rfl
theorem d_L_law_0 : decode code 0 = .ok (.new 8, 3) := by decide +kernel
theorem d_L_law_3 : decode code 3 = .ok (.dup, 1) := by decide +kernel
theorem d_L_law_4 : decode code 4 = .ok (.invokespecial 61, 3) := by decide +kernel
theorem d_L_law_7 : decode code 7 = .ok (.astore_n 1, 1) := by decide +kernel
theorem d_L_law_8 : decode code 8 = .ok (.new 62, 3) := by decide +kernel
theorem d_L_law_11 : decode code 11 = .ok (.dup, 1) := by decide +kernel
theorem d_L_law_12 : decode code 12 = .ok (.invokespecial 64, 3) := by decide +kernel
theorem d_L_law_15 : decode code 15 = .ok (.astore_n 2, 1) := by decide +kernel
theorem d_L_law_16 : decode code 16 = .ok (.iconst 1, 1) := by decide +kernel
theorem d_L_law_17 : decode code 17 = .ok (.newarray .long, 2) := by decide +kernel
theorem d_L_law_19 : decode code 19 = .ok (.astore_n 3, 1) := by decide +kernel
theorem d_L_law_20 : decode code 20 = .ok (.iconst 0, 1) := by decide +kernel
theorem d_L_law_21 : decode code 21 = .ok (.istore 4, 2) := by decide +kernel
theorem d_L_law_23 : decode code 23 = .ok (.iload 4, 2) := by decide +kernel
theorem d_L_law_25 : decode code 25 = .ok (.aload_n 0, 1) := by decide +kernel
theorem d_L_law_26 : decode code 26 = .ok (.arraylength, 1) := by decide +kernel
theorem d_L_law_27 : decode code 27 = .ok (.bipush 7, 2) := by decide +kernel
theorem d_L_law_29 : decode code 29 = .ok (.isub, 1) := by decide +kernel
theorem d_L_law_30 : decode code 30 = .ok (.if_icmp .gt 1168, 3) := by decide +kernel
theorem d_L_law_116 : decode code 116 = .ok (.aload_n 1, 1) := by decide +kernel
theorem d_L_law_117 : decode code 117 = .ok (.aload_n 0, 1) := by decide +kernel
theorem d_L_law_118 : decode code 118 = .ok (.iload 4, 2) := by decide +kernel
theorem d_L_law_120 : decode code 120 = .ok (.iconst 1, 1) := by decide +kernel
theorem d_L_law_121 : decode code 121 = .ok (.iadd, 1) := by decide +kernel
theorem d_L_law_122 : decode code 122 = .ok (.iaload, 1) := by decide +kernel
theorem d_L_law_123 : decode code 123 = .ok (.aload_n 0, 1) := by decide +kernel
theorem d_L_law_124 : decode code 124 = .ok (.iload 4, 2) := by decide +kernel
theorem d_L_law_126 : decode code 126 = .ok (.iconst 2, 1) := by decide +kernel
theorem d_L_law_127 : decode code 127 = .ok (.iadd, 1) := by decide +kernel
theorem d_L_law_128 : decode code 128 = .ok (.iaload, 1) := by decide +kernel
theorem d_L_law_129 : decode code 129 = .ok (.ifCond .eq 7, 3) := by decide +kernel
theorem d_L_law_132 : decode code 132 = .ok (.iconst 1, 1) := by decide +kernel
theorem d_L_law_133 : decode code 133 = .ok (.goto 4, 3) := by decide +kernel
theorem d_L_law_136 : decode code 136 = .ok (.iconst 0, 1) := by decide +kernel
theorem d_L_law_137 : decode code 137 = .ok (.aload_n 3, 1) := by decide +kernel
theorem d_L_law_138 : decode code 138 = .ok (.invokestatic 65, 3) := by decide +kernel
theorem d_L_law_141 : decode code 141 = .ok (.istore 5, 2) := by decide +kernel
theorem d_L_law_143 : decode code 143 = .ok (.aload_n 2, 1) := by decide +kernel
theorem d_L_law_144 : decode code 144 = .ok (.aload_n 0, 1) := by decide +kernel
theorem d_L_law_145 : decode code 145 = .ok (.iload 4, 2) := by decide +kernel
theorem d_L_law_147 : decode code 147 = .ok (.iconst 1, 1) := by decide +kernel
theorem d_L_law_148 : decode code 148 = .ok (.iadd, 1) := by decide +kernel
theorem d_L_law_149 : decode code 149 = .ok (.iaload, 1) := by decide +kernel
theorem d_L_law_150 : decode code 150 = .ok (.aload_n 0, 1) := by decide +kernel
theorem d_L_law_151 : decode code 151 = .ok (.iload 4, 2) := by decide +kernel
theorem d_L_law_153 : decode code 153 = .ok (.iconst 2, 1) := by decide +kernel
theorem d_L_law_154 : decode code 154 = .ok (.iadd, 1) := by decide +kernel
theorem d_L_law_155 : decode code 155 = .ok (.iaload, 1) := by decide +kernel
theorem d_L_law_156 : decode code 156 = .ok (.ifCond .eq 7, 3) := by decide +kernel
theorem d_L_law_159 : decode code 159 = .ok (.iconst 1, 1) := by decide +kernel
theorem d_L_law_160 : decode code 160 = .ok (.goto 4, 3) := by decide +kernel
theorem d_L_law_163 : decode code 163 = .ok (.iconst 0, 1) := by decide +kernel
theorem d_L_law_164 : decode code 164 = .ok (.invokevirtual 70, 3) := by decide +kernel
theorem d_L_law_167 : decode code 167 = .ok (.istore 6, 2) := by decide +kernel
theorem d_L_law_169 : decode code 169 = .ok (.aload_n 2, 1) := by decide +kernel
theorem d_L_law_170 : decode code 170 = .ok (.invokevirtual 71, 3) := by decide +kernel
theorem d_L_law_173 : decode code 173 = .ok (.iload 5, 2) := by decide +kernel
theorem d_L_law_175 : decode code 175 = .ok (.if_icmp .eq 5, 3) := by decide +kernel
theorem d_L_law_180 : decode code 180 = .ok (.iload 5, 2) := by decide +kernel
theorem d_L_law_182 : decode code 182 = .ok (.ifCond .ne 15, 3) := by decide +kernel
theorem d_L_law_185 : decode code 185 = .ok (.aload_n 3, 1) := by decide +kernel
theorem d_L_law_186 : decode code 186 = .ok (.iconst 0, 1) := by decide +kernel
theorem d_L_law_187 : decode code 187 = .ok (.laload, 1) := by decide +kernel
theorem d_L_law_188 : decode code 188 = .ok (.iload 6, 2) := by decide +kernel
theorem d_L_law_190 : decode code 190 = .ok (.i2l, 1) := by decide +kernel
theorem d_L_law_191 : decode code 191 = .ok (.lcmp, 1) := by decide +kernel
theorem d_L_law_192 : decode code 192 = .ok (.ifCond .eq 5, 3) := by decide +kernel
theorem d_L_law_197 : decode code 197 = .ok (.goto 995, 3) := by decide +kernel
theorem d_L_law_200 : decode code 200 = .ok (.aload_n 1, 1) := by decide +kernel
theorem d_L_law_201 : decode code 201 = .ok (.aload_n 0, 1) := by decide +kernel
theorem d_L_law_202 : decode code 202 = .ok (.iload 4, 2) := by decide +kernel
theorem d_L_law_204 : decode code 204 = .ok (.iconst 1, 1) := by decide +kernel
theorem d_L_law_205 : decode code 205 = .ok (.iadd, 1) := by decide +kernel
theorem d_L_law_206 : decode code 206 = .ok (.iaload, 1) := by decide +kernel
theorem d_L_law_207 : decode code 207 = .ok (.aload_n 0, 1) := by decide +kernel
theorem d_L_law_208 : decode code 208 = .ok (.iload 4, 2) := by decide +kernel
theorem d_L_law_210 : decode code 210 = .ok (.iconst 2, 1) := by decide +kernel
theorem d_L_law_211 : decode code 211 = .ok (.iadd, 1) := by decide +kernel
theorem d_L_law_212 : decode code 212 = .ok (.iaload, 1) := by decide +kernel
theorem d_L_law_213 : decode code 213 = .ok (.aload_n 0, 1) := by decide +kernel
theorem d_L_law_214 : decode code 214 = .ok (.iload 4, 2) := by decide +kernel
theorem d_L_law_216 : decode code 216 = .ok (.iconst 3, 1) := by decide +kernel
theorem d_L_law_217 : decode code 217 = .ok (.iadd, 1) := by decide +kernel
theorem d_L_law_218 : decode code 218 = .ok (.iaload, 1) := by decide +kernel
theorem d_L_law_219 : decode code 219 = .ok (.ifCond .eq 7, 3) := by decide +kernel
theorem d_L_law_222 : decode code 222 = .ok (.iconst 1, 1) := by decide +kernel
theorem d_L_law_223 : decode code 223 = .ok (.goto 4, 3) := by decide +kernel
theorem d_L_law_226 : decode code 226 = .ok (.iconst 0, 1) := by decide +kernel
theorem d_L_law_227 : decode code 227 = .ok (.aload_n 3, 1) := by decide +kernel
theorem d_L_law_228 : decode code 228 = .ok (.invokestatic 75, 3) := by decide +kernel
theorem d_L_law_231 : decode code 231 = .ok (.istore 5, 2) := by decide +kernel
theorem d_L_law_233 : decode code 233 = .ok (.aload_n 2, 1) := by decide +kernel
theorem d_L_law_234 : decode code 234 = .ok (.aload_n 0, 1) := by decide +kernel
theorem d_L_law_235 : decode code 235 = .ok (.iload 4, 2) := by decide +kernel
theorem d_L_law_237 : decode code 237 = .ok (.iconst 1, 1) := by decide +kernel
theorem d_L_law_238 : decode code 238 = .ok (.iadd, 1) := by decide +kernel
theorem d_L_law_239 : decode code 239 = .ok (.iaload, 1) := by decide +kernel
theorem d_L_law_240 : decode code 240 = .ok (.aload_n 0, 1) := by decide +kernel
theorem d_L_law_241 : decode code 241 = .ok (.iload 4, 2) := by decide +kernel
theorem d_L_law_243 : decode code 243 = .ok (.iconst 2, 1) := by decide +kernel
theorem d_L_law_244 : decode code 244 = .ok (.iadd, 1) := by decide +kernel
theorem d_L_law_245 : decode code 245 = .ok (.iaload, 1) := by decide +kernel
theorem d_L_law_246 : decode code 246 = .ok (.aload_n 0, 1) := by decide +kernel
theorem d_L_law_247 : decode code 247 = .ok (.iload 4, 2) := by decide +kernel
theorem d_L_law_249 : decode code 249 = .ok (.iconst 3, 1) := by decide +kernel
theorem d_L_law_250 : decode code 250 = .ok (.iadd, 1) := by decide +kernel
theorem d_L_law_251 : decode code 251 = .ok (.iaload, 1) := by decide +kernel
theorem d_L_law_252 : decode code 252 = .ok (.ifCond .eq 7, 3) := by decide +kernel
theorem d_L_law_255 : decode code 255 = .ok (.iconst 1, 1) := by decide +kernel
theorem d_L_law_256 : decode code 256 = .ok (.goto 4, 3) := by decide +kernel
theorem d_L_law_259 : decode code 259 = .ok (.iconst 0, 1) := by decide +kernel
theorem d_L_law_260 : decode code 260 = .ok (.invokevirtual 78, 3) := by decide +kernel
theorem d_L_law_263 : decode code 263 = .ok (.istore 6, 2) := by decide +kernel
theorem d_L_law_265 : decode code 265 = .ok (.aload_n 2, 1) := by decide +kernel
theorem d_L_law_266 : decode code 266 = .ok (.invokevirtual 71, 3) := by decide +kernel
theorem d_L_law_269 : decode code 269 = .ok (.iload 5, 2) := by decide +kernel
theorem d_L_law_271 : decode code 271 = .ok (.if_icmp .eq 5, 3) := by decide +kernel
theorem d_L_law_276 : decode code 276 = .ok (.iload 5, 2) := by decide +kernel
theorem d_L_law_278 : decode code 278 = .ok (.ifCond .ne 15, 3) := by decide +kernel
theorem d_L_law_281 : decode code 281 = .ok (.aload_n 3, 1) := by decide +kernel
theorem d_L_law_282 : decode code 282 = .ok (.iconst 0, 1) := by decide +kernel
theorem d_L_law_283 : decode code 283 = .ok (.laload, 1) := by decide +kernel
theorem d_L_law_284 : decode code 284 = .ok (.iload 6, 2) := by decide +kernel
theorem d_L_law_286 : decode code 286 = .ok (.i2l, 1) := by decide +kernel
theorem d_L_law_287 : decode code 287 = .ok (.lcmp, 1) := by decide +kernel
theorem d_L_law_288 : decode code 288 = .ok (.ifCond .eq 5, 3) := by decide +kernel
theorem d_L_law_293 : decode code 293 = .ok (.goto 899, 3) := by decide +kernel
theorem d_L_law_296 : decode code 296 = .ok (.aload_n 1, 1) := by decide +kernel
theorem d_L_law_297 : decode code 297 = .ok (.aload_n 0, 1) := by decide +kernel
theorem d_L_law_298 : decode code 298 = .ok (.iload 4, 2) := by decide +kernel
theorem d_L_law_300 : decode code 300 = .ok (.iconst 1, 1) := by decide +kernel
theorem d_L_law_301 : decode code 301 = .ok (.iadd, 1) := by decide +kernel
theorem d_L_law_302 : decode code 302 = .ok (.iaload, 1) := by decide +kernel
theorem d_L_law_303 : decode code 303 = .ok (.aload_n 0, 1) := by decide +kernel
theorem d_L_law_304 : decode code 304 = .ok (.iload 4, 2) := by decide +kernel
theorem d_L_law_306 : decode code 306 = .ok (.iconst 2, 1) := by decide +kernel
theorem d_L_law_307 : decode code 307 = .ok (.iadd, 1) := by decide +kernel
theorem d_L_law_308 : decode code 308 = .ok (.iaload, 1) := by decide +kernel
theorem d_L_law_309 : decode code 309 = .ok (.aload_n 3, 1) := by decide +kernel
theorem d_L_law_310 : decode code 310 = .ok (.invokestatic 79, 3) := by decide +kernel
theorem d_L_law_313 : decode code 313 = .ok (.istore 5, 2) := by decide +kernel
theorem d_L_law_315 : decode code 315 = .ok (.aload_n 2, 1) := by decide +kernel
theorem d_L_law_316 : decode code 316 = .ok (.aload_n 0, 1) := by decide +kernel
theorem d_L_law_317 : decode code 317 = .ok (.iload 4, 2) := by decide +kernel
theorem d_L_law_319 : decode code 319 = .ok (.iconst 1, 1) := by decide +kernel
theorem d_L_law_320 : decode code 320 = .ok (.iadd, 1) := by decide +kernel
theorem d_L_law_321 : decode code 321 = .ok (.iaload, 1) := by decide +kernel
theorem d_L_law_322 : decode code 322 = .ok (.aload_n 0, 1) := by decide +kernel
theorem d_L_law_323 : decode code 323 = .ok (.iload 4, 2) := by decide +kernel
theorem d_L_law_325 : decode code 325 = .ok (.iconst 2, 1) := by decide +kernel
theorem d_L_law_326 : decode code 326 = .ok (.iadd, 1) := by decide +kernel
theorem d_L_law_327 : decode code 327 = .ok (.iaload, 1) := by decide +kernel
theorem d_L_law_328 : decode code 328 = .ok (.invokevirtual 82, 3) := by decide +kernel
theorem d_L_law_331 : decode code 331 = .ok (.istore 6, 2) := by decide +kernel
theorem d_L_law_333 : decode code 333 = .ok (.aload_n 2, 1) := by decide +kernel
theorem d_L_law_334 : decode code 334 = .ok (.invokevirtual 71, 3) := by decide +kernel
theorem d_L_law_337 : decode code 337 = .ok (.iload 5, 2) := by decide +kernel
theorem d_L_law_339 : decode code 339 = .ok (.if_icmp .eq 5, 3) := by decide +kernel
theorem d_L_law_344 : decode code 344 = .ok (.iload 5, 2) := by decide +kernel
theorem d_L_law_346 : decode code 346 = .ok (.ifCond .ne 15, 3) := by decide +kernel
theorem d_L_law_349 : decode code 349 = .ok (.aload_n 3, 1) := by decide +kernel
theorem d_L_law_350 : decode code 350 = .ok (.iconst 0, 1) := by decide +kernel
theorem d_L_law_351 : decode code 351 = .ok (.laload, 1) := by decide +kernel
theorem d_L_law_352 : decode code 352 = .ok (.iload 6, 2) := by decide +kernel
theorem d_L_law_354 : decode code 354 = .ok (.i2l, 1) := by decide +kernel
theorem d_L_law_355 : decode code 355 = .ok (.lcmp, 1) := by decide +kernel
theorem d_L_law_356 : decode code 356 = .ok (.ifCond .eq 5, 3) := by decide +kernel
theorem d_L_law_361 : decode code 361 = .ok (.goto 831, 3) := by decide +kernel
theorem d_L_law_364 : decode code 364 = .ok (.aload_n 1, 1) := by decide +kernel
theorem d_L_law_365 : decode code 365 = .ok (.aload_n 0, 1) := by decide +kernel
theorem d_L_law_366 : decode code 366 = .ok (.iload 4, 2) := by decide +kernel
theorem d_L_law_368 : decode code 368 = .ok (.iconst 1, 1) := by decide +kernel
theorem d_L_law_369 : decode code 369 = .ok (.iadd, 1) := by decide +kernel
theorem d_L_law_370 : decode code 370 = .ok (.iaload, 1) := by decide +kernel
theorem d_L_law_371 : decode code 371 = .ok (.invokevirtual 83, 3) := by decide +kernel
theorem d_L_law_374 : decode code 374 = .ok (.aload_n 2, 1) := by decide +kernel
theorem d_L_law_375 : decode code 375 = .ok (.aload_n 0, 1) := by decide +kernel
theorem d_L_law_376 : decode code 376 = .ok (.iload 4, 2) := by decide +kernel
theorem d_L_law_378 : decode code 378 = .ok (.iconst 1, 1) := by decide +kernel
theorem d_L_law_379 : decode code 379 = .ok (.iadd, 1) := by decide +kernel
theorem d_L_law_380 : decode code 380 = .ok (.iaload, 1) := by decide +kernel
theorem d_L_law_381 : decode code 381 = .ok (.invokevirtual 87, 3) := by decide +kernel
theorem d_L_law_384 : decode code 384 = .ok (.if_icmp .eq 808, 3) := by decide +kernel
theorem d_L_law_389 : decode code 389 = .ok (.aload_n 1, 1) := by decide +kernel
theorem d_L_law_390 : decode code 390 = .ok (.aload_n 0, 1) := by decide +kernel
theorem d_L_law_391 : decode code 391 = .ok (.iload 4, 2) := by decide +kernel
theorem d_L_law_393 : decode code 393 = .ok (.iconst 1, 1) := by decide +kernel
theorem d_L_law_394 : decode code 394 = .ok (.iadd, 1) := by decide +kernel
theorem d_L_law_395 : decode code 395 = .ok (.iaload, 1) := by decide +kernel
theorem d_L_law_396 : decode code 396 = .ok (.aload_n 0, 1) := by decide +kernel
theorem d_L_law_397 : decode code 397 = .ok (.iload 4, 2) := by decide +kernel
theorem d_L_law_399 : decode code 399 = .ok (.iconst 2, 1) := by decide +kernel
theorem d_L_law_400 : decode code 400 = .ok (.iadd, 1) := by decide +kernel
theorem d_L_law_401 : decode code 401 = .ok (.iaload, 1) := by decide +kernel
theorem d_L_law_402 : decode code 402 = .ok (.aload_n 0, 1) := by decide +kernel
theorem d_L_law_403 : decode code 403 = .ok (.iload 4, 2) := by decide +kernel
theorem d_L_law_405 : decode code 405 = .ok (.iconst 3, 1) := by decide +kernel
theorem d_L_law_406 : decode code 406 = .ok (.iadd, 1) := by decide +kernel
theorem d_L_law_407 : decode code 407 = .ok (.iaload, 1) := by decide +kernel
theorem d_L_law_408 : decode code 408 = .ok (.aload_n 0, 1) := by decide +kernel
theorem d_L_law_409 : decode code 409 = .ok (.iload 4, 2) := by decide +kernel
theorem d_L_law_411 : decode code 411 = .ok (.iconst 4, 1) := by decide +kernel
theorem d_L_law_412 : decode code 412 = .ok (.iadd, 1) := by decide +kernel
theorem d_L_law_413 : decode code 413 = .ok (.iaload, 1) := by decide +kernel
theorem d_L_law_414 : decode code 414 = .ok (.invokestatic 88, 3) := by decide +kernel
theorem d_L_law_417 : decode code 417 = .ok (.istore 5, 2) := by decide +kernel
theorem d_L_law_419 : decode code 419 = .ok (.aload_n 2, 1) := by decide +kernel
theorem d_L_law_420 : decode code 420 = .ok (.aload_n 0, 1) := by decide +kernel
theorem d_L_law_421 : decode code 421 = .ok (.iload 4, 2) := by decide +kernel
theorem d_L_law_423 : decode code 423 = .ok (.iconst 1, 1) := by decide +kernel
theorem d_L_law_424 : decode code 424 = .ok (.iadd, 1) := by decide +kernel
theorem d_L_law_425 : decode code 425 = .ok (.iaload, 1) := by decide +kernel
theorem d_L_law_426 : decode code 426 = .ok (.aload_n 0, 1) := by decide +kernel
theorem d_L_law_427 : decode code 427 = .ok (.iload 4, 2) := by decide +kernel
theorem d_L_law_429 : decode code 429 = .ok (.iconst 2, 1) := by decide +kernel
theorem d_L_law_430 : decode code 430 = .ok (.iadd, 1) := by decide +kernel
theorem d_L_law_431 : decode code 431 = .ok (.iaload, 1) := by decide +kernel
theorem d_L_law_432 : decode code 432 = .ok (.aload_n 0, 1) := by decide +kernel
theorem d_L_law_433 : decode code 433 = .ok (.iload 4, 2) := by decide +kernel
theorem d_L_law_435 : decode code 435 = .ok (.iconst 3, 1) := by decide +kernel
theorem d_L_law_436 : decode code 436 = .ok (.iadd, 1) := by decide +kernel
theorem d_L_law_437 : decode code 437 = .ok (.iaload, 1) := by decide +kernel
theorem d_L_law_438 : decode code 438 = .ok (.aload_n 0, 1) := by decide +kernel
theorem d_L_law_439 : decode code 439 = .ok (.iload 4, 2) := by decide +kernel
theorem d_L_law_441 : decode code 441 = .ok (.iconst 4, 1) := by decide +kernel
theorem d_L_law_442 : decode code 442 = .ok (.iadd, 1) := by decide +kernel
theorem d_L_law_443 : decode code 443 = .ok (.iaload, 1) := by decide +kernel
theorem d_L_law_444 : decode code 444 = .ok (.invokevirtual 91, 3) := by decide +kernel
theorem d_L_law_447 : decode code 447 = .ok (.aload_n 2, 1) := by decide +kernel
theorem d_L_law_448 : decode code 448 = .ok (.invokevirtual 71, 3) := by decide +kernel
theorem d_L_law_451 : decode code 451 = .ok (.iload 5, 2) := by decide +kernel
theorem d_L_law_453 : decode code 453 = .ok (.if_icmp .eq 5, 3) := by decide +kernel
theorem d_L_law_458 : decode code 458 = .ok (.goto 734, 3) := by decide +kernel
theorem d_L_law_461 : decode code 461 = .ok (.aload_n 1, 1) := by decide +kernel
theorem d_L_law_462 : decode code 462 = .ok (.aload_n 0, 1) := by decide +kernel
theorem d_L_law_463 : decode code 463 = .ok (.iload 4, 2) := by decide +kernel
theorem d_L_law_465 : decode code 465 = .ok (.iconst 1, 1) := by decide +kernel
theorem d_L_law_466 : decode code 466 = .ok (.iadd, 1) := by decide +kernel
theorem d_L_law_467 : decode code 467 = .ok (.iaload, 1) := by decide +kernel
theorem d_L_law_468 : decode code 468 = .ok (.aload_n 0, 1) := by decide +kernel
theorem d_L_law_469 : decode code 469 = .ok (.iload 4, 2) := by decide +kernel
theorem d_L_law_471 : decode code 471 = .ok (.iconst 2, 1) := by decide +kernel
theorem d_L_law_472 : decode code 472 = .ok (.iadd, 1) := by decide +kernel
theorem d_L_law_473 : decode code 473 = .ok (.iaload, 1) := by decide +kernel
theorem d_L_law_474 : decode code 474 = .ok (.aload_n 0, 1) := by decide +kernel
theorem d_L_law_475 : decode code 475 = .ok (.iload 4, 2) := by decide +kernel
theorem d_L_law_477 : decode code 477 = .ok (.iconst 3, 1) := by decide +kernel
theorem d_L_law_478 : decode code 478 = .ok (.iadd, 1) := by decide +kernel
theorem d_L_law_479 : decode code 479 = .ok (.iaload, 1) := by decide +kernel
theorem d_L_law_480 : decode code 480 = .ok (.aload_n 0, 1) := by decide +kernel
theorem d_L_law_481 : decode code 481 = .ok (.iload 4, 2) := by decide +kernel
theorem d_L_law_483 : decode code 483 = .ok (.iconst 4, 1) := by decide +kernel
theorem d_L_law_484 : decode code 484 = .ok (.iadd, 1) := by decide +kernel
theorem d_L_law_485 : decode code 485 = .ok (.iaload, 1) := by decide +kernel
theorem d_L_law_486 : decode code 486 = .ok (.aload_n 0, 1) := by decide +kernel
theorem d_L_law_487 : decode code 487 = .ok (.iload 4, 2) := by decide +kernel
theorem d_L_law_489 : decode code 489 = .ok (.iconst 5, 1) := by decide +kernel
theorem d_L_law_490 : decode code 490 = .ok (.iadd, 1) := by decide +kernel
theorem d_L_law_491 : decode code 491 = .ok (.iaload, 1) := by decide +kernel
theorem d_L_law_492 : decode code 492 = .ok (.aload_n 3, 1) := by decide +kernel
theorem d_L_law_493 : decode code 493 = .ok (.invokestatic 92, 3) := by decide +kernel
theorem d_L_law_496 : decode code 496 = .ok (.istore 5, 2) := by decide +kernel
theorem d_L_law_498 : decode code 498 = .ok (.aload_n 2, 1) := by decide +kernel
theorem d_L_law_499 : decode code 499 = .ok (.aload_n 0, 1) := by decide +kernel
theorem d_L_law_500 : decode code 500 = .ok (.iload 4, 2) := by decide +kernel
theorem d_L_law_502 : decode code 502 = .ok (.iconst 1, 1) := by decide +kernel
theorem d_L_law_503 : decode code 503 = .ok (.iadd, 1) := by decide +kernel
theorem d_L_law_504 : decode code 504 = .ok (.iaload, 1) := by decide +kernel
theorem d_L_law_505 : decode code 505 = .ok (.aload_n 0, 1) := by decide +kernel
theorem d_L_law_506 : decode code 506 = .ok (.iload 4, 2) := by decide +kernel
theorem d_L_law_508 : decode code 508 = .ok (.iconst 2, 1) := by decide +kernel
theorem d_L_law_509 : decode code 509 = .ok (.iadd, 1) := by decide +kernel
theorem d_L_law_510 : decode code 510 = .ok (.iaload, 1) := by decide +kernel
theorem d_L_law_511 : decode code 511 = .ok (.aload_n 0, 1) := by decide +kernel
theorem d_L_law_512 : decode code 512 = .ok (.iload 4, 2) := by decide +kernel
theorem d_L_law_514 : decode code 514 = .ok (.iconst 3, 1) := by decide +kernel
theorem d_L_law_515 : decode code 515 = .ok (.iadd, 1) := by decide +kernel
theorem d_L_law_516 : decode code 516 = .ok (.iaload, 1) := by decide +kernel
theorem d_L_law_517 : decode code 517 = .ok (.aload_n 0, 1) := by decide +kernel
theorem d_L_law_518 : decode code 518 = .ok (.iload 4, 2) := by decide +kernel
theorem d_L_law_520 : decode code 520 = .ok (.iconst 4, 1) := by decide +kernel
theorem d_L_law_521 : decode code 521 = .ok (.iadd, 1) := by decide +kernel
theorem d_L_law_522 : decode code 522 = .ok (.iaload, 1) := by decide +kernel
theorem d_L_law_523 : decode code 523 = .ok (.aload_n 0, 1) := by decide +kernel
theorem d_L_law_524 : decode code 524 = .ok (.iload 4, 2) := by decide +kernel
theorem d_L_law_526 : decode code 526 = .ok (.iconst 5, 1) := by decide +kernel
theorem d_L_law_527 : decode code 527 = .ok (.iadd, 1) := by decide +kernel
theorem d_L_law_528 : decode code 528 = .ok (.iaload, 1) := by decide +kernel
theorem d_L_law_529 : decode code 529 = .ok (.invokevirtual 95, 3) := by decide +kernel
theorem d_L_law_532 : decode code 532 = .ok (.istore 6, 2) := by decide +kernel
theorem d_L_law_534 : decode code 534 = .ok (.aload_n 2, 1) := by decide +kernel
theorem d_L_law_535 : decode code 535 = .ok (.invokevirtual 71, 3) := by decide +kernel
theorem d_L_law_538 : decode code 538 = .ok (.iload 5, 2) := by decide +kernel
theorem d_L_law_540 : decode code 540 = .ok (.if_icmp .eq 5, 3) := by decide +kernel
theorem d_L_law_545 : decode code 545 = .ok (.iload 5, 2) := by decide +kernel
theorem d_L_law_547 : decode code 547 = .ok (.ifCond .ne 15, 3) := by decide +kernel
theorem d_L_law_562 : decode code 562 = .ok (.goto 630, 3) := by decide +kernel
theorem d_L_law_565 : decode code 565 = .ok (.aload_n 1, 1) := by decide +kernel
theorem d_L_law_566 : decode code 566 = .ok (.aload_n 0, 1) := by decide +kernel
theorem d_L_law_567 : decode code 567 = .ok (.iload 4, 2) := by decide +kernel
theorem d_L_law_569 : decode code 569 = .ok (.iconst 1, 1) := by decide +kernel
theorem d_L_law_570 : decode code 570 = .ok (.iadd, 1) := by decide +kernel
theorem d_L_law_571 : decode code 571 = .ok (.iaload, 1) := by decide +kernel
theorem d_L_law_572 : decode code 572 = .ok (.aload_n 3, 1) := by decide +kernel
theorem d_L_law_573 : decode code 573 = .ok (.invokestatic 96, 3) := by decide +kernel
theorem d_L_law_576 : decode code 576 = .ok (.istore 5, 2) := by decide +kernel
theorem d_L_law_578 : decode code 578 = .ok (.aload_n 2, 1) := by decide +kernel
theorem d_L_law_579 : decode code 579 = .ok (.aload_n 0, 1) := by decide +kernel
theorem d_L_law_580 : decode code 580 = .ok (.iload 4, 2) := by decide +kernel
theorem d_L_law_582 : decode code 582 = .ok (.iconst 1, 1) := by decide +kernel
theorem d_L_law_583 : decode code 583 = .ok (.iadd, 1) := by decide +kernel
theorem d_L_law_584 : decode code 584 = .ok (.iaload, 1) := by decide +kernel
theorem d_L_law_585 : decode code 585 = .ok (.invokevirtual 99, 3) := by decide +kernel
theorem d_L_law_588 : decode code 588 = .ok (.istore 6, 2) := by decide +kernel
theorem d_L_law_590 : decode code 590 = .ok (.aload_n 2, 1) := by decide +kernel
theorem d_L_law_591 : decode code 591 = .ok (.invokevirtual 71, 3) := by decide +kernel
theorem d_L_law_594 : decode code 594 = .ok (.iload 5, 2) := by decide +kernel
theorem d_L_law_596 : decode code 596 = .ok (.if_icmp .eq 5, 3) := by decide +kernel
theorem d_L_law_601 : decode code 601 = .ok (.iload 5, 2) := by decide +kernel
theorem d_L_law_603 : decode code 603 = .ok (.ifCond .ne 15, 3) := by decide +kernel
theorem d_L_law_618 : decode code 618 = .ok (.goto 574, 3) := by decide +kernel
theorem d_L_law_621 : decode code 621 = .ok (.aload_n 1, 1) := by decide +kernel
theorem d_L_law_622 : decode code 622 = .ok (.aload_n 0, 1) := by decide +kernel
theorem d_L_law_623 : decode code 623 = .ok (.iload 4, 2) := by decide +kernel
theorem d_L_law_625 : decode code 625 = .ok (.iconst 1, 1) := by decide +kernel
theorem d_L_law_626 : decode code 626 = .ok (.iadd, 1) := by decide +kernel
theorem d_L_law_627 : decode code 627 = .ok (.iaload, 1) := by decide +kernel
theorem d_L_law_628 : decode code 628 = .ok (.aload_n 0, 1) := by decide +kernel
theorem d_L_law_629 : decode code 629 = .ok (.iload 4, 2) := by decide +kernel
theorem d_L_law_631 : decode code 631 = .ok (.iconst 2, 1) := by decide +kernel
theorem d_L_law_632 : decode code 632 = .ok (.iadd, 1) := by decide +kernel
theorem d_L_law_633 : decode code 633 = .ok (.iaload, 1) := by decide +kernel
theorem d_L_law_634 : decode code 634 = .ok (.aload_n 3, 1) := by decide +kernel
theorem d_L_law_635 : decode code 635 = .ok (.invokestatic 100, 3) := by decide +kernel
theorem d_L_law_638 : decode code 638 = .ok (.istore 5, 2) := by decide +kernel
theorem d_L_law_640 : decode code 640 = .ok (.aload_n 2, 1) := by decide +kernel
theorem d_L_law_641 : decode code 641 = .ok (.aload_n 0, 1) := by decide +kernel
theorem d_L_law_642 : decode code 642 = .ok (.iload 4, 2) := by decide +kernel
theorem d_L_law_644 : decode code 644 = .ok (.iconst 1, 1) := by decide +kernel
theorem d_L_law_645 : decode code 645 = .ok (.iadd, 1) := by decide +kernel
theorem d_L_law_646 : decode code 646 = .ok (.iaload, 1) := by decide +kernel
theorem d_L_law_647 : decode code 647 = .ok (.aload_n 0, 1) := by decide +kernel
theorem d_L_law_648 : decode code 648 = .ok (.iload 4, 2) := by decide +kernel
theorem d_L_law_650 : decode code 650 = .ok (.iconst 2, 1) := by decide +kernel
theorem d_L_law_651 : decode code 651 = .ok (.iadd, 1) := by decide +kernel
theorem d_L_law_652 : decode code 652 = .ok (.iaload, 1) := by decide +kernel
theorem d_L_law_653 : decode code 653 = .ok (.invokevirtual 102, 3) := by decide +kernel
theorem d_L_law_656 : decode code 656 = .ok (.istore 6, 2) := by decide +kernel
theorem d_L_law_658 : decode code 658 = .ok (.aload_n 2, 1) := by decide +kernel
theorem d_L_law_659 : decode code 659 = .ok (.invokevirtual 71, 3) := by decide +kernel
theorem d_L_law_662 : decode code 662 = .ok (.iload 5, 2) := by decide +kernel
theorem d_L_law_664 : decode code 664 = .ok (.if_icmp .eq 5, 3) := by decide +kernel
theorem d_L_law_669 : decode code 669 = .ok (.iload 5, 2) := by decide +kernel
theorem d_L_law_671 : decode code 671 = .ok (.ifCond .ne 15, 3) := by decide +kernel
theorem d_L_law_686 : decode code 686 = .ok (.goto 506, 3) := by decide +kernel
theorem d_L_law_1192 : decode code 1192 = .ok (.iinc 4 7, 3) := by decide +kernel
theorem d_L_law_1195 : decode code 1195 = .ok (.goto (-1172), 3) := by decide +kernel
theorem d_L_law_1198 : decode code 1198 = .ok (.iconst 1, 1) := by decide +kernel
theorem d_L_law_1199 : decode code 1199 = .ok (.ireturn, 1) := by decide +kernel

set_option maxHeartbeats 4000000 in
set_option maxRecDepth 100000 in
theorem law_c0 {p : Program} {e : Env} {s : State} {m : MethodId} {below : List Frame} {meth : Method} {cx : Code} (l : Launch) (hl9 : l.stackTraces = false) {b : Nat} {xs : Nat → Int32} (C0 : lw_At p s m meth cx b 7 xs) (hex : exP (fun q : Nat => s.heap.size ≤ q) s) {dC : Nat → ClassId} {dI : Nat → Nat → Nat} {f w wp wu wi wc wt wx wm k kh ks kc9 tp mo m_above m_isFace m_fieldClass m_fieldType m_fieldStatic m_arguments m_argumentCount m_results m_sizes m_codes m_maxStack m_maxLocals m_handlers m_handlerFrom m_handlerTo m_handlerPlace m_handlerClass m_verified m_fault m_faultAt m_tape m_begins m_high m_locals m_stacks m_due m_dead m_framed m_local m_before m_stack m_given m_givenStack m_cutFrom m_cutTo m_cutPlace m_cutClass m_bytes m_was m_now m_ends m_statics m_thingType m_thingSize m_elements m_slots m_callMethod m_callPlace m_callHigh m_values m_piles ou : Nat} {kp  ku  ki  kc  kt  kx  km  kt9  k_above  k_isFace  k_fieldClass  k_fieldType  k_fieldStatic  k_arguments  k_argumentCount  k_results  k_tape  k_ends  ko : ClassId} {H : Heap} {locs : List Loc} (hK : va_K (dC, dI) vwCl [(kp, .int), (ku, .int), (ki, .boolean), (k_above, .int), (k_isFace, .boolean), (ko, .long)] s) (hP : va_P (dC, dI) vwCl [(f, .inr (4, [.ref w, .ref k, .ref tp, .int 0])), (w, .inr (3, [.ref wp, .ref wu, .ref wi, .int 2, .ref wc, .ref wt, .ref wx, .int 0, .ref wm, .int 0])), (wp, .inl (kp, 16, .inl (upd (upd (fun _ => 0) (0 : Int32).toNatClampNeg (-1)) (1 : Int32).toNatClampNeg 0))), (wu, .inl (ku, 16, .inl (upd (upd (fun _ => 0) (0 : Int32).toNatClampNeg 1) (1 : Int32).toNatClampNeg 3))), (wi, .inl (ki, 16, .inl (fun _ => 0))), (mo, .inr (5, [.int 0, .int 2, .ref m_above, .ref m_isFace, .int 0, .ref m_fieldClass, .ref m_fieldType, .ref m_fieldStatic, .int 0, .ref m_arguments, .ref m_argumentCount, .ref m_results, .ref m_sizes, .ref m_codes, .ref m_maxStack, .ref m_maxLocals, .ref m_handlers, .ref m_handlerFrom, .ref m_handlerTo, .ref m_handlerPlace, .ref m_handlerClass, .ref m_verified, .ref m_fault, .ref m_faultAt, .int 0, .ref m_tape, .ref m_begins, .ref m_high, .ref m_locals, .ref m_stacks, .ref m_due, .ref m_dead, .ref m_framed, .int 0, .int 0, .int 0, .int 0, .ref m_local, .ref m_before, .ref m_stack, .int 0, .ref m_given, .ref m_givenStack, .int 0, .int 0, .int 0, .ref m_cutFrom, .ref m_cutTo, .ref m_cutPlace, .ref m_cutClass, .int 0, .ref m_bytes, .ref m_was, .int 0, .ref m_now, .int 0, .ref m_ends, .ref m_statics, .int 0, .ref m_thingType, .ref m_thingSize, .ref m_elements, .ref m_slots, .int 0, .ref m_callMethod, .ref m_callPlace, .ref m_callHigh, .ref m_values, .ref m_piles, .int 0, .long 0])), (m_above, .inl (k_above, 16, .inl (fun _ => 0))), (m_isFace, .inl (k_isFace, 16, .inl (fun _ => 0))), (ou, .inl (ko, 1, .inr (.inl (fun _ => 0))))] H) (hD : va_D (fun q : Nat => s.heap.size ≤ q) [(f, .inr (4, [.ref w, .ref k, .ref tp, .int 0])), (w, .inr (3, [.ref wp, .ref wu, .ref wi, .int 2, .ref wc, .ref wt, .ref wx, .int 0, .ref wm, .int 0])), (wp, .inl (kp, 16, .inl (upd (upd (fun _ => 0) (0 : Int32).toNatClampNeg (-1)) (1 : Int32).toNatClampNeg 0))), (wu, .inl (ku, 16, .inl (upd (upd (fun _ => 0) (0 : Int32).toNatClampNeg 1) (1 : Int32).toNatClampNeg 3))), (wi, .inl (ki, 16, .inl (fun _ => 0))), (mo, .inr (5, [.int 0, .int 2, .ref m_above, .ref m_isFace, .int 0, .ref m_fieldClass, .ref m_fieldType, .ref m_fieldStatic, .int 0, .ref m_arguments, .ref m_argumentCount, .ref m_results, .ref m_sizes, .ref m_codes, .ref m_maxStack, .ref m_maxLocals, .ref m_handlers, .ref m_handlerFrom, .ref m_handlerTo, .ref m_handlerPlace, .ref m_handlerClass, .ref m_verified, .ref m_fault, .ref m_faultAt, .int 0, .ref m_tape, .ref m_begins, .ref m_high, .ref m_locals, .ref m_stacks, .ref m_due, .ref m_dead, .ref m_framed, .int 0, .int 0, .int 0, .int 0, .ref m_local, .ref m_before, .ref m_stack, .int 0, .ref m_given, .ref m_givenStack, .int 0, .int 0, .int 0, .ref m_cutFrom, .ref m_cutTo, .ref m_cutPlace, .ref m_cutClass, .int 0, .ref m_bytes, .ref m_was, .int 0, .ref m_now, .int 0, .ref m_ends, .ref m_statics, .int 0, .ref m_thingType, .ref m_thingSize, .ref m_elements, .ref m_slots, .int 0, .ref m_callMethod, .ref m_callPlace, .ref m_callHigh, .ref m_values, .ref m_piles, .int 0, .long 0])), (m_above, .inl (k_above, 16, .inl (fun _ => 0))), (m_isFace, .inl (k_isFace, 16, .inl (fun _ => 0))), (ou, .inl (ko, 1, .inr (.inl (fun _ => 0))))]) (hS : va_S (fun q : Nat => s.heap.size ≤ q) s.heap H locs) {ls : Array Slot} (hl : lv_has ls 8 [(4, .int 0), (3, .ref ou), (2, .ref mo), (1, .ref f), (0, .ref b)]) : W p l e room_1 s m #[Value.ref b] below meth cx H locs 142 53745 (lw_Z below #[Value.ref b] s) (F0 m 116 ls []) := by
  obtain ⟨hx, hb, hr, hml, hown0, hts0, hX, hbl, hlocks, hgv⟩ := id C0
  have hown : s.vm.findClass "MapFramerLaw" = some m.cls := hown0
  have hts : ∀ w ∈ bigW, w.before #[Value.ref b] s = true := fun w h => hts0 w (List.mem_filter.mp h).1
  have hsub : ∀ w ∈ bigW, w ∈ bigW := fun _ h => h
  have hA : ∀ q : Nat, s.heap.size ≤ q → (fun q : Nat => s.heap.size ≤ q) q := fun _ h => h
  have hbA : ¬ (fun q : Nat => s.heap.size ≤ q) b := Nat.not_le.mpr hbl
  refine lv_aload_n hx hb d_L_law_116 rfl (lv_at hl 3 rfl) ?_
  refine lv_aload_n hx hb d_L_law_117 rfl (lv_at hl 4 rfl) ?_
  refine lv_iload hx hb d_L_law_118 (lv_at hl 0 rfl) ?_
  refine lv_iconst (v := 1) hx hb d_L_law_120 (by decide) ?_
  refine lv_iadd hx hb d_L_law_121 ?_
  refine tp_i 1 (by decide) ?_
  refine va_sld hx hb hX hbl hbA hS (vp_in_iff.mpr (by decide)) d_L_law_122 ?_
  refine tp_i (xs 1) (congrArg xs (by decide)) ?_
  refine lv_aload_n hx hb d_L_law_123 rfl (lv_at hl 4 rfl) ?_
  refine lv_iload hx hb d_L_law_124 (lv_at hl 0 rfl) ?_
  refine lv_iconst (v := 2) hx hb d_L_law_126 (by decide) ?_
  refine lv_iadd hx hb d_L_law_127 ?_
  refine tp_i 2 (by decide) ?_
  refine va_sld hx hb hX hbl hbA hS (vp_in_iff.mpr (by decide)) d_L_law_128 ?_
  refine tp_i (xs 2) (congrArg xs (by decide)) ?_
  refine lv_if_eq (tgt := 136) hx hb d_L_law_129 (by decide) (fun c_1 => ?_) (fun c_1 => ?_)
  · skip
    refine lv_iconst (v := 0) hx hb d_L_law_136 (by decide) ?_
    refine lv_aload_n hx hb d_L_law_137 rfl (lv_at hl 1 rfl) ?_
    have hPc := hP.sub (ws' := [(f, .inr (4, [.ref w, .ref k, .ref tp, .int 0])), (w, .inr (3, [.ref wp, .ref wu, .ref wi, .int 2, .ref wc, .ref wt, .ref wx, .int 0, .ref wm, .int 0])), (wp, .inl (kp, 16, .inl (upd (upd (fun _ => 0) (0 : Int32).toNatClampNeg (-1)) (1 : Int32).toNatClampNeg 0))), (wu, .inl (ku, 16, .inl (upd (upd (fun _ => 0) (0 : Int32).toNatClampNeg 1) (1 : Int32).toNatClampNeg 3))), (wi, .inl (ki, 16, .inl (fun _ => 0))), (ou, .inl (ko, 1, .inr (.inl (fun _ => 0))))]) [0, 1, 2, 3, 4, 8] rfl
    have hKc := hK.sub (tys' := [(kp, .int), (ku, .int), (ki, .boolean), (ko, .long)]) [0, 1, 2, 5] rfl
    have hDc := hD.sub (ws' := [(f, .inr (4, [.ref w, .ref k, .ref tp, .int 0])), (w, .inr (3, [.ref wp, .ref wu, .ref wi, .int 2, .ref wc, .ref wt, .ref wx, .int 0, .ref wm, .int 0])), (wp, .inl (kp, 16, .inl (upd (upd (fun _ => 0) (0 : Int32).toNatClampNeg (-1)) (1 : Int32).toNatClampNeg 0))), (wu, .inl (ku, 16, .inl (upd (upd (fun _ => 0) (0 : Int32).toNatClampNeg 1) (1 : Int32).toNatClampNeg 3))), (wi, .inl (ki, 16, .inl (fun _ => 0))), (ou, .inl (ko, 1, .inr (.inl (fun _ => 0))))]) [0, 1, 2, 3, 4, 8] (by decide) rfl
    have hFc := va_free (wc := [(f, .inr (4, [.ref w, .ref k, .ref tp, .int 0])), (w, .inr (3, [.ref wp, .ref wu, .ref wi, .int 2, .ref wc, .ref wt, .ref wx, .int 0, .ref wm, .int 0])), (wp, .inl (kp, 16, .inl (upd (upd (fun _ => 0) (0 : Int32).toNatClampNeg (-1)) (1 : Int32).toNatClampNeg 0))), (wu, .inl (ku, 16, .inl (upd (upd (fun _ => 0) (0 : Int32).toNatClampNeg 1) (1 : Int32).toNatClampNeg 3))), (wi, .inl (ki, 16, .inl (fun _ => 0))), (ou, .inl (ko, 1, .inr (.inl (fun _ => 0))))]) hD hS hA [0, 1, 2, 3, 4, 8] rfl
    refine va_calli (vx_runSW (As := [.ref f, .int (xs 1), .int 0, .ref ou]) (rest := []) ⟨hx, hb, hml, hown, hts⟩ (k_L_cls l hl9 dC dI f w k tp wp wu wi wc wt wx wm kp ku ki (upd (upd (fun _ => 0) (0 : Int32).toNatClampNeg (-1)) (1 : Int32).toNatClampNeg 0) (upd (upd (fun _ => 0) (0 : Int32).toNatClampNeg 1) (1 : Int32).toNatClampNeg 3) ((xs 1)) 0 ou ko (fun _ => 0) H.size) (vx_cwSW 4 hts (gS hsub w_393 w_394 w_395 w_396) rfl rfl rfl (by decide +kernel) ⟨Nat.le_of_ble_eq_true rfl, Nat.le_of_ble_eq_true rfl⟩) ⟨bl_1010, fun U hU hW => ⟨rfl, by rw [hU], by rw [hU]; exact hPc, va_K.moved hW.alike hKc, hDc.weaken (fun _ _ _ _ => trivial), exP_go hex hS (fun q h => hFc q h) U hU hW⟩⟩ rfl rfl hl.1 rfl (lv_room (Nat.le_of_ble_eq_true rfl)) d_L_law_138 ⟨Nat.le_of_ble_eq_true rfl, Nat.le_of_ble_eq_true rfl⟩) hS (fun q _ h => hFc q h) hFc (fun r_3 u_4 t H1 locs ht hvm hw hB hz1 hk1 hS => ?_)
    obtain ⟨fo_5, hfo, hP1, hK1, hD1⟩ := hB
    rw [ht] at hP1
    have hK1 := va_K.moved hvm.symm hK1
    obtain ⟨hP, hD⟩ := va_join (wr := [(mo, .inr (5, [.int 0, .int 2, .ref m_above, .ref m_isFace, .int 0, .ref m_fieldClass, .ref m_fieldType, .ref m_fieldStatic, .int 0, .ref m_arguments, .ref m_argumentCount, .ref m_results, .ref m_sizes, .ref m_codes, .ref m_maxStack, .ref m_maxLocals, .ref m_handlers, .ref m_handlerFrom, .ref m_handlerTo, .ref m_handlerPlace, .ref m_handlerClass, .ref m_verified, .ref m_fault, .ref m_faultAt, .int 0, .ref m_tape, .ref m_begins, .ref m_high, .ref m_locals, .ref m_stacks, .ref m_due, .ref m_dead, .ref m_framed, .int 0, .int 0, .int 0, .int 0, .ref m_local, .ref m_before, .ref m_stack, .int 0, .ref m_given, .ref m_givenStack, .int 0, .int 0, .int 0, .ref m_cutFrom, .ref m_cutTo, .ref m_cutPlace, .ref m_cutClass, .int 0, .ref m_bytes, .ref m_was, .int 0, .ref m_now, .int 0, .ref m_ends, .ref m_statics, .int 0, .ref m_thingType, .ref m_thingSize, .ref m_elements, .ref m_slots, .int 0, .ref m_callMethod, .ref m_callPlace, .ref m_callHigh, .ref m_values, .ref m_piles, .int 0, .long 0])), (m_above, .inl (k_above, 16, .inl (fun _ => 0))), (m_isFace, .inl (k_isFace, 16, .inl (fun _ => 0)))]) (w1 := [(ou, .inl (ko, 1, .inr (.inl fo_5)))]) hP hD [0, 1, 2, 3, 4, 8] [5, 6, 7] rfl rfl (by decide) (by decide) hk1 hFc hP1 hD1
    have hK := (hK.sub (tys' := [(kp, .int), (ku, .int), (ki, .boolean), (k_above, .int), (k_isFace, .boolean), (ko, .long)]) [0, 1, 2, 3, 4, 5] rfl).app hK1
    generalize H1 = H at hP hS ⊢
    have hP : va_P (dC, dI) vwCl [(mo, .inr (5, [.int 0, .int 2, .ref m_above, .ref m_isFace, .int 0, .ref m_fieldClass, .ref m_fieldType, .ref m_fieldStatic, .int 0, .ref m_arguments, .ref m_argumentCount, .ref m_results, .ref m_sizes, .ref m_codes, .ref m_maxStack, .ref m_maxLocals, .ref m_handlers, .ref m_handlerFrom, .ref m_handlerTo, .ref m_handlerPlace, .ref m_handlerClass, .ref m_verified, .ref m_fault, .ref m_faultAt, .int 0, .ref m_tape, .ref m_begins, .ref m_high, .ref m_locals, .ref m_stacks, .ref m_due, .ref m_dead, .ref m_framed, .int 0, .int 0, .int 0, .int 0, .ref m_local, .ref m_before, .ref m_stack, .int 0, .ref m_given, .ref m_givenStack, .int 0, .int 0, .int 0, .ref m_cutFrom, .ref m_cutTo, .ref m_cutPlace, .ref m_cutClass, .int 0, .ref m_bytes, .ref m_was, .int 0, .ref m_now, .int 0, .ref m_ends, .ref m_statics, .int 0, .ref m_thingType, .ref m_thingSize, .ref m_elements, .ref m_slots, .int 0, .ref m_callMethod, .ref m_callPlace, .ref m_callHigh, .ref m_values, .ref m_piles, .int 0, .long 0])), (m_above, .inl (k_above, 16, .inl (fun _ => 0))), (m_isFace, .inl (k_isFace, 16, .inl (fun _ => 0))), (ou, .inl (ko, 1, .inr (.inl fo_5)))] H := hP
    have hD : va_D (fun q : Nat => s.heap.size ≤ q) [(mo, .inr (5, [.int 0, .int 2, .ref m_above, .ref m_isFace, .int 0, .ref m_fieldClass, .ref m_fieldType, .ref m_fieldStatic, .int 0, .ref m_arguments, .ref m_argumentCount, .ref m_results, .ref m_sizes, .ref m_codes, .ref m_maxStack, .ref m_maxLocals, .ref m_handlers, .ref m_handlerFrom, .ref m_handlerTo, .ref m_handlerPlace, .ref m_handlerClass, .ref m_verified, .ref m_fault, .ref m_faultAt, .int 0, .ref m_tape, .ref m_begins, .ref m_high, .ref m_locals, .ref m_stacks, .ref m_due, .ref m_dead, .ref m_framed, .int 0, .int 0, .int 0, .int 0, .ref m_local, .ref m_before, .ref m_stack, .int 0, .ref m_given, .ref m_givenStack, .int 0, .int 0, .int 0, .ref m_cutFrom, .ref m_cutTo, .ref m_cutPlace, .ref m_cutClass, .int 0, .ref m_bytes, .ref m_was, .int 0, .ref m_now, .int 0, .ref m_ends, .ref m_statics, .int 0, .ref m_thingType, .ref m_thingSize, .ref m_elements, .ref m_slots, .int 0, .ref m_callMethod, .ref m_callPlace, .ref m_callHigh, .ref m_values, .ref m_piles, .int 0, .long 0])), (m_above, .inl (k_above, 16, .inl (fun _ => 0))), (m_isFace, .inl (k_isFace, 16, .inl (fun _ => 0))), (ou, .inl (ko, 1, .inr (.inl fo_5)))] := hD
    have hK : va_K (dC, dI) vwCl [(kp, .int), (ku, .int), (ki, .boolean), (k_above, .int), (k_isFace, .boolean), (ko, .long), (ko, .long)] s := hK
    refine W.widen (k := 143) (n := 53751) (Nat.le_of_ble_eq_true rfl) (Nat.le_of_ble_eq_true rfl) ?_
    rcases hw with ⟨hok, h91, h92⟩ | ⟨hok, h91⟩
    · subst h91; subst h92
      have p_6 := hok
      refine lv_istore (lv' := [(5, .int 0), (4, .int 0), (3, .ref ou), (2, .ref mo), (1, .ref f), (0, .ref b)]) hx hb d_L_law_141 hl (by decide) rfl (fun ls hl => ?_)
      refine lv_aload_n hx hb d_L_law_143 rfl (lv_at hl 3 rfl) ?_
      refine lv_aload_n hx hb d_L_law_144 rfl (lv_at hl 5 rfl) ?_
      refine lv_iload hx hb d_L_law_145 (lv_at hl 1 rfl) ?_
      refine lv_iconst (v := 1) hx hb d_L_law_147 (by decide) ?_
      refine lv_iadd hx hb d_L_law_148 ?_
      refine tp_i 1 (by decide) ?_
      refine va_sld hx hb hX hbl hbA hS (vp_in_iff.mpr (by decide)) d_L_law_149 ?_
      refine tp_i (xs 1) (congrArg xs (by decide)) ?_
      refine lv_aload_n hx hb d_L_law_150 rfl (lv_at hl 5 rfl) ?_
      refine lv_iload hx hb d_L_law_151 (lv_at hl 1 rfl) ?_
      refine lv_iconst (v := 2) hx hb d_L_law_153 (by decide) ?_
      refine lv_iadd hx hb d_L_law_154 ?_
      refine tp_i 2 (by decide) ?_
      refine va_sld hx hb hX hbl hbA hS (vp_in_iff.mpr (by decide)) d_L_law_155 ?_
      refine tp_i (xs 2) (congrArg xs (by decide)) ?_
      refine lv_if_eq (tgt := 163) hx hb d_L_law_156 (by decide) (fun c_7 => ?_) (fun c_7 => ?_)
      · skip
        refine lv_iconst (v := 0) hx hb d_L_law_163 (by decide) ?_
        have hPc := hP.sub (ws' := [(mo, .inr (5, [.int 0, .int 2, .ref m_above, .ref m_isFace, .int 0, .ref m_fieldClass, .ref m_fieldType, .ref m_fieldStatic, .int 0, .ref m_arguments, .ref m_argumentCount, .ref m_results, .ref m_sizes, .ref m_codes, .ref m_maxStack, .ref m_maxLocals, .ref m_handlers, .ref m_handlerFrom, .ref m_handlerTo, .ref m_handlerPlace, .ref m_handlerClass, .ref m_verified, .ref m_fault, .ref m_faultAt, .int 0, .ref m_tape, .ref m_begins, .ref m_high, .ref m_locals, .ref m_stacks, .ref m_due, .ref m_dead, .ref m_framed, .int 0, .int 0, .int 0, .int 0, .ref m_local, .ref m_before, .ref m_stack, .int 0, .ref m_given, .ref m_givenStack, .int 0, .int 0, .int 0, .ref m_cutFrom, .ref m_cutTo, .ref m_cutPlace, .ref m_cutClass, .int 0, .ref m_bytes, .ref m_was, .int 0, .ref m_now, .int 0, .ref m_ends, .ref m_statics, .int 0, .ref m_thingType, .ref m_thingSize, .ref m_elements, .ref m_slots, .int 0, .ref m_callMethod, .ref m_callPlace, .ref m_callHigh, .ref m_values, .ref m_piles, .int 0, .long 0])), (m_above, .inl (k_above, 16, .inl (fun _ => 0))), (m_isFace, .inl (k_isFace, 16, .inl (fun _ => 0)))]) [0, 1, 2] rfl
        have hKc := hK.sub (tys' := [(k_above, .int), (k_isFace, .boolean)]) [3, 4] rfl
        have hDc := hD.sub (ws' := [(mo, .inr (5, [.int 0, .int 2, .ref m_above, .ref m_isFace, .int 0, .ref m_fieldClass, .ref m_fieldType, .ref m_fieldStatic, .int 0, .ref m_arguments, .ref m_argumentCount, .ref m_results, .ref m_sizes, .ref m_codes, .ref m_maxStack, .ref m_maxLocals, .ref m_handlers, .ref m_handlerFrom, .ref m_handlerTo, .ref m_handlerPlace, .ref m_handlerClass, .ref m_verified, .ref m_fault, .ref m_faultAt, .int 0, .ref m_tape, .ref m_begins, .ref m_high, .ref m_locals, .ref m_stacks, .ref m_due, .ref m_dead, .ref m_framed, .int 0, .int 0, .int 0, .int 0, .ref m_local, .ref m_before, .ref m_stack, .int 0, .ref m_given, .ref m_givenStack, .int 0, .int 0, .int 0, .ref m_cutFrom, .ref m_cutTo, .ref m_cutPlace, .ref m_cutClass, .int 0, .ref m_bytes, .ref m_was, .int 0, .ref m_now, .int 0, .ref m_ends, .ref m_statics, .int 0, .ref m_thingType, .ref m_thingSize, .ref m_elements, .ref m_slots, .int 0, .ref m_callMethod, .ref m_callPlace, .ref m_callHigh, .ref m_values, .ref m_piles, .int 0, .long 0])), (m_above, .inl (k_above, 16, .inl (fun _ => 0))), (m_isFace, .inl (k_isFace, 16, .inl (fun _ => 0)))]) [0, 1, 2] (by decide) rfl
        have hFc := va_free (wc := [(mo, .inr (5, [.int 0, .int 2, .ref m_above, .ref m_isFace, .int 0, .ref m_fieldClass, .ref m_fieldType, .ref m_fieldStatic, .int 0, .ref m_arguments, .ref m_argumentCount, .ref m_results, .ref m_sizes, .ref m_codes, .ref m_maxStack, .ref m_maxLocals, .ref m_handlers, .ref m_handlerFrom, .ref m_handlerTo, .ref m_handlerPlace, .ref m_handlerClass, .ref m_verified, .ref m_fault, .ref m_faultAt, .int 0, .ref m_tape, .ref m_begins, .ref m_high, .ref m_locals, .ref m_stacks, .ref m_due, .ref m_dead, .ref m_framed, .int 0, .int 0, .int 0, .int 0, .ref m_local, .ref m_before, .ref m_stack, .int 0, .ref m_given, .ref m_givenStack, .int 0, .int 0, .int 0, .ref m_cutFrom, .ref m_cutTo, .ref m_cutPlace, .ref m_cutClass, .int 0, .ref m_bytes, .ref m_was, .int 0, .ref m_now, .int 0, .ref m_ends, .ref m_statics, .int 0, .ref m_thingType, .ref m_thingSize, .ref m_elements, .ref m_slots, .int 0, .ref m_callMethod, .ref m_callPlace, .ref m_callHigh, .ref m_values, .ref m_piles, .int 0, .long 0])), (m_above, .inl (k_above, 16, .inl (fun _ => 0))), (m_isFace, .inl (k_isFace, 16, .inl (fun _ => 0)))]) hD hS hA [0, 1, 2] rfl
        refine va_calli (va_runV (As := [.int (xs 1), .int 0]) (rest := []) ⟨hx, hb, hml, hown, hts⟩ (k_M_cls l dC dI mo m_above m_isFace m_fieldClass m_fieldType m_fieldStatic m_arguments m_argumentCount m_results m_sizes m_codes m_maxStack m_maxLocals m_handlers m_handlerFrom m_handlerTo m_handlerPlace m_handlerClass m_verified m_fault m_faultAt m_tape m_begins m_high m_locals m_stacks m_due m_dead m_framed m_local m_before m_stack m_given m_givenStack m_cutFrom m_cutTo m_cutPlace m_cutClass m_bytes m_was m_now m_ends m_statics m_thingType m_thingSize m_elements m_slots m_callMethod m_callPlace m_callHigh m_values m_piles k_above k_isFace ((xs 1)) 0 H.size) (cwV 2 hts (gV hsub w_397 w_398 w_399 w_266 w_400) rfl rfl rfl (by decide +kernel) ⟨Nat.le_of_ble_eq_true rfl, Nat.le_of_ble_eq_true rfl⟩) ⟨bl_1000, va_recv hKc hPc (ci := 5) (q0 := 0) rfl rfl, fun U hU hW => ⟨rfl, by rw [hU], by rw [hU]; exact hPc, va_K.moved hW.alike hKc, hDc.weaken (fun _ _ _ _ => trivial)⟩⟩ rfl rfl hl.1 rfl (lv_room (Nat.le_of_ble_eq_true rfl)) d_L_law_164 ⟨Nat.le_of_ble_eq_true rfl, Nat.le_of_ble_eq_true rfl⟩) hS (fun q _ h => hFc q h) hFc (fun r_9 u_10 t H1 locs ht hvm hw hB hz1 hk1 hS => ?_)
        obtain ⟨fs_11, hfs, hP1, hK1, hD1⟩ := hB
        rw [ht] at hP1
        have hK1 := va_K.moved hvm.symm hK1
        obtain ⟨hP, hD⟩ := va_join (wr := [(ou, .inl (ko, 1, .inr (.inl fo_5)))]) (w1 := [(mo, .inr (5, fs_11))]) hP hD [0, 1, 2] [3] rfl rfl (by decide) (by decide) hk1 hFc hP1 hD1
        have hK := (hK.sub (tys' := [(kp, .int), (ku, .int), (ki, .boolean), (k_above, .int), (k_isFace, .boolean), (ko, .long), (ko, .long)]) [0, 1, 2, 3, 4, 5, 6] rfl).app hK1
        generalize H1 = H at hP hS ⊢
        have hP : va_P (dC, dI) vwCl [(ou, .inl (ko, 1, .inr (.inl fo_5))), (mo, .inr (5, fs_11))] H := hP
        have hD : va_D (fun q : Nat => s.heap.size ≤ q) [(ou, .inl (ko, 1, .inr (.inl fo_5))), (mo, .inr (5, fs_11))] := hD
        have hK : va_K (dC, dI) vwCl [(kp, .int), (ku, .int), (ki, .boolean), (k_above, .int), (k_isFace, .boolean), (ko, .long), (ko, .long)] s := hK
        refine W.widen (k := 143) (n := 53751) (Nat.le_of_ble_eq_true rfl) (Nat.le_of_ble_eq_true rfl) ?_
        rcases hw with ⟨hok, h91, h92⟩ | ⟨hok, h92⟩
        · skip
          subst h91; subst h92
          refine lv_istore (lv' := [(6, .int 2), (5, .int 0), (4, .int 0), (3, .ref ou), (2, .ref mo), (1, .ref f), (0, .ref b)]) hx hb d_L_law_167 hl (by decide) rfl (fun ls hl => ?_)
          refine lv_aload_n hx hb d_L_law_169 rfl (lv_at hl 4 rfl) ?_
          have hPc := hP.sub (ws' := [(mo, .inr (5, fs_11))]) [1] rfl
          have hKc := hK.sub (tys' := []) [] rfl
          refine va_calli (va_runV (As := []) (rest := []) ⟨hx, hb, hml, hown, hts⟩ (k_M_thrown l dC dI mo fs_11 0 hfs) (cwV 0 hts (gV hsub w_401 w_402 w_403 w_266 w_404) rfl rfl rfl (by decide +kernel) ⟨Nat.le_of_ble_eq_true rfl, Nat.le_of_ble_eq_true rfl⟩) ⟨bl_0000, va_recv hKc hPc (ci := 5) (q0 := 0) rfl rfl, fun U hU hW => ⟨rfl, by rw [hU]; exact hPc, va_K.moved hW.alike hKc⟩⟩ rfl rfl hl.1 rfl (lv_room (Nat.le_of_ble_eq_true rfl)) d_L_law_170 ⟨Nat.le_of_ble_eq_true rfl, Nat.le_of_ble_eq_true rfl⟩) hS (fun q _ h => h.elim) (fun q h => h.elim) (fun r_13 u_14 t H1 locs ht hvm hw hB hz1 hk1 hS => ?_)
          have hP := ro_keep hP hk1
          generalize H1 = H at hP hS ⊢
          refine W.widen (k := 143) (n := 53751) (Nat.le_of_ble_eq_true rfl) (Nat.le_of_ble_eq_true rfl) ?_
          subst hw
          refine lv_iload hx hb d_L_law_173 (lv_at hl 1 rfl) ?_
          refine lv_icmp_eq (tgt := 180) hx hb d_L_law_175 (by decide) (fun c_15 => ?_) (fun c_15 => ?_)
          · skip
            refine lv_iload hx hb d_L_law_180 (lv_at hl 1 rfl) ?_
            refine lv_if_ne (tgt := 197) hx hb d_L_law_182 (by decide) (fun c_16 => ?_) (fun c_16 => ?_)
            · skip
              first | exact absurd c_16 (by decide) | exact absurd (by decide) c_16
            · skip
              refine lv_aload_n hx hb d_L_law_185 rfl (lv_at hl 3 rfl) ?_
              refine lv_iconst (v := 0) hx hb d_L_law_186 (by decide) ?_
              refine va_lald hx hb hK hP 0 5 rfl rfl (vp_in_iff.mpr (by decide)) d_L_law_187 ?_
              refine tp_l 2 hfo ?_
              refine lv_iload hx hb d_L_law_188 (lv_at hl 0 rfl) ?_
              refine lv_i2l (v := (2 : Int32).toInt64) hx hb d_L_law_190 rfl ?_
              refine W.lcmp hx hb d_L_law_191 ?_
              refine tp_i 0 (by decide) ?_
              refine lv_if_eq (tgt := 197) hx hb d_L_law_192 (by decide) (fun c_17 => ?_) (fun c_17 => ?_)
              · skip
                refine lv_goto (tgt := 1192) hx hb d_L_law_197 (by decide) ?_
                refine lv_iinc (v := 7) (lv' := [(4, .int 7), (6, .int 2), (5, .int 0), (3, .ref ou), (2, .ref mo), (1, .ref f), (0, .ref b)]) hx hb d_L_law_1192 hl (k := 2) rfl (by decide) (by decide) rfl (fun ls hl => ?_)
                refine lv_goto (tgt := 23) hx hb d_L_law_1195 (by decide) ?_
                refine lv_iload hx hb d_L_law_23 (lv_at hl 0 rfl) ?_
                refine lv_aload_n hx hb d_L_law_25 rfl (lv_at hl 6 rfl) ?_
                refine va_slen hx hb hX hbl hbA hS d_L_law_26 ?_
                refine tp_i 7 (rfl) ?_
                refine lv_bipush (v := 7) hx hb d_L_law_27 (by decide) ?_
                refine lv_isub hx hb d_L_law_29 ?_
                refine tp_i 0 (by decide) ?_
                refine lv_icmp_gt (tgt := 1198) hx hb d_L_law_30 (by decide) (fun c_18 => ?_) (fun c_18 => ?_)
                · skip
                  refine lv_iconst (v := 1) hx hb d_L_law_1198 (by decide) ?_
                  refine va_forget (fun q hq => hS.2.2 q hq) ?_
                  refine W.widen (k := 600002) (n := 7302232) (Nat.le_of_ble_eq_true rfl) (Nat.le_of_ble_eq_true rfl) ?_
                  exact lw_ret hx hb hr hlocks d_L_law_1199
                · skip
                  first | exact absurd c_18 (by decide) | exact absurd (by decide) c_18
              · skip
                first | exact absurd c_17 (by decide) | exact absurd (by decide) c_17
          · skip
            first | exact absurd c_15 (by decide) | exact absurd (by decide) c_15
        · skip
          first | exact absurd hok p_6 | exact absurd p_6 hok
      · skip
        first | exact absurd c_7 c_1 | exact absurd c_1 c_7
    · subst h91
      have p_19 := hok
      refine lv_istore (lv' := [(5, .int 1), (4, .int 0), (3, .ref ou), (2, .ref mo), (1, .ref f), (0, .ref b)]) hx hb d_L_law_141 hl (by decide) rfl (fun ls hl => ?_)
      refine lv_aload_n hx hb d_L_law_143 rfl (lv_at hl 3 rfl) ?_
      refine lv_aload_n hx hb d_L_law_144 rfl (lv_at hl 5 rfl) ?_
      refine lv_iload hx hb d_L_law_145 (lv_at hl 1 rfl) ?_
      refine lv_iconst (v := 1) hx hb d_L_law_147 (by decide) ?_
      refine lv_iadd hx hb d_L_law_148 ?_
      refine tp_i 1 (by decide) ?_
      refine va_sld hx hb hX hbl hbA hS (vp_in_iff.mpr (by decide)) d_L_law_149 ?_
      refine tp_i (xs 1) (congrArg xs (by decide)) ?_
      refine lv_aload_n hx hb d_L_law_150 rfl (lv_at hl 5 rfl) ?_
      refine lv_iload hx hb d_L_law_151 (lv_at hl 1 rfl) ?_
      refine lv_iconst (v := 2) hx hb d_L_law_153 (by decide) ?_
      refine lv_iadd hx hb d_L_law_154 ?_
      refine tp_i 2 (by decide) ?_
      refine va_sld hx hb hX hbl hbA hS (vp_in_iff.mpr (by decide)) d_L_law_155 ?_
      refine tp_i (xs 2) (congrArg xs (by decide)) ?_
      refine lv_if_eq (tgt := 163) hx hb d_L_law_156 (by decide) (fun c_20 => ?_) (fun c_20 => ?_)
      · skip
        refine lv_iconst (v := 0) hx hb d_L_law_163 (by decide) ?_
        have hPc := hP.sub (ws' := [(mo, .inr (5, [.int 0, .int 2, .ref m_above, .ref m_isFace, .int 0, .ref m_fieldClass, .ref m_fieldType, .ref m_fieldStatic, .int 0, .ref m_arguments, .ref m_argumentCount, .ref m_results, .ref m_sizes, .ref m_codes, .ref m_maxStack, .ref m_maxLocals, .ref m_handlers, .ref m_handlerFrom, .ref m_handlerTo, .ref m_handlerPlace, .ref m_handlerClass, .ref m_verified, .ref m_fault, .ref m_faultAt, .int 0, .ref m_tape, .ref m_begins, .ref m_high, .ref m_locals, .ref m_stacks, .ref m_due, .ref m_dead, .ref m_framed, .int 0, .int 0, .int 0, .int 0, .ref m_local, .ref m_before, .ref m_stack, .int 0, .ref m_given, .ref m_givenStack, .int 0, .int 0, .int 0, .ref m_cutFrom, .ref m_cutTo, .ref m_cutPlace, .ref m_cutClass, .int 0, .ref m_bytes, .ref m_was, .int 0, .ref m_now, .int 0, .ref m_ends, .ref m_statics, .int 0, .ref m_thingType, .ref m_thingSize, .ref m_elements, .ref m_slots, .int 0, .ref m_callMethod, .ref m_callPlace, .ref m_callHigh, .ref m_values, .ref m_piles, .int 0, .long 0])), (m_above, .inl (k_above, 16, .inl (fun _ => 0))), (m_isFace, .inl (k_isFace, 16, .inl (fun _ => 0)))]) [0, 1, 2] rfl
        have hKc := hK.sub (tys' := [(k_above, .int), (k_isFace, .boolean)]) [3, 4] rfl
        have hDc := hD.sub (ws' := [(mo, .inr (5, [.int 0, .int 2, .ref m_above, .ref m_isFace, .int 0, .ref m_fieldClass, .ref m_fieldType, .ref m_fieldStatic, .int 0, .ref m_arguments, .ref m_argumentCount, .ref m_results, .ref m_sizes, .ref m_codes, .ref m_maxStack, .ref m_maxLocals, .ref m_handlers, .ref m_handlerFrom, .ref m_handlerTo, .ref m_handlerPlace, .ref m_handlerClass, .ref m_verified, .ref m_fault, .ref m_faultAt, .int 0, .ref m_tape, .ref m_begins, .ref m_high, .ref m_locals, .ref m_stacks, .ref m_due, .ref m_dead, .ref m_framed, .int 0, .int 0, .int 0, .int 0, .ref m_local, .ref m_before, .ref m_stack, .int 0, .ref m_given, .ref m_givenStack, .int 0, .int 0, .int 0, .ref m_cutFrom, .ref m_cutTo, .ref m_cutPlace, .ref m_cutClass, .int 0, .ref m_bytes, .ref m_was, .int 0, .ref m_now, .int 0, .ref m_ends, .ref m_statics, .int 0, .ref m_thingType, .ref m_thingSize, .ref m_elements, .ref m_slots, .int 0, .ref m_callMethod, .ref m_callPlace, .ref m_callHigh, .ref m_values, .ref m_piles, .int 0, .long 0])), (m_above, .inl (k_above, 16, .inl (fun _ => 0))), (m_isFace, .inl (k_isFace, 16, .inl (fun _ => 0)))]) [0, 1, 2] (by decide) rfl
        have hFc := va_free (wc := [(mo, .inr (5, [.int 0, .int 2, .ref m_above, .ref m_isFace, .int 0, .ref m_fieldClass, .ref m_fieldType, .ref m_fieldStatic, .int 0, .ref m_arguments, .ref m_argumentCount, .ref m_results, .ref m_sizes, .ref m_codes, .ref m_maxStack, .ref m_maxLocals, .ref m_handlers, .ref m_handlerFrom, .ref m_handlerTo, .ref m_handlerPlace, .ref m_handlerClass, .ref m_verified, .ref m_fault, .ref m_faultAt, .int 0, .ref m_tape, .ref m_begins, .ref m_high, .ref m_locals, .ref m_stacks, .ref m_due, .ref m_dead, .ref m_framed, .int 0, .int 0, .int 0, .int 0, .ref m_local, .ref m_before, .ref m_stack, .int 0, .ref m_given, .ref m_givenStack, .int 0, .int 0, .int 0, .ref m_cutFrom, .ref m_cutTo, .ref m_cutPlace, .ref m_cutClass, .int 0, .ref m_bytes, .ref m_was, .int 0, .ref m_now, .int 0, .ref m_ends, .ref m_statics, .int 0, .ref m_thingType, .ref m_thingSize, .ref m_elements, .ref m_slots, .int 0, .ref m_callMethod, .ref m_callPlace, .ref m_callHigh, .ref m_values, .ref m_piles, .int 0, .long 0])), (m_above, .inl (k_above, 16, .inl (fun _ => 0))), (m_isFace, .inl (k_isFace, 16, .inl (fun _ => 0)))]) hD hS hA [0, 1, 2] rfl
        refine va_calli (va_runV (As := [.int (xs 1), .int 0]) (rest := []) ⟨hx, hb, hml, hown, hts⟩ (k_M_cls l dC dI mo m_above m_isFace m_fieldClass m_fieldType m_fieldStatic m_arguments m_argumentCount m_results m_sizes m_codes m_maxStack m_maxLocals m_handlers m_handlerFrom m_handlerTo m_handlerPlace m_handlerClass m_verified m_fault m_faultAt m_tape m_begins m_high m_locals m_stacks m_due m_dead m_framed m_local m_before m_stack m_given m_givenStack m_cutFrom m_cutTo m_cutPlace m_cutClass m_bytes m_was m_now m_ends m_statics m_thingType m_thingSize m_elements m_slots m_callMethod m_callPlace m_callHigh m_values m_piles k_above k_isFace ((xs 1)) 0 H.size) (cwV 2 hts (gV hsub w_397 w_398 w_399 w_266 w_400) rfl rfl rfl (by decide +kernel) ⟨Nat.le_of_ble_eq_true rfl, Nat.le_of_ble_eq_true rfl⟩) ⟨bl_1000, va_recv hKc hPc (ci := 5) (q0 := 0) rfl rfl, fun U hU hW => ⟨rfl, by rw [hU], by rw [hU]; exact hPc, va_K.moved hW.alike hKc, hDc.weaken (fun _ _ _ _ => trivial)⟩⟩ rfl rfl hl.1 rfl (lv_room (Nat.le_of_ble_eq_true rfl)) d_L_law_164 ⟨Nat.le_of_ble_eq_true rfl, Nat.le_of_ble_eq_true rfl⟩) hS (fun q _ h => hFc q h) hFc (fun r_22 u_23 t H1 locs ht hvm hw hB hz1 hk1 hS => ?_)
        obtain ⟨fs_24, hfs, hP1, hK1, hD1⟩ := hB
        rw [ht] at hP1
        have hK1 := va_K.moved hvm.symm hK1
        obtain ⟨hP, hD⟩ := va_join (wr := [(ou, .inl (ko, 1, .inr (.inl fo_5)))]) (w1 := [(mo, .inr (5, fs_24))]) hP hD [0, 1, 2] [3] rfl rfl (by decide) (by decide) hk1 hFc hP1 hD1
        have hK := (hK.sub (tys' := [(kp, .int), (ku, .int), (ki, .boolean), (k_above, .int), (k_isFace, .boolean), (ko, .long), (ko, .long)]) [0, 1, 2, 3, 4, 5, 6] rfl).app hK1
        generalize H1 = H at hP hS ⊢
        have hP : va_P (dC, dI) vwCl [(ou, .inl (ko, 1, .inr (.inl fo_5))), (mo, .inr (5, fs_24))] H := hP
        have hD : va_D (fun q : Nat => s.heap.size ≤ q) [(ou, .inl (ko, 1, .inr (.inl fo_5))), (mo, .inr (5, fs_24))] := hD
        have hK : va_K (dC, dI) vwCl [(kp, .int), (ku, .int), (ki, .boolean), (k_above, .int), (k_isFace, .boolean), (ko, .long), (ko, .long)] s := hK
        refine W.widen (k := 143) (n := 53751) (Nat.le_of_ble_eq_true rfl) (Nat.le_of_ble_eq_true rfl) ?_
        rcases hw with ⟨hok, h91, h92⟩ | ⟨hok, h92⟩
        · skip
          first | exact absurd hok p_19 | exact absurd p_19 hok
        · skip
          subst h92
          refine lv_istore (lv' := [(6, .int r_22), (5, .int 1), (4, .int 0), (3, .ref ou), (2, .ref mo), (1, .ref f), (0, .ref b)]) hx hb d_L_law_167 hl (by decide) rfl (fun ls hl => ?_)
          refine lv_aload_n hx hb d_L_law_169 rfl (lv_at hl 4 rfl) ?_
          have hPc := hP.sub (ws' := [(mo, .inr (5, fs_24))]) [1] rfl
          have hKc := hK.sub (tys' := []) [] rfl
          refine va_calli (va_runV (As := []) (rest := []) ⟨hx, hb, hml, hown, hts⟩ (k_M_thrown l dC dI mo fs_24 1 hfs) (cwV 0 hts (gV hsub w_401 w_402 w_403 w_266 w_404) rfl rfl rfl (by decide +kernel) ⟨Nat.le_of_ble_eq_true rfl, Nat.le_of_ble_eq_true rfl⟩) ⟨bl_0000, va_recv hKc hPc (ci := 5) (q0 := 0) rfl rfl, fun U hU hW => ⟨rfl, by rw [hU]; exact hPc, va_K.moved hW.alike hKc⟩⟩ rfl rfl hl.1 rfl (lv_room (Nat.le_of_ble_eq_true rfl)) d_L_law_170 ⟨Nat.le_of_ble_eq_true rfl, Nat.le_of_ble_eq_true rfl⟩) hS (fun q _ h => h.elim) (fun q h => h.elim) (fun r_26 u_27 t H1 locs ht hvm hw hB hz1 hk1 hS => ?_)
          have hP := ro_keep hP hk1
          generalize H1 = H at hP hS ⊢
          refine W.widen (k := 143) (n := 53751) (Nat.le_of_ble_eq_true rfl) (Nat.le_of_ble_eq_true rfl) ?_
          subst hw
          refine lv_iload hx hb d_L_law_173 (lv_at hl 1 rfl) ?_
          refine lv_icmp_eq (tgt := 180) hx hb d_L_law_175 (by decide) (fun c_28 => ?_) (fun c_28 => ?_)
          · skip
            refine lv_iload hx hb d_L_law_180 (lv_at hl 1 rfl) ?_
            refine lv_if_ne (tgt := 197) hx hb d_L_law_182 (by decide) (fun c_29 => ?_) (fun c_29 => ?_)
            · skip
              refine lv_goto (tgt := 1192) hx hb d_L_law_197 (by decide) ?_
              refine lv_iinc (v := 7) (lv' := [(4, .int 7), (6, .int r_22), (5, .int 1), (3, .ref ou), (2, .ref mo), (1, .ref f), (0, .ref b)]) hx hb d_L_law_1192 hl (k := 2) rfl (by decide) (by decide) rfl (fun ls hl => ?_)
              refine lv_goto (tgt := 23) hx hb d_L_law_1195 (by decide) ?_
              refine lv_iload hx hb d_L_law_23 (lv_at hl 0 rfl) ?_
              refine lv_aload_n hx hb d_L_law_25 rfl (lv_at hl 6 rfl) ?_
              refine va_slen hx hb hX hbl hbA hS d_L_law_26 ?_
              refine tp_i 7 (rfl) ?_
              refine lv_bipush (v := 7) hx hb d_L_law_27 (by decide) ?_
              refine lv_isub hx hb d_L_law_29 ?_
              refine tp_i 0 (by decide) ?_
              refine lv_icmp_gt (tgt := 1198) hx hb d_L_law_30 (by decide) (fun c_30 => ?_) (fun c_30 => ?_)
              · skip
                refine lv_iconst (v := 1) hx hb d_L_law_1198 (by decide) ?_
                refine va_forget (fun q hq => hS.2.2 q hq) ?_
                refine W.widen (k := 600002) (n := 7302232) (Nat.le_of_ble_eq_true rfl) (Nat.le_of_ble_eq_true rfl) ?_
                exact lw_ret hx hb hr hlocks d_L_law_1199
              · skip
                first | exact absurd c_30 (by decide) | exact absurd (by decide) c_30
            · skip
              first | exact absurd c_29 (by decide) | exact absurd (by decide) c_29
          · skip
            first | exact absurd c_28 (by decide) | exact absurd (by decide) c_28
      · skip
        first | exact absurd c_20 c_1 | exact absurd c_1 c_20
  · skip
    refine lv_iconst (v := 1) hx hb d_L_law_132 (by decide) ?_
    refine lv_goto (tgt := 137) hx hb d_L_law_133 (by decide) ?_
    refine lv_aload_n hx hb d_L_law_137 rfl (lv_at hl 1 rfl) ?_
    have hPc := hP.sub (ws' := [(f, .inr (4, [.ref w, .ref k, .ref tp, .int 0])), (w, .inr (3, [.ref wp, .ref wu, .ref wi, .int 2, .ref wc, .ref wt, .ref wx, .int 0, .ref wm, .int 0])), (wp, .inl (kp, 16, .inl (upd (upd (fun _ => 0) (0 : Int32).toNatClampNeg (-1)) (1 : Int32).toNatClampNeg 0))), (wu, .inl (ku, 16, .inl (upd (upd (fun _ => 0) (0 : Int32).toNatClampNeg 1) (1 : Int32).toNatClampNeg 3))), (wi, .inl (ki, 16, .inl (fun _ => 0))), (ou, .inl (ko, 1, .inr (.inl (fun _ => 0))))]) [0, 1, 2, 3, 4, 8] rfl
    have hKc := hK.sub (tys' := [(kp, .int), (ku, .int), (ki, .boolean), (ko, .long)]) [0, 1, 2, 5] rfl
    have hDc := hD.sub (ws' := [(f, .inr (4, [.ref w, .ref k, .ref tp, .int 0])), (w, .inr (3, [.ref wp, .ref wu, .ref wi, .int 2, .ref wc, .ref wt, .ref wx, .int 0, .ref wm, .int 0])), (wp, .inl (kp, 16, .inl (upd (upd (fun _ => 0) (0 : Int32).toNatClampNeg (-1)) (1 : Int32).toNatClampNeg 0))), (wu, .inl (ku, 16, .inl (upd (upd (fun _ => 0) (0 : Int32).toNatClampNeg 1) (1 : Int32).toNatClampNeg 3))), (wi, .inl (ki, 16, .inl (fun _ => 0))), (ou, .inl (ko, 1, .inr (.inl (fun _ => 0))))]) [0, 1, 2, 3, 4, 8] (by decide) rfl
    have hFc := va_free (wc := [(f, .inr (4, [.ref w, .ref k, .ref tp, .int 0])), (w, .inr (3, [.ref wp, .ref wu, .ref wi, .int 2, .ref wc, .ref wt, .ref wx, .int 0, .ref wm, .int 0])), (wp, .inl (kp, 16, .inl (upd (upd (fun _ => 0) (0 : Int32).toNatClampNeg (-1)) (1 : Int32).toNatClampNeg 0))), (wu, .inl (ku, 16, .inl (upd (upd (fun _ => 0) (0 : Int32).toNatClampNeg 1) (1 : Int32).toNatClampNeg 3))), (wi, .inl (ki, 16, .inl (fun _ => 0))), (ou, .inl (ko, 1, .inr (.inl (fun _ => 0))))]) hD hS hA [0, 1, 2, 3, 4, 8] rfl
    refine va_calli (vx_runSW (As := [.ref f, .int (xs 1), .int 1, .ref ou]) (rest := []) ⟨hx, hb, hml, hown, hts⟩ (k_L_cls l hl9 dC dI f w k tp wp wu wi wc wt wx wm kp ku ki (upd (upd (fun _ => 0) (0 : Int32).toNatClampNeg (-1)) (1 : Int32).toNatClampNeg 0) (upd (upd (fun _ => 0) (0 : Int32).toNatClampNeg 1) (1 : Int32).toNatClampNeg 3) ((xs 1)) 1 ou ko (fun _ => 0) H.size) (vx_cwSW 4 hts (gS hsub w_393 w_394 w_395 w_396) rfl rfl rfl (by decide +kernel) ⟨Nat.le_of_ble_eq_true rfl, Nat.le_of_ble_eq_true rfl⟩) ⟨bl_1010, fun U hU hW => ⟨rfl, by rw [hU], by rw [hU]; exact hPc, va_K.moved hW.alike hKc, hDc.weaken (fun _ _ _ _ => trivial), exP_go hex hS (fun q h => hFc q h) U hU hW⟩⟩ rfl rfl hl.1 rfl (lv_room (Nat.le_of_ble_eq_true rfl)) d_L_law_138 ⟨Nat.le_of_ble_eq_true rfl, Nat.le_of_ble_eq_true rfl⟩) hS (fun q _ h => hFc q h) hFc (fun r_32 u_33 t H1 locs ht hvm hw hB hz1 hk1 hS => ?_)
    obtain ⟨fo_34, hfo, hP1, hK1, hD1⟩ := hB
    rw [ht] at hP1
    have hK1 := va_K.moved hvm.symm hK1
    obtain ⟨hP, hD⟩ := va_join (wr := [(mo, .inr (5, [.int 0, .int 2, .ref m_above, .ref m_isFace, .int 0, .ref m_fieldClass, .ref m_fieldType, .ref m_fieldStatic, .int 0, .ref m_arguments, .ref m_argumentCount, .ref m_results, .ref m_sizes, .ref m_codes, .ref m_maxStack, .ref m_maxLocals, .ref m_handlers, .ref m_handlerFrom, .ref m_handlerTo, .ref m_handlerPlace, .ref m_handlerClass, .ref m_verified, .ref m_fault, .ref m_faultAt, .int 0, .ref m_tape, .ref m_begins, .ref m_high, .ref m_locals, .ref m_stacks, .ref m_due, .ref m_dead, .ref m_framed, .int 0, .int 0, .int 0, .int 0, .ref m_local, .ref m_before, .ref m_stack, .int 0, .ref m_given, .ref m_givenStack, .int 0, .int 0, .int 0, .ref m_cutFrom, .ref m_cutTo, .ref m_cutPlace, .ref m_cutClass, .int 0, .ref m_bytes, .ref m_was, .int 0, .ref m_now, .int 0, .ref m_ends, .ref m_statics, .int 0, .ref m_thingType, .ref m_thingSize, .ref m_elements, .ref m_slots, .int 0, .ref m_callMethod, .ref m_callPlace, .ref m_callHigh, .ref m_values, .ref m_piles, .int 0, .long 0])), (m_above, .inl (k_above, 16, .inl (fun _ => 0))), (m_isFace, .inl (k_isFace, 16, .inl (fun _ => 0)))]) (w1 := [(ou, .inl (ko, 1, .inr (.inl fo_34)))]) hP hD [0, 1, 2, 3, 4, 8] [5, 6, 7] rfl rfl (by decide) (by decide) hk1 hFc hP1 hD1
    have hK := (hK.sub (tys' := [(kp, .int), (ku, .int), (ki, .boolean), (k_above, .int), (k_isFace, .boolean), (ko, .long)]) [0, 1, 2, 3, 4, 5] rfl).app hK1
    generalize H1 = H at hP hS ⊢
    have hP : va_P (dC, dI) vwCl [(mo, .inr (5, [.int 0, .int 2, .ref m_above, .ref m_isFace, .int 0, .ref m_fieldClass, .ref m_fieldType, .ref m_fieldStatic, .int 0, .ref m_arguments, .ref m_argumentCount, .ref m_results, .ref m_sizes, .ref m_codes, .ref m_maxStack, .ref m_maxLocals, .ref m_handlers, .ref m_handlerFrom, .ref m_handlerTo, .ref m_handlerPlace, .ref m_handlerClass, .ref m_verified, .ref m_fault, .ref m_faultAt, .int 0, .ref m_tape, .ref m_begins, .ref m_high, .ref m_locals, .ref m_stacks, .ref m_due, .ref m_dead, .ref m_framed, .int 0, .int 0, .int 0, .int 0, .ref m_local, .ref m_before, .ref m_stack, .int 0, .ref m_given, .ref m_givenStack, .int 0, .int 0, .int 0, .ref m_cutFrom, .ref m_cutTo, .ref m_cutPlace, .ref m_cutClass, .int 0, .ref m_bytes, .ref m_was, .int 0, .ref m_now, .int 0, .ref m_ends, .ref m_statics, .int 0, .ref m_thingType, .ref m_thingSize, .ref m_elements, .ref m_slots, .int 0, .ref m_callMethod, .ref m_callPlace, .ref m_callHigh, .ref m_values, .ref m_piles, .int 0, .long 0])), (m_above, .inl (k_above, 16, .inl (fun _ => 0))), (m_isFace, .inl (k_isFace, 16, .inl (fun _ => 0))), (ou, .inl (ko, 1, .inr (.inl fo_34)))] H := hP
    have hD : va_D (fun q : Nat => s.heap.size ≤ q) [(mo, .inr (5, [.int 0, .int 2, .ref m_above, .ref m_isFace, .int 0, .ref m_fieldClass, .ref m_fieldType, .ref m_fieldStatic, .int 0, .ref m_arguments, .ref m_argumentCount, .ref m_results, .ref m_sizes, .ref m_codes, .ref m_maxStack, .ref m_maxLocals, .ref m_handlers, .ref m_handlerFrom, .ref m_handlerTo, .ref m_handlerPlace, .ref m_handlerClass, .ref m_verified, .ref m_fault, .ref m_faultAt, .int 0, .ref m_tape, .ref m_begins, .ref m_high, .ref m_locals, .ref m_stacks, .ref m_due, .ref m_dead, .ref m_framed, .int 0, .int 0, .int 0, .int 0, .ref m_local, .ref m_before, .ref m_stack, .int 0, .ref m_given, .ref m_givenStack, .int 0, .int 0, .int 0, .ref m_cutFrom, .ref m_cutTo, .ref m_cutPlace, .ref m_cutClass, .int 0, .ref m_bytes, .ref m_was, .int 0, .ref m_now, .int 0, .ref m_ends, .ref m_statics, .int 0, .ref m_thingType, .ref m_thingSize, .ref m_elements, .ref m_slots, .int 0, .ref m_callMethod, .ref m_callPlace, .ref m_callHigh, .ref m_values, .ref m_piles, .int 0, .long 0])), (m_above, .inl (k_above, 16, .inl (fun _ => 0))), (m_isFace, .inl (k_isFace, 16, .inl (fun _ => 0))), (ou, .inl (ko, 1, .inr (.inl fo_34)))] := hD
    have hK : va_K (dC, dI) vwCl [(kp, .int), (ku, .int), (ki, .boolean), (k_above, .int), (k_isFace, .boolean), (ko, .long), (ko, .long)] s := hK
    refine W.widen (k := 143) (n := 53751) (Nat.le_of_ble_eq_true rfl) (Nat.le_of_ble_eq_true rfl) ?_
    rcases hw with ⟨hok, h91, h92⟩ | ⟨hok, h91⟩
    · subst h91; subst h92
      have p_35 := hok
      refine lv_istore (lv' := [(5, .int 0), (4, .int 0), (3, .ref ou), (2, .ref mo), (1, .ref f), (0, .ref b)]) hx hb d_L_law_141 hl (by decide) rfl (fun ls hl => ?_)
      refine lv_aload_n hx hb d_L_law_143 rfl (lv_at hl 3 rfl) ?_
      refine lv_aload_n hx hb d_L_law_144 rfl (lv_at hl 5 rfl) ?_
      refine lv_iload hx hb d_L_law_145 (lv_at hl 1 rfl) ?_
      refine lv_iconst (v := 1) hx hb d_L_law_147 (by decide) ?_
      refine lv_iadd hx hb d_L_law_148 ?_
      refine tp_i 1 (by decide) ?_
      refine va_sld hx hb hX hbl hbA hS (vp_in_iff.mpr (by decide)) d_L_law_149 ?_
      refine tp_i (xs 1) (congrArg xs (by decide)) ?_
      refine lv_aload_n hx hb d_L_law_150 rfl (lv_at hl 5 rfl) ?_
      refine lv_iload hx hb d_L_law_151 (lv_at hl 1 rfl) ?_
      refine lv_iconst (v := 2) hx hb d_L_law_153 (by decide) ?_
      refine lv_iadd hx hb d_L_law_154 ?_
      refine tp_i 2 (by decide) ?_
      refine va_sld hx hb hX hbl hbA hS (vp_in_iff.mpr (by decide)) d_L_law_155 ?_
      refine tp_i (xs 2) (congrArg xs (by decide)) ?_
      refine lv_if_eq (tgt := 163) hx hb d_L_law_156 (by decide) (fun c_36 => ?_) (fun c_36 => ?_)
      · skip
        first | exact absurd c_36 c_1 | exact absurd c_1 c_36
      · skip
        refine lv_iconst (v := 1) hx hb d_L_law_159 (by decide) ?_
        refine lv_goto (tgt := 164) hx hb d_L_law_160 (by decide) ?_
        have hPc := hP.sub (ws' := [(mo, .inr (5, [.int 0, .int 2, .ref m_above, .ref m_isFace, .int 0, .ref m_fieldClass, .ref m_fieldType, .ref m_fieldStatic, .int 0, .ref m_arguments, .ref m_argumentCount, .ref m_results, .ref m_sizes, .ref m_codes, .ref m_maxStack, .ref m_maxLocals, .ref m_handlers, .ref m_handlerFrom, .ref m_handlerTo, .ref m_handlerPlace, .ref m_handlerClass, .ref m_verified, .ref m_fault, .ref m_faultAt, .int 0, .ref m_tape, .ref m_begins, .ref m_high, .ref m_locals, .ref m_stacks, .ref m_due, .ref m_dead, .ref m_framed, .int 0, .int 0, .int 0, .int 0, .ref m_local, .ref m_before, .ref m_stack, .int 0, .ref m_given, .ref m_givenStack, .int 0, .int 0, .int 0, .ref m_cutFrom, .ref m_cutTo, .ref m_cutPlace, .ref m_cutClass, .int 0, .ref m_bytes, .ref m_was, .int 0, .ref m_now, .int 0, .ref m_ends, .ref m_statics, .int 0, .ref m_thingType, .ref m_thingSize, .ref m_elements, .ref m_slots, .int 0, .ref m_callMethod, .ref m_callPlace, .ref m_callHigh, .ref m_values, .ref m_piles, .int 0, .long 0])), (m_above, .inl (k_above, 16, .inl (fun _ => 0))), (m_isFace, .inl (k_isFace, 16, .inl (fun _ => 0)))]) [0, 1, 2] rfl
        have hKc := hK.sub (tys' := [(k_above, .int), (k_isFace, .boolean)]) [3, 4] rfl
        have hDc := hD.sub (ws' := [(mo, .inr (5, [.int 0, .int 2, .ref m_above, .ref m_isFace, .int 0, .ref m_fieldClass, .ref m_fieldType, .ref m_fieldStatic, .int 0, .ref m_arguments, .ref m_argumentCount, .ref m_results, .ref m_sizes, .ref m_codes, .ref m_maxStack, .ref m_maxLocals, .ref m_handlers, .ref m_handlerFrom, .ref m_handlerTo, .ref m_handlerPlace, .ref m_handlerClass, .ref m_verified, .ref m_fault, .ref m_faultAt, .int 0, .ref m_tape, .ref m_begins, .ref m_high, .ref m_locals, .ref m_stacks, .ref m_due, .ref m_dead, .ref m_framed, .int 0, .int 0, .int 0, .int 0, .ref m_local, .ref m_before, .ref m_stack, .int 0, .ref m_given, .ref m_givenStack, .int 0, .int 0, .int 0, .ref m_cutFrom, .ref m_cutTo, .ref m_cutPlace, .ref m_cutClass, .int 0, .ref m_bytes, .ref m_was, .int 0, .ref m_now, .int 0, .ref m_ends, .ref m_statics, .int 0, .ref m_thingType, .ref m_thingSize, .ref m_elements, .ref m_slots, .int 0, .ref m_callMethod, .ref m_callPlace, .ref m_callHigh, .ref m_values, .ref m_piles, .int 0, .long 0])), (m_above, .inl (k_above, 16, .inl (fun _ => 0))), (m_isFace, .inl (k_isFace, 16, .inl (fun _ => 0)))]) [0, 1, 2] (by decide) rfl
        have hFc := va_free (wc := [(mo, .inr (5, [.int 0, .int 2, .ref m_above, .ref m_isFace, .int 0, .ref m_fieldClass, .ref m_fieldType, .ref m_fieldStatic, .int 0, .ref m_arguments, .ref m_argumentCount, .ref m_results, .ref m_sizes, .ref m_codes, .ref m_maxStack, .ref m_maxLocals, .ref m_handlers, .ref m_handlerFrom, .ref m_handlerTo, .ref m_handlerPlace, .ref m_handlerClass, .ref m_verified, .ref m_fault, .ref m_faultAt, .int 0, .ref m_tape, .ref m_begins, .ref m_high, .ref m_locals, .ref m_stacks, .ref m_due, .ref m_dead, .ref m_framed, .int 0, .int 0, .int 0, .int 0, .ref m_local, .ref m_before, .ref m_stack, .int 0, .ref m_given, .ref m_givenStack, .int 0, .int 0, .int 0, .ref m_cutFrom, .ref m_cutTo, .ref m_cutPlace, .ref m_cutClass, .int 0, .ref m_bytes, .ref m_was, .int 0, .ref m_now, .int 0, .ref m_ends, .ref m_statics, .int 0, .ref m_thingType, .ref m_thingSize, .ref m_elements, .ref m_slots, .int 0, .ref m_callMethod, .ref m_callPlace, .ref m_callHigh, .ref m_values, .ref m_piles, .int 0, .long 0])), (m_above, .inl (k_above, 16, .inl (fun _ => 0))), (m_isFace, .inl (k_isFace, 16, .inl (fun _ => 0)))]) hD hS hA [0, 1, 2] rfl
        refine va_calli (va_runV (As := [.int (xs 1), .int 1]) (rest := []) ⟨hx, hb, hml, hown, hts⟩ (k_M_cls l dC dI mo m_above m_isFace m_fieldClass m_fieldType m_fieldStatic m_arguments m_argumentCount m_results m_sizes m_codes m_maxStack m_maxLocals m_handlers m_handlerFrom m_handlerTo m_handlerPlace m_handlerClass m_verified m_fault m_faultAt m_tape m_begins m_high m_locals m_stacks m_due m_dead m_framed m_local m_before m_stack m_given m_givenStack m_cutFrom m_cutTo m_cutPlace m_cutClass m_bytes m_was m_now m_ends m_statics m_thingType m_thingSize m_elements m_slots m_callMethod m_callPlace m_callHigh m_values m_piles k_above k_isFace ((xs 1)) 1 H.size) (cwV 2 hts (gV hsub w_397 w_398 w_399 w_266 w_400) rfl rfl rfl (by decide +kernel) ⟨Nat.le_of_ble_eq_true rfl, Nat.le_of_ble_eq_true rfl⟩) ⟨bl_1000, va_recv hKc hPc (ci := 5) (q0 := 0) rfl rfl, fun U hU hW => ⟨rfl, by rw [hU], by rw [hU]; exact hPc, va_K.moved hW.alike hKc, hDc.weaken (fun _ _ _ _ => trivial)⟩⟩ rfl rfl hl.1 rfl (lv_room (Nat.le_of_ble_eq_true rfl)) d_L_law_164 ⟨Nat.le_of_ble_eq_true rfl, Nat.le_of_ble_eq_true rfl⟩) hS (fun q _ h => hFc q h) hFc (fun r_38 u_39 t H1 locs ht hvm hw hB hz1 hk1 hS => ?_)
        obtain ⟨fs_40, hfs, hP1, hK1, hD1⟩ := hB
        rw [ht] at hP1
        have hK1 := va_K.moved hvm.symm hK1
        obtain ⟨hP, hD⟩ := va_join (wr := [(ou, .inl (ko, 1, .inr (.inl fo_34)))]) (w1 := [(mo, .inr (5, fs_40))]) hP hD [0, 1, 2] [3] rfl rfl (by decide) (by decide) hk1 hFc hP1 hD1
        have hK := (hK.sub (tys' := [(kp, .int), (ku, .int), (ki, .boolean), (k_above, .int), (k_isFace, .boolean), (ko, .long), (ko, .long)]) [0, 1, 2, 3, 4, 5, 6] rfl).app hK1
        generalize H1 = H at hP hS ⊢
        have hP : va_P (dC, dI) vwCl [(ou, .inl (ko, 1, .inr (.inl fo_34))), (mo, .inr (5, fs_40))] H := hP
        have hD : va_D (fun q : Nat => s.heap.size ≤ q) [(ou, .inl (ko, 1, .inr (.inl fo_34))), (mo, .inr (5, fs_40))] := hD
        have hK : va_K (dC, dI) vwCl [(kp, .int), (ku, .int), (ki, .boolean), (k_above, .int), (k_isFace, .boolean), (ko, .long), (ko, .long)] s := hK
        refine W.widen (k := 143) (n := 53751) (Nat.le_of_ble_eq_true rfl) (Nat.le_of_ble_eq_true rfl) ?_
        rcases hw with ⟨hok, h91, h92⟩ | ⟨hok, h92⟩
        · skip
          subst h91; subst h92
          refine lv_istore (lv' := [(6, .int 2), (5, .int 0), (4, .int 0), (3, .ref ou), (2, .ref mo), (1, .ref f), (0, .ref b)]) hx hb d_L_law_167 hl (by decide) rfl (fun ls hl => ?_)
          refine lv_aload_n hx hb d_L_law_169 rfl (lv_at hl 4 rfl) ?_
          have hPc := hP.sub (ws' := [(mo, .inr (5, fs_40))]) [1] rfl
          have hKc := hK.sub (tys' := []) [] rfl
          refine va_calli (va_runV (As := []) (rest := []) ⟨hx, hb, hml, hown, hts⟩ (k_M_thrown l dC dI mo fs_40 0 hfs) (cwV 0 hts (gV hsub w_401 w_402 w_403 w_266 w_404) rfl rfl rfl (by decide +kernel) ⟨Nat.le_of_ble_eq_true rfl, Nat.le_of_ble_eq_true rfl⟩) ⟨bl_0000, va_recv hKc hPc (ci := 5) (q0 := 0) rfl rfl, fun U hU hW => ⟨rfl, by rw [hU]; exact hPc, va_K.moved hW.alike hKc⟩⟩ rfl rfl hl.1 rfl (lv_room (Nat.le_of_ble_eq_true rfl)) d_L_law_170 ⟨Nat.le_of_ble_eq_true rfl, Nat.le_of_ble_eq_true rfl⟩) hS (fun q _ h => h.elim) (fun q h => h.elim) (fun r_42 u_43 t H1 locs ht hvm hw hB hz1 hk1 hS => ?_)
          have hP := ro_keep hP hk1
          generalize H1 = H at hP hS ⊢
          refine W.widen (k := 143) (n := 53751) (Nat.le_of_ble_eq_true rfl) (Nat.le_of_ble_eq_true rfl) ?_
          subst hw
          refine lv_iload hx hb d_L_law_173 (lv_at hl 1 rfl) ?_
          refine lv_icmp_eq (tgt := 180) hx hb d_L_law_175 (by decide) (fun c_44 => ?_) (fun c_44 => ?_)
          · skip
            refine lv_iload hx hb d_L_law_180 (lv_at hl 1 rfl) ?_
            refine lv_if_ne (tgt := 197) hx hb d_L_law_182 (by decide) (fun c_45 => ?_) (fun c_45 => ?_)
            · skip
              first | exact absurd c_45 (by decide) | exact absurd (by decide) c_45
            · skip
              refine lv_aload_n hx hb d_L_law_185 rfl (lv_at hl 3 rfl) ?_
              refine lv_iconst (v := 0) hx hb d_L_law_186 (by decide) ?_
              refine va_lald hx hb hK hP 0 5 rfl rfl (vp_in_iff.mpr (by decide)) d_L_law_187 ?_
              refine tp_l 2 hfo ?_
              refine lv_iload hx hb d_L_law_188 (lv_at hl 0 rfl) ?_
              refine lv_i2l (v := (2 : Int32).toInt64) hx hb d_L_law_190 rfl ?_
              refine W.lcmp hx hb d_L_law_191 ?_
              refine tp_i 0 (by decide) ?_
              refine lv_if_eq (tgt := 197) hx hb d_L_law_192 (by decide) (fun c_46 => ?_) (fun c_46 => ?_)
              · skip
                refine lv_goto (tgt := 1192) hx hb d_L_law_197 (by decide) ?_
                refine lv_iinc (v := 7) (lv' := [(4, .int 7), (6, .int 2), (5, .int 0), (3, .ref ou), (2, .ref mo), (1, .ref f), (0, .ref b)]) hx hb d_L_law_1192 hl (k := 2) rfl (by decide) (by decide) rfl (fun ls hl => ?_)
                refine lv_goto (tgt := 23) hx hb d_L_law_1195 (by decide) ?_
                refine lv_iload hx hb d_L_law_23 (lv_at hl 0 rfl) ?_
                refine lv_aload_n hx hb d_L_law_25 rfl (lv_at hl 6 rfl) ?_
                refine va_slen hx hb hX hbl hbA hS d_L_law_26 ?_
                refine tp_i 7 (rfl) ?_
                refine lv_bipush (v := 7) hx hb d_L_law_27 (by decide) ?_
                refine lv_isub hx hb d_L_law_29 ?_
                refine tp_i 0 (by decide) ?_
                refine lv_icmp_gt (tgt := 1198) hx hb d_L_law_30 (by decide) (fun c_47 => ?_) (fun c_47 => ?_)
                · skip
                  refine lv_iconst (v := 1) hx hb d_L_law_1198 (by decide) ?_
                  refine va_forget (fun q hq => hS.2.2 q hq) ?_
                  refine W.widen (k := 600002) (n := 7302232) (Nat.le_of_ble_eq_true rfl) (Nat.le_of_ble_eq_true rfl) ?_
                  exact lw_ret hx hb hr hlocks d_L_law_1199
                · skip
                  first | exact absurd c_47 (by decide) | exact absurd (by decide) c_47
              · skip
                first | exact absurd c_46 (by decide) | exact absurd (by decide) c_46
          · skip
            first | exact absurd c_44 (by decide) | exact absurd (by decide) c_44
        · skip
          first | exact absurd hok p_35 | exact absurd p_35 hok
    · subst h91
      have p_48 := hok
      refine lv_istore (lv' := [(5, .int 1), (4, .int 0), (3, .ref ou), (2, .ref mo), (1, .ref f), (0, .ref b)]) hx hb d_L_law_141 hl (by decide) rfl (fun ls hl => ?_)
      refine lv_aload_n hx hb d_L_law_143 rfl (lv_at hl 3 rfl) ?_
      refine lv_aload_n hx hb d_L_law_144 rfl (lv_at hl 5 rfl) ?_
      refine lv_iload hx hb d_L_law_145 (lv_at hl 1 rfl) ?_
      refine lv_iconst (v := 1) hx hb d_L_law_147 (by decide) ?_
      refine lv_iadd hx hb d_L_law_148 ?_
      refine tp_i 1 (by decide) ?_
      refine va_sld hx hb hX hbl hbA hS (vp_in_iff.mpr (by decide)) d_L_law_149 ?_
      refine tp_i (xs 1) (congrArg xs (by decide)) ?_
      refine lv_aload_n hx hb d_L_law_150 rfl (lv_at hl 5 rfl) ?_
      refine lv_iload hx hb d_L_law_151 (lv_at hl 1 rfl) ?_
      refine lv_iconst (v := 2) hx hb d_L_law_153 (by decide) ?_
      refine lv_iadd hx hb d_L_law_154 ?_
      refine tp_i 2 (by decide) ?_
      refine va_sld hx hb hX hbl hbA hS (vp_in_iff.mpr (by decide)) d_L_law_155 ?_
      refine tp_i (xs 2) (congrArg xs (by decide)) ?_
      refine lv_if_eq (tgt := 163) hx hb d_L_law_156 (by decide) (fun c_49 => ?_) (fun c_49 => ?_)
      · skip
        first | exact absurd c_49 c_1 | exact absurd c_1 c_49
      · skip
        refine lv_iconst (v := 1) hx hb d_L_law_159 (by decide) ?_
        refine lv_goto (tgt := 164) hx hb d_L_law_160 (by decide) ?_
        have hPc := hP.sub (ws' := [(mo, .inr (5, [.int 0, .int 2, .ref m_above, .ref m_isFace, .int 0, .ref m_fieldClass, .ref m_fieldType, .ref m_fieldStatic, .int 0, .ref m_arguments, .ref m_argumentCount, .ref m_results, .ref m_sizes, .ref m_codes, .ref m_maxStack, .ref m_maxLocals, .ref m_handlers, .ref m_handlerFrom, .ref m_handlerTo, .ref m_handlerPlace, .ref m_handlerClass, .ref m_verified, .ref m_fault, .ref m_faultAt, .int 0, .ref m_tape, .ref m_begins, .ref m_high, .ref m_locals, .ref m_stacks, .ref m_due, .ref m_dead, .ref m_framed, .int 0, .int 0, .int 0, .int 0, .ref m_local, .ref m_before, .ref m_stack, .int 0, .ref m_given, .ref m_givenStack, .int 0, .int 0, .int 0, .ref m_cutFrom, .ref m_cutTo, .ref m_cutPlace, .ref m_cutClass, .int 0, .ref m_bytes, .ref m_was, .int 0, .ref m_now, .int 0, .ref m_ends, .ref m_statics, .int 0, .ref m_thingType, .ref m_thingSize, .ref m_elements, .ref m_slots, .int 0, .ref m_callMethod, .ref m_callPlace, .ref m_callHigh, .ref m_values, .ref m_piles, .int 0, .long 0])), (m_above, .inl (k_above, 16, .inl (fun _ => 0))), (m_isFace, .inl (k_isFace, 16, .inl (fun _ => 0)))]) [0, 1, 2] rfl
        have hKc := hK.sub (tys' := [(k_above, .int), (k_isFace, .boolean)]) [3, 4] rfl
        have hDc := hD.sub (ws' := [(mo, .inr (5, [.int 0, .int 2, .ref m_above, .ref m_isFace, .int 0, .ref m_fieldClass, .ref m_fieldType, .ref m_fieldStatic, .int 0, .ref m_arguments, .ref m_argumentCount, .ref m_results, .ref m_sizes, .ref m_codes, .ref m_maxStack, .ref m_maxLocals, .ref m_handlers, .ref m_handlerFrom, .ref m_handlerTo, .ref m_handlerPlace, .ref m_handlerClass, .ref m_verified, .ref m_fault, .ref m_faultAt, .int 0, .ref m_tape, .ref m_begins, .ref m_high, .ref m_locals, .ref m_stacks, .ref m_due, .ref m_dead, .ref m_framed, .int 0, .int 0, .int 0, .int 0, .ref m_local, .ref m_before, .ref m_stack, .int 0, .ref m_given, .ref m_givenStack, .int 0, .int 0, .int 0, .ref m_cutFrom, .ref m_cutTo, .ref m_cutPlace, .ref m_cutClass, .int 0, .ref m_bytes, .ref m_was, .int 0, .ref m_now, .int 0, .ref m_ends, .ref m_statics, .int 0, .ref m_thingType, .ref m_thingSize, .ref m_elements, .ref m_slots, .int 0, .ref m_callMethod, .ref m_callPlace, .ref m_callHigh, .ref m_values, .ref m_piles, .int 0, .long 0])), (m_above, .inl (k_above, 16, .inl (fun _ => 0))), (m_isFace, .inl (k_isFace, 16, .inl (fun _ => 0)))]) [0, 1, 2] (by decide) rfl
        have hFc := va_free (wc := [(mo, .inr (5, [.int 0, .int 2, .ref m_above, .ref m_isFace, .int 0, .ref m_fieldClass, .ref m_fieldType, .ref m_fieldStatic, .int 0, .ref m_arguments, .ref m_argumentCount, .ref m_results, .ref m_sizes, .ref m_codes, .ref m_maxStack, .ref m_maxLocals, .ref m_handlers, .ref m_handlerFrom, .ref m_handlerTo, .ref m_handlerPlace, .ref m_handlerClass, .ref m_verified, .ref m_fault, .ref m_faultAt, .int 0, .ref m_tape, .ref m_begins, .ref m_high, .ref m_locals, .ref m_stacks, .ref m_due, .ref m_dead, .ref m_framed, .int 0, .int 0, .int 0, .int 0, .ref m_local, .ref m_before, .ref m_stack, .int 0, .ref m_given, .ref m_givenStack, .int 0, .int 0, .int 0, .ref m_cutFrom, .ref m_cutTo, .ref m_cutPlace, .ref m_cutClass, .int 0, .ref m_bytes, .ref m_was, .int 0, .ref m_now, .int 0, .ref m_ends, .ref m_statics, .int 0, .ref m_thingType, .ref m_thingSize, .ref m_elements, .ref m_slots, .int 0, .ref m_callMethod, .ref m_callPlace, .ref m_callHigh, .ref m_values, .ref m_piles, .int 0, .long 0])), (m_above, .inl (k_above, 16, .inl (fun _ => 0))), (m_isFace, .inl (k_isFace, 16, .inl (fun _ => 0)))]) hD hS hA [0, 1, 2] rfl
        refine va_calli (va_runV (As := [.int (xs 1), .int 1]) (rest := []) ⟨hx, hb, hml, hown, hts⟩ (k_M_cls l dC dI mo m_above m_isFace m_fieldClass m_fieldType m_fieldStatic m_arguments m_argumentCount m_results m_sizes m_codes m_maxStack m_maxLocals m_handlers m_handlerFrom m_handlerTo m_handlerPlace m_handlerClass m_verified m_fault m_faultAt m_tape m_begins m_high m_locals m_stacks m_due m_dead m_framed m_local m_before m_stack m_given m_givenStack m_cutFrom m_cutTo m_cutPlace m_cutClass m_bytes m_was m_now m_ends m_statics m_thingType m_thingSize m_elements m_slots m_callMethod m_callPlace m_callHigh m_values m_piles k_above k_isFace ((xs 1)) 1 H.size) (cwV 2 hts (gV hsub w_397 w_398 w_399 w_266 w_400) rfl rfl rfl (by decide +kernel) ⟨Nat.le_of_ble_eq_true rfl, Nat.le_of_ble_eq_true rfl⟩) ⟨bl_1000, va_recv hKc hPc (ci := 5) (q0 := 0) rfl rfl, fun U hU hW => ⟨rfl, by rw [hU], by rw [hU]; exact hPc, va_K.moved hW.alike hKc, hDc.weaken (fun _ _ _ _ => trivial)⟩⟩ rfl rfl hl.1 rfl (lv_room (Nat.le_of_ble_eq_true rfl)) d_L_law_164 ⟨Nat.le_of_ble_eq_true rfl, Nat.le_of_ble_eq_true rfl⟩) hS (fun q _ h => hFc q h) hFc (fun r_51 u_52 t H1 locs ht hvm hw hB hz1 hk1 hS => ?_)
        obtain ⟨fs_53, hfs, hP1, hK1, hD1⟩ := hB
        rw [ht] at hP1
        have hK1 := va_K.moved hvm.symm hK1
        obtain ⟨hP, hD⟩ := va_join (wr := [(ou, .inl (ko, 1, .inr (.inl fo_34)))]) (w1 := [(mo, .inr (5, fs_53))]) hP hD [0, 1, 2] [3] rfl rfl (by decide) (by decide) hk1 hFc hP1 hD1
        have hK := (hK.sub (tys' := [(kp, .int), (ku, .int), (ki, .boolean), (k_above, .int), (k_isFace, .boolean), (ko, .long), (ko, .long)]) [0, 1, 2, 3, 4, 5, 6] rfl).app hK1
        generalize H1 = H at hP hS ⊢
        have hP : va_P (dC, dI) vwCl [(ou, .inl (ko, 1, .inr (.inl fo_34))), (mo, .inr (5, fs_53))] H := hP
        have hD : va_D (fun q : Nat => s.heap.size ≤ q) [(ou, .inl (ko, 1, .inr (.inl fo_34))), (mo, .inr (5, fs_53))] := hD
        have hK : va_K (dC, dI) vwCl [(kp, .int), (ku, .int), (ki, .boolean), (k_above, .int), (k_isFace, .boolean), (ko, .long), (ko, .long)] s := hK
        refine W.widen (k := 143) (n := 53751) (Nat.le_of_ble_eq_true rfl) (Nat.le_of_ble_eq_true rfl) ?_
        rcases hw with ⟨hok, h91, h92⟩ | ⟨hok, h92⟩
        · skip
          first | exact absurd hok p_48 | exact absurd p_48 hok
        · skip
          subst h92
          refine lv_istore (lv' := [(6, .int r_51), (5, .int 1), (4, .int 0), (3, .ref ou), (2, .ref mo), (1, .ref f), (0, .ref b)]) hx hb d_L_law_167 hl (by decide) rfl (fun ls hl => ?_)
          refine lv_aload_n hx hb d_L_law_169 rfl (lv_at hl 4 rfl) ?_
          have hPc := hP.sub (ws' := [(mo, .inr (5, fs_53))]) [1] rfl
          have hKc := hK.sub (tys' := []) [] rfl
          refine va_calli (va_runV (As := []) (rest := []) ⟨hx, hb, hml, hown, hts⟩ (k_M_thrown l dC dI mo fs_53 1 hfs) (cwV 0 hts (gV hsub w_401 w_402 w_403 w_266 w_404) rfl rfl rfl (by decide +kernel) ⟨Nat.le_of_ble_eq_true rfl, Nat.le_of_ble_eq_true rfl⟩) ⟨bl_0000, va_recv hKc hPc (ci := 5) (q0 := 0) rfl rfl, fun U hU hW => ⟨rfl, by rw [hU]; exact hPc, va_K.moved hW.alike hKc⟩⟩ rfl rfl hl.1 rfl (lv_room (Nat.le_of_ble_eq_true rfl)) d_L_law_170 ⟨Nat.le_of_ble_eq_true rfl, Nat.le_of_ble_eq_true rfl⟩) hS (fun q _ h => h.elim) (fun q h => h.elim) (fun r_55 u_56 t H1 locs ht hvm hw hB hz1 hk1 hS => ?_)
          have hP := ro_keep hP hk1
          generalize H1 = H at hP hS ⊢
          refine W.widen (k := 143) (n := 53751) (Nat.le_of_ble_eq_true rfl) (Nat.le_of_ble_eq_true rfl) ?_
          subst hw
          refine lv_iload hx hb d_L_law_173 (lv_at hl 1 rfl) ?_
          refine lv_icmp_eq (tgt := 180) hx hb d_L_law_175 (by decide) (fun c_57 => ?_) (fun c_57 => ?_)
          · skip
            refine lv_iload hx hb d_L_law_180 (lv_at hl 1 rfl) ?_
            refine lv_if_ne (tgt := 197) hx hb d_L_law_182 (by decide) (fun c_58 => ?_) (fun c_58 => ?_)
            · skip
              refine lv_goto (tgt := 1192) hx hb d_L_law_197 (by decide) ?_
              refine lv_iinc (v := 7) (lv' := [(4, .int 7), (6, .int r_51), (5, .int 1), (3, .ref ou), (2, .ref mo), (1, .ref f), (0, .ref b)]) hx hb d_L_law_1192 hl (k := 2) rfl (by decide) (by decide) rfl (fun ls hl => ?_)
              refine lv_goto (tgt := 23) hx hb d_L_law_1195 (by decide) ?_
              refine lv_iload hx hb d_L_law_23 (lv_at hl 0 rfl) ?_
              refine lv_aload_n hx hb d_L_law_25 rfl (lv_at hl 6 rfl) ?_
              refine va_slen hx hb hX hbl hbA hS d_L_law_26 ?_
              refine tp_i 7 (rfl) ?_
              refine lv_bipush (v := 7) hx hb d_L_law_27 (by decide) ?_
              refine lv_isub hx hb d_L_law_29 ?_
              refine tp_i 0 (by decide) ?_
              refine lv_icmp_gt (tgt := 1198) hx hb d_L_law_30 (by decide) (fun c_59 => ?_) (fun c_59 => ?_)
              · skip
                refine lv_iconst (v := 1) hx hb d_L_law_1198 (by decide) ?_
                refine va_forget (fun q hq => hS.2.2 q hq) ?_
                refine W.widen (k := 600002) (n := 7302232) (Nat.le_of_ble_eq_true rfl) (Nat.le_of_ble_eq_true rfl) ?_
                exact lw_ret hx hb hr hlocks d_L_law_1199
              · skip
                first | exact absurd c_59 (by decide) | exact absurd (by decide) c_59
            · skip
              first | exact absurd c_58 (by decide) | exact absurd (by decide) c_58
          · skip
            first | exact absurd c_57 (by decide) | exact absurd (by decide) c_57

set_option maxHeartbeats 4000000 in
set_option maxRecDepth 100000 in
theorem law_c1 {p : Program} {e : Env} {s : State} {m : MethodId} {below : List Frame} {meth : Method} {cx : Code} (l : Launch) (hl9 : l.stackTraces = false) {b : Nat} {xs : Nat → Int32} (C0 : lw_At p s m meth cx b 7 xs) (hex : exP (fun q : Nat => s.heap.size ≤ q) s) {dC : Nat → ClassId} {dI : Nat → Nat → Nat} {f w wp wu wi wc wt wx wm k kh ks kc9 tp mo m_above m_isFace m_fieldClass m_fieldType m_fieldStatic m_arguments m_argumentCount m_results m_sizes m_codes m_maxStack m_maxLocals m_handlers m_handlerFrom m_handlerTo m_handlerPlace m_handlerClass m_verified m_fault m_faultAt m_tape m_begins m_high m_locals m_stacks m_due m_dead m_framed m_local m_before m_stack m_given m_givenStack m_cutFrom m_cutTo m_cutPlace m_cutClass m_bytes m_was m_now m_ends m_statics m_thingType m_thingSize m_elements m_slots m_callMethod m_callPlace m_callHigh m_values m_piles ou : Nat} {kp  ku  ki  kc  kt  kx  km  kt9  k_above  k_isFace  k_fieldClass  k_fieldType  k_fieldStatic  k_arguments  k_argumentCount  k_results  k_tape  k_ends  ko : ClassId} {H : Heap} {locs : List Loc} (hK : va_K (dC, dI) vwCl [(ki, .boolean), (kc, .int), (kt, .int), (kx, .boolean), (k_isFace, .boolean), (k_fieldClass, .int), (k_fieldType, .int), (k_fieldStatic, .boolean), (ko, .long)] s) (hP : va_P (dC, dI) vwCl [(f, .inr (4, [.ref w, .ref k, .ref tp, .int 0])), (w, .inr (3, [.ref wp, .ref wu, .ref wi, .int 2, .ref wc, .ref wt, .ref wx, .int 0, .ref wm, .int 0])), (wi, .inl (ki, 16, .inl (fun _ => 0))), (wc, .inl (kc, 16, .inl (fun _ => 0))), (wt, .inl (kt, 16, .inl (fun _ => 0))), (wx, .inl (kx, 16, .inl (fun _ => 0))), (mo, .inr (5, [.int 0, .int 2, .ref m_above, .ref m_isFace, .int 0, .ref m_fieldClass, .ref m_fieldType, .ref m_fieldStatic, .int 0, .ref m_arguments, .ref m_argumentCount, .ref m_results, .ref m_sizes, .ref m_codes, .ref m_maxStack, .ref m_maxLocals, .ref m_handlers, .ref m_handlerFrom, .ref m_handlerTo, .ref m_handlerPlace, .ref m_handlerClass, .ref m_verified, .ref m_fault, .ref m_faultAt, .int 0, .ref m_tape, .ref m_begins, .ref m_high, .ref m_locals, .ref m_stacks, .ref m_due, .ref m_dead, .ref m_framed, .int 0, .int 0, .int 0, .int 0, .ref m_local, .ref m_before, .ref m_stack, .int 0, .ref m_given, .ref m_givenStack, .int 0, .int 0, .int 0, .ref m_cutFrom, .ref m_cutTo, .ref m_cutPlace, .ref m_cutClass, .int 0, .ref m_bytes, .ref m_was, .int 0, .ref m_now, .int 0, .ref m_ends, .ref m_statics, .int 0, .ref m_thingType, .ref m_thingSize, .ref m_elements, .ref m_slots, .int 0, .ref m_callMethod, .ref m_callPlace, .ref m_callHigh, .ref m_values, .ref m_piles, .int 0, .long 0])), (m_isFace, .inl (k_isFace, 16, .inl (fun _ => 0))), (m_fieldClass, .inl (k_fieldClass, 16, .inl (fun _ => 0))), (m_fieldType, .inl (k_fieldType, 16, .inl (fun _ => 0))), (m_fieldStatic, .inl (k_fieldStatic, 16, .inl (fun _ => 0))), (ou, .inl (ko, 1, .inr (.inl (fun _ => 0))))] H) (hD : va_D (fun q : Nat => s.heap.size ≤ q) [(f, .inr (4, [.ref w, .ref k, .ref tp, .int 0])), (w, .inr (3, [.ref wp, .ref wu, .ref wi, .int 2, .ref wc, .ref wt, .ref wx, .int 0, .ref wm, .int 0])), (wi, .inl (ki, 16, .inl (fun _ => 0))), (wc, .inl (kc, 16, .inl (fun _ => 0))), (wt, .inl (kt, 16, .inl (fun _ => 0))), (wx, .inl (kx, 16, .inl (fun _ => 0))), (mo, .inr (5, [.int 0, .int 2, .ref m_above, .ref m_isFace, .int 0, .ref m_fieldClass, .ref m_fieldType, .ref m_fieldStatic, .int 0, .ref m_arguments, .ref m_argumentCount, .ref m_results, .ref m_sizes, .ref m_codes, .ref m_maxStack, .ref m_maxLocals, .ref m_handlers, .ref m_handlerFrom, .ref m_handlerTo, .ref m_handlerPlace, .ref m_handlerClass, .ref m_verified, .ref m_fault, .ref m_faultAt, .int 0, .ref m_tape, .ref m_begins, .ref m_high, .ref m_locals, .ref m_stacks, .ref m_due, .ref m_dead, .ref m_framed, .int 0, .int 0, .int 0, .int 0, .ref m_local, .ref m_before, .ref m_stack, .int 0, .ref m_given, .ref m_givenStack, .int 0, .int 0, .int 0, .ref m_cutFrom, .ref m_cutTo, .ref m_cutPlace, .ref m_cutClass, .int 0, .ref m_bytes, .ref m_was, .int 0, .ref m_now, .int 0, .ref m_ends, .ref m_statics, .int 0, .ref m_thingType, .ref m_thingSize, .ref m_elements, .ref m_slots, .int 0, .ref m_callMethod, .ref m_callPlace, .ref m_callHigh, .ref m_values, .ref m_piles, .int 0, .long 0])), (m_isFace, .inl (k_isFace, 16, .inl (fun _ => 0))), (m_fieldClass, .inl (k_fieldClass, 16, .inl (fun _ => 0))), (m_fieldType, .inl (k_fieldType, 16, .inl (fun _ => 0))), (m_fieldStatic, .inl (k_fieldStatic, 16, .inl (fun _ => 0))), (ou, .inl (ko, 1, .inr (.inl (fun _ => 0))))]) (hS : va_S (fun q : Nat => s.heap.size ≤ q) s.heap H locs) {ls : Array Slot} (hl : lv_has ls 8 [(4, .int 0), (3, .ref ou), (2, .ref mo), (1, .ref f), (0, .ref b)]) : W p l e room_1 s m #[Value.ref b] below meth cx H locs 142 53745 (lw_Z below #[Value.ref b] s) (F0 m 200 ls []) := by
  obtain ⟨hx, hb, hr, hml, hown0, hts0, hX, hbl, hlocks, hgv⟩ := id C0
  have hown : s.vm.findClass "MapFramerLaw" = some m.cls := hown0
  have hts : ∀ w ∈ bigW, w.before #[Value.ref b] s = true := fun w h => hts0 w (List.mem_filter.mp h).1
  have hsub : ∀ w ∈ bigW, w ∈ bigW := fun _ h => h
  have hA : ∀ q : Nat, s.heap.size ≤ q → (fun q : Nat => s.heap.size ≤ q) q := fun _ h => h
  have hbA : ¬ (fun q : Nat => s.heap.size ≤ q) b := Nat.not_le.mpr hbl
  refine lv_aload_n hx hb d_L_law_200 rfl (lv_at hl 3 rfl) ?_
  refine lv_aload_n hx hb d_L_law_201 rfl (lv_at hl 4 rfl) ?_
  refine lv_iload hx hb d_L_law_202 (lv_at hl 0 rfl) ?_
  refine lv_iconst (v := 1) hx hb d_L_law_204 (by decide) ?_
  refine lv_iadd hx hb d_L_law_205 ?_
  refine tp_i 1 (by decide) ?_
  refine va_sld hx hb hX hbl hbA hS (vp_in_iff.mpr (by decide)) d_L_law_206 ?_
  refine tp_i (xs 1) (congrArg xs (by decide)) ?_
  refine lv_aload_n hx hb d_L_law_207 rfl (lv_at hl 4 rfl) ?_
  refine lv_iload hx hb d_L_law_208 (lv_at hl 0 rfl) ?_
  refine lv_iconst (v := 2) hx hb d_L_law_210 (by decide) ?_
  refine lv_iadd hx hb d_L_law_211 ?_
  refine tp_i 2 (by decide) ?_
  refine va_sld hx hb hX hbl hbA hS (vp_in_iff.mpr (by decide)) d_L_law_212 ?_
  refine tp_i (xs 2) (congrArg xs (by decide)) ?_
  refine lv_aload_n hx hb d_L_law_213 rfl (lv_at hl 4 rfl) ?_
  refine lv_iload hx hb d_L_law_214 (lv_at hl 0 rfl) ?_
  refine lv_iconst (v := 3) hx hb d_L_law_216 (by decide) ?_
  refine lv_iadd hx hb d_L_law_217 ?_
  refine tp_i 3 (by decide) ?_
  refine va_sld hx hb hX hbl hbA hS (vp_in_iff.mpr (by decide)) d_L_law_218 ?_
  refine tp_i (xs 3) (congrArg xs (by decide)) ?_
  refine lv_if_eq (tgt := 226) hx hb d_L_law_219 (by decide) (fun c_1 => ?_) (fun c_1 => ?_)
  · skip
    refine lv_iconst (v := 0) hx hb d_L_law_226 (by decide) ?_
    refine lv_aload_n hx hb d_L_law_227 rfl (lv_at hl 1 rfl) ?_
    have hPc := hP.sub (ws' := [(f, .inr (4, [.ref w, .ref k, .ref tp, .int 0])), (w, .inr (3, [.ref wp, .ref wu, .ref wi, .int 2, .ref wc, .ref wt, .ref wx, .int 0, .ref wm, .int 0])), (wi, .inl (ki, 16, .inl (fun _ => 0))), (wc, .inl (kc, 16, .inl (fun _ => 0))), (wt, .inl (kt, 16, .inl (fun _ => 0))), (wx, .inl (kx, 16, .inl (fun _ => 0))), (ou, .inl (ko, 1, .inr (.inl (fun _ => 0))))]) [0, 1, 2, 3, 4, 5, 11] rfl
    have hKc := hK.sub (tys' := [(ki, .boolean), (kc, .int), (kt, .int), (kx, .boolean), (ko, .long)]) [0, 1, 2, 3, 8] rfl
    have hDc := hD.sub (ws' := [(f, .inr (4, [.ref w, .ref k, .ref tp, .int 0])), (w, .inr (3, [.ref wp, .ref wu, .ref wi, .int 2, .ref wc, .ref wt, .ref wx, .int 0, .ref wm, .int 0])), (wi, .inl (ki, 16, .inl (fun _ => 0))), (wc, .inl (kc, 16, .inl (fun _ => 0))), (wt, .inl (kt, 16, .inl (fun _ => 0))), (wx, .inl (kx, 16, .inl (fun _ => 0))), (ou, .inl (ko, 1, .inr (.inl (fun _ => 0))))]) [0, 1, 2, 3, 4, 5, 11] (by decide) rfl
    have hFc := va_free (wc := [(f, .inr (4, [.ref w, .ref k, .ref tp, .int 0])), (w, .inr (3, [.ref wp, .ref wu, .ref wi, .int 2, .ref wc, .ref wt, .ref wx, .int 0, .ref wm, .int 0])), (wi, .inl (ki, 16, .inl (fun _ => 0))), (wc, .inl (kc, 16, .inl (fun _ => 0))), (wt, .inl (kt, 16, .inl (fun _ => 0))), (wx, .inl (kx, 16, .inl (fun _ => 0))), (ou, .inl (ko, 1, .inr (.inl (fun _ => 0))))]) hD hS hA [0, 1, 2, 3, 4, 5, 11] rfl
    refine va_calli (vx_runSW (As := [.ref f, .int (xs 1), .int (xs 2), .int 0, .ref ou]) (rest := []) ⟨hx, hb, hml, hown, hts⟩ (k_L_field l hl9 dC dI f w k tp wp wu wi wc wt wx wm ki kc kt kx ((xs 1)) ((xs 2)) 0 ou ko (fun _ => 0) H.size) (vx_cwSW 5 hts (gS hsub w_405 w_406 w_395 w_407) rfl rfl rfl (by decide +kernel) ⟨Nat.le_of_ble_eq_true rfl, Nat.le_of_ble_eq_true rfl⟩) ⟨bl_1010, fun U hU hW => ⟨rfl, by rw [hU], by rw [hU]; exact hPc, va_K.moved hW.alike hKc, hDc.weaken (fun _ _ _ _ => trivial), exP_go hex hS (fun q h => hFc q h) U hU hW⟩⟩ rfl rfl hl.1 rfl (lv_room (Nat.le_of_ble_eq_true rfl)) d_L_law_228 ⟨Nat.le_of_ble_eq_true rfl, Nat.le_of_ble_eq_true rfl⟩) hS (fun q _ h => hFc q h) hFc (fun r_3 u_4 t H1 locs ht hvm hw hB hz1 hk1 hS => ?_)
    obtain ⟨fo_5, hfo, hP1, hK1, hD1⟩ := hB
    rw [ht] at hP1
    have hK1 := va_K.moved hvm.symm hK1
    obtain ⟨hP, hD⟩ := va_join (wr := [(mo, .inr (5, [.int 0, .int 2, .ref m_above, .ref m_isFace, .int 0, .ref m_fieldClass, .ref m_fieldType, .ref m_fieldStatic, .int 0, .ref m_arguments, .ref m_argumentCount, .ref m_results, .ref m_sizes, .ref m_codes, .ref m_maxStack, .ref m_maxLocals, .ref m_handlers, .ref m_handlerFrom, .ref m_handlerTo, .ref m_handlerPlace, .ref m_handlerClass, .ref m_verified, .ref m_fault, .ref m_faultAt, .int 0, .ref m_tape, .ref m_begins, .ref m_high, .ref m_locals, .ref m_stacks, .ref m_due, .ref m_dead, .ref m_framed, .int 0, .int 0, .int 0, .int 0, .ref m_local, .ref m_before, .ref m_stack, .int 0, .ref m_given, .ref m_givenStack, .int 0, .int 0, .int 0, .ref m_cutFrom, .ref m_cutTo, .ref m_cutPlace, .ref m_cutClass, .int 0, .ref m_bytes, .ref m_was, .int 0, .ref m_now, .int 0, .ref m_ends, .ref m_statics, .int 0, .ref m_thingType, .ref m_thingSize, .ref m_elements, .ref m_slots, .int 0, .ref m_callMethod, .ref m_callPlace, .ref m_callHigh, .ref m_values, .ref m_piles, .int 0, .long 0])), (m_isFace, .inl (k_isFace, 16, .inl (fun _ => 0))), (m_fieldClass, .inl (k_fieldClass, 16, .inl (fun _ => 0))), (m_fieldType, .inl (k_fieldType, 16, .inl (fun _ => 0))), (m_fieldStatic, .inl (k_fieldStatic, 16, .inl (fun _ => 0)))]) (w1 := [(ou, .inl (ko, 1, .inr (.inl fo_5)))]) hP hD [0, 1, 2, 3, 4, 5, 11] [6, 7, 8, 9, 10] rfl rfl (by decide) (by decide) hk1 hFc hP1 hD1
    have hK := (hK.sub (tys' := [(ki, .boolean), (kc, .int), (kt, .int), (kx, .boolean), (k_isFace, .boolean), (k_fieldClass, .int), (k_fieldType, .int), (k_fieldStatic, .boolean), (ko, .long)]) [0, 1, 2, 3, 4, 5, 6, 7, 8] rfl).app hK1
    generalize H1 = H at hP hS ⊢
    have hP : va_P (dC, dI) vwCl [(mo, .inr (5, [.int 0, .int 2, .ref m_above, .ref m_isFace, .int 0, .ref m_fieldClass, .ref m_fieldType, .ref m_fieldStatic, .int 0, .ref m_arguments, .ref m_argumentCount, .ref m_results, .ref m_sizes, .ref m_codes, .ref m_maxStack, .ref m_maxLocals, .ref m_handlers, .ref m_handlerFrom, .ref m_handlerTo, .ref m_handlerPlace, .ref m_handlerClass, .ref m_verified, .ref m_fault, .ref m_faultAt, .int 0, .ref m_tape, .ref m_begins, .ref m_high, .ref m_locals, .ref m_stacks, .ref m_due, .ref m_dead, .ref m_framed, .int 0, .int 0, .int 0, .int 0, .ref m_local, .ref m_before, .ref m_stack, .int 0, .ref m_given, .ref m_givenStack, .int 0, .int 0, .int 0, .ref m_cutFrom, .ref m_cutTo, .ref m_cutPlace, .ref m_cutClass, .int 0, .ref m_bytes, .ref m_was, .int 0, .ref m_now, .int 0, .ref m_ends, .ref m_statics, .int 0, .ref m_thingType, .ref m_thingSize, .ref m_elements, .ref m_slots, .int 0, .ref m_callMethod, .ref m_callPlace, .ref m_callHigh, .ref m_values, .ref m_piles, .int 0, .long 0])), (m_isFace, .inl (k_isFace, 16, .inl (fun _ => 0))), (m_fieldClass, .inl (k_fieldClass, 16, .inl (fun _ => 0))), (m_fieldType, .inl (k_fieldType, 16, .inl (fun _ => 0))), (m_fieldStatic, .inl (k_fieldStatic, 16, .inl (fun _ => 0))), (ou, .inl (ko, 1, .inr (.inl fo_5)))] H := hP
    have hD : va_D (fun q : Nat => s.heap.size ≤ q) [(mo, .inr (5, [.int 0, .int 2, .ref m_above, .ref m_isFace, .int 0, .ref m_fieldClass, .ref m_fieldType, .ref m_fieldStatic, .int 0, .ref m_arguments, .ref m_argumentCount, .ref m_results, .ref m_sizes, .ref m_codes, .ref m_maxStack, .ref m_maxLocals, .ref m_handlers, .ref m_handlerFrom, .ref m_handlerTo, .ref m_handlerPlace, .ref m_handlerClass, .ref m_verified, .ref m_fault, .ref m_faultAt, .int 0, .ref m_tape, .ref m_begins, .ref m_high, .ref m_locals, .ref m_stacks, .ref m_due, .ref m_dead, .ref m_framed, .int 0, .int 0, .int 0, .int 0, .ref m_local, .ref m_before, .ref m_stack, .int 0, .ref m_given, .ref m_givenStack, .int 0, .int 0, .int 0, .ref m_cutFrom, .ref m_cutTo, .ref m_cutPlace, .ref m_cutClass, .int 0, .ref m_bytes, .ref m_was, .int 0, .ref m_now, .int 0, .ref m_ends, .ref m_statics, .int 0, .ref m_thingType, .ref m_thingSize, .ref m_elements, .ref m_slots, .int 0, .ref m_callMethod, .ref m_callPlace, .ref m_callHigh, .ref m_values, .ref m_piles, .int 0, .long 0])), (m_isFace, .inl (k_isFace, 16, .inl (fun _ => 0))), (m_fieldClass, .inl (k_fieldClass, 16, .inl (fun _ => 0))), (m_fieldType, .inl (k_fieldType, 16, .inl (fun _ => 0))), (m_fieldStatic, .inl (k_fieldStatic, 16, .inl (fun _ => 0))), (ou, .inl (ko, 1, .inr (.inl fo_5)))] := hD
    have hK : va_K (dC, dI) vwCl [(ki, .boolean), (kc, .int), (kt, .int), (kx, .boolean), (k_isFace, .boolean), (k_fieldClass, .int), (k_fieldType, .int), (k_fieldStatic, .boolean), (ko, .long), (ko, .long)] s := hK
    refine W.widen (k := 143) (n := 53751) (Nat.le_of_ble_eq_true rfl) (Nat.le_of_ble_eq_true rfl) ?_
    rcases hw with ⟨hok, h91, h92⟩ | ⟨hok, h91⟩
    · subst h91; subst h92
      have p_6 := hok
      refine lv_istore (lv' := [(5, .int 0), (4, .int 0), (3, .ref ou), (2, .ref mo), (1, .ref f), (0, .ref b)]) hx hb d_L_law_231 hl (by decide) rfl (fun ls hl => ?_)
      refine lv_aload_n hx hb d_L_law_233 rfl (lv_at hl 3 rfl) ?_
      refine lv_aload_n hx hb d_L_law_234 rfl (lv_at hl 5 rfl) ?_
      refine lv_iload hx hb d_L_law_235 (lv_at hl 1 rfl) ?_
      refine lv_iconst (v := 1) hx hb d_L_law_237 (by decide) ?_
      refine lv_iadd hx hb d_L_law_238 ?_
      refine tp_i 1 (by decide) ?_
      refine va_sld hx hb hX hbl hbA hS (vp_in_iff.mpr (by decide)) d_L_law_239 ?_
      refine tp_i (xs 1) (congrArg xs (by decide)) ?_
      refine lv_aload_n hx hb d_L_law_240 rfl (lv_at hl 5 rfl) ?_
      refine lv_iload hx hb d_L_law_241 (lv_at hl 1 rfl) ?_
      refine lv_iconst (v := 2) hx hb d_L_law_243 (by decide) ?_
      refine lv_iadd hx hb d_L_law_244 ?_
      refine tp_i 2 (by decide) ?_
      refine va_sld hx hb hX hbl hbA hS (vp_in_iff.mpr (by decide)) d_L_law_245 ?_
      refine tp_i (xs 2) (congrArg xs (by decide)) ?_
      refine lv_aload_n hx hb d_L_law_246 rfl (lv_at hl 5 rfl) ?_
      refine lv_iload hx hb d_L_law_247 (lv_at hl 1 rfl) ?_
      refine lv_iconst (v := 3) hx hb d_L_law_249 (by decide) ?_
      refine lv_iadd hx hb d_L_law_250 ?_
      refine tp_i 3 (by decide) ?_
      refine va_sld hx hb hX hbl hbA hS (vp_in_iff.mpr (by decide)) d_L_law_251 ?_
      refine tp_i (xs 3) (congrArg xs (by decide)) ?_
      refine lv_if_eq (tgt := 259) hx hb d_L_law_252 (by decide) (fun c_7 => ?_) (fun c_7 => ?_)
      · skip
        refine lv_iconst (v := 0) hx hb d_L_law_259 (by decide) ?_
        have hPc := hP.sub (ws' := [(mo, .inr (5, [.int 0, .int 2, .ref m_above, .ref m_isFace, .int 0, .ref m_fieldClass, .ref m_fieldType, .ref m_fieldStatic, .int 0, .ref m_arguments, .ref m_argumentCount, .ref m_results, .ref m_sizes, .ref m_codes, .ref m_maxStack, .ref m_maxLocals, .ref m_handlers, .ref m_handlerFrom, .ref m_handlerTo, .ref m_handlerPlace, .ref m_handlerClass, .ref m_verified, .ref m_fault, .ref m_faultAt, .int 0, .ref m_tape, .ref m_begins, .ref m_high, .ref m_locals, .ref m_stacks, .ref m_due, .ref m_dead, .ref m_framed, .int 0, .int 0, .int 0, .int 0, .ref m_local, .ref m_before, .ref m_stack, .int 0, .ref m_given, .ref m_givenStack, .int 0, .int 0, .int 0, .ref m_cutFrom, .ref m_cutTo, .ref m_cutPlace, .ref m_cutClass, .int 0, .ref m_bytes, .ref m_was, .int 0, .ref m_now, .int 0, .ref m_ends, .ref m_statics, .int 0, .ref m_thingType, .ref m_thingSize, .ref m_elements, .ref m_slots, .int 0, .ref m_callMethod, .ref m_callPlace, .ref m_callHigh, .ref m_values, .ref m_piles, .int 0, .long 0])), (m_isFace, .inl (k_isFace, 16, .inl (fun _ => 0))), (m_fieldClass, .inl (k_fieldClass, 16, .inl (fun _ => 0))), (m_fieldType, .inl (k_fieldType, 16, .inl (fun _ => 0))), (m_fieldStatic, .inl (k_fieldStatic, 16, .inl (fun _ => 0)))]) [0, 1, 2, 3, 4] rfl
        have hKc := hK.sub (tys' := [(k_isFace, .boolean), (k_fieldClass, .int), (k_fieldType, .int), (k_fieldStatic, .boolean)]) [4, 5, 6, 7] rfl
        have hDc := hD.sub (ws' := [(mo, .inr (5, [.int 0, .int 2, .ref m_above, .ref m_isFace, .int 0, .ref m_fieldClass, .ref m_fieldType, .ref m_fieldStatic, .int 0, .ref m_arguments, .ref m_argumentCount, .ref m_results, .ref m_sizes, .ref m_codes, .ref m_maxStack, .ref m_maxLocals, .ref m_handlers, .ref m_handlerFrom, .ref m_handlerTo, .ref m_handlerPlace, .ref m_handlerClass, .ref m_verified, .ref m_fault, .ref m_faultAt, .int 0, .ref m_tape, .ref m_begins, .ref m_high, .ref m_locals, .ref m_stacks, .ref m_due, .ref m_dead, .ref m_framed, .int 0, .int 0, .int 0, .int 0, .ref m_local, .ref m_before, .ref m_stack, .int 0, .ref m_given, .ref m_givenStack, .int 0, .int 0, .int 0, .ref m_cutFrom, .ref m_cutTo, .ref m_cutPlace, .ref m_cutClass, .int 0, .ref m_bytes, .ref m_was, .int 0, .ref m_now, .int 0, .ref m_ends, .ref m_statics, .int 0, .ref m_thingType, .ref m_thingSize, .ref m_elements, .ref m_slots, .int 0, .ref m_callMethod, .ref m_callPlace, .ref m_callHigh, .ref m_values, .ref m_piles, .int 0, .long 0])), (m_isFace, .inl (k_isFace, 16, .inl (fun _ => 0))), (m_fieldClass, .inl (k_fieldClass, 16, .inl (fun _ => 0))), (m_fieldType, .inl (k_fieldType, 16, .inl (fun _ => 0))), (m_fieldStatic, .inl (k_fieldStatic, 16, .inl (fun _ => 0)))]) [0, 1, 2, 3, 4] (by decide) rfl
        have hFc := va_free (wc := [(mo, .inr (5, [.int 0, .int 2, .ref m_above, .ref m_isFace, .int 0, .ref m_fieldClass, .ref m_fieldType, .ref m_fieldStatic, .int 0, .ref m_arguments, .ref m_argumentCount, .ref m_results, .ref m_sizes, .ref m_codes, .ref m_maxStack, .ref m_maxLocals, .ref m_handlers, .ref m_handlerFrom, .ref m_handlerTo, .ref m_handlerPlace, .ref m_handlerClass, .ref m_verified, .ref m_fault, .ref m_faultAt, .int 0, .ref m_tape, .ref m_begins, .ref m_high, .ref m_locals, .ref m_stacks, .ref m_due, .ref m_dead, .ref m_framed, .int 0, .int 0, .int 0, .int 0, .ref m_local, .ref m_before, .ref m_stack, .int 0, .ref m_given, .ref m_givenStack, .int 0, .int 0, .int 0, .ref m_cutFrom, .ref m_cutTo, .ref m_cutPlace, .ref m_cutClass, .int 0, .ref m_bytes, .ref m_was, .int 0, .ref m_now, .int 0, .ref m_ends, .ref m_statics, .int 0, .ref m_thingType, .ref m_thingSize, .ref m_elements, .ref m_slots, .int 0, .ref m_callMethod, .ref m_callPlace, .ref m_callHigh, .ref m_values, .ref m_piles, .int 0, .long 0])), (m_isFace, .inl (k_isFace, 16, .inl (fun _ => 0))), (m_fieldClass, .inl (k_fieldClass, 16, .inl (fun _ => 0))), (m_fieldType, .inl (k_fieldType, 16, .inl (fun _ => 0))), (m_fieldStatic, .inl (k_fieldStatic, 16, .inl (fun _ => 0)))]) hD hS hA [0, 1, 2, 3, 4] rfl
        refine va_calli (va_runV (As := [.int (xs 1), .int (xs 2), .int 0]) (rest := []) ⟨hx, hb, hml, hown, hts⟩ (k_M_field l dC dI mo m_above m_isFace m_fieldClass m_fieldType m_fieldStatic m_arguments m_argumentCount m_results m_sizes m_codes m_maxStack m_maxLocals m_handlers m_handlerFrom m_handlerTo m_handlerPlace m_handlerClass m_verified m_fault m_faultAt m_tape m_begins m_high m_locals m_stacks m_due m_dead m_framed m_local m_before m_stack m_given m_givenStack m_cutFrom m_cutTo m_cutPlace m_cutClass m_bytes m_was m_now m_ends m_statics m_thingType m_thingSize m_elements m_slots m_callMethod m_callPlace m_callHigh m_values m_piles k_isFace k_fieldClass k_fieldType k_fieldStatic ((xs 1)) ((xs 2)) 0 H.size) (cwV 3 hts (gV hsub w_408 w_409 w_410 w_266 w_411) rfl rfl rfl (by decide +kernel) ⟨Nat.le_of_ble_eq_true rfl, Nat.le_of_ble_eq_true rfl⟩) ⟨bl_1000, va_recv hKc hPc (ci := 5) (q0 := 0) rfl rfl, fun U hU hW => ⟨rfl, by rw [hU], by rw [hU]; exact hPc, va_K.moved hW.alike hKc, hDc.weaken (fun _ _ _ _ => trivial)⟩⟩ rfl rfl hl.1 rfl (lv_room (Nat.le_of_ble_eq_true rfl)) d_L_law_260 ⟨Nat.le_of_ble_eq_true rfl, Nat.le_of_ble_eq_true rfl⟩) hS (fun q _ h => hFc q h) hFc (fun r_9 u_10 t H1 locs ht hvm hw hB hz1 hk1 hS => ?_)
        obtain ⟨fs_11, hfs, hP1, hK1, hD1⟩ := hB
        rw [ht] at hP1
        have hK1 := va_K.moved hvm.symm hK1
        obtain ⟨hP, hD⟩ := va_join (wr := [(ou, .inl (ko, 1, .inr (.inl fo_5)))]) (w1 := [(mo, .inr (5, fs_11))]) hP hD [0, 1, 2, 3, 4] [5] rfl rfl (by decide) (by decide) hk1 hFc hP1 hD1
        have hK := (hK.sub (tys' := [(ki, .boolean), (kc, .int), (kt, .int), (kx, .boolean), (k_isFace, .boolean), (k_fieldClass, .int), (k_fieldType, .int), (k_fieldStatic, .boolean), (ko, .long), (ko, .long)]) [0, 1, 2, 3, 4, 5, 6, 7, 8, 9] rfl).app hK1
        generalize H1 = H at hP hS ⊢
        have hP : va_P (dC, dI) vwCl [(ou, .inl (ko, 1, .inr (.inl fo_5))), (mo, .inr (5, fs_11))] H := hP
        have hD : va_D (fun q : Nat => s.heap.size ≤ q) [(ou, .inl (ko, 1, .inr (.inl fo_5))), (mo, .inr (5, fs_11))] := hD
        have hK : va_K (dC, dI) vwCl [(ki, .boolean), (kc, .int), (kt, .int), (kx, .boolean), (k_isFace, .boolean), (k_fieldClass, .int), (k_fieldType, .int), (k_fieldStatic, .boolean), (ko, .long), (ko, .long)] s := hK
        refine W.widen (k := 143) (n := 53751) (Nat.le_of_ble_eq_true rfl) (Nat.le_of_ble_eq_true rfl) ?_
        rcases hw with ⟨hok, h91, h92⟩ | ⟨hok, h92⟩
        · skip
          subst h91; subst h92
          refine lv_istore (lv' := [(6, .int 0), (5, .int 0), (4, .int 0), (3, .ref ou), (2, .ref mo), (1, .ref f), (0, .ref b)]) hx hb d_L_law_263 hl (by decide) rfl (fun ls hl => ?_)
          refine lv_aload_n hx hb d_L_law_265 rfl (lv_at hl 4 rfl) ?_
          have hPc := hP.sub (ws' := [(mo, .inr (5, fs_11))]) [1] rfl
          have hKc := hK.sub (tys' := []) [] rfl
          refine va_calli (va_runV (As := []) (rest := []) ⟨hx, hb, hml, hown, hts⟩ (k_M_thrown l dC dI mo fs_11 0 hfs) (cwV 0 hts (gV hsub w_401 w_402 w_403 w_266 w_404) rfl rfl rfl (by decide +kernel) ⟨Nat.le_of_ble_eq_true rfl, Nat.le_of_ble_eq_true rfl⟩) ⟨bl_0000, va_recv hKc hPc (ci := 5) (q0 := 0) rfl rfl, fun U hU hW => ⟨rfl, by rw [hU]; exact hPc, va_K.moved hW.alike hKc⟩⟩ rfl rfl hl.1 rfl (lv_room (Nat.le_of_ble_eq_true rfl)) d_L_law_266 ⟨Nat.le_of_ble_eq_true rfl, Nat.le_of_ble_eq_true rfl⟩) hS (fun q _ h => h.elim) (fun q h => h.elim) (fun r_13 u_14 t H1 locs ht hvm hw hB hz1 hk1 hS => ?_)
          have hP := ro_keep hP hk1
          generalize H1 = H at hP hS ⊢
          refine W.widen (k := 143) (n := 53751) (Nat.le_of_ble_eq_true rfl) (Nat.le_of_ble_eq_true rfl) ?_
          subst hw
          refine lv_iload hx hb d_L_law_269 (lv_at hl 1 rfl) ?_
          refine lv_icmp_eq (tgt := 276) hx hb d_L_law_271 (by decide) (fun c_15 => ?_) (fun c_15 => ?_)
          · skip
            refine lv_iload hx hb d_L_law_276 (lv_at hl 1 rfl) ?_
            refine lv_if_ne (tgt := 293) hx hb d_L_law_278 (by decide) (fun c_16 => ?_) (fun c_16 => ?_)
            · skip
              first | exact absurd c_16 (by decide) | exact absurd (by decide) c_16
            · skip
              refine lv_aload_n hx hb d_L_law_281 rfl (lv_at hl 3 rfl) ?_
              refine lv_iconst (v := 0) hx hb d_L_law_282 (by decide) ?_
              refine va_lald hx hb hK hP 0 8 rfl rfl (vp_in_iff.mpr (by decide)) d_L_law_283 ?_
              refine tp_l 0 hfo ?_
              refine lv_iload hx hb d_L_law_284 (lv_at hl 0 rfl) ?_
              refine lv_i2l (v := (0 : Int32).toInt64) hx hb d_L_law_286 rfl ?_
              refine W.lcmp hx hb d_L_law_287 ?_
              refine tp_i 0 (by decide) ?_
              refine lv_if_eq (tgt := 293) hx hb d_L_law_288 (by decide) (fun c_17 => ?_) (fun c_17 => ?_)
              · skip
                refine lv_goto (tgt := 1192) hx hb d_L_law_293 (by decide) ?_
                refine lv_iinc (v := 7) (lv' := [(4, .int 7), (6, .int 0), (5, .int 0), (3, .ref ou), (2, .ref mo), (1, .ref f), (0, .ref b)]) hx hb d_L_law_1192 hl (k := 2) rfl (by decide) (by decide) rfl (fun ls hl => ?_)
                refine lv_goto (tgt := 23) hx hb d_L_law_1195 (by decide) ?_
                refine lv_iload hx hb d_L_law_23 (lv_at hl 0 rfl) ?_
                refine lv_aload_n hx hb d_L_law_25 rfl (lv_at hl 6 rfl) ?_
                refine va_slen hx hb hX hbl hbA hS d_L_law_26 ?_
                refine tp_i 7 (rfl) ?_
                refine lv_bipush (v := 7) hx hb d_L_law_27 (by decide) ?_
                refine lv_isub hx hb d_L_law_29 ?_
                refine tp_i 0 (by decide) ?_
                refine lv_icmp_gt (tgt := 1198) hx hb d_L_law_30 (by decide) (fun c_18 => ?_) (fun c_18 => ?_)
                · skip
                  refine lv_iconst (v := 1) hx hb d_L_law_1198 (by decide) ?_
                  refine va_forget (fun q hq => hS.2.2 q hq) ?_
                  refine W.widen (k := 600002) (n := 7302232) (Nat.le_of_ble_eq_true rfl) (Nat.le_of_ble_eq_true rfl) ?_
                  exact lw_ret hx hb hr hlocks d_L_law_1199
                · skip
                  first | exact absurd c_18 (by decide) | exact absurd (by decide) c_18
              · skip
                first | exact absurd c_17 (by decide) | exact absurd (by decide) c_17
          · skip
            first | exact absurd c_15 (by decide) | exact absurd (by decide) c_15
        · skip
          first | exact absurd hok p_6 | exact absurd p_6 hok
      · skip
        first | exact absurd c_7 c_1 | exact absurd c_1 c_7
    · subst h91
      have p_19 := hok
      refine lv_istore (lv' := [(5, .int 1), (4, .int 0), (3, .ref ou), (2, .ref mo), (1, .ref f), (0, .ref b)]) hx hb d_L_law_231 hl (by decide) rfl (fun ls hl => ?_)
      refine lv_aload_n hx hb d_L_law_233 rfl (lv_at hl 3 rfl) ?_
      refine lv_aload_n hx hb d_L_law_234 rfl (lv_at hl 5 rfl) ?_
      refine lv_iload hx hb d_L_law_235 (lv_at hl 1 rfl) ?_
      refine lv_iconst (v := 1) hx hb d_L_law_237 (by decide) ?_
      refine lv_iadd hx hb d_L_law_238 ?_
      refine tp_i 1 (by decide) ?_
      refine va_sld hx hb hX hbl hbA hS (vp_in_iff.mpr (by decide)) d_L_law_239 ?_
      refine tp_i (xs 1) (congrArg xs (by decide)) ?_
      refine lv_aload_n hx hb d_L_law_240 rfl (lv_at hl 5 rfl) ?_
      refine lv_iload hx hb d_L_law_241 (lv_at hl 1 rfl) ?_
      refine lv_iconst (v := 2) hx hb d_L_law_243 (by decide) ?_
      refine lv_iadd hx hb d_L_law_244 ?_
      refine tp_i 2 (by decide) ?_
      refine va_sld hx hb hX hbl hbA hS (vp_in_iff.mpr (by decide)) d_L_law_245 ?_
      refine tp_i (xs 2) (congrArg xs (by decide)) ?_
      refine lv_aload_n hx hb d_L_law_246 rfl (lv_at hl 5 rfl) ?_
      refine lv_iload hx hb d_L_law_247 (lv_at hl 1 rfl) ?_
      refine lv_iconst (v := 3) hx hb d_L_law_249 (by decide) ?_
      refine lv_iadd hx hb d_L_law_250 ?_
      refine tp_i 3 (by decide) ?_
      refine va_sld hx hb hX hbl hbA hS (vp_in_iff.mpr (by decide)) d_L_law_251 ?_
      refine tp_i (xs 3) (congrArg xs (by decide)) ?_
      refine lv_if_eq (tgt := 259) hx hb d_L_law_252 (by decide) (fun c_20 => ?_) (fun c_20 => ?_)
      · skip
        refine lv_iconst (v := 0) hx hb d_L_law_259 (by decide) ?_
        have hPc := hP.sub (ws' := [(mo, .inr (5, [.int 0, .int 2, .ref m_above, .ref m_isFace, .int 0, .ref m_fieldClass, .ref m_fieldType, .ref m_fieldStatic, .int 0, .ref m_arguments, .ref m_argumentCount, .ref m_results, .ref m_sizes, .ref m_codes, .ref m_maxStack, .ref m_maxLocals, .ref m_handlers, .ref m_handlerFrom, .ref m_handlerTo, .ref m_handlerPlace, .ref m_handlerClass, .ref m_verified, .ref m_fault, .ref m_faultAt, .int 0, .ref m_tape, .ref m_begins, .ref m_high, .ref m_locals, .ref m_stacks, .ref m_due, .ref m_dead, .ref m_framed, .int 0, .int 0, .int 0, .int 0, .ref m_local, .ref m_before, .ref m_stack, .int 0, .ref m_given, .ref m_givenStack, .int 0, .int 0, .int 0, .ref m_cutFrom, .ref m_cutTo, .ref m_cutPlace, .ref m_cutClass, .int 0, .ref m_bytes, .ref m_was, .int 0, .ref m_now, .int 0, .ref m_ends, .ref m_statics, .int 0, .ref m_thingType, .ref m_thingSize, .ref m_elements, .ref m_slots, .int 0, .ref m_callMethod, .ref m_callPlace, .ref m_callHigh, .ref m_values, .ref m_piles, .int 0, .long 0])), (m_isFace, .inl (k_isFace, 16, .inl (fun _ => 0))), (m_fieldClass, .inl (k_fieldClass, 16, .inl (fun _ => 0))), (m_fieldType, .inl (k_fieldType, 16, .inl (fun _ => 0))), (m_fieldStatic, .inl (k_fieldStatic, 16, .inl (fun _ => 0)))]) [0, 1, 2, 3, 4] rfl
        have hKc := hK.sub (tys' := [(k_isFace, .boolean), (k_fieldClass, .int), (k_fieldType, .int), (k_fieldStatic, .boolean)]) [4, 5, 6, 7] rfl
        have hDc := hD.sub (ws' := [(mo, .inr (5, [.int 0, .int 2, .ref m_above, .ref m_isFace, .int 0, .ref m_fieldClass, .ref m_fieldType, .ref m_fieldStatic, .int 0, .ref m_arguments, .ref m_argumentCount, .ref m_results, .ref m_sizes, .ref m_codes, .ref m_maxStack, .ref m_maxLocals, .ref m_handlers, .ref m_handlerFrom, .ref m_handlerTo, .ref m_handlerPlace, .ref m_handlerClass, .ref m_verified, .ref m_fault, .ref m_faultAt, .int 0, .ref m_tape, .ref m_begins, .ref m_high, .ref m_locals, .ref m_stacks, .ref m_due, .ref m_dead, .ref m_framed, .int 0, .int 0, .int 0, .int 0, .ref m_local, .ref m_before, .ref m_stack, .int 0, .ref m_given, .ref m_givenStack, .int 0, .int 0, .int 0, .ref m_cutFrom, .ref m_cutTo, .ref m_cutPlace, .ref m_cutClass, .int 0, .ref m_bytes, .ref m_was, .int 0, .ref m_now, .int 0, .ref m_ends, .ref m_statics, .int 0, .ref m_thingType, .ref m_thingSize, .ref m_elements, .ref m_slots, .int 0, .ref m_callMethod, .ref m_callPlace, .ref m_callHigh, .ref m_values, .ref m_piles, .int 0, .long 0])), (m_isFace, .inl (k_isFace, 16, .inl (fun _ => 0))), (m_fieldClass, .inl (k_fieldClass, 16, .inl (fun _ => 0))), (m_fieldType, .inl (k_fieldType, 16, .inl (fun _ => 0))), (m_fieldStatic, .inl (k_fieldStatic, 16, .inl (fun _ => 0)))]) [0, 1, 2, 3, 4] (by decide) rfl
        have hFc := va_free (wc := [(mo, .inr (5, [.int 0, .int 2, .ref m_above, .ref m_isFace, .int 0, .ref m_fieldClass, .ref m_fieldType, .ref m_fieldStatic, .int 0, .ref m_arguments, .ref m_argumentCount, .ref m_results, .ref m_sizes, .ref m_codes, .ref m_maxStack, .ref m_maxLocals, .ref m_handlers, .ref m_handlerFrom, .ref m_handlerTo, .ref m_handlerPlace, .ref m_handlerClass, .ref m_verified, .ref m_fault, .ref m_faultAt, .int 0, .ref m_tape, .ref m_begins, .ref m_high, .ref m_locals, .ref m_stacks, .ref m_due, .ref m_dead, .ref m_framed, .int 0, .int 0, .int 0, .int 0, .ref m_local, .ref m_before, .ref m_stack, .int 0, .ref m_given, .ref m_givenStack, .int 0, .int 0, .int 0, .ref m_cutFrom, .ref m_cutTo, .ref m_cutPlace, .ref m_cutClass, .int 0, .ref m_bytes, .ref m_was, .int 0, .ref m_now, .int 0, .ref m_ends, .ref m_statics, .int 0, .ref m_thingType, .ref m_thingSize, .ref m_elements, .ref m_slots, .int 0, .ref m_callMethod, .ref m_callPlace, .ref m_callHigh, .ref m_values, .ref m_piles, .int 0, .long 0])), (m_isFace, .inl (k_isFace, 16, .inl (fun _ => 0))), (m_fieldClass, .inl (k_fieldClass, 16, .inl (fun _ => 0))), (m_fieldType, .inl (k_fieldType, 16, .inl (fun _ => 0))), (m_fieldStatic, .inl (k_fieldStatic, 16, .inl (fun _ => 0)))]) hD hS hA [0, 1, 2, 3, 4] rfl
        refine va_calli (va_runV (As := [.int (xs 1), .int (xs 2), .int 0]) (rest := []) ⟨hx, hb, hml, hown, hts⟩ (k_M_field l dC dI mo m_above m_isFace m_fieldClass m_fieldType m_fieldStatic m_arguments m_argumentCount m_results m_sizes m_codes m_maxStack m_maxLocals m_handlers m_handlerFrom m_handlerTo m_handlerPlace m_handlerClass m_verified m_fault m_faultAt m_tape m_begins m_high m_locals m_stacks m_due m_dead m_framed m_local m_before m_stack m_given m_givenStack m_cutFrom m_cutTo m_cutPlace m_cutClass m_bytes m_was m_now m_ends m_statics m_thingType m_thingSize m_elements m_slots m_callMethod m_callPlace m_callHigh m_values m_piles k_isFace k_fieldClass k_fieldType k_fieldStatic ((xs 1)) ((xs 2)) 0 H.size) (cwV 3 hts (gV hsub w_408 w_409 w_410 w_266 w_411) rfl rfl rfl (by decide +kernel) ⟨Nat.le_of_ble_eq_true rfl, Nat.le_of_ble_eq_true rfl⟩) ⟨bl_1000, va_recv hKc hPc (ci := 5) (q0 := 0) rfl rfl, fun U hU hW => ⟨rfl, by rw [hU], by rw [hU]; exact hPc, va_K.moved hW.alike hKc, hDc.weaken (fun _ _ _ _ => trivial)⟩⟩ rfl rfl hl.1 rfl (lv_room (Nat.le_of_ble_eq_true rfl)) d_L_law_260 ⟨Nat.le_of_ble_eq_true rfl, Nat.le_of_ble_eq_true rfl⟩) hS (fun q _ h => hFc q h) hFc (fun r_22 u_23 t H1 locs ht hvm hw hB hz1 hk1 hS => ?_)
        obtain ⟨fs_24, hfs, hP1, hK1, hD1⟩ := hB
        rw [ht] at hP1
        have hK1 := va_K.moved hvm.symm hK1
        obtain ⟨hP, hD⟩ := va_join (wr := [(ou, .inl (ko, 1, .inr (.inl fo_5)))]) (w1 := [(mo, .inr (5, fs_24))]) hP hD [0, 1, 2, 3, 4] [5] rfl rfl (by decide) (by decide) hk1 hFc hP1 hD1
        have hK := (hK.sub (tys' := [(ki, .boolean), (kc, .int), (kt, .int), (kx, .boolean), (k_isFace, .boolean), (k_fieldClass, .int), (k_fieldType, .int), (k_fieldStatic, .boolean), (ko, .long), (ko, .long)]) [0, 1, 2, 3, 4, 5, 6, 7, 8, 9] rfl).app hK1
        generalize H1 = H at hP hS ⊢
        have hP : va_P (dC, dI) vwCl [(ou, .inl (ko, 1, .inr (.inl fo_5))), (mo, .inr (5, fs_24))] H := hP
        have hD : va_D (fun q : Nat => s.heap.size ≤ q) [(ou, .inl (ko, 1, .inr (.inl fo_5))), (mo, .inr (5, fs_24))] := hD
        have hK : va_K (dC, dI) vwCl [(ki, .boolean), (kc, .int), (kt, .int), (kx, .boolean), (k_isFace, .boolean), (k_fieldClass, .int), (k_fieldType, .int), (k_fieldStatic, .boolean), (ko, .long), (ko, .long)] s := hK
        refine W.widen (k := 143) (n := 53751) (Nat.le_of_ble_eq_true rfl) (Nat.le_of_ble_eq_true rfl) ?_
        rcases hw with ⟨hok, h91, h92⟩ | ⟨hok, h92⟩
        · skip
          first | exact absurd hok p_19 | exact absurd p_19 hok
        · skip
          subst h92
          refine lv_istore (lv' := [(6, .int r_22), (5, .int 1), (4, .int 0), (3, .ref ou), (2, .ref mo), (1, .ref f), (0, .ref b)]) hx hb d_L_law_263 hl (by decide) rfl (fun ls hl => ?_)
          refine lv_aload_n hx hb d_L_law_265 rfl (lv_at hl 4 rfl) ?_
          have hPc := hP.sub (ws' := [(mo, .inr (5, fs_24))]) [1] rfl
          have hKc := hK.sub (tys' := []) [] rfl
          refine va_calli (va_runV (As := []) (rest := []) ⟨hx, hb, hml, hown, hts⟩ (k_M_thrown l dC dI mo fs_24 1 hfs) (cwV 0 hts (gV hsub w_401 w_402 w_403 w_266 w_404) rfl rfl rfl (by decide +kernel) ⟨Nat.le_of_ble_eq_true rfl, Nat.le_of_ble_eq_true rfl⟩) ⟨bl_0000, va_recv hKc hPc (ci := 5) (q0 := 0) rfl rfl, fun U hU hW => ⟨rfl, by rw [hU]; exact hPc, va_K.moved hW.alike hKc⟩⟩ rfl rfl hl.1 rfl (lv_room (Nat.le_of_ble_eq_true rfl)) d_L_law_266 ⟨Nat.le_of_ble_eq_true rfl, Nat.le_of_ble_eq_true rfl⟩) hS (fun q _ h => h.elim) (fun q h => h.elim) (fun r_26 u_27 t H1 locs ht hvm hw hB hz1 hk1 hS => ?_)
          have hP := ro_keep hP hk1
          generalize H1 = H at hP hS ⊢
          refine W.widen (k := 143) (n := 53751) (Nat.le_of_ble_eq_true rfl) (Nat.le_of_ble_eq_true rfl) ?_
          subst hw
          refine lv_iload hx hb d_L_law_269 (lv_at hl 1 rfl) ?_
          refine lv_icmp_eq (tgt := 276) hx hb d_L_law_271 (by decide) (fun c_28 => ?_) (fun c_28 => ?_)
          · skip
            refine lv_iload hx hb d_L_law_276 (lv_at hl 1 rfl) ?_
            refine lv_if_ne (tgt := 293) hx hb d_L_law_278 (by decide) (fun c_29 => ?_) (fun c_29 => ?_)
            · skip
              refine lv_goto (tgt := 1192) hx hb d_L_law_293 (by decide) ?_
              refine lv_iinc (v := 7) (lv' := [(4, .int 7), (6, .int r_22), (5, .int 1), (3, .ref ou), (2, .ref mo), (1, .ref f), (0, .ref b)]) hx hb d_L_law_1192 hl (k := 2) rfl (by decide) (by decide) rfl (fun ls hl => ?_)
              refine lv_goto (tgt := 23) hx hb d_L_law_1195 (by decide) ?_
              refine lv_iload hx hb d_L_law_23 (lv_at hl 0 rfl) ?_
              refine lv_aload_n hx hb d_L_law_25 rfl (lv_at hl 6 rfl) ?_
              refine va_slen hx hb hX hbl hbA hS d_L_law_26 ?_
              refine tp_i 7 (rfl) ?_
              refine lv_bipush (v := 7) hx hb d_L_law_27 (by decide) ?_
              refine lv_isub hx hb d_L_law_29 ?_
              refine tp_i 0 (by decide) ?_
              refine lv_icmp_gt (tgt := 1198) hx hb d_L_law_30 (by decide) (fun c_30 => ?_) (fun c_30 => ?_)
              · skip
                refine lv_iconst (v := 1) hx hb d_L_law_1198 (by decide) ?_
                refine va_forget (fun q hq => hS.2.2 q hq) ?_
                refine W.widen (k := 600002) (n := 7302232) (Nat.le_of_ble_eq_true rfl) (Nat.le_of_ble_eq_true rfl) ?_
                exact lw_ret hx hb hr hlocks d_L_law_1199
              · skip
                first | exact absurd c_30 (by decide) | exact absurd (by decide) c_30
            · skip
              first | exact absurd c_29 (by decide) | exact absurd (by decide) c_29
          · skip
            first | exact absurd c_28 (by decide) | exact absurd (by decide) c_28
      · skip
        first | exact absurd c_20 c_1 | exact absurd c_1 c_20
  · skip
    refine lv_iconst (v := 1) hx hb d_L_law_222 (by decide) ?_
    refine lv_goto (tgt := 227) hx hb d_L_law_223 (by decide) ?_
    refine lv_aload_n hx hb d_L_law_227 rfl (lv_at hl 1 rfl) ?_
    have hPc := hP.sub (ws' := [(f, .inr (4, [.ref w, .ref k, .ref tp, .int 0])), (w, .inr (3, [.ref wp, .ref wu, .ref wi, .int 2, .ref wc, .ref wt, .ref wx, .int 0, .ref wm, .int 0])), (wi, .inl (ki, 16, .inl (fun _ => 0))), (wc, .inl (kc, 16, .inl (fun _ => 0))), (wt, .inl (kt, 16, .inl (fun _ => 0))), (wx, .inl (kx, 16, .inl (fun _ => 0))), (ou, .inl (ko, 1, .inr (.inl (fun _ => 0))))]) [0, 1, 2, 3, 4, 5, 11] rfl
    have hKc := hK.sub (tys' := [(ki, .boolean), (kc, .int), (kt, .int), (kx, .boolean), (ko, .long)]) [0, 1, 2, 3, 8] rfl
    have hDc := hD.sub (ws' := [(f, .inr (4, [.ref w, .ref k, .ref tp, .int 0])), (w, .inr (3, [.ref wp, .ref wu, .ref wi, .int 2, .ref wc, .ref wt, .ref wx, .int 0, .ref wm, .int 0])), (wi, .inl (ki, 16, .inl (fun _ => 0))), (wc, .inl (kc, 16, .inl (fun _ => 0))), (wt, .inl (kt, 16, .inl (fun _ => 0))), (wx, .inl (kx, 16, .inl (fun _ => 0))), (ou, .inl (ko, 1, .inr (.inl (fun _ => 0))))]) [0, 1, 2, 3, 4, 5, 11] (by decide) rfl
    have hFc := va_free (wc := [(f, .inr (4, [.ref w, .ref k, .ref tp, .int 0])), (w, .inr (3, [.ref wp, .ref wu, .ref wi, .int 2, .ref wc, .ref wt, .ref wx, .int 0, .ref wm, .int 0])), (wi, .inl (ki, 16, .inl (fun _ => 0))), (wc, .inl (kc, 16, .inl (fun _ => 0))), (wt, .inl (kt, 16, .inl (fun _ => 0))), (wx, .inl (kx, 16, .inl (fun _ => 0))), (ou, .inl (ko, 1, .inr (.inl (fun _ => 0))))]) hD hS hA [0, 1, 2, 3, 4, 5, 11] rfl
    refine va_calli (vx_runSW (As := [.ref f, .int (xs 1), .int (xs 2), .int 1, .ref ou]) (rest := []) ⟨hx, hb, hml, hown, hts⟩ (k_L_field l hl9 dC dI f w k tp wp wu wi wc wt wx wm ki kc kt kx ((xs 1)) ((xs 2)) 1 ou ko (fun _ => 0) H.size) (vx_cwSW 5 hts (gS hsub w_405 w_406 w_395 w_407) rfl rfl rfl (by decide +kernel) ⟨Nat.le_of_ble_eq_true rfl, Nat.le_of_ble_eq_true rfl⟩) ⟨bl_1010, fun U hU hW => ⟨rfl, by rw [hU], by rw [hU]; exact hPc, va_K.moved hW.alike hKc, hDc.weaken (fun _ _ _ _ => trivial), exP_go hex hS (fun q h => hFc q h) U hU hW⟩⟩ rfl rfl hl.1 rfl (lv_room (Nat.le_of_ble_eq_true rfl)) d_L_law_228 ⟨Nat.le_of_ble_eq_true rfl, Nat.le_of_ble_eq_true rfl⟩) hS (fun q _ h => hFc q h) hFc (fun r_32 u_33 t H1 locs ht hvm hw hB hz1 hk1 hS => ?_)
    obtain ⟨fo_34, hfo, hP1, hK1, hD1⟩ := hB
    rw [ht] at hP1
    have hK1 := va_K.moved hvm.symm hK1
    obtain ⟨hP, hD⟩ := va_join (wr := [(mo, .inr (5, [.int 0, .int 2, .ref m_above, .ref m_isFace, .int 0, .ref m_fieldClass, .ref m_fieldType, .ref m_fieldStatic, .int 0, .ref m_arguments, .ref m_argumentCount, .ref m_results, .ref m_sizes, .ref m_codes, .ref m_maxStack, .ref m_maxLocals, .ref m_handlers, .ref m_handlerFrom, .ref m_handlerTo, .ref m_handlerPlace, .ref m_handlerClass, .ref m_verified, .ref m_fault, .ref m_faultAt, .int 0, .ref m_tape, .ref m_begins, .ref m_high, .ref m_locals, .ref m_stacks, .ref m_due, .ref m_dead, .ref m_framed, .int 0, .int 0, .int 0, .int 0, .ref m_local, .ref m_before, .ref m_stack, .int 0, .ref m_given, .ref m_givenStack, .int 0, .int 0, .int 0, .ref m_cutFrom, .ref m_cutTo, .ref m_cutPlace, .ref m_cutClass, .int 0, .ref m_bytes, .ref m_was, .int 0, .ref m_now, .int 0, .ref m_ends, .ref m_statics, .int 0, .ref m_thingType, .ref m_thingSize, .ref m_elements, .ref m_slots, .int 0, .ref m_callMethod, .ref m_callPlace, .ref m_callHigh, .ref m_values, .ref m_piles, .int 0, .long 0])), (m_isFace, .inl (k_isFace, 16, .inl (fun _ => 0))), (m_fieldClass, .inl (k_fieldClass, 16, .inl (fun _ => 0))), (m_fieldType, .inl (k_fieldType, 16, .inl (fun _ => 0))), (m_fieldStatic, .inl (k_fieldStatic, 16, .inl (fun _ => 0)))]) (w1 := [(ou, .inl (ko, 1, .inr (.inl fo_34)))]) hP hD [0, 1, 2, 3, 4, 5, 11] [6, 7, 8, 9, 10] rfl rfl (by decide) (by decide) hk1 hFc hP1 hD1
    have hK := (hK.sub (tys' := [(ki, .boolean), (kc, .int), (kt, .int), (kx, .boolean), (k_isFace, .boolean), (k_fieldClass, .int), (k_fieldType, .int), (k_fieldStatic, .boolean), (ko, .long)]) [0, 1, 2, 3, 4, 5, 6, 7, 8] rfl).app hK1
    generalize H1 = H at hP hS ⊢
    have hP : va_P (dC, dI) vwCl [(mo, .inr (5, [.int 0, .int 2, .ref m_above, .ref m_isFace, .int 0, .ref m_fieldClass, .ref m_fieldType, .ref m_fieldStatic, .int 0, .ref m_arguments, .ref m_argumentCount, .ref m_results, .ref m_sizes, .ref m_codes, .ref m_maxStack, .ref m_maxLocals, .ref m_handlers, .ref m_handlerFrom, .ref m_handlerTo, .ref m_handlerPlace, .ref m_handlerClass, .ref m_verified, .ref m_fault, .ref m_faultAt, .int 0, .ref m_tape, .ref m_begins, .ref m_high, .ref m_locals, .ref m_stacks, .ref m_due, .ref m_dead, .ref m_framed, .int 0, .int 0, .int 0, .int 0, .ref m_local, .ref m_before, .ref m_stack, .int 0, .ref m_given, .ref m_givenStack, .int 0, .int 0, .int 0, .ref m_cutFrom, .ref m_cutTo, .ref m_cutPlace, .ref m_cutClass, .int 0, .ref m_bytes, .ref m_was, .int 0, .ref m_now, .int 0, .ref m_ends, .ref m_statics, .int 0, .ref m_thingType, .ref m_thingSize, .ref m_elements, .ref m_slots, .int 0, .ref m_callMethod, .ref m_callPlace, .ref m_callHigh, .ref m_values, .ref m_piles, .int 0, .long 0])), (m_isFace, .inl (k_isFace, 16, .inl (fun _ => 0))), (m_fieldClass, .inl (k_fieldClass, 16, .inl (fun _ => 0))), (m_fieldType, .inl (k_fieldType, 16, .inl (fun _ => 0))), (m_fieldStatic, .inl (k_fieldStatic, 16, .inl (fun _ => 0))), (ou, .inl (ko, 1, .inr (.inl fo_34)))] H := hP
    have hD : va_D (fun q : Nat => s.heap.size ≤ q) [(mo, .inr (5, [.int 0, .int 2, .ref m_above, .ref m_isFace, .int 0, .ref m_fieldClass, .ref m_fieldType, .ref m_fieldStatic, .int 0, .ref m_arguments, .ref m_argumentCount, .ref m_results, .ref m_sizes, .ref m_codes, .ref m_maxStack, .ref m_maxLocals, .ref m_handlers, .ref m_handlerFrom, .ref m_handlerTo, .ref m_handlerPlace, .ref m_handlerClass, .ref m_verified, .ref m_fault, .ref m_faultAt, .int 0, .ref m_tape, .ref m_begins, .ref m_high, .ref m_locals, .ref m_stacks, .ref m_due, .ref m_dead, .ref m_framed, .int 0, .int 0, .int 0, .int 0, .ref m_local, .ref m_before, .ref m_stack, .int 0, .ref m_given, .ref m_givenStack, .int 0, .int 0, .int 0, .ref m_cutFrom, .ref m_cutTo, .ref m_cutPlace, .ref m_cutClass, .int 0, .ref m_bytes, .ref m_was, .int 0, .ref m_now, .int 0, .ref m_ends, .ref m_statics, .int 0, .ref m_thingType, .ref m_thingSize, .ref m_elements, .ref m_slots, .int 0, .ref m_callMethod, .ref m_callPlace, .ref m_callHigh, .ref m_values, .ref m_piles, .int 0, .long 0])), (m_isFace, .inl (k_isFace, 16, .inl (fun _ => 0))), (m_fieldClass, .inl (k_fieldClass, 16, .inl (fun _ => 0))), (m_fieldType, .inl (k_fieldType, 16, .inl (fun _ => 0))), (m_fieldStatic, .inl (k_fieldStatic, 16, .inl (fun _ => 0))), (ou, .inl (ko, 1, .inr (.inl fo_34)))] := hD
    have hK : va_K (dC, dI) vwCl [(ki, .boolean), (kc, .int), (kt, .int), (kx, .boolean), (k_isFace, .boolean), (k_fieldClass, .int), (k_fieldType, .int), (k_fieldStatic, .boolean), (ko, .long), (ko, .long)] s := hK
    refine W.widen (k := 143) (n := 53751) (Nat.le_of_ble_eq_true rfl) (Nat.le_of_ble_eq_true rfl) ?_
    rcases hw with ⟨hok, h91, h92⟩ | ⟨hok, h91⟩
    · subst h91; subst h92
      have p_35 := hok
      refine lv_istore (lv' := [(5, .int 0), (4, .int 0), (3, .ref ou), (2, .ref mo), (1, .ref f), (0, .ref b)]) hx hb d_L_law_231 hl (by decide) rfl (fun ls hl => ?_)
      refine lv_aload_n hx hb d_L_law_233 rfl (lv_at hl 3 rfl) ?_
      refine lv_aload_n hx hb d_L_law_234 rfl (lv_at hl 5 rfl) ?_
      refine lv_iload hx hb d_L_law_235 (lv_at hl 1 rfl) ?_
      refine lv_iconst (v := 1) hx hb d_L_law_237 (by decide) ?_
      refine lv_iadd hx hb d_L_law_238 ?_
      refine tp_i 1 (by decide) ?_
      refine va_sld hx hb hX hbl hbA hS (vp_in_iff.mpr (by decide)) d_L_law_239 ?_
      refine tp_i (xs 1) (congrArg xs (by decide)) ?_
      refine lv_aload_n hx hb d_L_law_240 rfl (lv_at hl 5 rfl) ?_
      refine lv_iload hx hb d_L_law_241 (lv_at hl 1 rfl) ?_
      refine lv_iconst (v := 2) hx hb d_L_law_243 (by decide) ?_
      refine lv_iadd hx hb d_L_law_244 ?_
      refine tp_i 2 (by decide) ?_
      refine va_sld hx hb hX hbl hbA hS (vp_in_iff.mpr (by decide)) d_L_law_245 ?_
      refine tp_i (xs 2) (congrArg xs (by decide)) ?_
      refine lv_aload_n hx hb d_L_law_246 rfl (lv_at hl 5 rfl) ?_
      refine lv_iload hx hb d_L_law_247 (lv_at hl 1 rfl) ?_
      refine lv_iconst (v := 3) hx hb d_L_law_249 (by decide) ?_
      refine lv_iadd hx hb d_L_law_250 ?_
      refine tp_i 3 (by decide) ?_
      refine va_sld hx hb hX hbl hbA hS (vp_in_iff.mpr (by decide)) d_L_law_251 ?_
      refine tp_i (xs 3) (congrArg xs (by decide)) ?_
      refine lv_if_eq (tgt := 259) hx hb d_L_law_252 (by decide) (fun c_36 => ?_) (fun c_36 => ?_)
      · skip
        first | exact absurd c_36 c_1 | exact absurd c_1 c_36
      · skip
        refine lv_iconst (v := 1) hx hb d_L_law_255 (by decide) ?_
        refine lv_goto (tgt := 260) hx hb d_L_law_256 (by decide) ?_
        have hPc := hP.sub (ws' := [(mo, .inr (5, [.int 0, .int 2, .ref m_above, .ref m_isFace, .int 0, .ref m_fieldClass, .ref m_fieldType, .ref m_fieldStatic, .int 0, .ref m_arguments, .ref m_argumentCount, .ref m_results, .ref m_sizes, .ref m_codes, .ref m_maxStack, .ref m_maxLocals, .ref m_handlers, .ref m_handlerFrom, .ref m_handlerTo, .ref m_handlerPlace, .ref m_handlerClass, .ref m_verified, .ref m_fault, .ref m_faultAt, .int 0, .ref m_tape, .ref m_begins, .ref m_high, .ref m_locals, .ref m_stacks, .ref m_due, .ref m_dead, .ref m_framed, .int 0, .int 0, .int 0, .int 0, .ref m_local, .ref m_before, .ref m_stack, .int 0, .ref m_given, .ref m_givenStack, .int 0, .int 0, .int 0, .ref m_cutFrom, .ref m_cutTo, .ref m_cutPlace, .ref m_cutClass, .int 0, .ref m_bytes, .ref m_was, .int 0, .ref m_now, .int 0, .ref m_ends, .ref m_statics, .int 0, .ref m_thingType, .ref m_thingSize, .ref m_elements, .ref m_slots, .int 0, .ref m_callMethod, .ref m_callPlace, .ref m_callHigh, .ref m_values, .ref m_piles, .int 0, .long 0])), (m_isFace, .inl (k_isFace, 16, .inl (fun _ => 0))), (m_fieldClass, .inl (k_fieldClass, 16, .inl (fun _ => 0))), (m_fieldType, .inl (k_fieldType, 16, .inl (fun _ => 0))), (m_fieldStatic, .inl (k_fieldStatic, 16, .inl (fun _ => 0)))]) [0, 1, 2, 3, 4] rfl
        have hKc := hK.sub (tys' := [(k_isFace, .boolean), (k_fieldClass, .int), (k_fieldType, .int), (k_fieldStatic, .boolean)]) [4, 5, 6, 7] rfl
        have hDc := hD.sub (ws' := [(mo, .inr (5, [.int 0, .int 2, .ref m_above, .ref m_isFace, .int 0, .ref m_fieldClass, .ref m_fieldType, .ref m_fieldStatic, .int 0, .ref m_arguments, .ref m_argumentCount, .ref m_results, .ref m_sizes, .ref m_codes, .ref m_maxStack, .ref m_maxLocals, .ref m_handlers, .ref m_handlerFrom, .ref m_handlerTo, .ref m_handlerPlace, .ref m_handlerClass, .ref m_verified, .ref m_fault, .ref m_faultAt, .int 0, .ref m_tape, .ref m_begins, .ref m_high, .ref m_locals, .ref m_stacks, .ref m_due, .ref m_dead, .ref m_framed, .int 0, .int 0, .int 0, .int 0, .ref m_local, .ref m_before, .ref m_stack, .int 0, .ref m_given, .ref m_givenStack, .int 0, .int 0, .int 0, .ref m_cutFrom, .ref m_cutTo, .ref m_cutPlace, .ref m_cutClass, .int 0, .ref m_bytes, .ref m_was, .int 0, .ref m_now, .int 0, .ref m_ends, .ref m_statics, .int 0, .ref m_thingType, .ref m_thingSize, .ref m_elements, .ref m_slots, .int 0, .ref m_callMethod, .ref m_callPlace, .ref m_callHigh, .ref m_values, .ref m_piles, .int 0, .long 0])), (m_isFace, .inl (k_isFace, 16, .inl (fun _ => 0))), (m_fieldClass, .inl (k_fieldClass, 16, .inl (fun _ => 0))), (m_fieldType, .inl (k_fieldType, 16, .inl (fun _ => 0))), (m_fieldStatic, .inl (k_fieldStatic, 16, .inl (fun _ => 0)))]) [0, 1, 2, 3, 4] (by decide) rfl
        have hFc := va_free (wc := [(mo, .inr (5, [.int 0, .int 2, .ref m_above, .ref m_isFace, .int 0, .ref m_fieldClass, .ref m_fieldType, .ref m_fieldStatic, .int 0, .ref m_arguments, .ref m_argumentCount, .ref m_results, .ref m_sizes, .ref m_codes, .ref m_maxStack, .ref m_maxLocals, .ref m_handlers, .ref m_handlerFrom, .ref m_handlerTo, .ref m_handlerPlace, .ref m_handlerClass, .ref m_verified, .ref m_fault, .ref m_faultAt, .int 0, .ref m_tape, .ref m_begins, .ref m_high, .ref m_locals, .ref m_stacks, .ref m_due, .ref m_dead, .ref m_framed, .int 0, .int 0, .int 0, .int 0, .ref m_local, .ref m_before, .ref m_stack, .int 0, .ref m_given, .ref m_givenStack, .int 0, .int 0, .int 0, .ref m_cutFrom, .ref m_cutTo, .ref m_cutPlace, .ref m_cutClass, .int 0, .ref m_bytes, .ref m_was, .int 0, .ref m_now, .int 0, .ref m_ends, .ref m_statics, .int 0, .ref m_thingType, .ref m_thingSize, .ref m_elements, .ref m_slots, .int 0, .ref m_callMethod, .ref m_callPlace, .ref m_callHigh, .ref m_values, .ref m_piles, .int 0, .long 0])), (m_isFace, .inl (k_isFace, 16, .inl (fun _ => 0))), (m_fieldClass, .inl (k_fieldClass, 16, .inl (fun _ => 0))), (m_fieldType, .inl (k_fieldType, 16, .inl (fun _ => 0))), (m_fieldStatic, .inl (k_fieldStatic, 16, .inl (fun _ => 0)))]) hD hS hA [0, 1, 2, 3, 4] rfl
        refine va_calli (va_runV (As := [.int (xs 1), .int (xs 2), .int 1]) (rest := []) ⟨hx, hb, hml, hown, hts⟩ (k_M_field l dC dI mo m_above m_isFace m_fieldClass m_fieldType m_fieldStatic m_arguments m_argumentCount m_results m_sizes m_codes m_maxStack m_maxLocals m_handlers m_handlerFrom m_handlerTo m_handlerPlace m_handlerClass m_verified m_fault m_faultAt m_tape m_begins m_high m_locals m_stacks m_due m_dead m_framed m_local m_before m_stack m_given m_givenStack m_cutFrom m_cutTo m_cutPlace m_cutClass m_bytes m_was m_now m_ends m_statics m_thingType m_thingSize m_elements m_slots m_callMethod m_callPlace m_callHigh m_values m_piles k_isFace k_fieldClass k_fieldType k_fieldStatic ((xs 1)) ((xs 2)) 1 H.size) (cwV 3 hts (gV hsub w_408 w_409 w_410 w_266 w_411) rfl rfl rfl (by decide +kernel) ⟨Nat.le_of_ble_eq_true rfl, Nat.le_of_ble_eq_true rfl⟩) ⟨bl_1000, va_recv hKc hPc (ci := 5) (q0 := 0) rfl rfl, fun U hU hW => ⟨rfl, by rw [hU], by rw [hU]; exact hPc, va_K.moved hW.alike hKc, hDc.weaken (fun _ _ _ _ => trivial)⟩⟩ rfl rfl hl.1 rfl (lv_room (Nat.le_of_ble_eq_true rfl)) d_L_law_260 ⟨Nat.le_of_ble_eq_true rfl, Nat.le_of_ble_eq_true rfl⟩) hS (fun q _ h => hFc q h) hFc (fun r_38 u_39 t H1 locs ht hvm hw hB hz1 hk1 hS => ?_)
        obtain ⟨fs_40, hfs, hP1, hK1, hD1⟩ := hB
        rw [ht] at hP1
        have hK1 := va_K.moved hvm.symm hK1
        obtain ⟨hP, hD⟩ := va_join (wr := [(ou, .inl (ko, 1, .inr (.inl fo_34)))]) (w1 := [(mo, .inr (5, fs_40))]) hP hD [0, 1, 2, 3, 4] [5] rfl rfl (by decide) (by decide) hk1 hFc hP1 hD1
        have hK := (hK.sub (tys' := [(ki, .boolean), (kc, .int), (kt, .int), (kx, .boolean), (k_isFace, .boolean), (k_fieldClass, .int), (k_fieldType, .int), (k_fieldStatic, .boolean), (ko, .long), (ko, .long)]) [0, 1, 2, 3, 4, 5, 6, 7, 8, 9] rfl).app hK1
        generalize H1 = H at hP hS ⊢
        have hP : va_P (dC, dI) vwCl [(ou, .inl (ko, 1, .inr (.inl fo_34))), (mo, .inr (5, fs_40))] H := hP
        have hD : va_D (fun q : Nat => s.heap.size ≤ q) [(ou, .inl (ko, 1, .inr (.inl fo_34))), (mo, .inr (5, fs_40))] := hD
        have hK : va_K (dC, dI) vwCl [(ki, .boolean), (kc, .int), (kt, .int), (kx, .boolean), (k_isFace, .boolean), (k_fieldClass, .int), (k_fieldType, .int), (k_fieldStatic, .boolean), (ko, .long), (ko, .long)] s := hK
        refine W.widen (k := 143) (n := 53751) (Nat.le_of_ble_eq_true rfl) (Nat.le_of_ble_eq_true rfl) ?_
        rcases hw with ⟨hok, h91, h92⟩ | ⟨hok, h92⟩
        · skip
          subst h91; subst h92
          refine lv_istore (lv' := [(6, .int 0), (5, .int 0), (4, .int 0), (3, .ref ou), (2, .ref mo), (1, .ref f), (0, .ref b)]) hx hb d_L_law_263 hl (by decide) rfl (fun ls hl => ?_)
          refine lv_aload_n hx hb d_L_law_265 rfl (lv_at hl 4 rfl) ?_
          have hPc := hP.sub (ws' := [(mo, .inr (5, fs_40))]) [1] rfl
          have hKc := hK.sub (tys' := []) [] rfl
          refine va_calli (va_runV (As := []) (rest := []) ⟨hx, hb, hml, hown, hts⟩ (k_M_thrown l dC dI mo fs_40 0 hfs) (cwV 0 hts (gV hsub w_401 w_402 w_403 w_266 w_404) rfl rfl rfl (by decide +kernel) ⟨Nat.le_of_ble_eq_true rfl, Nat.le_of_ble_eq_true rfl⟩) ⟨bl_0000, va_recv hKc hPc (ci := 5) (q0 := 0) rfl rfl, fun U hU hW => ⟨rfl, by rw [hU]; exact hPc, va_K.moved hW.alike hKc⟩⟩ rfl rfl hl.1 rfl (lv_room (Nat.le_of_ble_eq_true rfl)) d_L_law_266 ⟨Nat.le_of_ble_eq_true rfl, Nat.le_of_ble_eq_true rfl⟩) hS (fun q _ h => h.elim) (fun q h => h.elim) (fun r_42 u_43 t H1 locs ht hvm hw hB hz1 hk1 hS => ?_)
          have hP := ro_keep hP hk1
          generalize H1 = H at hP hS ⊢
          refine W.widen (k := 143) (n := 53751) (Nat.le_of_ble_eq_true rfl) (Nat.le_of_ble_eq_true rfl) ?_
          subst hw
          refine lv_iload hx hb d_L_law_269 (lv_at hl 1 rfl) ?_
          refine lv_icmp_eq (tgt := 276) hx hb d_L_law_271 (by decide) (fun c_44 => ?_) (fun c_44 => ?_)
          · skip
            refine lv_iload hx hb d_L_law_276 (lv_at hl 1 rfl) ?_
            refine lv_if_ne (tgt := 293) hx hb d_L_law_278 (by decide) (fun c_45 => ?_) (fun c_45 => ?_)
            · skip
              first | exact absurd c_45 (by decide) | exact absurd (by decide) c_45
            · skip
              refine lv_aload_n hx hb d_L_law_281 rfl (lv_at hl 3 rfl) ?_
              refine lv_iconst (v := 0) hx hb d_L_law_282 (by decide) ?_
              refine va_lald hx hb hK hP 0 8 rfl rfl (vp_in_iff.mpr (by decide)) d_L_law_283 ?_
              refine tp_l 0 hfo ?_
              refine lv_iload hx hb d_L_law_284 (lv_at hl 0 rfl) ?_
              refine lv_i2l (v := (0 : Int32).toInt64) hx hb d_L_law_286 rfl ?_
              refine W.lcmp hx hb d_L_law_287 ?_
              refine tp_i 0 (by decide) ?_
              refine lv_if_eq (tgt := 293) hx hb d_L_law_288 (by decide) (fun c_46 => ?_) (fun c_46 => ?_)
              · skip
                refine lv_goto (tgt := 1192) hx hb d_L_law_293 (by decide) ?_
                refine lv_iinc (v := 7) (lv' := [(4, .int 7), (6, .int 0), (5, .int 0), (3, .ref ou), (2, .ref mo), (1, .ref f), (0, .ref b)]) hx hb d_L_law_1192 hl (k := 2) rfl (by decide) (by decide) rfl (fun ls hl => ?_)
                refine lv_goto (tgt := 23) hx hb d_L_law_1195 (by decide) ?_
                refine lv_iload hx hb d_L_law_23 (lv_at hl 0 rfl) ?_
                refine lv_aload_n hx hb d_L_law_25 rfl (lv_at hl 6 rfl) ?_
                refine va_slen hx hb hX hbl hbA hS d_L_law_26 ?_
                refine tp_i 7 (rfl) ?_
                refine lv_bipush (v := 7) hx hb d_L_law_27 (by decide) ?_
                refine lv_isub hx hb d_L_law_29 ?_
                refine tp_i 0 (by decide) ?_
                refine lv_icmp_gt (tgt := 1198) hx hb d_L_law_30 (by decide) (fun c_47 => ?_) (fun c_47 => ?_)
                · skip
                  refine lv_iconst (v := 1) hx hb d_L_law_1198 (by decide) ?_
                  refine va_forget (fun q hq => hS.2.2 q hq) ?_
                  refine W.widen (k := 600002) (n := 7302232) (Nat.le_of_ble_eq_true rfl) (Nat.le_of_ble_eq_true rfl) ?_
                  exact lw_ret hx hb hr hlocks d_L_law_1199
                · skip
                  first | exact absurd c_47 (by decide) | exact absurd (by decide) c_47
              · skip
                first | exact absurd c_46 (by decide) | exact absurd (by decide) c_46
          · skip
            first | exact absurd c_44 (by decide) | exact absurd (by decide) c_44
        · skip
          first | exact absurd hok p_35 | exact absurd p_35 hok
    · subst h91
      have p_48 := hok
      refine lv_istore (lv' := [(5, .int 1), (4, .int 0), (3, .ref ou), (2, .ref mo), (1, .ref f), (0, .ref b)]) hx hb d_L_law_231 hl (by decide) rfl (fun ls hl => ?_)
      refine lv_aload_n hx hb d_L_law_233 rfl (lv_at hl 3 rfl) ?_
      refine lv_aload_n hx hb d_L_law_234 rfl (lv_at hl 5 rfl) ?_
      refine lv_iload hx hb d_L_law_235 (lv_at hl 1 rfl) ?_
      refine lv_iconst (v := 1) hx hb d_L_law_237 (by decide) ?_
      refine lv_iadd hx hb d_L_law_238 ?_
      refine tp_i 1 (by decide) ?_
      refine va_sld hx hb hX hbl hbA hS (vp_in_iff.mpr (by decide)) d_L_law_239 ?_
      refine tp_i (xs 1) (congrArg xs (by decide)) ?_
      refine lv_aload_n hx hb d_L_law_240 rfl (lv_at hl 5 rfl) ?_
      refine lv_iload hx hb d_L_law_241 (lv_at hl 1 rfl) ?_
      refine lv_iconst (v := 2) hx hb d_L_law_243 (by decide) ?_
      refine lv_iadd hx hb d_L_law_244 ?_
      refine tp_i 2 (by decide) ?_
      refine va_sld hx hb hX hbl hbA hS (vp_in_iff.mpr (by decide)) d_L_law_245 ?_
      refine tp_i (xs 2) (congrArg xs (by decide)) ?_
      refine lv_aload_n hx hb d_L_law_246 rfl (lv_at hl 5 rfl) ?_
      refine lv_iload hx hb d_L_law_247 (lv_at hl 1 rfl) ?_
      refine lv_iconst (v := 3) hx hb d_L_law_249 (by decide) ?_
      refine lv_iadd hx hb d_L_law_250 ?_
      refine tp_i 3 (by decide) ?_
      refine va_sld hx hb hX hbl hbA hS (vp_in_iff.mpr (by decide)) d_L_law_251 ?_
      refine tp_i (xs 3) (congrArg xs (by decide)) ?_
      refine lv_if_eq (tgt := 259) hx hb d_L_law_252 (by decide) (fun c_49 => ?_) (fun c_49 => ?_)
      · skip
        first | exact absurd c_49 c_1 | exact absurd c_1 c_49
      · skip
        refine lv_iconst (v := 1) hx hb d_L_law_255 (by decide) ?_
        refine lv_goto (tgt := 260) hx hb d_L_law_256 (by decide) ?_
        have hPc := hP.sub (ws' := [(mo, .inr (5, [.int 0, .int 2, .ref m_above, .ref m_isFace, .int 0, .ref m_fieldClass, .ref m_fieldType, .ref m_fieldStatic, .int 0, .ref m_arguments, .ref m_argumentCount, .ref m_results, .ref m_sizes, .ref m_codes, .ref m_maxStack, .ref m_maxLocals, .ref m_handlers, .ref m_handlerFrom, .ref m_handlerTo, .ref m_handlerPlace, .ref m_handlerClass, .ref m_verified, .ref m_fault, .ref m_faultAt, .int 0, .ref m_tape, .ref m_begins, .ref m_high, .ref m_locals, .ref m_stacks, .ref m_due, .ref m_dead, .ref m_framed, .int 0, .int 0, .int 0, .int 0, .ref m_local, .ref m_before, .ref m_stack, .int 0, .ref m_given, .ref m_givenStack, .int 0, .int 0, .int 0, .ref m_cutFrom, .ref m_cutTo, .ref m_cutPlace, .ref m_cutClass, .int 0, .ref m_bytes, .ref m_was, .int 0, .ref m_now, .int 0, .ref m_ends, .ref m_statics, .int 0, .ref m_thingType, .ref m_thingSize, .ref m_elements, .ref m_slots, .int 0, .ref m_callMethod, .ref m_callPlace, .ref m_callHigh, .ref m_values, .ref m_piles, .int 0, .long 0])), (m_isFace, .inl (k_isFace, 16, .inl (fun _ => 0))), (m_fieldClass, .inl (k_fieldClass, 16, .inl (fun _ => 0))), (m_fieldType, .inl (k_fieldType, 16, .inl (fun _ => 0))), (m_fieldStatic, .inl (k_fieldStatic, 16, .inl (fun _ => 0)))]) [0, 1, 2, 3, 4] rfl
        have hKc := hK.sub (tys' := [(k_isFace, .boolean), (k_fieldClass, .int), (k_fieldType, .int), (k_fieldStatic, .boolean)]) [4, 5, 6, 7] rfl
        have hDc := hD.sub (ws' := [(mo, .inr (5, [.int 0, .int 2, .ref m_above, .ref m_isFace, .int 0, .ref m_fieldClass, .ref m_fieldType, .ref m_fieldStatic, .int 0, .ref m_arguments, .ref m_argumentCount, .ref m_results, .ref m_sizes, .ref m_codes, .ref m_maxStack, .ref m_maxLocals, .ref m_handlers, .ref m_handlerFrom, .ref m_handlerTo, .ref m_handlerPlace, .ref m_handlerClass, .ref m_verified, .ref m_fault, .ref m_faultAt, .int 0, .ref m_tape, .ref m_begins, .ref m_high, .ref m_locals, .ref m_stacks, .ref m_due, .ref m_dead, .ref m_framed, .int 0, .int 0, .int 0, .int 0, .ref m_local, .ref m_before, .ref m_stack, .int 0, .ref m_given, .ref m_givenStack, .int 0, .int 0, .int 0, .ref m_cutFrom, .ref m_cutTo, .ref m_cutPlace, .ref m_cutClass, .int 0, .ref m_bytes, .ref m_was, .int 0, .ref m_now, .int 0, .ref m_ends, .ref m_statics, .int 0, .ref m_thingType, .ref m_thingSize, .ref m_elements, .ref m_slots, .int 0, .ref m_callMethod, .ref m_callPlace, .ref m_callHigh, .ref m_values, .ref m_piles, .int 0, .long 0])), (m_isFace, .inl (k_isFace, 16, .inl (fun _ => 0))), (m_fieldClass, .inl (k_fieldClass, 16, .inl (fun _ => 0))), (m_fieldType, .inl (k_fieldType, 16, .inl (fun _ => 0))), (m_fieldStatic, .inl (k_fieldStatic, 16, .inl (fun _ => 0)))]) [0, 1, 2, 3, 4] (by decide) rfl
        have hFc := va_free (wc := [(mo, .inr (5, [.int 0, .int 2, .ref m_above, .ref m_isFace, .int 0, .ref m_fieldClass, .ref m_fieldType, .ref m_fieldStatic, .int 0, .ref m_arguments, .ref m_argumentCount, .ref m_results, .ref m_sizes, .ref m_codes, .ref m_maxStack, .ref m_maxLocals, .ref m_handlers, .ref m_handlerFrom, .ref m_handlerTo, .ref m_handlerPlace, .ref m_handlerClass, .ref m_verified, .ref m_fault, .ref m_faultAt, .int 0, .ref m_tape, .ref m_begins, .ref m_high, .ref m_locals, .ref m_stacks, .ref m_due, .ref m_dead, .ref m_framed, .int 0, .int 0, .int 0, .int 0, .ref m_local, .ref m_before, .ref m_stack, .int 0, .ref m_given, .ref m_givenStack, .int 0, .int 0, .int 0, .ref m_cutFrom, .ref m_cutTo, .ref m_cutPlace, .ref m_cutClass, .int 0, .ref m_bytes, .ref m_was, .int 0, .ref m_now, .int 0, .ref m_ends, .ref m_statics, .int 0, .ref m_thingType, .ref m_thingSize, .ref m_elements, .ref m_slots, .int 0, .ref m_callMethod, .ref m_callPlace, .ref m_callHigh, .ref m_values, .ref m_piles, .int 0, .long 0])), (m_isFace, .inl (k_isFace, 16, .inl (fun _ => 0))), (m_fieldClass, .inl (k_fieldClass, 16, .inl (fun _ => 0))), (m_fieldType, .inl (k_fieldType, 16, .inl (fun _ => 0))), (m_fieldStatic, .inl (k_fieldStatic, 16, .inl (fun _ => 0)))]) hD hS hA [0, 1, 2, 3, 4] rfl
        refine va_calli (va_runV (As := [.int (xs 1), .int (xs 2), .int 1]) (rest := []) ⟨hx, hb, hml, hown, hts⟩ (k_M_field l dC dI mo m_above m_isFace m_fieldClass m_fieldType m_fieldStatic m_arguments m_argumentCount m_results m_sizes m_codes m_maxStack m_maxLocals m_handlers m_handlerFrom m_handlerTo m_handlerPlace m_handlerClass m_verified m_fault m_faultAt m_tape m_begins m_high m_locals m_stacks m_due m_dead m_framed m_local m_before m_stack m_given m_givenStack m_cutFrom m_cutTo m_cutPlace m_cutClass m_bytes m_was m_now m_ends m_statics m_thingType m_thingSize m_elements m_slots m_callMethod m_callPlace m_callHigh m_values m_piles k_isFace k_fieldClass k_fieldType k_fieldStatic ((xs 1)) ((xs 2)) 1 H.size) (cwV 3 hts (gV hsub w_408 w_409 w_410 w_266 w_411) rfl rfl rfl (by decide +kernel) ⟨Nat.le_of_ble_eq_true rfl, Nat.le_of_ble_eq_true rfl⟩) ⟨bl_1000, va_recv hKc hPc (ci := 5) (q0 := 0) rfl rfl, fun U hU hW => ⟨rfl, by rw [hU], by rw [hU]; exact hPc, va_K.moved hW.alike hKc, hDc.weaken (fun _ _ _ _ => trivial)⟩⟩ rfl rfl hl.1 rfl (lv_room (Nat.le_of_ble_eq_true rfl)) d_L_law_260 ⟨Nat.le_of_ble_eq_true rfl, Nat.le_of_ble_eq_true rfl⟩) hS (fun q _ h => hFc q h) hFc (fun r_51 u_52 t H1 locs ht hvm hw hB hz1 hk1 hS => ?_)
        obtain ⟨fs_53, hfs, hP1, hK1, hD1⟩ := hB
        rw [ht] at hP1
        have hK1 := va_K.moved hvm.symm hK1
        obtain ⟨hP, hD⟩ := va_join (wr := [(ou, .inl (ko, 1, .inr (.inl fo_34)))]) (w1 := [(mo, .inr (5, fs_53))]) hP hD [0, 1, 2, 3, 4] [5] rfl rfl (by decide) (by decide) hk1 hFc hP1 hD1
        have hK := (hK.sub (tys' := [(ki, .boolean), (kc, .int), (kt, .int), (kx, .boolean), (k_isFace, .boolean), (k_fieldClass, .int), (k_fieldType, .int), (k_fieldStatic, .boolean), (ko, .long), (ko, .long)]) [0, 1, 2, 3, 4, 5, 6, 7, 8, 9] rfl).app hK1
        generalize H1 = H at hP hS ⊢
        have hP : va_P (dC, dI) vwCl [(ou, .inl (ko, 1, .inr (.inl fo_34))), (mo, .inr (5, fs_53))] H := hP
        have hD : va_D (fun q : Nat => s.heap.size ≤ q) [(ou, .inl (ko, 1, .inr (.inl fo_34))), (mo, .inr (5, fs_53))] := hD
        have hK : va_K (dC, dI) vwCl [(ki, .boolean), (kc, .int), (kt, .int), (kx, .boolean), (k_isFace, .boolean), (k_fieldClass, .int), (k_fieldType, .int), (k_fieldStatic, .boolean), (ko, .long), (ko, .long)] s := hK
        refine W.widen (k := 143) (n := 53751) (Nat.le_of_ble_eq_true rfl) (Nat.le_of_ble_eq_true rfl) ?_
        rcases hw with ⟨hok, h91, h92⟩ | ⟨hok, h92⟩
        · skip
          first | exact absurd hok p_48 | exact absurd p_48 hok
        · skip
          subst h92
          refine lv_istore (lv' := [(6, .int r_51), (5, .int 1), (4, .int 0), (3, .ref ou), (2, .ref mo), (1, .ref f), (0, .ref b)]) hx hb d_L_law_263 hl (by decide) rfl (fun ls hl => ?_)
          refine lv_aload_n hx hb d_L_law_265 rfl (lv_at hl 4 rfl) ?_
          have hPc := hP.sub (ws' := [(mo, .inr (5, fs_53))]) [1] rfl
          have hKc := hK.sub (tys' := []) [] rfl
          refine va_calli (va_runV (As := []) (rest := []) ⟨hx, hb, hml, hown, hts⟩ (k_M_thrown l dC dI mo fs_53 1 hfs) (cwV 0 hts (gV hsub w_401 w_402 w_403 w_266 w_404) rfl rfl rfl (by decide +kernel) ⟨Nat.le_of_ble_eq_true rfl, Nat.le_of_ble_eq_true rfl⟩) ⟨bl_0000, va_recv hKc hPc (ci := 5) (q0 := 0) rfl rfl, fun U hU hW => ⟨rfl, by rw [hU]; exact hPc, va_K.moved hW.alike hKc⟩⟩ rfl rfl hl.1 rfl (lv_room (Nat.le_of_ble_eq_true rfl)) d_L_law_266 ⟨Nat.le_of_ble_eq_true rfl, Nat.le_of_ble_eq_true rfl⟩) hS (fun q _ h => h.elim) (fun q h => h.elim) (fun r_55 u_56 t H1 locs ht hvm hw hB hz1 hk1 hS => ?_)
          have hP := ro_keep hP hk1
          generalize H1 = H at hP hS ⊢
          refine W.widen (k := 143) (n := 53751) (Nat.le_of_ble_eq_true rfl) (Nat.le_of_ble_eq_true rfl) ?_
          subst hw
          refine lv_iload hx hb d_L_law_269 (lv_at hl 1 rfl) ?_
          refine lv_icmp_eq (tgt := 276) hx hb d_L_law_271 (by decide) (fun c_57 => ?_) (fun c_57 => ?_)
          · skip
            refine lv_iload hx hb d_L_law_276 (lv_at hl 1 rfl) ?_
            refine lv_if_ne (tgt := 293) hx hb d_L_law_278 (by decide) (fun c_58 => ?_) (fun c_58 => ?_)
            · skip
              refine lv_goto (tgt := 1192) hx hb d_L_law_293 (by decide) ?_
              refine lv_iinc (v := 7) (lv' := [(4, .int 7), (6, .int r_51), (5, .int 1), (3, .ref ou), (2, .ref mo), (1, .ref f), (0, .ref b)]) hx hb d_L_law_1192 hl (k := 2) rfl (by decide) (by decide) rfl (fun ls hl => ?_)
              refine lv_goto (tgt := 23) hx hb d_L_law_1195 (by decide) ?_
              refine lv_iload hx hb d_L_law_23 (lv_at hl 0 rfl) ?_
              refine lv_aload_n hx hb d_L_law_25 rfl (lv_at hl 6 rfl) ?_
              refine va_slen hx hb hX hbl hbA hS d_L_law_26 ?_
              refine tp_i 7 (rfl) ?_
              refine lv_bipush (v := 7) hx hb d_L_law_27 (by decide) ?_
              refine lv_isub hx hb d_L_law_29 ?_
              refine tp_i 0 (by decide) ?_
              refine lv_icmp_gt (tgt := 1198) hx hb d_L_law_30 (by decide) (fun c_59 => ?_) (fun c_59 => ?_)
              · skip
                refine lv_iconst (v := 1) hx hb d_L_law_1198 (by decide) ?_
                refine va_forget (fun q hq => hS.2.2 q hq) ?_
                refine W.widen (k := 600002) (n := 7302232) (Nat.le_of_ble_eq_true rfl) (Nat.le_of_ble_eq_true rfl) ?_
                exact lw_ret hx hb hr hlocks d_L_law_1199
              · skip
                first | exact absurd c_59 (by decide) | exact absurd (by decide) c_59
            · skip
              first | exact absurd c_58 (by decide) | exact absurd (by decide) c_58
          · skip
            first | exact absurd c_57 (by decide) | exact absurd (by decide) c_57

set_option maxHeartbeats 4000000 in
set_option maxRecDepth 100000 in
theorem law_c2 {p : Program} {e : Env} {s : State} {m : MethodId} {below : List Frame} {meth : Method} {cx : Code} (l : Launch) (hl9 : l.stackTraces = false) {b : Nat} {xs : Nat → Int32} (C0 : lw_At p s m meth cx b 7 xs) (hex : exP (fun q : Nat => s.heap.size ≤ q) s) {dC : Nat → ClassId} {dI : Nat → Nat → Nat} {f w wp wu wi wc wt wx wm k kh ks kc9 tp mo m_above m_isFace m_fieldClass m_fieldType m_fieldStatic m_arguments m_argumentCount m_results m_sizes m_codes m_maxStack m_maxLocals m_handlers m_handlerFrom m_handlerTo m_handlerPlace m_handlerClass m_verified m_fault m_faultAt m_tape m_begins m_high m_locals m_stacks m_due m_dead m_framed m_local m_before m_stack m_given m_givenStack m_cutFrom m_cutTo m_cutPlace m_cutClass m_bytes m_was m_now m_ends m_statics m_thingType m_thingSize m_elements m_slots m_callMethod m_callPlace m_callHigh m_values m_piles ou : Nat} {kp  ku  ki  kc  kt  kx  km  kt9  k_above  k_isFace  k_fieldClass  k_fieldType  k_fieldStatic  k_arguments  k_argumentCount  k_results  k_tape  k_ends  ko : ClassId} {H : Heap} {locs : List Loc} (hK : va_K (dC, dI) vwCl [(km, .object "MapFramer$Method"), (k_arguments, .int), (k_argumentCount, .int), (k_results, .int), (ko, .long)] s) (hP : va_P (dC, dI) vwCl [(f, .inr (4, [.ref w, .ref k, .ref tp, .int 0])), (w, .inr (3, [.ref wp, .ref wu, .ref wi, .int 2, .ref wc, .ref wt, .ref wx, .int 0, .ref wm, .int 0])), (wm, .inl (km, 8, .inr (.inr (.inr (.inr (fun _ => none)))))), (mo, .inr (5, [.int 0, .int 2, .ref m_above, .ref m_isFace, .int 0, .ref m_fieldClass, .ref m_fieldType, .ref m_fieldStatic, .int 0, .ref m_arguments, .ref m_argumentCount, .ref m_results, .ref m_sizes, .ref m_codes, .ref m_maxStack, .ref m_maxLocals, .ref m_handlers, .ref m_handlerFrom, .ref m_handlerTo, .ref m_handlerPlace, .ref m_handlerClass, .ref m_verified, .ref m_fault, .ref m_faultAt, .int 0, .ref m_tape, .ref m_begins, .ref m_high, .ref m_locals, .ref m_stacks, .ref m_due, .ref m_dead, .ref m_framed, .int 0, .int 0, .int 0, .int 0, .ref m_local, .ref m_before, .ref m_stack, .int 0, .ref m_given, .ref m_givenStack, .int 0, .int 0, .int 0, .ref m_cutFrom, .ref m_cutTo, .ref m_cutPlace, .ref m_cutClass, .int 0, .ref m_bytes, .ref m_was, .int 0, .ref m_now, .int 0, .ref m_ends, .ref m_statics, .int 0, .ref m_thingType, .ref m_thingSize, .ref m_elements, .ref m_slots, .int 0, .ref m_callMethod, .ref m_callPlace, .ref m_callHigh, .ref m_values, .ref m_piles, .int 0, .long 0])), (m_arguments, .inl (k_arguments, 32, .inl (fun _ => 0))), (m_argumentCount, .inl (k_argumentCount, 8, .inl (fun _ => 0))), (m_results, .inl (k_results, 8, .inl (fun _ => 0))), (ou, .inl (ko, 1, .inr (.inl (fun _ => 0))))] H) (hD : va_D (fun q : Nat => s.heap.size ≤ q) [(f, .inr (4, [.ref w, .ref k, .ref tp, .int 0])), (w, .inr (3, [.ref wp, .ref wu, .ref wi, .int 2, .ref wc, .ref wt, .ref wx, .int 0, .ref wm, .int 0])), (wm, .inl (km, 8, .inr (.inr (.inr (.inr (fun _ => none)))))), (mo, .inr (5, [.int 0, .int 2, .ref m_above, .ref m_isFace, .int 0, .ref m_fieldClass, .ref m_fieldType, .ref m_fieldStatic, .int 0, .ref m_arguments, .ref m_argumentCount, .ref m_results, .ref m_sizes, .ref m_codes, .ref m_maxStack, .ref m_maxLocals, .ref m_handlers, .ref m_handlerFrom, .ref m_handlerTo, .ref m_handlerPlace, .ref m_handlerClass, .ref m_verified, .ref m_fault, .ref m_faultAt, .int 0, .ref m_tape, .ref m_begins, .ref m_high, .ref m_locals, .ref m_stacks, .ref m_due, .ref m_dead, .ref m_framed, .int 0, .int 0, .int 0, .int 0, .ref m_local, .ref m_before, .ref m_stack, .int 0, .ref m_given, .ref m_givenStack, .int 0, .int 0, .int 0, .ref m_cutFrom, .ref m_cutTo, .ref m_cutPlace, .ref m_cutClass, .int 0, .ref m_bytes, .ref m_was, .int 0, .ref m_now, .int 0, .ref m_ends, .ref m_statics, .int 0, .ref m_thingType, .ref m_thingSize, .ref m_elements, .ref m_slots, .int 0, .ref m_callMethod, .ref m_callPlace, .ref m_callHigh, .ref m_values, .ref m_piles, .int 0, .long 0])), (m_arguments, .inl (k_arguments, 32, .inl (fun _ => 0))), (m_argumentCount, .inl (k_argumentCount, 8, .inl (fun _ => 0))), (m_results, .inl (k_results, 8, .inl (fun _ => 0))), (ou, .inl (ko, 1, .inr (.inl (fun _ => 0))))]) (hS : va_S (fun q : Nat => s.heap.size ≤ q) s.heap H locs) {ls : Array Slot} (hl : lv_has ls 8 [(4, .int 0), (3, .ref ou), (2, .ref mo), (1, .ref f), (0, .ref b)]) : W p l e room_1 s m #[Value.ref b] below meth cx H locs 142 53745 (lw_Z below #[Value.ref b] s) (F0 m 296 ls []) := by
  obtain ⟨hx, hb, hr, hml, hown0, hts0, hX, hbl, hlocks, hgv⟩ := id C0
  have hown : s.vm.findClass "MapFramerLaw" = some m.cls := hown0
  have hts : ∀ w ∈ bigW, w.before #[Value.ref b] s = true := fun w h => hts0 w (List.mem_filter.mp h).1
  have hsub : ∀ w ∈ bigW, w ∈ bigW := fun _ h => h
  have hA : ∀ q : Nat, s.heap.size ≤ q → (fun q : Nat => s.heap.size ≤ q) q := fun _ h => h
  have hbA : ¬ (fun q : Nat => s.heap.size ≤ q) b := Nat.not_le.mpr hbl
  refine lv_aload_n hx hb d_L_law_296 rfl (lv_at hl 3 rfl) ?_
  refine lv_aload_n hx hb d_L_law_297 rfl (lv_at hl 4 rfl) ?_
  refine lv_iload hx hb d_L_law_298 (lv_at hl 0 rfl) ?_
  refine lv_iconst (v := 1) hx hb d_L_law_300 (by decide) ?_
  refine lv_iadd hx hb d_L_law_301 ?_
  refine tp_i 1 (by decide) ?_
  refine va_sld hx hb hX hbl hbA hS (vp_in_iff.mpr (by decide)) d_L_law_302 ?_
  refine tp_i (xs 1) (congrArg xs (by decide)) ?_
  refine lv_aload_n hx hb d_L_law_303 rfl (lv_at hl 4 rfl) ?_
  refine lv_iload hx hb d_L_law_304 (lv_at hl 0 rfl) ?_
  refine lv_iconst (v := 2) hx hb d_L_law_306 (by decide) ?_
  refine lv_iadd hx hb d_L_law_307 ?_
  refine tp_i 2 (by decide) ?_
  refine va_sld hx hb hX hbl hbA hS (vp_in_iff.mpr (by decide)) d_L_law_308 ?_
  refine tp_i (xs 2) (congrArg xs (by decide)) ?_
  refine lv_aload_n hx hb d_L_law_309 rfl (lv_at hl 1 rfl) ?_
  have hPc := hP.sub (ws' := [(f, .inr (4, [.ref w, .ref k, .ref tp, .int 0])), (w, .inr (3, [.ref wp, .ref wu, .ref wi, .int 2, .ref wc, .ref wt, .ref wx, .int 0, .ref wm, .int 0])), (wm, .inl (km, 8, .inr (.inr (.inr (.inr (fun _ => none)))))), (ou, .inl (ko, 1, .inr (.inl (fun _ => 0))))]) [0, 1, 2, 7] rfl
  have hKc := hK.sub (tys' := [(km, .object "MapFramer$Method"), (ko, .long)]) [0, 4] rfl
  have hDc := hD.sub (ws' := [(f, .inr (4, [.ref w, .ref k, .ref tp, .int 0])), (w, .inr (3, [.ref wp, .ref wu, .ref wi, .int 2, .ref wc, .ref wt, .ref wx, .int 0, .ref wm, .int 0])), (wm, .inl (km, 8, .inr (.inr (.inr (.inr (fun _ => none)))))), (ou, .inl (ko, 1, .inr (.inl (fun _ => 0))))]) [0, 1, 2, 7] (by decide) rfl
  have hFc := va_free (wc := [(f, .inr (4, [.ref w, .ref k, .ref tp, .int 0])), (w, .inr (3, [.ref wp, .ref wu, .ref wi, .int 2, .ref wc, .ref wt, .ref wx, .int 0, .ref wm, .int 0])), (wm, .inl (km, 8, .inr (.inr (.inr (.inr (fun _ => none)))))), (ou, .inl (ko, 1, .inr (.inl (fun _ => 0))))]) hD hS hA [0, 1, 2, 7] rfl
  refine va_calli (vx_runSW (As := [.ref f, .int (xs 1), .int (xs 2), .ref ou]) (rest := []) ⟨hx, hb, hml, hown, hts⟩ (k_L_method l hl9 dC dI f w k tp wp wu wi wc wt wx wm km (fun _ => none) ((xs 1)) ((xs 2)) ou ko (fun _ => 0) H.size) (vx_cwSW 4 hts (gS hsub w_412 w_413 w_395 w_414) rfl rfl rfl (by decide +kernel) ⟨Nat.le_of_ble_eq_true rfl, Nat.le_of_ble_eq_true rfl⟩) ⟨bl_1010, fun U hU hW => ⟨rfl, by rw [hU], by rw [hU]; exact hPc, va_K.moved hW.alike hKc, hDc.weaken (fun _ _ _ _ => trivial), exP_go hex hS (fun q h => hFc q h) U hU hW⟩⟩ rfl rfl hl.1 rfl (lv_room (Nat.le_of_ble_eq_true rfl)) d_L_law_310 ⟨Nat.le_of_ble_eq_true rfl, Nat.le_of_ble_eq_true rfl⟩) hS (fun q _ h => hFc q h) hFc (fun r_2 u_3 t H1 locs ht hvm hw hB hz1 hk1 hS => ?_)
  obtain ⟨fo_4, hfo, hP1, hK1, hD1⟩ := hB
  rw [ht] at hP1
  have hK1 := va_K.moved hvm.symm hK1
  obtain ⟨hP, hD⟩ := va_join (wr := [(mo, .inr (5, [.int 0, .int 2, .ref m_above, .ref m_isFace, .int 0, .ref m_fieldClass, .ref m_fieldType, .ref m_fieldStatic, .int 0, .ref m_arguments, .ref m_argumentCount, .ref m_results, .ref m_sizes, .ref m_codes, .ref m_maxStack, .ref m_maxLocals, .ref m_handlers, .ref m_handlerFrom, .ref m_handlerTo, .ref m_handlerPlace, .ref m_handlerClass, .ref m_verified, .ref m_fault, .ref m_faultAt, .int 0, .ref m_tape, .ref m_begins, .ref m_high, .ref m_locals, .ref m_stacks, .ref m_due, .ref m_dead, .ref m_framed, .int 0, .int 0, .int 0, .int 0, .ref m_local, .ref m_before, .ref m_stack, .int 0, .ref m_given, .ref m_givenStack, .int 0, .int 0, .int 0, .ref m_cutFrom, .ref m_cutTo, .ref m_cutPlace, .ref m_cutClass, .int 0, .ref m_bytes, .ref m_was, .int 0, .ref m_now, .int 0, .ref m_ends, .ref m_statics, .int 0, .ref m_thingType, .ref m_thingSize, .ref m_elements, .ref m_slots, .int 0, .ref m_callMethod, .ref m_callPlace, .ref m_callHigh, .ref m_values, .ref m_piles, .int 0, .long 0])), (m_arguments, .inl (k_arguments, 32, .inl (fun _ => 0))), (m_argumentCount, .inl (k_argumentCount, 8, .inl (fun _ => 0))), (m_results, .inl (k_results, 8, .inl (fun _ => 0)))]) (w1 := [(ou, .inl (ko, 1, .inr (.inl fo_4)))]) hP hD [0, 1, 2, 7] [3, 4, 5, 6] rfl rfl (by decide) (by decide) hk1 hFc hP1 hD1
  have hK := (hK.sub (tys' := [(km, .object "MapFramer$Method"), (k_arguments, .int), (k_argumentCount, .int), (k_results, .int), (ko, .long)]) [0, 1, 2, 3, 4] rfl).app hK1
  generalize H1 = H at hP hS ⊢
  have hP : va_P (dC, dI) vwCl [(mo, .inr (5, [.int 0, .int 2, .ref m_above, .ref m_isFace, .int 0, .ref m_fieldClass, .ref m_fieldType, .ref m_fieldStatic, .int 0, .ref m_arguments, .ref m_argumentCount, .ref m_results, .ref m_sizes, .ref m_codes, .ref m_maxStack, .ref m_maxLocals, .ref m_handlers, .ref m_handlerFrom, .ref m_handlerTo, .ref m_handlerPlace, .ref m_handlerClass, .ref m_verified, .ref m_fault, .ref m_faultAt, .int 0, .ref m_tape, .ref m_begins, .ref m_high, .ref m_locals, .ref m_stacks, .ref m_due, .ref m_dead, .ref m_framed, .int 0, .int 0, .int 0, .int 0, .ref m_local, .ref m_before, .ref m_stack, .int 0, .ref m_given, .ref m_givenStack, .int 0, .int 0, .int 0, .ref m_cutFrom, .ref m_cutTo, .ref m_cutPlace, .ref m_cutClass, .int 0, .ref m_bytes, .ref m_was, .int 0, .ref m_now, .int 0, .ref m_ends, .ref m_statics, .int 0, .ref m_thingType, .ref m_thingSize, .ref m_elements, .ref m_slots, .int 0, .ref m_callMethod, .ref m_callPlace, .ref m_callHigh, .ref m_values, .ref m_piles, .int 0, .long 0])), (m_arguments, .inl (k_arguments, 32, .inl (fun _ => 0))), (m_argumentCount, .inl (k_argumentCount, 8, .inl (fun _ => 0))), (m_results, .inl (k_results, 8, .inl (fun _ => 0))), (ou, .inl (ko, 1, .inr (.inl fo_4)))] H := hP
  have hD : va_D (fun q : Nat => s.heap.size ≤ q) [(mo, .inr (5, [.int 0, .int 2, .ref m_above, .ref m_isFace, .int 0, .ref m_fieldClass, .ref m_fieldType, .ref m_fieldStatic, .int 0, .ref m_arguments, .ref m_argumentCount, .ref m_results, .ref m_sizes, .ref m_codes, .ref m_maxStack, .ref m_maxLocals, .ref m_handlers, .ref m_handlerFrom, .ref m_handlerTo, .ref m_handlerPlace, .ref m_handlerClass, .ref m_verified, .ref m_fault, .ref m_faultAt, .int 0, .ref m_tape, .ref m_begins, .ref m_high, .ref m_locals, .ref m_stacks, .ref m_due, .ref m_dead, .ref m_framed, .int 0, .int 0, .int 0, .int 0, .ref m_local, .ref m_before, .ref m_stack, .int 0, .ref m_given, .ref m_givenStack, .int 0, .int 0, .int 0, .ref m_cutFrom, .ref m_cutTo, .ref m_cutPlace, .ref m_cutClass, .int 0, .ref m_bytes, .ref m_was, .int 0, .ref m_now, .int 0, .ref m_ends, .ref m_statics, .int 0, .ref m_thingType, .ref m_thingSize, .ref m_elements, .ref m_slots, .int 0, .ref m_callMethod, .ref m_callPlace, .ref m_callHigh, .ref m_values, .ref m_piles, .int 0, .long 0])), (m_arguments, .inl (k_arguments, 32, .inl (fun _ => 0))), (m_argumentCount, .inl (k_argumentCount, 8, .inl (fun _ => 0))), (m_results, .inl (k_results, 8, .inl (fun _ => 0))), (ou, .inl (ko, 1, .inr (.inl fo_4)))] := hD
  have hK : va_K (dC, dI) vwCl [(km, .object "MapFramer$Method"), (k_arguments, .int), (k_argumentCount, .int), (k_results, .int), (ko, .long), (ko, .long)] s := hK
  refine W.widen (k := 148) (n := 53765) (Nat.le_of_ble_eq_true rfl) (Nat.le_of_ble_eq_true rfl) ?_
  rcases hw with ⟨hok, h91, h92⟩ | ⟨hok, h91⟩
  · subst h91; subst h92
    have p_5 := hok
    refine lv_istore (lv' := [(5, .int 0), (4, .int 0), (3, .ref ou), (2, .ref mo), (1, .ref f), (0, .ref b)]) hx hb d_L_law_313 hl (by decide) rfl (fun ls hl => ?_)
    refine lv_aload_n hx hb d_L_law_315 rfl (lv_at hl 3 rfl) ?_
    refine lv_aload_n hx hb d_L_law_316 rfl (lv_at hl 5 rfl) ?_
    refine lv_iload hx hb d_L_law_317 (lv_at hl 1 rfl) ?_
    refine lv_iconst (v := 1) hx hb d_L_law_319 (by decide) ?_
    refine lv_iadd hx hb d_L_law_320 ?_
    refine tp_i 1 (by decide) ?_
    refine va_sld hx hb hX hbl hbA hS (vp_in_iff.mpr (by decide)) d_L_law_321 ?_
    refine tp_i (xs 1) (congrArg xs (by decide)) ?_
    refine lv_aload_n hx hb d_L_law_322 rfl (lv_at hl 5 rfl) ?_
    refine lv_iload hx hb d_L_law_323 (lv_at hl 1 rfl) ?_
    refine lv_iconst (v := 2) hx hb d_L_law_325 (by decide) ?_
    refine lv_iadd hx hb d_L_law_326 ?_
    refine tp_i 2 (by decide) ?_
    refine va_sld hx hb hX hbl hbA hS (vp_in_iff.mpr (by decide)) d_L_law_327 ?_
    refine tp_i (xs 2) (congrArg xs (by decide)) ?_
    have hPc := hP.sub (ws' := [(mo, .inr (5, [.int 0, .int 2, .ref m_above, .ref m_isFace, .int 0, .ref m_fieldClass, .ref m_fieldType, .ref m_fieldStatic, .int 0, .ref m_arguments, .ref m_argumentCount, .ref m_results, .ref m_sizes, .ref m_codes, .ref m_maxStack, .ref m_maxLocals, .ref m_handlers, .ref m_handlerFrom, .ref m_handlerTo, .ref m_handlerPlace, .ref m_handlerClass, .ref m_verified, .ref m_fault, .ref m_faultAt, .int 0, .ref m_tape, .ref m_begins, .ref m_high, .ref m_locals, .ref m_stacks, .ref m_due, .ref m_dead, .ref m_framed, .int 0, .int 0, .int 0, .int 0, .ref m_local, .ref m_before, .ref m_stack, .int 0, .ref m_given, .ref m_givenStack, .int 0, .int 0, .int 0, .ref m_cutFrom, .ref m_cutTo, .ref m_cutPlace, .ref m_cutClass, .int 0, .ref m_bytes, .ref m_was, .int 0, .ref m_now, .int 0, .ref m_ends, .ref m_statics, .int 0, .ref m_thingType, .ref m_thingSize, .ref m_elements, .ref m_slots, .int 0, .ref m_callMethod, .ref m_callPlace, .ref m_callHigh, .ref m_values, .ref m_piles, .int 0, .long 0])), (m_arguments, .inl (k_arguments, 32, .inl (fun _ => 0))), (m_argumentCount, .inl (k_argumentCount, 8, .inl (fun _ => 0))), (m_results, .inl (k_results, 8, .inl (fun _ => 0)))]) [0, 1, 2, 3] rfl
    have hKc := hK.sub (tys' := [(k_arguments, .int), (k_argumentCount, .int), (k_results, .int)]) [1, 2, 3] rfl
    have hDc := hD.sub (ws' := [(mo, .inr (5, [.int 0, .int 2, .ref m_above, .ref m_isFace, .int 0, .ref m_fieldClass, .ref m_fieldType, .ref m_fieldStatic, .int 0, .ref m_arguments, .ref m_argumentCount, .ref m_results, .ref m_sizes, .ref m_codes, .ref m_maxStack, .ref m_maxLocals, .ref m_handlers, .ref m_handlerFrom, .ref m_handlerTo, .ref m_handlerPlace, .ref m_handlerClass, .ref m_verified, .ref m_fault, .ref m_faultAt, .int 0, .ref m_tape, .ref m_begins, .ref m_high, .ref m_locals, .ref m_stacks, .ref m_due, .ref m_dead, .ref m_framed, .int 0, .int 0, .int 0, .int 0, .ref m_local, .ref m_before, .ref m_stack, .int 0, .ref m_given, .ref m_givenStack, .int 0, .int 0, .int 0, .ref m_cutFrom, .ref m_cutTo, .ref m_cutPlace, .ref m_cutClass, .int 0, .ref m_bytes, .ref m_was, .int 0, .ref m_now, .int 0, .ref m_ends, .ref m_statics, .int 0, .ref m_thingType, .ref m_thingSize, .ref m_elements, .ref m_slots, .int 0, .ref m_callMethod, .ref m_callPlace, .ref m_callHigh, .ref m_values, .ref m_piles, .int 0, .long 0])), (m_arguments, .inl (k_arguments, 32, .inl (fun _ => 0))), (m_argumentCount, .inl (k_argumentCount, 8, .inl (fun _ => 0))), (m_results, .inl (k_results, 8, .inl (fun _ => 0)))]) [0, 1, 2, 3] (by decide) rfl
    have hFc := va_free (wc := [(mo, .inr (5, [.int 0, .int 2, .ref m_above, .ref m_isFace, .int 0, .ref m_fieldClass, .ref m_fieldType, .ref m_fieldStatic, .int 0, .ref m_arguments, .ref m_argumentCount, .ref m_results, .ref m_sizes, .ref m_codes, .ref m_maxStack, .ref m_maxLocals, .ref m_handlers, .ref m_handlerFrom, .ref m_handlerTo, .ref m_handlerPlace, .ref m_handlerClass, .ref m_verified, .ref m_fault, .ref m_faultAt, .int 0, .ref m_tape, .ref m_begins, .ref m_high, .ref m_locals, .ref m_stacks, .ref m_due, .ref m_dead, .ref m_framed, .int 0, .int 0, .int 0, .int 0, .ref m_local, .ref m_before, .ref m_stack, .int 0, .ref m_given, .ref m_givenStack, .int 0, .int 0, .int 0, .ref m_cutFrom, .ref m_cutTo, .ref m_cutPlace, .ref m_cutClass, .int 0, .ref m_bytes, .ref m_was, .int 0, .ref m_now, .int 0, .ref m_ends, .ref m_statics, .int 0, .ref m_thingType, .ref m_thingSize, .ref m_elements, .ref m_slots, .int 0, .ref m_callMethod, .ref m_callPlace, .ref m_callHigh, .ref m_values, .ref m_piles, .int 0, .long 0])), (m_arguments, .inl (k_arguments, 32, .inl (fun _ => 0))), (m_argumentCount, .inl (k_argumentCount, 8, .inl (fun _ => 0))), (m_results, .inl (k_results, 8, .inl (fun _ => 0)))]) hD hS hA [0, 1, 2, 3] rfl
    refine va_calli (va_runV (As := [.int (xs 1), .int (xs 2)]) (rest := []) ⟨hx, hb, hml, hown, hts⟩ (k_M_method l dC dI mo m_above m_isFace m_fieldClass m_fieldType m_fieldStatic m_arguments m_argumentCount m_results m_sizes m_codes m_maxStack m_maxLocals m_handlers m_handlerFrom m_handlerTo m_handlerPlace m_handlerClass m_verified m_fault m_faultAt m_tape m_begins m_high m_locals m_stacks m_due m_dead m_framed m_local m_before m_stack m_given m_givenStack m_cutFrom m_cutTo m_cutPlace m_cutClass m_bytes m_was m_now m_ends m_statics m_thingType m_thingSize m_elements m_slots m_callMethod m_callPlace m_callHigh m_values m_piles k_arguments k_argumentCount k_results ((xs 1)) ((xs 2)) H.size) (cwV 2 hts (gV hsub w_415 w_416 w_417 w_266 w_418) rfl rfl rfl (by decide +kernel) ⟨Nat.le_of_ble_eq_true rfl, Nat.le_of_ble_eq_true rfl⟩) ⟨bl_1000, va_recv hKc hPc (ci := 5) (q0 := 0) rfl rfl, fun U hU hW => ⟨rfl, by rw [hU], by rw [hU]; exact hPc, va_K.moved hW.alike hKc, hDc.weaken (fun _ _ _ _ => trivial)⟩⟩ rfl rfl hl.1 rfl (lv_room (Nat.le_of_ble_eq_true rfl)) d_L_law_328 ⟨Nat.le_of_ble_eq_true rfl, Nat.le_of_ble_eq_true rfl⟩) hS (fun q _ h => hFc q h) hFc (fun r_7 u_8 t H1 locs ht hvm hw hB hz1 hk1 hS => ?_)
    obtain ⟨fs_9, hfs, hP1, hK1, hD1⟩ := hB
    rw [ht] at hP1
    have hK1 := va_K.moved hvm.symm hK1
    obtain ⟨hP, hD⟩ := va_join (wr := [(ou, .inl (ko, 1, .inr (.inl fo_4)))]) (w1 := [(mo, .inr (5, fs_9))]) hP hD [0, 1, 2, 3] [4] rfl rfl (by decide) (by decide) hk1 hFc hP1 hD1
    have hK := (hK.sub (tys' := [(km, .object "MapFramer$Method"), (k_arguments, .int), (k_argumentCount, .int), (k_results, .int), (ko, .long), (ko, .long)]) [0, 1, 2, 3, 4, 5] rfl).app hK1
    generalize H1 = H at hP hS ⊢
    have hP : va_P (dC, dI) vwCl [(ou, .inl (ko, 1, .inr (.inl fo_4))), (mo, .inr (5, fs_9))] H := hP
    have hD : va_D (fun q : Nat => s.heap.size ≤ q) [(ou, .inl (ko, 1, .inr (.inl fo_4))), (mo, .inr (5, fs_9))] := hD
    have hK : va_K (dC, dI) vwCl [(km, .object "MapFramer$Method"), (k_arguments, .int), (k_argumentCount, .int), (k_results, .int), (ko, .long), (ko, .long)] s := hK
    refine W.widen (k := 148) (n := 53765) (Nat.le_of_ble_eq_true rfl) (Nat.le_of_ble_eq_true rfl) ?_
    rcases hw with ⟨hok, h91, h92⟩ | ⟨hok, h92⟩
    · skip
      subst h91; subst h92
      refine lv_istore (lv' := [(6, .int 0), (5, .int 0), (4, .int 0), (3, .ref ou), (2, .ref mo), (1, .ref f), (0, .ref b)]) hx hb d_L_law_331 hl (by decide) rfl (fun ls hl => ?_)
      refine lv_aload_n hx hb d_L_law_333 rfl (lv_at hl 4 rfl) ?_
      have hPc := hP.sub (ws' := [(mo, .inr (5, fs_9))]) [1] rfl
      have hKc := hK.sub (tys' := []) [] rfl
      refine va_calli (va_runV (As := []) (rest := []) ⟨hx, hb, hml, hown, hts⟩ (k_M_thrown l dC dI mo fs_9 0 hfs) (cwV 0 hts (gV hsub w_401 w_402 w_403 w_266 w_404) rfl rfl rfl (by decide +kernel) ⟨Nat.le_of_ble_eq_true rfl, Nat.le_of_ble_eq_true rfl⟩) ⟨bl_0000, va_recv hKc hPc (ci := 5) (q0 := 0) rfl rfl, fun U hU hW => ⟨rfl, by rw [hU]; exact hPc, va_K.moved hW.alike hKc⟩⟩ rfl rfl hl.1 rfl (lv_room (Nat.le_of_ble_eq_true rfl)) d_L_law_334 ⟨Nat.le_of_ble_eq_true rfl, Nat.le_of_ble_eq_true rfl⟩) hS (fun q _ h => h.elim) (fun q h => h.elim) (fun r_11 u_12 t H1 locs ht hvm hw hB hz1 hk1 hS => ?_)
      have hP := ro_keep hP hk1
      generalize H1 = H at hP hS ⊢
      refine W.widen (k := 148) (n := 53765) (Nat.le_of_ble_eq_true rfl) (Nat.le_of_ble_eq_true rfl) ?_
      subst hw
      refine lv_iload hx hb d_L_law_337 (lv_at hl 1 rfl) ?_
      refine lv_icmp_eq (tgt := 344) hx hb d_L_law_339 (by decide) (fun c_13 => ?_) (fun c_13 => ?_)
      · skip
        refine lv_iload hx hb d_L_law_344 (lv_at hl 1 rfl) ?_
        refine lv_if_ne (tgt := 361) hx hb d_L_law_346 (by decide) (fun c_14 => ?_) (fun c_14 => ?_)
        · skip
          first | exact absurd c_14 (by decide) | exact absurd (by decide) c_14
        · skip
          refine lv_aload_n hx hb d_L_law_349 rfl (lv_at hl 3 rfl) ?_
          refine lv_iconst (v := 0) hx hb d_L_law_350 (by decide) ?_
          refine va_lald hx hb hK hP 0 4 rfl rfl (vp_in_iff.mpr (by decide)) d_L_law_351 ?_
          refine tp_l 0 hfo ?_
          refine lv_iload hx hb d_L_law_352 (lv_at hl 0 rfl) ?_
          refine lv_i2l (v := (0 : Int32).toInt64) hx hb d_L_law_354 rfl ?_
          refine W.lcmp hx hb d_L_law_355 ?_
          refine tp_i 0 (by decide) ?_
          refine lv_if_eq (tgt := 361) hx hb d_L_law_356 (by decide) (fun c_15 => ?_) (fun c_15 => ?_)
          · skip
            refine lv_goto (tgt := 1192) hx hb d_L_law_361 (by decide) ?_
            refine lv_iinc (v := 7) (lv' := [(4, .int 7), (6, .int 0), (5, .int 0), (3, .ref ou), (2, .ref mo), (1, .ref f), (0, .ref b)]) hx hb d_L_law_1192 hl (k := 2) rfl (by decide) (by decide) rfl (fun ls hl => ?_)
            refine lv_goto (tgt := 23) hx hb d_L_law_1195 (by decide) ?_
            refine lv_iload hx hb d_L_law_23 (lv_at hl 0 rfl) ?_
            refine lv_aload_n hx hb d_L_law_25 rfl (lv_at hl 6 rfl) ?_
            refine va_slen hx hb hX hbl hbA hS d_L_law_26 ?_
            refine tp_i 7 (rfl) ?_
            refine lv_bipush (v := 7) hx hb d_L_law_27 (by decide) ?_
            refine lv_isub hx hb d_L_law_29 ?_
            refine tp_i 0 (by decide) ?_
            refine lv_icmp_gt (tgt := 1198) hx hb d_L_law_30 (by decide) (fun c_16 => ?_) (fun c_16 => ?_)
            · skip
              refine lv_iconst (v := 1) hx hb d_L_law_1198 (by decide) ?_
              refine va_forget (fun q hq => hS.2.2 q hq) ?_
              refine W.widen (k := 600002) (n := 7302232) (Nat.le_of_ble_eq_true rfl) (Nat.le_of_ble_eq_true rfl) ?_
              exact lw_ret hx hb hr hlocks d_L_law_1199
            · skip
              first | exact absurd c_16 (by decide) | exact absurd (by decide) c_16
          · skip
            first | exact absurd c_15 (by decide) | exact absurd (by decide) c_15
      · skip
        first | exact absurd c_13 (by decide) | exact absurd (by decide) c_13
    · skip
      first | exact absurd hok p_5 | exact absurd p_5 hok
  · subst h91
    have p_17 := hok
    refine lv_istore (lv' := [(5, .int 1), (4, .int 0), (3, .ref ou), (2, .ref mo), (1, .ref f), (0, .ref b)]) hx hb d_L_law_313 hl (by decide) rfl (fun ls hl => ?_)
    refine lv_aload_n hx hb d_L_law_315 rfl (lv_at hl 3 rfl) ?_
    refine lv_aload_n hx hb d_L_law_316 rfl (lv_at hl 5 rfl) ?_
    refine lv_iload hx hb d_L_law_317 (lv_at hl 1 rfl) ?_
    refine lv_iconst (v := 1) hx hb d_L_law_319 (by decide) ?_
    refine lv_iadd hx hb d_L_law_320 ?_
    refine tp_i 1 (by decide) ?_
    refine va_sld hx hb hX hbl hbA hS (vp_in_iff.mpr (by decide)) d_L_law_321 ?_
    refine tp_i (xs 1) (congrArg xs (by decide)) ?_
    refine lv_aload_n hx hb d_L_law_322 rfl (lv_at hl 5 rfl) ?_
    refine lv_iload hx hb d_L_law_323 (lv_at hl 1 rfl) ?_
    refine lv_iconst (v := 2) hx hb d_L_law_325 (by decide) ?_
    refine lv_iadd hx hb d_L_law_326 ?_
    refine tp_i 2 (by decide) ?_
    refine va_sld hx hb hX hbl hbA hS (vp_in_iff.mpr (by decide)) d_L_law_327 ?_
    refine tp_i (xs 2) (congrArg xs (by decide)) ?_
    have hPc := hP.sub (ws' := [(mo, .inr (5, [.int 0, .int 2, .ref m_above, .ref m_isFace, .int 0, .ref m_fieldClass, .ref m_fieldType, .ref m_fieldStatic, .int 0, .ref m_arguments, .ref m_argumentCount, .ref m_results, .ref m_sizes, .ref m_codes, .ref m_maxStack, .ref m_maxLocals, .ref m_handlers, .ref m_handlerFrom, .ref m_handlerTo, .ref m_handlerPlace, .ref m_handlerClass, .ref m_verified, .ref m_fault, .ref m_faultAt, .int 0, .ref m_tape, .ref m_begins, .ref m_high, .ref m_locals, .ref m_stacks, .ref m_due, .ref m_dead, .ref m_framed, .int 0, .int 0, .int 0, .int 0, .ref m_local, .ref m_before, .ref m_stack, .int 0, .ref m_given, .ref m_givenStack, .int 0, .int 0, .int 0, .ref m_cutFrom, .ref m_cutTo, .ref m_cutPlace, .ref m_cutClass, .int 0, .ref m_bytes, .ref m_was, .int 0, .ref m_now, .int 0, .ref m_ends, .ref m_statics, .int 0, .ref m_thingType, .ref m_thingSize, .ref m_elements, .ref m_slots, .int 0, .ref m_callMethod, .ref m_callPlace, .ref m_callHigh, .ref m_values, .ref m_piles, .int 0, .long 0])), (m_arguments, .inl (k_arguments, 32, .inl (fun _ => 0))), (m_argumentCount, .inl (k_argumentCount, 8, .inl (fun _ => 0))), (m_results, .inl (k_results, 8, .inl (fun _ => 0)))]) [0, 1, 2, 3] rfl
    have hKc := hK.sub (tys' := [(k_arguments, .int), (k_argumentCount, .int), (k_results, .int)]) [1, 2, 3] rfl
    have hDc := hD.sub (ws' := [(mo, .inr (5, [.int 0, .int 2, .ref m_above, .ref m_isFace, .int 0, .ref m_fieldClass, .ref m_fieldType, .ref m_fieldStatic, .int 0, .ref m_arguments, .ref m_argumentCount, .ref m_results, .ref m_sizes, .ref m_codes, .ref m_maxStack, .ref m_maxLocals, .ref m_handlers, .ref m_handlerFrom, .ref m_handlerTo, .ref m_handlerPlace, .ref m_handlerClass, .ref m_verified, .ref m_fault, .ref m_faultAt, .int 0, .ref m_tape, .ref m_begins, .ref m_high, .ref m_locals, .ref m_stacks, .ref m_due, .ref m_dead, .ref m_framed, .int 0, .int 0, .int 0, .int 0, .ref m_local, .ref m_before, .ref m_stack, .int 0, .ref m_given, .ref m_givenStack, .int 0, .int 0, .int 0, .ref m_cutFrom, .ref m_cutTo, .ref m_cutPlace, .ref m_cutClass, .int 0, .ref m_bytes, .ref m_was, .int 0, .ref m_now, .int 0, .ref m_ends, .ref m_statics, .int 0, .ref m_thingType, .ref m_thingSize, .ref m_elements, .ref m_slots, .int 0, .ref m_callMethod, .ref m_callPlace, .ref m_callHigh, .ref m_values, .ref m_piles, .int 0, .long 0])), (m_arguments, .inl (k_arguments, 32, .inl (fun _ => 0))), (m_argumentCount, .inl (k_argumentCount, 8, .inl (fun _ => 0))), (m_results, .inl (k_results, 8, .inl (fun _ => 0)))]) [0, 1, 2, 3] (by decide) rfl
    have hFc := va_free (wc := [(mo, .inr (5, [.int 0, .int 2, .ref m_above, .ref m_isFace, .int 0, .ref m_fieldClass, .ref m_fieldType, .ref m_fieldStatic, .int 0, .ref m_arguments, .ref m_argumentCount, .ref m_results, .ref m_sizes, .ref m_codes, .ref m_maxStack, .ref m_maxLocals, .ref m_handlers, .ref m_handlerFrom, .ref m_handlerTo, .ref m_handlerPlace, .ref m_handlerClass, .ref m_verified, .ref m_fault, .ref m_faultAt, .int 0, .ref m_tape, .ref m_begins, .ref m_high, .ref m_locals, .ref m_stacks, .ref m_due, .ref m_dead, .ref m_framed, .int 0, .int 0, .int 0, .int 0, .ref m_local, .ref m_before, .ref m_stack, .int 0, .ref m_given, .ref m_givenStack, .int 0, .int 0, .int 0, .ref m_cutFrom, .ref m_cutTo, .ref m_cutPlace, .ref m_cutClass, .int 0, .ref m_bytes, .ref m_was, .int 0, .ref m_now, .int 0, .ref m_ends, .ref m_statics, .int 0, .ref m_thingType, .ref m_thingSize, .ref m_elements, .ref m_slots, .int 0, .ref m_callMethod, .ref m_callPlace, .ref m_callHigh, .ref m_values, .ref m_piles, .int 0, .long 0])), (m_arguments, .inl (k_arguments, 32, .inl (fun _ => 0))), (m_argumentCount, .inl (k_argumentCount, 8, .inl (fun _ => 0))), (m_results, .inl (k_results, 8, .inl (fun _ => 0)))]) hD hS hA [0, 1, 2, 3] rfl
    refine va_calli (va_runV (As := [.int (xs 1), .int (xs 2)]) (rest := []) ⟨hx, hb, hml, hown, hts⟩ (k_M_method l dC dI mo m_above m_isFace m_fieldClass m_fieldType m_fieldStatic m_arguments m_argumentCount m_results m_sizes m_codes m_maxStack m_maxLocals m_handlers m_handlerFrom m_handlerTo m_handlerPlace m_handlerClass m_verified m_fault m_faultAt m_tape m_begins m_high m_locals m_stacks m_due m_dead m_framed m_local m_before m_stack m_given m_givenStack m_cutFrom m_cutTo m_cutPlace m_cutClass m_bytes m_was m_now m_ends m_statics m_thingType m_thingSize m_elements m_slots m_callMethod m_callPlace m_callHigh m_values m_piles k_arguments k_argumentCount k_results ((xs 1)) ((xs 2)) H.size) (cwV 2 hts (gV hsub w_415 w_416 w_417 w_266 w_418) rfl rfl rfl (by decide +kernel) ⟨Nat.le_of_ble_eq_true rfl, Nat.le_of_ble_eq_true rfl⟩) ⟨bl_1000, va_recv hKc hPc (ci := 5) (q0 := 0) rfl rfl, fun U hU hW => ⟨rfl, by rw [hU], by rw [hU]; exact hPc, va_K.moved hW.alike hKc, hDc.weaken (fun _ _ _ _ => trivial)⟩⟩ rfl rfl hl.1 rfl (lv_room (Nat.le_of_ble_eq_true rfl)) d_L_law_328 ⟨Nat.le_of_ble_eq_true rfl, Nat.le_of_ble_eq_true rfl⟩) hS (fun q _ h => hFc q h) hFc (fun r_19 u_20 t H1 locs ht hvm hw hB hz1 hk1 hS => ?_)
    obtain ⟨fs_21, hfs, hP1, hK1, hD1⟩ := hB
    rw [ht] at hP1
    have hK1 := va_K.moved hvm.symm hK1
    obtain ⟨hP, hD⟩ := va_join (wr := [(ou, .inl (ko, 1, .inr (.inl fo_4)))]) (w1 := [(mo, .inr (5, fs_21))]) hP hD [0, 1, 2, 3] [4] rfl rfl (by decide) (by decide) hk1 hFc hP1 hD1
    have hK := (hK.sub (tys' := [(km, .object "MapFramer$Method"), (k_arguments, .int), (k_argumentCount, .int), (k_results, .int), (ko, .long), (ko, .long)]) [0, 1, 2, 3, 4, 5] rfl).app hK1
    generalize H1 = H at hP hS ⊢
    have hP : va_P (dC, dI) vwCl [(ou, .inl (ko, 1, .inr (.inl fo_4))), (mo, .inr (5, fs_21))] H := hP
    have hD : va_D (fun q : Nat => s.heap.size ≤ q) [(ou, .inl (ko, 1, .inr (.inl fo_4))), (mo, .inr (5, fs_21))] := hD
    have hK : va_K (dC, dI) vwCl [(km, .object "MapFramer$Method"), (k_arguments, .int), (k_argumentCount, .int), (k_results, .int), (ko, .long), (ko, .long)] s := hK
    refine W.widen (k := 148) (n := 53765) (Nat.le_of_ble_eq_true rfl) (Nat.le_of_ble_eq_true rfl) ?_
    rcases hw with ⟨hok, h91, h92⟩ | ⟨hok, h92⟩
    · skip
      first | exact absurd hok p_17 | exact absurd p_17 hok
    · skip
      subst h92
      refine lv_istore (lv' := [(6, .int r_19), (5, .int 1), (4, .int 0), (3, .ref ou), (2, .ref mo), (1, .ref f), (0, .ref b)]) hx hb d_L_law_331 hl (by decide) rfl (fun ls hl => ?_)
      refine lv_aload_n hx hb d_L_law_333 rfl (lv_at hl 4 rfl) ?_
      have hPc := hP.sub (ws' := [(mo, .inr (5, fs_21))]) [1] rfl
      have hKc := hK.sub (tys' := []) [] rfl
      refine va_calli (va_runV (As := []) (rest := []) ⟨hx, hb, hml, hown, hts⟩ (k_M_thrown l dC dI mo fs_21 1 hfs) (cwV 0 hts (gV hsub w_401 w_402 w_403 w_266 w_404) rfl rfl rfl (by decide +kernel) ⟨Nat.le_of_ble_eq_true rfl, Nat.le_of_ble_eq_true rfl⟩) ⟨bl_0000, va_recv hKc hPc (ci := 5) (q0 := 0) rfl rfl, fun U hU hW => ⟨rfl, by rw [hU]; exact hPc, va_K.moved hW.alike hKc⟩⟩ rfl rfl hl.1 rfl (lv_room (Nat.le_of_ble_eq_true rfl)) d_L_law_334 ⟨Nat.le_of_ble_eq_true rfl, Nat.le_of_ble_eq_true rfl⟩) hS (fun q _ h => h.elim) (fun q h => h.elim) (fun r_23 u_24 t H1 locs ht hvm hw hB hz1 hk1 hS => ?_)
      have hP := ro_keep hP hk1
      generalize H1 = H at hP hS ⊢
      refine W.widen (k := 148) (n := 53765) (Nat.le_of_ble_eq_true rfl) (Nat.le_of_ble_eq_true rfl) ?_
      subst hw
      refine lv_iload hx hb d_L_law_337 (lv_at hl 1 rfl) ?_
      refine lv_icmp_eq (tgt := 344) hx hb d_L_law_339 (by decide) (fun c_25 => ?_) (fun c_25 => ?_)
      · skip
        refine lv_iload hx hb d_L_law_344 (lv_at hl 1 rfl) ?_
        refine lv_if_ne (tgt := 361) hx hb d_L_law_346 (by decide) (fun c_26 => ?_) (fun c_26 => ?_)
        · skip
          refine lv_goto (tgt := 1192) hx hb d_L_law_361 (by decide) ?_
          refine lv_iinc (v := 7) (lv' := [(4, .int 7), (6, .int r_19), (5, .int 1), (3, .ref ou), (2, .ref mo), (1, .ref f), (0, .ref b)]) hx hb d_L_law_1192 hl (k := 2) rfl (by decide) (by decide) rfl (fun ls hl => ?_)
          refine lv_goto (tgt := 23) hx hb d_L_law_1195 (by decide) ?_
          refine lv_iload hx hb d_L_law_23 (lv_at hl 0 rfl) ?_
          refine lv_aload_n hx hb d_L_law_25 rfl (lv_at hl 6 rfl) ?_
          refine va_slen hx hb hX hbl hbA hS d_L_law_26 ?_
          refine tp_i 7 (rfl) ?_
          refine lv_bipush (v := 7) hx hb d_L_law_27 (by decide) ?_
          refine lv_isub hx hb d_L_law_29 ?_
          refine tp_i 0 (by decide) ?_
          refine lv_icmp_gt (tgt := 1198) hx hb d_L_law_30 (by decide) (fun c_27 => ?_) (fun c_27 => ?_)
          · skip
            refine lv_iconst (v := 1) hx hb d_L_law_1198 (by decide) ?_
            refine va_forget (fun q hq => hS.2.2 q hq) ?_
            refine W.widen (k := 600002) (n := 7302232) (Nat.le_of_ble_eq_true rfl) (Nat.le_of_ble_eq_true rfl) ?_
            exact lw_ret hx hb hr hlocks d_L_law_1199
          · skip
            first | exact absurd c_27 (by decide) | exact absurd (by decide) c_27
        · skip
          first | exact absurd c_26 (by decide) | exact absurd (by decide) c_26
      · skip
        first | exact absurd c_25 (by decide) | exact absurd (by decide) c_25

set_option maxHeartbeats 4000000 in
set_option maxRecDepth 100000 in
theorem law_c3 {p : Program} {e : Env} {s : State} {m : MethodId} {below : List Frame} {meth : Method} {cx : Code} (l : Launch) (hl9 : l.stackTraces = false) {b : Nat} {xs : Nat → Int32} (C0 : lw_At p s m meth cx b 7 xs) (hex : exP (fun q : Nat => s.heap.size ≤ q) s) {dC : Nat → ClassId} {dI : Nat → Nat → Nat} {f w wp wu wi wc wt wx wm k kh ks kc9 tp mo m_above m_isFace m_fieldClass m_fieldType m_fieldStatic m_arguments m_argumentCount m_results m_sizes m_codes m_maxStack m_maxLocals m_handlers m_handlerFrom m_handlerTo m_handlerPlace m_handlerClass m_verified m_fault m_faultAt m_tape m_begins m_high m_locals m_stacks m_due m_dead m_framed m_local m_before m_stack m_given m_givenStack m_cutFrom m_cutTo m_cutPlace m_cutClass m_bytes m_was m_now m_ends m_statics m_thingType m_thingSize m_elements m_slots m_callMethod m_callPlace m_callHigh m_values m_piles ou : Nat} {kp  ku  ki  kc  kt  kx  km  kt9  k_above  k_isFace  k_fieldClass  k_fieldType  k_fieldStatic  k_arguments  k_argumentCount  k_results  k_tape  k_ends  ko : ClassId} {H : Heap} {locs : List Loc} (hK : va_K (dC, dI) vwCl [(kt9, .int), (k_tape, .int)] s) (hP : va_P (dC, dI) vwCl [(f, .inr (4, [.ref w, .ref k, .ref tp, .int 0])), (tp, .inl (kt9, 400, .inl (fun _ => 0))), (mo, .inr (5, [.int 0, .int 2, .ref m_above, .ref m_isFace, .int 0, .ref m_fieldClass, .ref m_fieldType, .ref m_fieldStatic, .int 0, .ref m_arguments, .ref m_argumentCount, .ref m_results, .ref m_sizes, .ref m_codes, .ref m_maxStack, .ref m_maxLocals, .ref m_handlers, .ref m_handlerFrom, .ref m_handlerTo, .ref m_handlerPlace, .ref m_handlerClass, .ref m_verified, .ref m_fault, .ref m_faultAt, .int 0, .ref m_tape, .ref m_begins, .ref m_high, .ref m_locals, .ref m_stacks, .ref m_due, .ref m_dead, .ref m_framed, .int 0, .int 0, .int 0, .int 0, .ref m_local, .ref m_before, .ref m_stack, .int 0, .ref m_given, .ref m_givenStack, .int 0, .int 0, .int 0, .ref m_cutFrom, .ref m_cutTo, .ref m_cutPlace, .ref m_cutClass, .int 0, .ref m_bytes, .ref m_was, .int 0, .ref m_now, .int 0, .ref m_ends, .ref m_statics, .int 0, .ref m_thingType, .ref m_thingSize, .ref m_elements, .ref m_slots, .int 0, .ref m_callMethod, .ref m_callPlace, .ref m_callHigh, .ref m_values, .ref m_piles, .int 0, .long 0])), (m_tape, .inl (k_tape, 400, .inl (fun _ => 0)))] H) (hD : va_D (fun q : Nat => s.heap.size ≤ q) [(f, .inr (4, [.ref w, .ref k, .ref tp, .int 0])), (tp, .inl (kt9, 400, .inl (fun _ => 0))), (mo, .inr (5, [.int 0, .int 2, .ref m_above, .ref m_isFace, .int 0, .ref m_fieldClass, .ref m_fieldType, .ref m_fieldStatic, .int 0, .ref m_arguments, .ref m_argumentCount, .ref m_results, .ref m_sizes, .ref m_codes, .ref m_maxStack, .ref m_maxLocals, .ref m_handlers, .ref m_handlerFrom, .ref m_handlerTo, .ref m_handlerPlace, .ref m_handlerClass, .ref m_verified, .ref m_fault, .ref m_faultAt, .int 0, .ref m_tape, .ref m_begins, .ref m_high, .ref m_locals, .ref m_stacks, .ref m_due, .ref m_dead, .ref m_framed, .int 0, .int 0, .int 0, .int 0, .ref m_local, .ref m_before, .ref m_stack, .int 0, .ref m_given, .ref m_givenStack, .int 0, .int 0, .int 0, .ref m_cutFrom, .ref m_cutTo, .ref m_cutPlace, .ref m_cutClass, .int 0, .ref m_bytes, .ref m_was, .int 0, .ref m_now, .int 0, .ref m_ends, .ref m_statics, .int 0, .ref m_thingType, .ref m_thingSize, .ref m_elements, .ref m_slots, .int 0, .ref m_callMethod, .ref m_callPlace, .ref m_callHigh, .ref m_values, .ref m_piles, .int 0, .long 0])), (m_tape, .inl (k_tape, 400, .inl (fun _ => 0)))]) (hS : va_S (fun q : Nat => s.heap.size ≤ q) s.heap H locs) {ls : Array Slot} (hl : lv_has ls 8 [(4, .int 0), (3, .ref ou), (2, .ref mo), (1, .ref f), (0, .ref b)]) : W p l e room_1 s m #[Value.ref b] below meth cx H locs 142 53745 (lw_Z below #[Value.ref b] s) (F0 m 364 ls []) := by
  obtain ⟨hx, hb, hr, hml, hown0, hts0, hX, hbl, hlocks, hgv⟩ := id C0
  have hown : s.vm.findClass "MapFramerLaw" = some m.cls := hown0
  have hts : ∀ w ∈ bigW, w.before #[Value.ref b] s = true := fun w h => hts0 w (List.mem_filter.mp h).1
  have hsub : ∀ w ∈ bigW, w ∈ bigW := fun _ h => h
  have hA : ∀ q : Nat, s.heap.size ≤ q → (fun q : Nat => s.heap.size ≤ q) q := fun _ h => h
  have hbA : ¬ (fun q : Nat => s.heap.size ≤ q) b := Nat.not_le.mpr hbl
  refine lv_aload_n hx hb d_L_law_364 rfl (lv_at hl 3 rfl) ?_
  refine lv_aload_n hx hb d_L_law_365 rfl (lv_at hl 4 rfl) ?_
  refine lv_iload hx hb d_L_law_366 (lv_at hl 0 rfl) ?_
  refine lv_iconst (v := 1) hx hb d_L_law_368 (by decide) ?_
  refine lv_iadd hx hb d_L_law_369 ?_
  refine tp_i 1 (by decide) ?_
  refine va_sld hx hb hX hbl hbA hS (vp_in_iff.mpr (by decide)) d_L_law_370 ?_
  refine tp_i (xs 1) (congrArg xs (by decide)) ?_
  have hPc := hP.sub (ws' := [(f, .inr (4, [.ref w, .ref k, .ref tp, .int 0])), (tp, .inl (kt9, 400, .inl (fun _ => 0)))]) [0, 1] rfl
  have hKc := hK.sub (tys' := [(kt9, .int)]) [0] rfl
  have hDc := hD.sub (ws' := [(f, .inr (4, [.ref w, .ref k, .ref tp, .int 0])), (tp, .inl (kt9, 400, .inl (fun _ => 0)))]) [0, 1] (by decide) rfl
  have hFc := va_free (wc := [(f, .inr (4, [.ref w, .ref k, .ref tp, .int 0])), (tp, .inl (kt9, 400, .inl (fun _ => 0)))]) hD hS hA [0, 1] rfl
  refine va_calli (va_runV (As := [.int (xs 1)]) (rest := []) ⟨hx, hb, hml, hown, hts⟩ (k_F_feed l dC dI f w k tp kt9 ((xs 1)) H.size) (cwV 1 hts (gV hsub w_419 w_420 w_421 w_335 w_422) rfl rfl rfl (by decide +kernel) ⟨Nat.le_of_ble_eq_true rfl, Nat.le_of_ble_eq_true rfl⟩) ⟨bl_1000, va_recv hKc hPc (ci := 4) (q0 := 0) rfl rfl, fun U hU hW => ⟨rfl, by rw [hU], by rw [hU]; exact hPc, va_K.moved hW.alike hKc, hDc.weaken (fun _ _ _ _ => trivial)⟩⟩ rfl rfl hl.1 rfl (lv_room (Nat.le_of_ble_eq_true rfl)) d_L_law_371 ⟨Nat.le_of_ble_eq_true rfl, Nat.le_of_ble_eq_true rfl⟩) hS (fun q _ h => hFc q h) hFc (fun r_2 u_3 t H1 locs ht hvm hw hB hz1 hk1 hS => ?_)
  have hP1 : va_P (dC, dI) vwCl [] H1 := nil_P
  have hD1 : va_D (va_A [(f, .inr (4, [.ref w, .ref k, .ref tp, .int 0])), (tp, .inl (kt9, 400, .inl (fun _ => 0)))] H.size) [] := nil_D
  have hK1 : va_K (dC, dI) vwCl [] s := hK.sub (tys' := []) [] rfl
  obtain ⟨hP, hD⟩ := va_join (wr := [(mo, .inr (5, [.int 0, .int 2, .ref m_above, .ref m_isFace, .int 0, .ref m_fieldClass, .ref m_fieldType, .ref m_fieldStatic, .int 0, .ref m_arguments, .ref m_argumentCount, .ref m_results, .ref m_sizes, .ref m_codes, .ref m_maxStack, .ref m_maxLocals, .ref m_handlers, .ref m_handlerFrom, .ref m_handlerTo, .ref m_handlerPlace, .ref m_handlerClass, .ref m_verified, .ref m_fault, .ref m_faultAt, .int 0, .ref m_tape, .ref m_begins, .ref m_high, .ref m_locals, .ref m_stacks, .ref m_due, .ref m_dead, .ref m_framed, .int 0, .int 0, .int 0, .int 0, .ref m_local, .ref m_before, .ref m_stack, .int 0, .ref m_given, .ref m_givenStack, .int 0, .int 0, .int 0, .ref m_cutFrom, .ref m_cutTo, .ref m_cutPlace, .ref m_cutClass, .int 0, .ref m_bytes, .ref m_was, .int 0, .ref m_now, .int 0, .ref m_ends, .ref m_statics, .int 0, .ref m_thingType, .ref m_thingSize, .ref m_elements, .ref m_slots, .int 0, .ref m_callMethod, .ref m_callPlace, .ref m_callHigh, .ref m_values, .ref m_piles, .int 0, .long 0])), (m_tape, .inl (k_tape, 400, .inl (fun _ => 0)))]) (w1 := []) hP hD [0, 1] [2, 3] rfl rfl (by decide) (by decide) hk1 hFc hP1 hD1
  have hK := (hK.sub (tys' := [(kt9, .int), (k_tape, .int)]) [0, 1] rfl).app hK1
  generalize H1 = H at hP hS ⊢
  have hP : va_P (dC, dI) vwCl [(mo, .inr (5, [.int 0, .int 2, .ref m_above, .ref m_isFace, .int 0, .ref m_fieldClass, .ref m_fieldType, .ref m_fieldStatic, .int 0, .ref m_arguments, .ref m_argumentCount, .ref m_results, .ref m_sizes, .ref m_codes, .ref m_maxStack, .ref m_maxLocals, .ref m_handlers, .ref m_handlerFrom, .ref m_handlerTo, .ref m_handlerPlace, .ref m_handlerClass, .ref m_verified, .ref m_fault, .ref m_faultAt, .int 0, .ref m_tape, .ref m_begins, .ref m_high, .ref m_locals, .ref m_stacks, .ref m_due, .ref m_dead, .ref m_framed, .int 0, .int 0, .int 0, .int 0, .ref m_local, .ref m_before, .ref m_stack, .int 0, .ref m_given, .ref m_givenStack, .int 0, .int 0, .int 0, .ref m_cutFrom, .ref m_cutTo, .ref m_cutPlace, .ref m_cutClass, .int 0, .ref m_bytes, .ref m_was, .int 0, .ref m_now, .int 0, .ref m_ends, .ref m_statics, .int 0, .ref m_thingType, .ref m_thingSize, .ref m_elements, .ref m_slots, .int 0, .ref m_callMethod, .ref m_callPlace, .ref m_callHigh, .ref m_values, .ref m_piles, .int 0, .long 0])), (m_tape, .inl (k_tape, 400, .inl (fun _ => 0)))] H := hP
  have hD : va_D (fun q : Nat => s.heap.size ≤ q) [(mo, .inr (5, [.int 0, .int 2, .ref m_above, .ref m_isFace, .int 0, .ref m_fieldClass, .ref m_fieldType, .ref m_fieldStatic, .int 0, .ref m_arguments, .ref m_argumentCount, .ref m_results, .ref m_sizes, .ref m_codes, .ref m_maxStack, .ref m_maxLocals, .ref m_handlers, .ref m_handlerFrom, .ref m_handlerTo, .ref m_handlerPlace, .ref m_handlerClass, .ref m_verified, .ref m_fault, .ref m_faultAt, .int 0, .ref m_tape, .ref m_begins, .ref m_high, .ref m_locals, .ref m_stacks, .ref m_due, .ref m_dead, .ref m_framed, .int 0, .int 0, .int 0, .int 0, .ref m_local, .ref m_before, .ref m_stack, .int 0, .ref m_given, .ref m_givenStack, .int 0, .int 0, .int 0, .ref m_cutFrom, .ref m_cutTo, .ref m_cutPlace, .ref m_cutClass, .int 0, .ref m_bytes, .ref m_was, .int 0, .ref m_now, .int 0, .ref m_ends, .ref m_statics, .int 0, .ref m_thingType, .ref m_thingSize, .ref m_elements, .ref m_slots, .int 0, .ref m_callMethod, .ref m_callPlace, .ref m_callHigh, .ref m_values, .ref m_piles, .int 0, .long 0])), (m_tape, .inl (k_tape, 400, .inl (fun _ => 0)))] := hD
  have hK : va_K (dC, dI) vwCl [(kt9, .int), (k_tape, .int)] s := hK
  refine W.widen (k := 142) (n := 53745) (Nat.le_of_ble_eq_true rfl) (Nat.le_of_ble_eq_true rfl) ?_
  subst hw
  refine lv_aload_n hx hb d_L_law_374 rfl (lv_at hl 2 rfl) ?_
  refine lv_aload_n hx hb d_L_law_375 rfl (lv_at hl 4 rfl) ?_
  refine lv_iload hx hb d_L_law_376 (lv_at hl 0 rfl) ?_
  refine lv_iconst (v := 1) hx hb d_L_law_378 (by decide) ?_
  refine lv_iadd hx hb d_L_law_379 ?_
  refine tp_i 1 (by decide) ?_
  refine va_sld hx hb hX hbl hbA hS (vp_in_iff.mpr (by decide)) d_L_law_380 ?_
  refine tp_i (xs 1) (congrArg xs (by decide)) ?_
  have hPc := hP.sub (ws' := [(mo, .inr (5, [.int 0, .int 2, .ref m_above, .ref m_isFace, .int 0, .ref m_fieldClass, .ref m_fieldType, .ref m_fieldStatic, .int 0, .ref m_arguments, .ref m_argumentCount, .ref m_results, .ref m_sizes, .ref m_codes, .ref m_maxStack, .ref m_maxLocals, .ref m_handlers, .ref m_handlerFrom, .ref m_handlerTo, .ref m_handlerPlace, .ref m_handlerClass, .ref m_verified, .ref m_fault, .ref m_faultAt, .int 0, .ref m_tape, .ref m_begins, .ref m_high, .ref m_locals, .ref m_stacks, .ref m_due, .ref m_dead, .ref m_framed, .int 0, .int 0, .int 0, .int 0, .ref m_local, .ref m_before, .ref m_stack, .int 0, .ref m_given, .ref m_givenStack, .int 0, .int 0, .int 0, .ref m_cutFrom, .ref m_cutTo, .ref m_cutPlace, .ref m_cutClass, .int 0, .ref m_bytes, .ref m_was, .int 0, .ref m_now, .int 0, .ref m_ends, .ref m_statics, .int 0, .ref m_thingType, .ref m_thingSize, .ref m_elements, .ref m_slots, .int 0, .ref m_callMethod, .ref m_callPlace, .ref m_callHigh, .ref m_values, .ref m_piles, .int 0, .long 0])), (m_tape, .inl (k_tape, 400, .inl (fun _ => 0)))]) [0, 1] rfl
  have hKc := hK.sub (tys' := [(k_tape, .int)]) [1] rfl
  have hDc := hD.sub (ws' := [(mo, .inr (5, [.int 0, .int 2, .ref m_above, .ref m_isFace, .int 0, .ref m_fieldClass, .ref m_fieldType, .ref m_fieldStatic, .int 0, .ref m_arguments, .ref m_argumentCount, .ref m_results, .ref m_sizes, .ref m_codes, .ref m_maxStack, .ref m_maxLocals, .ref m_handlers, .ref m_handlerFrom, .ref m_handlerTo, .ref m_handlerPlace, .ref m_handlerClass, .ref m_verified, .ref m_fault, .ref m_faultAt, .int 0, .ref m_tape, .ref m_begins, .ref m_high, .ref m_locals, .ref m_stacks, .ref m_due, .ref m_dead, .ref m_framed, .int 0, .int 0, .int 0, .int 0, .ref m_local, .ref m_before, .ref m_stack, .int 0, .ref m_given, .ref m_givenStack, .int 0, .int 0, .int 0, .ref m_cutFrom, .ref m_cutTo, .ref m_cutPlace, .ref m_cutClass, .int 0, .ref m_bytes, .ref m_was, .int 0, .ref m_now, .int 0, .ref m_ends, .ref m_statics, .int 0, .ref m_thingType, .ref m_thingSize, .ref m_elements, .ref m_slots, .int 0, .ref m_callMethod, .ref m_callPlace, .ref m_callHigh, .ref m_values, .ref m_piles, .int 0, .long 0])), (m_tape, .inl (k_tape, 400, .inl (fun _ => 0)))]) [0, 1] (by decide) rfl
  have hFc := va_free (wc := [(mo, .inr (5, [.int 0, .int 2, .ref m_above, .ref m_isFace, .int 0, .ref m_fieldClass, .ref m_fieldType, .ref m_fieldStatic, .int 0, .ref m_arguments, .ref m_argumentCount, .ref m_results, .ref m_sizes, .ref m_codes, .ref m_maxStack, .ref m_maxLocals, .ref m_handlers, .ref m_handlerFrom, .ref m_handlerTo, .ref m_handlerPlace, .ref m_handlerClass, .ref m_verified, .ref m_fault, .ref m_faultAt, .int 0, .ref m_tape, .ref m_begins, .ref m_high, .ref m_locals, .ref m_stacks, .ref m_due, .ref m_dead, .ref m_framed, .int 0, .int 0, .int 0, .int 0, .ref m_local, .ref m_before, .ref m_stack, .int 0, .ref m_given, .ref m_givenStack, .int 0, .int 0, .int 0, .ref m_cutFrom, .ref m_cutTo, .ref m_cutPlace, .ref m_cutClass, .int 0, .ref m_bytes, .ref m_was, .int 0, .ref m_now, .int 0, .ref m_ends, .ref m_statics, .int 0, .ref m_thingType, .ref m_thingSize, .ref m_elements, .ref m_slots, .int 0, .ref m_callMethod, .ref m_callPlace, .ref m_callHigh, .ref m_values, .ref m_piles, .int 0, .long 0])), (m_tape, .inl (k_tape, 400, .inl (fun _ => 0)))]) hD hS hA [0, 1] rfl
  refine va_calli (va_runV (As := [.int (xs 1)]) (rest := [.int 1]) ⟨hx, hb, hml, hown, hts⟩ (k_M_feed l dC dI mo m_above m_isFace m_fieldClass m_fieldType m_fieldStatic m_arguments m_argumentCount m_results m_sizes m_codes m_maxStack m_maxLocals m_handlers m_handlerFrom m_handlerTo m_handlerPlace m_handlerClass m_verified m_fault m_faultAt m_tape m_begins m_high m_locals m_stacks m_due m_dead m_framed m_local m_before m_stack m_given m_givenStack m_cutFrom m_cutTo m_cutPlace m_cutClass m_bytes m_was m_now m_ends m_statics m_thingType m_thingSize m_elements m_slots m_callMethod m_callPlace m_callHigh m_values m_piles k_tape ((xs 1)) H.size) (cwV 1 hts (gV hsub w_423 w_424 w_425 w_266 w_426) rfl rfl rfl (by decide +kernel) ⟨Nat.le_of_ble_eq_true rfl, Nat.le_of_ble_eq_true rfl⟩) ⟨bl_1000, va_recv hKc hPc (ci := 5) (q0 := 0) rfl rfl, fun U hU hW => ⟨rfl, by rw [hU], by rw [hU]; exact hPc, va_K.moved hW.alike hKc, hDc.weaken (fun _ _ _ _ => trivial)⟩⟩ rfl rfl hl.1 rfl (lv_room (Nat.le_of_ble_eq_true rfl)) d_L_law_381 ⟨Nat.le_of_ble_eq_true rfl, Nat.le_of_ble_eq_true rfl⟩) hS (fun q _ h => hFc q h) hFc (fun r_5 u_6 t H1 locs ht hvm hw hB hz1 hk1 hS => ?_)
  obtain ⟨fs_7, hfs, hP1, hK1, hD1⟩ := hB
  rw [ht] at hP1
  have hK1 := va_K.moved hvm.symm hK1
  obtain ⟨hP, hD⟩ := va_join (wr := []) (w1 := [(mo, .inr (5, fs_7))]) hP hD [0, 1] [] rfl rfl (by decide) (by decide) hk1 hFc hP1 hD1
  have hK := (hK.sub (tys' := [(kt9, .int), (k_tape, .int)]) [0, 1] rfl).app hK1
  generalize H1 = H at hP hS ⊢
  have hP : va_P (dC, dI) vwCl [(mo, .inr (5, fs_7))] H := hP
  have hD : va_D (fun q : Nat => s.heap.size ≤ q) [(mo, .inr (5, fs_7))] := hD
  have hK : va_K (dC, dI) vwCl [(kt9, .int), (k_tape, .int)] s := hK
  refine W.widen (k := 142) (n := 53745) (Nat.le_of_ble_eq_true rfl) (Nat.le_of_ble_eq_true rfl) ?_
  obtain ⟨h91, h92⟩ := hw
  subst h91; subst h92
  refine lv_icmp_eq (tgt := 1192) hx hb d_L_law_384 (by decide) (fun c_8 => ?_) (fun c_8 => ?_)
  · skip
    refine lv_iinc (v := 7) (lv' := [(4, .int 7), (3, .ref ou), (2, .ref mo), (1, .ref f), (0, .ref b)]) hx hb d_L_law_1192 hl (k := 0) rfl (by decide) (by decide) rfl (fun ls hl => ?_)
    refine lv_goto (tgt := 23) hx hb d_L_law_1195 (by decide) ?_
    refine lv_iload hx hb d_L_law_23 (lv_at hl 0 rfl) ?_
    refine lv_aload_n hx hb d_L_law_25 rfl (lv_at hl 4 rfl) ?_
    refine va_slen hx hb hX hbl hbA hS d_L_law_26 ?_
    refine tp_i 7 (rfl) ?_
    refine lv_bipush (v := 7) hx hb d_L_law_27 (by decide) ?_
    refine lv_isub hx hb d_L_law_29 ?_
    refine tp_i 0 (by decide) ?_
    refine lv_icmp_gt (tgt := 1198) hx hb d_L_law_30 (by decide) (fun c_9 => ?_) (fun c_9 => ?_)
    · skip
      refine lv_iconst (v := 1) hx hb d_L_law_1198 (by decide) ?_
      refine va_forget (fun q hq => hS.2.2 q hq) ?_
      refine W.widen (k := 600002) (n := 7302232) (Nat.le_of_ble_eq_true rfl) (Nat.le_of_ble_eq_true rfl) ?_
      exact lw_ret hx hb hr hlocks d_L_law_1199
    · skip
      first | exact absurd c_9 (by decide) | exact absurd (by decide) c_9
  · skip
    first | exact absurd c_8 (by decide) | exact absurd (by decide) c_8

set_option maxHeartbeats 4000000 in
set_option maxRecDepth 100000 in
theorem law_c4 {p : Program} {e : Env} {s : State} {m : MethodId} {below : List Frame} {meth : Method} {cx : Code} (l : Launch) (hl9 : l.stackTraces = false) {b : Nat} {xs : Nat → Int32} (C0 : lw_At p s m meth cx b 7 xs) (hex : exP (fun q : Nat => s.heap.size ≤ q) s) {dC : Nat → ClassId} {dI : Nat → Nat → Nat} {f w wp wu wi wc wt wx wm k kh ks kc9 tp mo m_above m_isFace m_fieldClass m_fieldType m_fieldStatic m_arguments m_argumentCount m_results m_sizes m_codes m_maxStack m_maxLocals m_handlers m_handlerFrom m_handlerTo m_handlerPlace m_handlerClass m_verified m_fault m_faultAt m_tape m_begins m_high m_locals m_stacks m_due m_dead m_framed m_local m_before m_stack m_given m_givenStack m_cutFrom m_cutTo m_cutPlace m_cutClass m_bytes m_was m_now m_ends m_statics m_thingType m_thingSize m_elements m_slots m_callMethod m_callPlace m_callHigh m_values m_piles ou : Nat} {kp  ku  ki  kc  kt  kx  km  kt9  k_above  k_isFace  k_fieldClass  k_fieldType  k_fieldStatic  k_arguments  k_argumentCount  k_results  k_tape  k_ends  ko : ClassId} {H : Heap} {locs : List Loc} (hK : va_K (dC, dI) vwCl [] s) (hP : va_P (dC, dI) vwCl [(f, .inr (4, [.ref w, .ref k, .ref tp, .int 0])), (w, .inr (3, [.ref wp, .ref wu, .ref wi, .int 2, .ref wc, .ref wt, .ref wx, .int 0, .ref wm, .int 0])), (mo, .inr (5, [.int 0, .int 2, .ref m_above, .ref m_isFace, .int 0, .ref m_fieldClass, .ref m_fieldType, .ref m_fieldStatic, .int 0, .ref m_arguments, .ref m_argumentCount, .ref m_results, .ref m_sizes, .ref m_codes, .ref m_maxStack, .ref m_maxLocals, .ref m_handlers, .ref m_handlerFrom, .ref m_handlerTo, .ref m_handlerPlace, .ref m_handlerClass, .ref m_verified, .ref m_fault, .ref m_faultAt, .int 0, .ref m_tape, .ref m_begins, .ref m_high, .ref m_locals, .ref m_stacks, .ref m_due, .ref m_dead, .ref m_framed, .int 0, .int 0, .int 0, .int 0, .ref m_local, .ref m_before, .ref m_stack, .int 0, .ref m_given, .ref m_givenStack, .int 0, .int 0, .int 0, .ref m_cutFrom, .ref m_cutTo, .ref m_cutPlace, .ref m_cutClass, .int 0, .ref m_bytes, .ref m_was, .int 0, .ref m_now, .int 0, .ref m_ends, .ref m_statics, .int 0, .ref m_thingType, .ref m_thingSize, .ref m_elements, .ref m_slots, .int 0, .ref m_callMethod, .ref m_callPlace, .ref m_callHigh, .ref m_values, .ref m_piles, .int 0, .long 0]))] H) (hD : va_D (fun q : Nat => s.heap.size ≤ q) [(f, .inr (4, [.ref w, .ref k, .ref tp, .int 0])), (w, .inr (3, [.ref wp, .ref wu, .ref wi, .int 2, .ref wc, .ref wt, .ref wx, .int 0, .ref wm, .int 0])), (mo, .inr (5, [.int 0, .int 2, .ref m_above, .ref m_isFace, .int 0, .ref m_fieldClass, .ref m_fieldType, .ref m_fieldStatic, .int 0, .ref m_arguments, .ref m_argumentCount, .ref m_results, .ref m_sizes, .ref m_codes, .ref m_maxStack, .ref m_maxLocals, .ref m_handlers, .ref m_handlerFrom, .ref m_handlerTo, .ref m_handlerPlace, .ref m_handlerClass, .ref m_verified, .ref m_fault, .ref m_faultAt, .int 0, .ref m_tape, .ref m_begins, .ref m_high, .ref m_locals, .ref m_stacks, .ref m_due, .ref m_dead, .ref m_framed, .int 0, .int 0, .int 0, .int 0, .ref m_local, .ref m_before, .ref m_stack, .int 0, .ref m_given, .ref m_givenStack, .int 0, .int 0, .int 0, .ref m_cutFrom, .ref m_cutTo, .ref m_cutPlace, .ref m_cutClass, .int 0, .ref m_bytes, .ref m_was, .int 0, .ref m_now, .int 0, .ref m_ends, .ref m_statics, .int 0, .ref m_thingType, .ref m_thingSize, .ref m_elements, .ref m_slots, .int 0, .ref m_callMethod, .ref m_callPlace, .ref m_callHigh, .ref m_values, .ref m_piles, .int 0, .long 0]))]) (hS : va_S (fun q : Nat => s.heap.size ≤ q) s.heap H locs) {ls : Array Slot} (hl : lv_has ls 8 [(4, .int 0), (3, .ref ou), (2, .ref mo), (1, .ref f), (0, .ref b)]) : W p l e room_1 s m #[Value.ref b] below meth cx H locs 142 53745 (lw_Z below #[Value.ref b] s) (F0 m 389 ls []) := by
  obtain ⟨hx, hb, hr, hml, hown0, hts0, hX, hbl, hlocks, hgv⟩ := id C0
  have hown : s.vm.findClass "MapFramerLaw" = some m.cls := hown0
  have hts : ∀ w ∈ bigW, w.before #[Value.ref b] s = true := fun w h => hts0 w (List.mem_filter.mp h).1
  have hsub : ∀ w ∈ bigW, w ∈ bigW := fun _ h => h
  have hA : ∀ q : Nat, s.heap.size ≤ q → (fun q : Nat => s.heap.size ≤ q) q := fun _ h => h
  have hbA : ¬ (fun q : Nat => s.heap.size ≤ q) b := Nat.not_le.mpr hbl
  refine lv_aload_n hx hb d_L_law_389 rfl (lv_at hl 3 rfl) ?_
  refine lv_aload_n hx hb d_L_law_390 rfl (lv_at hl 4 rfl) ?_
  refine lv_iload hx hb d_L_law_391 (lv_at hl 0 rfl) ?_
  refine lv_iconst (v := 1) hx hb d_L_law_393 (by decide) ?_
  refine lv_iadd hx hb d_L_law_394 ?_
  refine tp_i 1 (by decide) ?_
  refine va_sld hx hb hX hbl hbA hS (vp_in_iff.mpr (by decide)) d_L_law_395 ?_
  refine tp_i (xs 1) (congrArg xs (by decide)) ?_
  refine lv_aload_n hx hb d_L_law_396 rfl (lv_at hl 4 rfl) ?_
  refine lv_iload hx hb d_L_law_397 (lv_at hl 0 rfl) ?_
  refine lv_iconst (v := 2) hx hb d_L_law_399 (by decide) ?_
  refine lv_iadd hx hb d_L_law_400 ?_
  refine tp_i 2 (by decide) ?_
  refine va_sld hx hb hX hbl hbA hS (vp_in_iff.mpr (by decide)) d_L_law_401 ?_
  refine tp_i (xs 2) (congrArg xs (by decide)) ?_
  refine lv_aload_n hx hb d_L_law_402 rfl (lv_at hl 4 rfl) ?_
  refine lv_iload hx hb d_L_law_403 (lv_at hl 0 rfl) ?_
  refine lv_iconst (v := 3) hx hb d_L_law_405 (by decide) ?_
  refine lv_iadd hx hb d_L_law_406 ?_
  refine tp_i 3 (by decide) ?_
  refine va_sld hx hb hX hbl hbA hS (vp_in_iff.mpr (by decide)) d_L_law_407 ?_
  refine tp_i (xs 3) (congrArg xs (by decide)) ?_
  refine lv_aload_n hx hb d_L_law_408 rfl (lv_at hl 4 rfl) ?_
  refine lv_iload hx hb d_L_law_409 (lv_at hl 0 rfl) ?_
  refine lv_iconst (v := 4) hx hb d_L_law_411 (by decide) ?_
  refine lv_iadd hx hb d_L_law_412 ?_
  refine tp_i 4 (by decide) ?_
  refine va_sld hx hb hX hbl hbA hS (vp_in_iff.mpr (by decide)) d_L_law_413 ?_
  refine tp_i (xs 4) (congrArg xs (by decide)) ?_
  have hPc := hP.sub (ws' := [(f, .inr (4, [.ref w, .ref k, .ref tp, .int 0])), (w, .inr (3, [.ref wp, .ref wu, .ref wi, .int 2, .ref wc, .ref wt, .ref wx, .int 0, .ref wm, .int 0]))]) [0, 1] rfl
  have hKc := hK.sub (tys' := []) [] rfl
  have hDc := hD.sub (ws' := [(f, .inr (4, [.ref w, .ref k, .ref tp, .int 0])), (w, .inr (3, [.ref wp, .ref wu, .ref wi, .int 2, .ref wc, .ref wt, .ref wx, .int 0, .ref wm, .int 0]))]) [0, 1] (by decide) rfl
  have hFc := va_free (wc := [(f, .inr (4, [.ref w, .ref k, .ref tp, .int 0])), (w, .inr (3, [.ref wp, .ref wu, .ref wi, .int 2, .ref wc, .ref wt, .ref wx, .int 0, .ref wm, .int 0]))]) hD hS hA [0, 1] rfl
  refine va_calli (vx_runSW (As := [.ref f, .int (xs 1), .int (xs 2), .int (xs 3), .int (xs 4)]) (rest := []) ⟨hx, hb, hml, hown, hts⟩ (k_L_code l hl9 dC dI f w k tp wp wu wi wc wt wx wm ((xs 1)) ((xs 2)) ((xs 3)) ((xs 4)) H.size) (vx_cwSW 5 hts (gS hsub w_427 w_428 w_395 w_429) rfl rfl rfl (by decide +kernel) ⟨Nat.le_of_ble_eq_true rfl, Nat.le_of_ble_eq_true rfl⟩) ⟨bl_1010, fun U hU hW => ⟨rfl, by rw [hU], by rw [hU]; exact hPc, va_K.moved hW.alike hKc, hDc.weaken (fun _ _ _ _ => trivial), exP_go hex hS (fun q h => hFc q h) U hU hW⟩⟩ rfl rfl hl.1 rfl (lv_room (Nat.le_of_ble_eq_true rfl)) d_L_law_414 ⟨Nat.le_of_ble_eq_true rfl, Nat.le_of_ble_eq_true rfl⟩) hS (fun q _ h => hFc q h) hFc (fun r_2 u_3 t H1 locs ht hvm hw hB hz1 hk1 hS => ?_)
  have hP1 : va_P (dC, dI) vwCl [] H1 := nil_P
  have hD1 : va_D (va_A [(f, .inr (4, [.ref w, .ref k, .ref tp, .int 0])), (w, .inr (3, [.ref wp, .ref wu, .ref wi, .int 2, .ref wc, .ref wt, .ref wx, .int 0, .ref wm, .int 0]))] H.size) [] := nil_D
  have hK1 : va_K (dC, dI) vwCl [] s := hK.sub (tys' := []) [] rfl
  obtain ⟨hP, hD⟩ := va_join (wr := [(mo, .inr (5, [.int 0, .int 2, .ref m_above, .ref m_isFace, .int 0, .ref m_fieldClass, .ref m_fieldType, .ref m_fieldStatic, .int 0, .ref m_arguments, .ref m_argumentCount, .ref m_results, .ref m_sizes, .ref m_codes, .ref m_maxStack, .ref m_maxLocals, .ref m_handlers, .ref m_handlerFrom, .ref m_handlerTo, .ref m_handlerPlace, .ref m_handlerClass, .ref m_verified, .ref m_fault, .ref m_faultAt, .int 0, .ref m_tape, .ref m_begins, .ref m_high, .ref m_locals, .ref m_stacks, .ref m_due, .ref m_dead, .ref m_framed, .int 0, .int 0, .int 0, .int 0, .ref m_local, .ref m_before, .ref m_stack, .int 0, .ref m_given, .ref m_givenStack, .int 0, .int 0, .int 0, .ref m_cutFrom, .ref m_cutTo, .ref m_cutPlace, .ref m_cutClass, .int 0, .ref m_bytes, .ref m_was, .int 0, .ref m_now, .int 0, .ref m_ends, .ref m_statics, .int 0, .ref m_thingType, .ref m_thingSize, .ref m_elements, .ref m_slots, .int 0, .ref m_callMethod, .ref m_callPlace, .ref m_callHigh, .ref m_values, .ref m_piles, .int 0, .long 0]))]) (w1 := []) hP hD [0, 1] [2] rfl rfl (by decide) (by decide) hk1 hFc hP1 hD1
  have hK := (hK.sub (tys' := []) [] rfl).app hK1
  generalize H1 = H at hP hS ⊢
  have hP : va_P (dC, dI) vwCl [(mo, .inr (5, [.int 0, .int 2, .ref m_above, .ref m_isFace, .int 0, .ref m_fieldClass, .ref m_fieldType, .ref m_fieldStatic, .int 0, .ref m_arguments, .ref m_argumentCount, .ref m_results, .ref m_sizes, .ref m_codes, .ref m_maxStack, .ref m_maxLocals, .ref m_handlers, .ref m_handlerFrom, .ref m_handlerTo, .ref m_handlerPlace, .ref m_handlerClass, .ref m_verified, .ref m_fault, .ref m_faultAt, .int 0, .ref m_tape, .ref m_begins, .ref m_high, .ref m_locals, .ref m_stacks, .ref m_due, .ref m_dead, .ref m_framed, .int 0, .int 0, .int 0, .int 0, .ref m_local, .ref m_before, .ref m_stack, .int 0, .ref m_given, .ref m_givenStack, .int 0, .int 0, .int 0, .ref m_cutFrom, .ref m_cutTo, .ref m_cutPlace, .ref m_cutClass, .int 0, .ref m_bytes, .ref m_was, .int 0, .ref m_now, .int 0, .ref m_ends, .ref m_statics, .int 0, .ref m_thingType, .ref m_thingSize, .ref m_elements, .ref m_slots, .int 0, .ref m_callMethod, .ref m_callPlace, .ref m_callHigh, .ref m_values, .ref m_piles, .int 0, .long 0]))] H := hP
  have hD : va_D (fun q : Nat => s.heap.size ≤ q) [(mo, .inr (5, [.int 0, .int 2, .ref m_above, .ref m_isFace, .int 0, .ref m_fieldClass, .ref m_fieldType, .ref m_fieldStatic, .int 0, .ref m_arguments, .ref m_argumentCount, .ref m_results, .ref m_sizes, .ref m_codes, .ref m_maxStack, .ref m_maxLocals, .ref m_handlers, .ref m_handlerFrom, .ref m_handlerTo, .ref m_handlerPlace, .ref m_handlerClass, .ref m_verified, .ref m_fault, .ref m_faultAt, .int 0, .ref m_tape, .ref m_begins, .ref m_high, .ref m_locals, .ref m_stacks, .ref m_due, .ref m_dead, .ref m_framed, .int 0, .int 0, .int 0, .int 0, .ref m_local, .ref m_before, .ref m_stack, .int 0, .ref m_given, .ref m_givenStack, .int 0, .int 0, .int 0, .ref m_cutFrom, .ref m_cutTo, .ref m_cutPlace, .ref m_cutClass, .int 0, .ref m_bytes, .ref m_was, .int 0, .ref m_now, .int 0, .ref m_ends, .ref m_statics, .int 0, .ref m_thingType, .ref m_thingSize, .ref m_elements, .ref m_slots, .int 0, .ref m_callMethod, .ref m_callPlace, .ref m_callHigh, .ref m_values, .ref m_piles, .int 0, .long 0]))] := hD
  have hK : va_K (dC, dI) vwCl [] s := hK
  refine W.widen (k := 143) (n := 53751) (Nat.le_of_ble_eq_true rfl) (Nat.le_of_ble_eq_true rfl) ?_
  obtain rfl : r_2 = 1 := hw
  refine lv_istore (lv' := [(5, .int 1), (4, .int 0), (3, .ref ou), (2, .ref mo), (1, .ref f), (0, .ref b)]) hx hb d_L_law_417 hl (by decide) rfl (fun ls hl => ?_)
  refine lv_aload_n hx hb d_L_law_419 rfl (lv_at hl 3 rfl) ?_
  refine lv_aload_n hx hb d_L_law_420 rfl (lv_at hl 5 rfl) ?_
  refine lv_iload hx hb d_L_law_421 (lv_at hl 1 rfl) ?_
  refine lv_iconst (v := 1) hx hb d_L_law_423 (by decide) ?_
  refine lv_iadd hx hb d_L_law_424 ?_
  refine tp_i 1 (by decide) ?_
  refine va_sld hx hb hX hbl hbA hS (vp_in_iff.mpr (by decide)) d_L_law_425 ?_
  refine tp_i (xs 1) (congrArg xs (by decide)) ?_
  refine lv_aload_n hx hb d_L_law_426 rfl (lv_at hl 5 rfl) ?_
  refine lv_iload hx hb d_L_law_427 (lv_at hl 1 rfl) ?_
  refine lv_iconst (v := 2) hx hb d_L_law_429 (by decide) ?_
  refine lv_iadd hx hb d_L_law_430 ?_
  refine tp_i 2 (by decide) ?_
  refine va_sld hx hb hX hbl hbA hS (vp_in_iff.mpr (by decide)) d_L_law_431 ?_
  refine tp_i (xs 2) (congrArg xs (by decide)) ?_
  refine lv_aload_n hx hb d_L_law_432 rfl (lv_at hl 5 rfl) ?_
  refine lv_iload hx hb d_L_law_433 (lv_at hl 1 rfl) ?_
  refine lv_iconst (v := 3) hx hb d_L_law_435 (by decide) ?_
  refine lv_iadd hx hb d_L_law_436 ?_
  refine tp_i 3 (by decide) ?_
  refine va_sld hx hb hX hbl hbA hS (vp_in_iff.mpr (by decide)) d_L_law_437 ?_
  refine tp_i (xs 3) (congrArg xs (by decide)) ?_
  refine lv_aload_n hx hb d_L_law_438 rfl (lv_at hl 5 rfl) ?_
  refine lv_iload hx hb d_L_law_439 (lv_at hl 1 rfl) ?_
  refine lv_iconst (v := 4) hx hb d_L_law_441 (by decide) ?_
  refine lv_iadd hx hb d_L_law_442 ?_
  refine tp_i 4 (by decide) ?_
  refine va_sld hx hb hX hbl hbA hS (vp_in_iff.mpr (by decide)) d_L_law_443 ?_
  refine tp_i (xs 4) (congrArg xs (by decide)) ?_
  have hPc := hP.sub (ws' := [(mo, .inr (5, [.int 0, .int 2, .ref m_above, .ref m_isFace, .int 0, .ref m_fieldClass, .ref m_fieldType, .ref m_fieldStatic, .int 0, .ref m_arguments, .ref m_argumentCount, .ref m_results, .ref m_sizes, .ref m_codes, .ref m_maxStack, .ref m_maxLocals, .ref m_handlers, .ref m_handlerFrom, .ref m_handlerTo, .ref m_handlerPlace, .ref m_handlerClass, .ref m_verified, .ref m_fault, .ref m_faultAt, .int 0, .ref m_tape, .ref m_begins, .ref m_high, .ref m_locals, .ref m_stacks, .ref m_due, .ref m_dead, .ref m_framed, .int 0, .int 0, .int 0, .int 0, .ref m_local, .ref m_before, .ref m_stack, .int 0, .ref m_given, .ref m_givenStack, .int 0, .int 0, .int 0, .ref m_cutFrom, .ref m_cutTo, .ref m_cutPlace, .ref m_cutClass, .int 0, .ref m_bytes, .ref m_was, .int 0, .ref m_now, .int 0, .ref m_ends, .ref m_statics, .int 0, .ref m_thingType, .ref m_thingSize, .ref m_elements, .ref m_slots, .int 0, .ref m_callMethod, .ref m_callPlace, .ref m_callHigh, .ref m_values, .ref m_piles, .int 0, .long 0]))]) [0] rfl
  have hKc := hK.sub (tys' := []) [] rfl
  have hDc := hD.sub (ws' := [(mo, .inr (5, [.int 0, .int 2, .ref m_above, .ref m_isFace, .int 0, .ref m_fieldClass, .ref m_fieldType, .ref m_fieldStatic, .int 0, .ref m_arguments, .ref m_argumentCount, .ref m_results, .ref m_sizes, .ref m_codes, .ref m_maxStack, .ref m_maxLocals, .ref m_handlers, .ref m_handlerFrom, .ref m_handlerTo, .ref m_handlerPlace, .ref m_handlerClass, .ref m_verified, .ref m_fault, .ref m_faultAt, .int 0, .ref m_tape, .ref m_begins, .ref m_high, .ref m_locals, .ref m_stacks, .ref m_due, .ref m_dead, .ref m_framed, .int 0, .int 0, .int 0, .int 0, .ref m_local, .ref m_before, .ref m_stack, .int 0, .ref m_given, .ref m_givenStack, .int 0, .int 0, .int 0, .ref m_cutFrom, .ref m_cutTo, .ref m_cutPlace, .ref m_cutClass, .int 0, .ref m_bytes, .ref m_was, .int 0, .ref m_now, .int 0, .ref m_ends, .ref m_statics, .int 0, .ref m_thingType, .ref m_thingSize, .ref m_elements, .ref m_slots, .int 0, .ref m_callMethod, .ref m_callPlace, .ref m_callHigh, .ref m_values, .ref m_piles, .int 0, .long 0]))]) [0] (by decide) rfl
  have hFc := va_free (wc := [(mo, .inr (5, [.int 0, .int 2, .ref m_above, .ref m_isFace, .int 0, .ref m_fieldClass, .ref m_fieldType, .ref m_fieldStatic, .int 0, .ref m_arguments, .ref m_argumentCount, .ref m_results, .ref m_sizes, .ref m_codes, .ref m_maxStack, .ref m_maxLocals, .ref m_handlers, .ref m_handlerFrom, .ref m_handlerTo, .ref m_handlerPlace, .ref m_handlerClass, .ref m_verified, .ref m_fault, .ref m_faultAt, .int 0, .ref m_tape, .ref m_begins, .ref m_high, .ref m_locals, .ref m_stacks, .ref m_due, .ref m_dead, .ref m_framed, .int 0, .int 0, .int 0, .int 0, .ref m_local, .ref m_before, .ref m_stack, .int 0, .ref m_given, .ref m_givenStack, .int 0, .int 0, .int 0, .ref m_cutFrom, .ref m_cutTo, .ref m_cutPlace, .ref m_cutClass, .int 0, .ref m_bytes, .ref m_was, .int 0, .ref m_now, .int 0, .ref m_ends, .ref m_statics, .int 0, .ref m_thingType, .ref m_thingSize, .ref m_elements, .ref m_slots, .int 0, .ref m_callMethod, .ref m_callPlace, .ref m_callHigh, .ref m_values, .ref m_piles, .int 0, .long 0]))]) hD hS hA [0] rfl
  refine va_callv (va_runV (As := [.int (xs 1), .int (xs 2), .int (xs 3), .int (xs 4)]) (rest := []) ⟨hx, hb, hml, hown, hts⟩ (k_M_code l dC dI mo m_above m_isFace m_fieldClass m_fieldType m_fieldStatic m_arguments m_argumentCount m_results m_sizes m_codes m_maxStack m_maxLocals m_handlers m_handlerFrom m_handlerTo m_handlerPlace m_handlerClass m_verified m_fault m_faultAt m_tape m_begins m_high m_locals m_stacks m_due m_dead m_framed m_local m_before m_stack m_given m_givenStack m_cutFrom m_cutTo m_cutPlace m_cutClass m_bytes m_was m_now m_ends m_statics m_thingType m_thingSize m_elements m_slots m_callMethod m_callPlace m_callHigh m_values m_piles ((xs 1)) ((xs 2)) ((xs 3)) ((xs 4)) H.size) (cwV 4 hts (gV hsub w_430 w_431 w_432 w_266 w_433) rfl rfl rfl (by decide +kernel) ⟨Nat.le_of_ble_eq_true rfl, Nat.le_of_ble_eq_true rfl⟩) ⟨bl_1000, va_recv hKc hPc (ci := 5) (q0 := 0) rfl rfl, fun U hU hW => ⟨rfl, by rw [hU], by rw [hU]; exact hPc, va_K.moved hW.alike hKc, hDc.weaken (fun _ _ _ _ => trivial)⟩⟩ rfl rfl hl.1 rfl (lv_room (Nat.le_of_ble_eq_true rfl)) d_L_law_444 ⟨Nat.le_of_ble_eq_true rfl, Nat.le_of_ble_eq_true rfl⟩) hS (fun q _ h => hFc q h) hFc (fun u_6 t H1 locs ht hvm hw hB hz1 hk1 hS => ?_)
  obtain ⟨fs_7, hfs, hP1, hK1, hD1⟩ := hB
  rw [ht] at hP1
  have hK1 := va_K.moved hvm.symm hK1
  obtain ⟨hP, hD⟩ := va_join (wr := []) (w1 := [(mo, .inr (5, fs_7))]) hP hD [0] [] rfl rfl (by decide) (by decide) hk1 hFc hP1 hD1
  have hK := (hK.sub (tys' := []) [] rfl).app hK1
  generalize H1 = H at hP hS ⊢
  have hP : va_P (dC, dI) vwCl [(mo, .inr (5, fs_7))] H := hP
  have hD : va_D (fun q : Nat => s.heap.size ≤ q) [(mo, .inr (5, fs_7))] := hD
  have hK : va_K (dC, dI) vwCl [] s := hK
  refine W.widen (k := 143) (n := 53751) (Nat.le_of_ble_eq_true rfl) (Nat.le_of_ble_eq_true rfl) ?_
  subst hw
  refine lv_aload_n hx hb d_L_law_447 rfl (lv_at hl 3 rfl) ?_
  have hPc := hP.sub (ws' := [(mo, .inr (5, fs_7))]) [0] rfl
  have hKc := hK.sub (tys' := []) [] rfl
  refine va_calli (va_runV (As := []) (rest := []) ⟨hx, hb, hml, hown, hts⟩ (k_M_thrown l dC dI mo fs_7 1 hfs) (cwV 0 hts (gV hsub w_401 w_402 w_403 w_266 w_404) rfl rfl rfl (by decide +kernel) ⟨Nat.le_of_ble_eq_true rfl, Nat.le_of_ble_eq_true rfl⟩) ⟨bl_0000, va_recv hKc hPc (ci := 5) (q0 := 0) rfl rfl, fun U hU hW => ⟨rfl, by rw [hU]; exact hPc, va_K.moved hW.alike hKc⟩⟩ rfl rfl hl.1 rfl (lv_room (Nat.le_of_ble_eq_true rfl)) d_L_law_448 ⟨Nat.le_of_ble_eq_true rfl, Nat.le_of_ble_eq_true rfl⟩) hS (fun q _ h => h.elim) (fun q h => h.elim) (fun r_9 u_10 t H1 locs ht hvm hw hB hz1 hk1 hS => ?_)
  have hP := ro_keep hP hk1
  generalize H1 = H at hP hS ⊢
  refine W.widen (k := 143) (n := 53751) (Nat.le_of_ble_eq_true rfl) (Nat.le_of_ble_eq_true rfl) ?_
  subst hw
  refine lv_iload hx hb d_L_law_451 (lv_at hl 0 rfl) ?_
  refine lv_icmp_eq (tgt := 458) hx hb d_L_law_453 (by decide) (fun c_11 => ?_) (fun c_11 => ?_)
  · skip
    refine lv_goto (tgt := 1192) hx hb d_L_law_458 (by decide) ?_
    refine lv_iinc (v := 7) (lv' := [(4, .int 7), (5, .int 1), (3, .ref ou), (2, .ref mo), (1, .ref f), (0, .ref b)]) hx hb d_L_law_1192 hl (k := 1) rfl (by decide) (by decide) rfl (fun ls hl => ?_)
    refine lv_goto (tgt := 23) hx hb d_L_law_1195 (by decide) ?_
    refine lv_iload hx hb d_L_law_23 (lv_at hl 0 rfl) ?_
    refine lv_aload_n hx hb d_L_law_25 rfl (lv_at hl 5 rfl) ?_
    refine va_slen hx hb hX hbl hbA hS d_L_law_26 ?_
    refine tp_i 7 (rfl) ?_
    refine lv_bipush (v := 7) hx hb d_L_law_27 (by decide) ?_
    refine lv_isub hx hb d_L_law_29 ?_
    refine tp_i 0 (by decide) ?_
    refine lv_icmp_gt (tgt := 1198) hx hb d_L_law_30 (by decide) (fun c_12 => ?_) (fun c_12 => ?_)
    · skip
      refine lv_iconst (v := 1) hx hb d_L_law_1198 (by decide) ?_
      refine va_forget (fun q hq => hS.2.2 q hq) ?_
      refine W.widen (k := 600002) (n := 7302232) (Nat.le_of_ble_eq_true rfl) (Nat.le_of_ble_eq_true rfl) ?_
      exact lw_ret hx hb hr hlocks d_L_law_1199
    · skip
      first | exact absurd c_12 (by decide) | exact absurd (by decide) c_12
  · skip
    first | exact absurd c_11 (by decide) | exact absurd (by decide) c_11

set_option maxHeartbeats 4000000 in
set_option maxRecDepth 100000 in
theorem law_c5 {p : Program} {e : Env} {s : State} {m : MethodId} {below : List Frame} {meth : Method} {cx : Code} (l : Launch) (hl9 : l.stackTraces = false) {b : Nat} {xs : Nat → Int32} (C0 : lw_At p s m meth cx b 7 xs) (hex : exP (fun q : Nat => s.heap.size ≤ q) s) {dC : Nat → ClassId} {dI : Nat → Nat → Nat} {f w wp wu wi wc wt wx wm k kh ks kc9 tp mo m_above m_isFace m_fieldClass m_fieldType m_fieldStatic m_arguments m_argumentCount m_results m_sizes m_codes m_maxStack m_maxLocals m_handlers m_handlerFrom m_handlerTo m_handlerPlace m_handlerClass m_verified m_fault m_faultAt m_tape m_begins m_high m_locals m_stacks m_due m_dead m_framed m_local m_before m_stack m_given m_givenStack m_cutFrom m_cutTo m_cutPlace m_cutClass m_bytes m_was m_now m_ends m_statics m_thingType m_thingSize m_elements m_slots m_callMethod m_callPlace m_callHigh m_values m_piles ou : Nat} {kp  ku  ki  kc  kt  kx  km  kt9  k_above  k_isFace  k_fieldClass  k_fieldType  k_fieldStatic  k_arguments  k_argumentCount  k_results  k_tape  k_ends  ko : ClassId} {H : Heap} {locs : List Loc} (hK : va_K (dC, dI) vwCl [(ko, .long)] s) (hP : va_P (dC, dI) vwCl [(f, .inr (4, [.ref w, .ref k, .ref tp, .int 0])), (w, .inr (3, [.ref wp, .ref wu, .ref wi, .int 2, .ref wc, .ref wt, .ref wx, .int 0, .ref wm, .int 0])), (mo, .inr (5, [.int 0, .int 2, .ref m_above, .ref m_isFace, .int 0, .ref m_fieldClass, .ref m_fieldType, .ref m_fieldStatic, .int 0, .ref m_arguments, .ref m_argumentCount, .ref m_results, .ref m_sizes, .ref m_codes, .ref m_maxStack, .ref m_maxLocals, .ref m_handlers, .ref m_handlerFrom, .ref m_handlerTo, .ref m_handlerPlace, .ref m_handlerClass, .ref m_verified, .ref m_fault, .ref m_faultAt, .int 0, .ref m_tape, .ref m_begins, .ref m_high, .ref m_locals, .ref m_stacks, .ref m_due, .ref m_dead, .ref m_framed, .int 0, .int 0, .int 0, .int 0, .ref m_local, .ref m_before, .ref m_stack, .int 0, .ref m_given, .ref m_givenStack, .int 0, .int 0, .int 0, .ref m_cutFrom, .ref m_cutTo, .ref m_cutPlace, .ref m_cutClass, .int 0, .ref m_bytes, .ref m_was, .int 0, .ref m_now, .int 0, .ref m_ends, .ref m_statics, .int 0, .ref m_thingType, .ref m_thingSize, .ref m_elements, .ref m_slots, .int 0, .ref m_callMethod, .ref m_callPlace, .ref m_callHigh, .ref m_values, .ref m_piles, .int 0, .long 0])), (ou, .inl (ko, 1, .inr (.inl (fun _ => 0))))] H) (hD : va_D (fun q : Nat => s.heap.size ≤ q) [(f, .inr (4, [.ref w, .ref k, .ref tp, .int 0])), (w, .inr (3, [.ref wp, .ref wu, .ref wi, .int 2, .ref wc, .ref wt, .ref wx, .int 0, .ref wm, .int 0])), (mo, .inr (5, [.int 0, .int 2, .ref m_above, .ref m_isFace, .int 0, .ref m_fieldClass, .ref m_fieldType, .ref m_fieldStatic, .int 0, .ref m_arguments, .ref m_argumentCount, .ref m_results, .ref m_sizes, .ref m_codes, .ref m_maxStack, .ref m_maxLocals, .ref m_handlers, .ref m_handlerFrom, .ref m_handlerTo, .ref m_handlerPlace, .ref m_handlerClass, .ref m_verified, .ref m_fault, .ref m_faultAt, .int 0, .ref m_tape, .ref m_begins, .ref m_high, .ref m_locals, .ref m_stacks, .ref m_due, .ref m_dead, .ref m_framed, .int 0, .int 0, .int 0, .int 0, .ref m_local, .ref m_before, .ref m_stack, .int 0, .ref m_given, .ref m_givenStack, .int 0, .int 0, .int 0, .ref m_cutFrom, .ref m_cutTo, .ref m_cutPlace, .ref m_cutClass, .int 0, .ref m_bytes, .ref m_was, .int 0, .ref m_now, .int 0, .ref m_ends, .ref m_statics, .int 0, .ref m_thingType, .ref m_thingSize, .ref m_elements, .ref m_slots, .int 0, .ref m_callMethod, .ref m_callPlace, .ref m_callHigh, .ref m_values, .ref m_piles, .int 0, .long 0])), (ou, .inl (ko, 1, .inr (.inl (fun _ => 0))))]) (hS : va_S (fun q : Nat => s.heap.size ≤ q) s.heap H locs) {ls : Array Slot} (hl : lv_has ls 8 [(4, .int 0), (3, .ref ou), (2, .ref mo), (1, .ref f), (0, .ref b)]) : W p l e room_1 s m #[Value.ref b] below meth cx H locs 142 53745 (lw_Z below #[Value.ref b] s) (F0 m 461 ls []) := by
  obtain ⟨hx, hb, hr, hml, hown0, hts0, hX, hbl, hlocks, hgv⟩ := id C0
  have hown : s.vm.findClass "MapFramerLaw" = some m.cls := hown0
  have hts : ∀ w ∈ bigW, w.before #[Value.ref b] s = true := fun w h => hts0 w (List.mem_filter.mp h).1
  have hsub : ∀ w ∈ bigW, w ∈ bigW := fun _ h => h
  have hA : ∀ q : Nat, s.heap.size ≤ q → (fun q : Nat => s.heap.size ≤ q) q := fun _ h => h
  have hbA : ¬ (fun q : Nat => s.heap.size ≤ q) b := Nat.not_le.mpr hbl
  refine lv_aload_n hx hb d_L_law_461 rfl (lv_at hl 3 rfl) ?_
  refine lv_aload_n hx hb d_L_law_462 rfl (lv_at hl 4 rfl) ?_
  refine lv_iload hx hb d_L_law_463 (lv_at hl 0 rfl) ?_
  refine lv_iconst (v := 1) hx hb d_L_law_465 (by decide) ?_
  refine lv_iadd hx hb d_L_law_466 ?_
  refine tp_i 1 (by decide) ?_
  refine va_sld hx hb hX hbl hbA hS (vp_in_iff.mpr (by decide)) d_L_law_467 ?_
  refine tp_i (xs 1) (congrArg xs (by decide)) ?_
  refine lv_aload_n hx hb d_L_law_468 rfl (lv_at hl 4 rfl) ?_
  refine lv_iload hx hb d_L_law_469 (lv_at hl 0 rfl) ?_
  refine lv_iconst (v := 2) hx hb d_L_law_471 (by decide) ?_
  refine lv_iadd hx hb d_L_law_472 ?_
  refine tp_i 2 (by decide) ?_
  refine va_sld hx hb hX hbl hbA hS (vp_in_iff.mpr (by decide)) d_L_law_473 ?_
  refine tp_i (xs 2) (congrArg xs (by decide)) ?_
  refine lv_aload_n hx hb d_L_law_474 rfl (lv_at hl 4 rfl) ?_
  refine lv_iload hx hb d_L_law_475 (lv_at hl 0 rfl) ?_
  refine lv_iconst (v := 3) hx hb d_L_law_477 (by decide) ?_
  refine lv_iadd hx hb d_L_law_478 ?_
  refine tp_i 3 (by decide) ?_
  refine va_sld hx hb hX hbl hbA hS (vp_in_iff.mpr (by decide)) d_L_law_479 ?_
  refine tp_i (xs 3) (congrArg xs (by decide)) ?_
  refine lv_aload_n hx hb d_L_law_480 rfl (lv_at hl 4 rfl) ?_
  refine lv_iload hx hb d_L_law_481 (lv_at hl 0 rfl) ?_
  refine lv_iconst (v := 4) hx hb d_L_law_483 (by decide) ?_
  refine lv_iadd hx hb d_L_law_484 ?_
  refine tp_i 4 (by decide) ?_
  refine va_sld hx hb hX hbl hbA hS (vp_in_iff.mpr (by decide)) d_L_law_485 ?_
  refine tp_i (xs 4) (congrArg xs (by decide)) ?_
  refine lv_aload_n hx hb d_L_law_486 rfl (lv_at hl 4 rfl) ?_
  refine lv_iload hx hb d_L_law_487 (lv_at hl 0 rfl) ?_
  refine lv_iconst (v := 5) hx hb d_L_law_489 (by decide) ?_
  refine lv_iadd hx hb d_L_law_490 ?_
  refine tp_i 5 (by decide) ?_
  refine va_sld hx hb hX hbl hbA hS (vp_in_iff.mpr (by decide)) d_L_law_491 ?_
  refine tp_i (xs 5) (congrArg xs (by decide)) ?_
  refine lv_aload_n hx hb d_L_law_492 rfl (lv_at hl 1 rfl) ?_
  have hPc := hP.sub (ws' := [(f, .inr (4, [.ref w, .ref k, .ref tp, .int 0])), (w, .inr (3, [.ref wp, .ref wu, .ref wi, .int 2, .ref wc, .ref wt, .ref wx, .int 0, .ref wm, .int 0])), (ou, .inl (ko, 1, .inr (.inl (fun _ => 0))))]) [0, 1, 3] rfl
  have hKc := hK.sub (tys' := [(ko, .long)]) [0] rfl
  have hDc := hD.sub (ws' := [(f, .inr (4, [.ref w, .ref k, .ref tp, .int 0])), (w, .inr (3, [.ref wp, .ref wu, .ref wi, .int 2, .ref wc, .ref wt, .ref wx, .int 0, .ref wm, .int 0])), (ou, .inl (ko, 1, .inr (.inl (fun _ => 0))))]) [0, 1, 3] (by decide) rfl
  have hFc := va_free (wc := [(f, .inr (4, [.ref w, .ref k, .ref tp, .int 0])), (w, .inr (3, [.ref wp, .ref wu, .ref wi, .int 2, .ref wc, .ref wt, .ref wx, .int 0, .ref wm, .int 0])), (ou, .inl (ko, 1, .inr (.inl (fun _ => 0))))]) hD hS hA [0, 1, 3] rfl
  refine va_calli (vx_runSW (As := [.ref f, .int (xs 1), .int (xs 2), .int (xs 3), .int (xs 4), .int (xs 5), .ref ou]) (rest := []) ⟨hx, hb, hml, hown, hts⟩ (k_L_handler l hl9 dC dI f w k tp wp wu wi wc wt wx wm ((xs 1)) ((xs 2)) ((xs 3)) ((xs 4)) ((xs 5)) ou ko (fun _ => 0) H.size) (vx_cwSW 7 hts (gS hsub w_434 w_435 w_395 w_436) rfl rfl rfl (by decide +kernel) ⟨Nat.le_of_ble_eq_true rfl, Nat.le_of_ble_eq_true rfl⟩) ⟨bl_1010, fun U hU hW => ⟨rfl, by rw [hU], by rw [hU]; exact hPc, va_K.moved hW.alike hKc, hDc.weaken (fun _ _ _ _ => trivial), exP_go hex hS (fun q h => hFc q h) U hU hW⟩⟩ rfl rfl hl.1 rfl (lv_room (Nat.le_of_ble_eq_true rfl)) d_L_law_493 ⟨Nat.le_of_ble_eq_true rfl, Nat.le_of_ble_eq_true rfl⟩) hS (fun q _ h => hFc q h) hFc (fun r_2 u_3 t H1 locs ht hvm hw hB hz1 hk1 hS => ?_)
  obtain ⟨fo_4, hfo, hP1, hK1, hD1⟩ := hB
  rw [ht] at hP1
  have hK1 := va_K.moved hvm.symm hK1
  obtain ⟨hP, hD⟩ := va_join (wr := [(mo, .inr (5, [.int 0, .int 2, .ref m_above, .ref m_isFace, .int 0, .ref m_fieldClass, .ref m_fieldType, .ref m_fieldStatic, .int 0, .ref m_arguments, .ref m_argumentCount, .ref m_results, .ref m_sizes, .ref m_codes, .ref m_maxStack, .ref m_maxLocals, .ref m_handlers, .ref m_handlerFrom, .ref m_handlerTo, .ref m_handlerPlace, .ref m_handlerClass, .ref m_verified, .ref m_fault, .ref m_faultAt, .int 0, .ref m_tape, .ref m_begins, .ref m_high, .ref m_locals, .ref m_stacks, .ref m_due, .ref m_dead, .ref m_framed, .int 0, .int 0, .int 0, .int 0, .ref m_local, .ref m_before, .ref m_stack, .int 0, .ref m_given, .ref m_givenStack, .int 0, .int 0, .int 0, .ref m_cutFrom, .ref m_cutTo, .ref m_cutPlace, .ref m_cutClass, .int 0, .ref m_bytes, .ref m_was, .int 0, .ref m_now, .int 0, .ref m_ends, .ref m_statics, .int 0, .ref m_thingType, .ref m_thingSize, .ref m_elements, .ref m_slots, .int 0, .ref m_callMethod, .ref m_callPlace, .ref m_callHigh, .ref m_values, .ref m_piles, .int 0, .long 0]))]) (w1 := [(ou, .inl (ko, 1, .inr (.inl fo_4)))]) hP hD [0, 1, 3] [2] rfl rfl (by decide) (by decide) hk1 hFc hP1 hD1
  have hK := (hK.sub (tys' := [(ko, .long)]) [0] rfl).app hK1
  generalize H1 = H at hP hS ⊢
  have hP : va_P (dC, dI) vwCl [(mo, .inr (5, [.int 0, .int 2, .ref m_above, .ref m_isFace, .int 0, .ref m_fieldClass, .ref m_fieldType, .ref m_fieldStatic, .int 0, .ref m_arguments, .ref m_argumentCount, .ref m_results, .ref m_sizes, .ref m_codes, .ref m_maxStack, .ref m_maxLocals, .ref m_handlers, .ref m_handlerFrom, .ref m_handlerTo, .ref m_handlerPlace, .ref m_handlerClass, .ref m_verified, .ref m_fault, .ref m_faultAt, .int 0, .ref m_tape, .ref m_begins, .ref m_high, .ref m_locals, .ref m_stacks, .ref m_due, .ref m_dead, .ref m_framed, .int 0, .int 0, .int 0, .int 0, .ref m_local, .ref m_before, .ref m_stack, .int 0, .ref m_given, .ref m_givenStack, .int 0, .int 0, .int 0, .ref m_cutFrom, .ref m_cutTo, .ref m_cutPlace, .ref m_cutClass, .int 0, .ref m_bytes, .ref m_was, .int 0, .ref m_now, .int 0, .ref m_ends, .ref m_statics, .int 0, .ref m_thingType, .ref m_thingSize, .ref m_elements, .ref m_slots, .int 0, .ref m_callMethod, .ref m_callPlace, .ref m_callHigh, .ref m_values, .ref m_piles, .int 0, .long 0])), (ou, .inl (ko, 1, .inr (.inl fo_4)))] H := hP
  have hD : va_D (fun q : Nat => s.heap.size ≤ q) [(mo, .inr (5, [.int 0, .int 2, .ref m_above, .ref m_isFace, .int 0, .ref m_fieldClass, .ref m_fieldType, .ref m_fieldStatic, .int 0, .ref m_arguments, .ref m_argumentCount, .ref m_results, .ref m_sizes, .ref m_codes, .ref m_maxStack, .ref m_maxLocals, .ref m_handlers, .ref m_handlerFrom, .ref m_handlerTo, .ref m_handlerPlace, .ref m_handlerClass, .ref m_verified, .ref m_fault, .ref m_faultAt, .int 0, .ref m_tape, .ref m_begins, .ref m_high, .ref m_locals, .ref m_stacks, .ref m_due, .ref m_dead, .ref m_framed, .int 0, .int 0, .int 0, .int 0, .ref m_local, .ref m_before, .ref m_stack, .int 0, .ref m_given, .ref m_givenStack, .int 0, .int 0, .int 0, .ref m_cutFrom, .ref m_cutTo, .ref m_cutPlace, .ref m_cutClass, .int 0, .ref m_bytes, .ref m_was, .int 0, .ref m_now, .int 0, .ref m_ends, .ref m_statics, .int 0, .ref m_thingType, .ref m_thingSize, .ref m_elements, .ref m_slots, .int 0, .ref m_callMethod, .ref m_callPlace, .ref m_callHigh, .ref m_values, .ref m_piles, .int 0, .long 0])), (ou, .inl (ko, 1, .inr (.inl fo_4)))] := hD
  have hK : va_K (dC, dI) vwCl [(ko, .long), (ko, .long)] s := hK
  refine W.widen (k := 143) (n := 53751) (Nat.le_of_ble_eq_true rfl) (Nat.le_of_ble_eq_true rfl) ?_
  obtain rfl : r_2 = 1 := hw
  refine lv_istore (lv' := [(5, .int 1), (4, .int 0), (3, .ref ou), (2, .ref mo), (1, .ref f), (0, .ref b)]) hx hb d_L_law_496 hl (by decide) rfl (fun ls hl => ?_)
  refine lv_aload_n hx hb d_L_law_498 rfl (lv_at hl 3 rfl) ?_
  refine lv_aload_n hx hb d_L_law_499 rfl (lv_at hl 5 rfl) ?_
  refine lv_iload hx hb d_L_law_500 (lv_at hl 1 rfl) ?_
  refine lv_iconst (v := 1) hx hb d_L_law_502 (by decide) ?_
  refine lv_iadd hx hb d_L_law_503 ?_
  refine tp_i 1 (by decide) ?_
  refine va_sld hx hb hX hbl hbA hS (vp_in_iff.mpr (by decide)) d_L_law_504 ?_
  refine tp_i (xs 1) (congrArg xs (by decide)) ?_
  refine lv_aload_n hx hb d_L_law_505 rfl (lv_at hl 5 rfl) ?_
  refine lv_iload hx hb d_L_law_506 (lv_at hl 1 rfl) ?_
  refine lv_iconst (v := 2) hx hb d_L_law_508 (by decide) ?_
  refine lv_iadd hx hb d_L_law_509 ?_
  refine tp_i 2 (by decide) ?_
  refine va_sld hx hb hX hbl hbA hS (vp_in_iff.mpr (by decide)) d_L_law_510 ?_
  refine tp_i (xs 2) (congrArg xs (by decide)) ?_
  refine lv_aload_n hx hb d_L_law_511 rfl (lv_at hl 5 rfl) ?_
  refine lv_iload hx hb d_L_law_512 (lv_at hl 1 rfl) ?_
  refine lv_iconst (v := 3) hx hb d_L_law_514 (by decide) ?_
  refine lv_iadd hx hb d_L_law_515 ?_
  refine tp_i 3 (by decide) ?_
  refine va_sld hx hb hX hbl hbA hS (vp_in_iff.mpr (by decide)) d_L_law_516 ?_
  refine tp_i (xs 3) (congrArg xs (by decide)) ?_
  refine lv_aload_n hx hb d_L_law_517 rfl (lv_at hl 5 rfl) ?_
  refine lv_iload hx hb d_L_law_518 (lv_at hl 1 rfl) ?_
  refine lv_iconst (v := 4) hx hb d_L_law_520 (by decide) ?_
  refine lv_iadd hx hb d_L_law_521 ?_
  refine tp_i 4 (by decide) ?_
  refine va_sld hx hb hX hbl hbA hS (vp_in_iff.mpr (by decide)) d_L_law_522 ?_
  refine tp_i (xs 4) (congrArg xs (by decide)) ?_
  refine lv_aload_n hx hb d_L_law_523 rfl (lv_at hl 5 rfl) ?_
  refine lv_iload hx hb d_L_law_524 (lv_at hl 1 rfl) ?_
  refine lv_iconst (v := 5) hx hb d_L_law_526 (by decide) ?_
  refine lv_iadd hx hb d_L_law_527 ?_
  refine tp_i 5 (by decide) ?_
  refine va_sld hx hb hX hbl hbA hS (vp_in_iff.mpr (by decide)) d_L_law_528 ?_
  refine tp_i (xs 5) (congrArg xs (by decide)) ?_
  have hPc := hP.sub (ws' := [(mo, .inr (5, [.int 0, .int 2, .ref m_above, .ref m_isFace, .int 0, .ref m_fieldClass, .ref m_fieldType, .ref m_fieldStatic, .int 0, .ref m_arguments, .ref m_argumentCount, .ref m_results, .ref m_sizes, .ref m_codes, .ref m_maxStack, .ref m_maxLocals, .ref m_handlers, .ref m_handlerFrom, .ref m_handlerTo, .ref m_handlerPlace, .ref m_handlerClass, .ref m_verified, .ref m_fault, .ref m_faultAt, .int 0, .ref m_tape, .ref m_begins, .ref m_high, .ref m_locals, .ref m_stacks, .ref m_due, .ref m_dead, .ref m_framed, .int 0, .int 0, .int 0, .int 0, .ref m_local, .ref m_before, .ref m_stack, .int 0, .ref m_given, .ref m_givenStack, .int 0, .int 0, .int 0, .ref m_cutFrom, .ref m_cutTo, .ref m_cutPlace, .ref m_cutClass, .int 0, .ref m_bytes, .ref m_was, .int 0, .ref m_now, .int 0, .ref m_ends, .ref m_statics, .int 0, .ref m_thingType, .ref m_thingSize, .ref m_elements, .ref m_slots, .int 0, .ref m_callMethod, .ref m_callPlace, .ref m_callHigh, .ref m_values, .ref m_piles, .int 0, .long 0]))]) [0] rfl
  have hKc := hK.sub (tys' := []) [] rfl
  have hDc := hD.sub (ws' := [(mo, .inr (5, [.int 0, .int 2, .ref m_above, .ref m_isFace, .int 0, .ref m_fieldClass, .ref m_fieldType, .ref m_fieldStatic, .int 0, .ref m_arguments, .ref m_argumentCount, .ref m_results, .ref m_sizes, .ref m_codes, .ref m_maxStack, .ref m_maxLocals, .ref m_handlers, .ref m_handlerFrom, .ref m_handlerTo, .ref m_handlerPlace, .ref m_handlerClass, .ref m_verified, .ref m_fault, .ref m_faultAt, .int 0, .ref m_tape, .ref m_begins, .ref m_high, .ref m_locals, .ref m_stacks, .ref m_due, .ref m_dead, .ref m_framed, .int 0, .int 0, .int 0, .int 0, .ref m_local, .ref m_before, .ref m_stack, .int 0, .ref m_given, .ref m_givenStack, .int 0, .int 0, .int 0, .ref m_cutFrom, .ref m_cutTo, .ref m_cutPlace, .ref m_cutClass, .int 0, .ref m_bytes, .ref m_was, .int 0, .ref m_now, .int 0, .ref m_ends, .ref m_statics, .int 0, .ref m_thingType, .ref m_thingSize, .ref m_elements, .ref m_slots, .int 0, .ref m_callMethod, .ref m_callPlace, .ref m_callHigh, .ref m_values, .ref m_piles, .int 0, .long 0]))]) [0] (by decide) rfl
  have hFc := va_free (wc := [(mo, .inr (5, [.int 0, .int 2, .ref m_above, .ref m_isFace, .int 0, .ref m_fieldClass, .ref m_fieldType, .ref m_fieldStatic, .int 0, .ref m_arguments, .ref m_argumentCount, .ref m_results, .ref m_sizes, .ref m_codes, .ref m_maxStack, .ref m_maxLocals, .ref m_handlers, .ref m_handlerFrom, .ref m_handlerTo, .ref m_handlerPlace, .ref m_handlerClass, .ref m_verified, .ref m_fault, .ref m_faultAt, .int 0, .ref m_tape, .ref m_begins, .ref m_high, .ref m_locals, .ref m_stacks, .ref m_due, .ref m_dead, .ref m_framed, .int 0, .int 0, .int 0, .int 0, .ref m_local, .ref m_before, .ref m_stack, .int 0, .ref m_given, .ref m_givenStack, .int 0, .int 0, .int 0, .ref m_cutFrom, .ref m_cutTo, .ref m_cutPlace, .ref m_cutClass, .int 0, .ref m_bytes, .ref m_was, .int 0, .ref m_now, .int 0, .ref m_ends, .ref m_statics, .int 0, .ref m_thingType, .ref m_thingSize, .ref m_elements, .ref m_slots, .int 0, .ref m_callMethod, .ref m_callPlace, .ref m_callHigh, .ref m_values, .ref m_piles, .int 0, .long 0]))]) hD hS hA [0] rfl
  refine va_calli (va_runV (As := [.int (xs 1), .int (xs 2), .int (xs 3), .int (xs 4), .int (xs 5)]) (rest := []) ⟨hx, hb, hml, hown, hts⟩ (k_M_handler l dC dI mo m_above m_isFace m_fieldClass m_fieldType m_fieldStatic m_arguments m_argumentCount m_results m_sizes m_codes m_maxStack m_maxLocals m_handlers m_handlerFrom m_handlerTo m_handlerPlace m_handlerClass m_verified m_fault m_faultAt m_tape m_begins m_high m_locals m_stacks m_due m_dead m_framed m_local m_before m_stack m_given m_givenStack m_cutFrom m_cutTo m_cutPlace m_cutClass m_bytes m_was m_now m_ends m_statics m_thingType m_thingSize m_elements m_slots m_callMethod m_callPlace m_callHigh m_values m_piles ((xs 1)) ((xs 2)) ((xs 3)) ((xs 4)) ((xs 5)) H.size) (cwV 5 hts (gV hsub w_437 w_438 w_439 w_266 w_440) rfl rfl rfl (by decide +kernel) ⟨Nat.le_of_ble_eq_true rfl, Nat.le_of_ble_eq_true rfl⟩) ⟨bl_1000, va_recv hKc hPc (ci := 5) (q0 := 0) rfl rfl, fun U hU hW => ⟨rfl, by rw [hU], by rw [hU]; exact hPc, va_K.moved hW.alike hKc, hDc.weaken (fun _ _ _ _ => trivial)⟩⟩ rfl rfl hl.1 rfl (lv_room (Nat.le_of_ble_eq_true rfl)) d_L_law_529 ⟨Nat.le_of_ble_eq_true rfl, Nat.le_of_ble_eq_true rfl⟩) hS (fun q _ h => hFc q h) hFc (fun r_6 u_7 t H1 locs ht hvm hw hB hz1 hk1 hS => ?_)
  obtain ⟨fs_8, hfs, hP1, hK1, hD1⟩ := hB
  rw [ht] at hP1
  have hK1 := va_K.moved hvm.symm hK1
  obtain ⟨hP, hD⟩ := va_join (wr := [(ou, .inl (ko, 1, .inr (.inl fo_4)))]) (w1 := [(mo, .inr (5, fs_8))]) hP hD [0] [1] rfl rfl (by decide) (by decide) hk1 hFc hP1 hD1
  have hK := (hK.sub (tys' := [(ko, .long), (ko, .long)]) [0, 1] rfl).app hK1
  generalize H1 = H at hP hS ⊢
  have hP : va_P (dC, dI) vwCl [(ou, .inl (ko, 1, .inr (.inl fo_4))), (mo, .inr (5, fs_8))] H := hP
  have hD : va_D (fun q : Nat => s.heap.size ≤ q) [(ou, .inl (ko, 1, .inr (.inl fo_4))), (mo, .inr (5, fs_8))] := hD
  have hK : va_K (dC, dI) vwCl [(ko, .long), (ko, .long)] s := hK
  refine W.widen (k := 143) (n := 53751) (Nat.le_of_ble_eq_true rfl) (Nat.le_of_ble_eq_true rfl) ?_
  subst hw
  refine lv_istore (lv' := [(6, .int r_6), (5, .int 1), (4, .int 0), (3, .ref ou), (2, .ref mo), (1, .ref f), (0, .ref b)]) hx hb d_L_law_532 hl (by decide) rfl (fun ls hl => ?_)
  refine lv_aload_n hx hb d_L_law_534 rfl (lv_at hl 4 rfl) ?_
  have hPc := hP.sub (ws' := [(mo, .inr (5, fs_8))]) [1] rfl
  have hKc := hK.sub (tys' := []) [] rfl
  refine va_calli (va_runV (As := []) (rest := []) ⟨hx, hb, hml, hown, hts⟩ (k_M_thrown l dC dI mo fs_8 1 hfs) (cwV 0 hts (gV hsub w_401 w_402 w_403 w_266 w_404) rfl rfl rfl (by decide +kernel) ⟨Nat.le_of_ble_eq_true rfl, Nat.le_of_ble_eq_true rfl⟩) ⟨bl_0000, va_recv hKc hPc (ci := 5) (q0 := 0) rfl rfl, fun U hU hW => ⟨rfl, by rw [hU]; exact hPc, va_K.moved hW.alike hKc⟩⟩ rfl rfl hl.1 rfl (lv_room (Nat.le_of_ble_eq_true rfl)) d_L_law_535 ⟨Nat.le_of_ble_eq_true rfl, Nat.le_of_ble_eq_true rfl⟩) hS (fun q _ h => h.elim) (fun q h => h.elim) (fun r_10 u_11 t H1 locs ht hvm hw hB hz1 hk1 hS => ?_)
  have hP := ro_keep hP hk1
  generalize H1 = H at hP hS ⊢
  refine W.widen (k := 143) (n := 53751) (Nat.le_of_ble_eq_true rfl) (Nat.le_of_ble_eq_true rfl) ?_
  subst hw
  refine lv_iload hx hb d_L_law_538 (lv_at hl 1 rfl) ?_
  refine lv_icmp_eq (tgt := 545) hx hb d_L_law_540 (by decide) (fun c_12 => ?_) (fun c_12 => ?_)
  · skip
    refine lv_iload hx hb d_L_law_545 (lv_at hl 1 rfl) ?_
    refine lv_if_ne (tgt := 562) hx hb d_L_law_547 (by decide) (fun c_13 => ?_) (fun c_13 => ?_)
    · skip
      refine lv_goto (tgt := 1192) hx hb d_L_law_562 (by decide) ?_
      refine lv_iinc (v := 7) (lv' := [(4, .int 7), (6, .int r_6), (5, .int 1), (3, .ref ou), (2, .ref mo), (1, .ref f), (0, .ref b)]) hx hb d_L_law_1192 hl (k := 2) rfl (by decide) (by decide) rfl (fun ls hl => ?_)
      refine lv_goto (tgt := 23) hx hb d_L_law_1195 (by decide) ?_
      refine lv_iload hx hb d_L_law_23 (lv_at hl 0 rfl) ?_
      refine lv_aload_n hx hb d_L_law_25 rfl (lv_at hl 6 rfl) ?_
      refine va_slen hx hb hX hbl hbA hS d_L_law_26 ?_
      refine tp_i 7 (rfl) ?_
      refine lv_bipush (v := 7) hx hb d_L_law_27 (by decide) ?_
      refine lv_isub hx hb d_L_law_29 ?_
      refine tp_i 0 (by decide) ?_
      refine lv_icmp_gt (tgt := 1198) hx hb d_L_law_30 (by decide) (fun c_14 => ?_) (fun c_14 => ?_)
      · skip
        refine lv_iconst (v := 1) hx hb d_L_law_1198 (by decide) ?_
        refine va_forget (fun q hq => hS.2.2 q hq) ?_
        refine W.widen (k := 600002) (n := 7302232) (Nat.le_of_ble_eq_true rfl) (Nat.le_of_ble_eq_true rfl) ?_
        exact lw_ret hx hb hr hlocks d_L_law_1199
      · skip
        first | exact absurd c_14 (by decide) | exact absurd (by decide) c_14
    · skip
      first | exact absurd c_13 (by decide) | exact absurd (by decide) c_13
  · skip
    first | exact absurd c_12 (by decide) | exact absurd (by decide) c_12

set_option maxHeartbeats 4000000 in
set_option maxRecDepth 100000 in
theorem law_c6 {p : Program} {e : Env} {s : State} {m : MethodId} {below : List Frame} {meth : Method} {cx : Code} (l : Launch) (hl9 : l.stackTraces = false) {b : Nat} {xs : Nat → Int32} (C0 : lw_At p s m meth cx b 7 xs) (hex : exP (fun q : Nat => s.heap.size ≤ q) s) {dC : Nat → ClassId} {dI : Nat → Nat → Nat} {f w wp wu wi wc wt wx wm k kh ks kc9 tp mo m_above m_isFace m_fieldClass m_fieldType m_fieldStatic m_arguments m_argumentCount m_results m_sizes m_codes m_maxStack m_maxLocals m_handlers m_handlerFrom m_handlerTo m_handlerPlace m_handlerClass m_verified m_fault m_faultAt m_tape m_begins m_high m_locals m_stacks m_due m_dead m_framed m_local m_before m_stack m_given m_givenStack m_cutFrom m_cutTo m_cutPlace m_cutClass m_bytes m_was m_now m_ends m_statics m_thingType m_thingSize m_elements m_slots m_callMethod m_callPlace m_callHigh m_values m_piles ou : Nat} {kp  ku  ki  kc  kt  kx  km  kt9  k_above  k_isFace  k_fieldClass  k_fieldType  k_fieldStatic  k_arguments  k_argumentCount  k_results  k_tape  k_ends  ko : ClassId} {H : Heap} {locs : List Loc} (hK : va_K (dC, dI) vwCl [(ko, .long)] s) (hP : va_P (dC, dI) vwCl [(f, .inr (4, [.ref w, .ref k, .ref tp, .int 0])), (w, .inr (3, [.ref wp, .ref wu, .ref wi, .int 2, .ref wc, .ref wt, .ref wx, .int 0, .ref wm, .int 0])), (mo, .inr (5, [.int 0, .int 2, .ref m_above, .ref m_isFace, .int 0, .ref m_fieldClass, .ref m_fieldType, .ref m_fieldStatic, .int 0, .ref m_arguments, .ref m_argumentCount, .ref m_results, .ref m_sizes, .ref m_codes, .ref m_maxStack, .ref m_maxLocals, .ref m_handlers, .ref m_handlerFrom, .ref m_handlerTo, .ref m_handlerPlace, .ref m_handlerClass, .ref m_verified, .ref m_fault, .ref m_faultAt, .int 0, .ref m_tape, .ref m_begins, .ref m_high, .ref m_locals, .ref m_stacks, .ref m_due, .ref m_dead, .ref m_framed, .int 0, .int 0, .int 0, .int 0, .ref m_local, .ref m_before, .ref m_stack, .int 0, .ref m_given, .ref m_givenStack, .int 0, .int 0, .int 0, .ref m_cutFrom, .ref m_cutTo, .ref m_cutPlace, .ref m_cutClass, .int 0, .ref m_bytes, .ref m_was, .int 0, .ref m_now, .int 0, .ref m_ends, .ref m_statics, .int 0, .ref m_thingType, .ref m_thingSize, .ref m_elements, .ref m_slots, .int 0, .ref m_callMethod, .ref m_callPlace, .ref m_callHigh, .ref m_values, .ref m_piles, .int 0, .long 0])), (ou, .inl (ko, 1, .inr (.inl (fun _ => 0))))] H) (hD : va_D (fun q : Nat => s.heap.size ≤ q) [(f, .inr (4, [.ref w, .ref k, .ref tp, .int 0])), (w, .inr (3, [.ref wp, .ref wu, .ref wi, .int 2, .ref wc, .ref wt, .ref wx, .int 0, .ref wm, .int 0])), (mo, .inr (5, [.int 0, .int 2, .ref m_above, .ref m_isFace, .int 0, .ref m_fieldClass, .ref m_fieldType, .ref m_fieldStatic, .int 0, .ref m_arguments, .ref m_argumentCount, .ref m_results, .ref m_sizes, .ref m_codes, .ref m_maxStack, .ref m_maxLocals, .ref m_handlers, .ref m_handlerFrom, .ref m_handlerTo, .ref m_handlerPlace, .ref m_handlerClass, .ref m_verified, .ref m_fault, .ref m_faultAt, .int 0, .ref m_tape, .ref m_begins, .ref m_high, .ref m_locals, .ref m_stacks, .ref m_due, .ref m_dead, .ref m_framed, .int 0, .int 0, .int 0, .int 0, .ref m_local, .ref m_before, .ref m_stack, .int 0, .ref m_given, .ref m_givenStack, .int 0, .int 0, .int 0, .ref m_cutFrom, .ref m_cutTo, .ref m_cutPlace, .ref m_cutClass, .int 0, .ref m_bytes, .ref m_was, .int 0, .ref m_now, .int 0, .ref m_ends, .ref m_statics, .int 0, .ref m_thingType, .ref m_thingSize, .ref m_elements, .ref m_slots, .int 0, .ref m_callMethod, .ref m_callPlace, .ref m_callHigh, .ref m_values, .ref m_piles, .int 0, .long 0])), (ou, .inl (ko, 1, .inr (.inl (fun _ => 0))))]) (hS : va_S (fun q : Nat => s.heap.size ≤ q) s.heap H locs) {ls : Array Slot} (hl : lv_has ls 8 [(4, .int 0), (3, .ref ou), (2, .ref mo), (1, .ref f), (0, .ref b)]) : W p l e room_1 s m #[Value.ref b] below meth cx H locs 142 53745 (lw_Z below #[Value.ref b] s) (F0 m 565 ls []) := by
  obtain ⟨hx, hb, hr, hml, hown0, hts0, hX, hbl, hlocks, hgv⟩ := id C0
  have hown : s.vm.findClass "MapFramerLaw" = some m.cls := hown0
  have hts : ∀ w ∈ bigW, w.before #[Value.ref b] s = true := fun w h => hts0 w (List.mem_filter.mp h).1
  have hsub : ∀ w ∈ bigW, w ∈ bigW := fun _ h => h
  have hA : ∀ q : Nat, s.heap.size ≤ q → (fun q : Nat => s.heap.size ≤ q) q := fun _ h => h
  have hbA : ¬ (fun q : Nat => s.heap.size ≤ q) b := Nat.not_le.mpr hbl
  refine lv_aload_n hx hb d_L_law_565 rfl (lv_at hl 3 rfl) ?_
  refine lv_aload_n hx hb d_L_law_566 rfl (lv_at hl 4 rfl) ?_
  refine lv_iload hx hb d_L_law_567 (lv_at hl 0 rfl) ?_
  refine lv_iconst (v := 1) hx hb d_L_law_569 (by decide) ?_
  refine lv_iadd hx hb d_L_law_570 ?_
  refine tp_i 1 (by decide) ?_
  refine va_sld hx hb hX hbl hbA hS (vp_in_iff.mpr (by decide)) d_L_law_571 ?_
  refine tp_i (xs 1) (congrArg xs (by decide)) ?_
  refine lv_aload_n hx hb d_L_law_572 rfl (lv_at hl 1 rfl) ?_
  have hPc := hP.sub (ws' := [(f, .inr (4, [.ref w, .ref k, .ref tp, .int 0])), (w, .inr (3, [.ref wp, .ref wu, .ref wi, .int 2, .ref wc, .ref wt, .ref wx, .int 0, .ref wm, .int 0])), (ou, .inl (ko, 1, .inr (.inl (fun _ => 0))))]) [0, 1, 3] rfl
  have hKc := hK.sub (tys' := [(ko, .long)]) [0] rfl
  have hDc := hD.sub (ws' := [(f, .inr (4, [.ref w, .ref k, .ref tp, .int 0])), (w, .inr (3, [.ref wp, .ref wu, .ref wi, .int 2, .ref wc, .ref wt, .ref wx, .int 0, .ref wm, .int 0])), (ou, .inl (ko, 1, .inr (.inl (fun _ => 0))))]) [0, 1, 3] (by decide) rfl
  have hFc := va_free (wc := [(f, .inr (4, [.ref w, .ref k, .ref tp, .int 0])), (w, .inr (3, [.ref wp, .ref wu, .ref wi, .int 2, .ref wc, .ref wt, .ref wx, .int 0, .ref wm, .int 0])), (ou, .inl (ko, 1, .inr (.inl (fun _ => 0))))]) hD hS hA [0, 1, 3] rfl
  refine va_calli (vx_runSW (As := [.ref f, .int (xs 1), .ref ou]) (rest := []) ⟨hx, hb, hml, hown, hts⟩ (k_L_verify l hl9 dC dI f w k tp wp wu wi wc wt wx wm ((xs 1)) ou ko (fun _ => 0) H.size) (vx_cwSW 3 hts (gS hsub w_441 w_442 w_395 w_443) rfl rfl rfl (by decide +kernel) ⟨Nat.le_of_ble_eq_true rfl, Nat.le_of_ble_eq_true rfl⟩) ⟨bl_1010, fun U hU hW => ⟨rfl, by rw [hU], by rw [hU]; exact hPc, va_K.moved hW.alike hKc, hDc.weaken (fun _ _ _ _ => trivial), exP_go hex hS (fun q h => hFc q h) U hU hW⟩⟩ rfl rfl hl.1 rfl (lv_room (Nat.le_of_ble_eq_true rfl)) d_L_law_573 ⟨Nat.le_of_ble_eq_true rfl, Nat.le_of_ble_eq_true rfl⟩) hS (fun q _ h => hFc q h) hFc (fun r_2 u_3 t H1 locs ht hvm hw hB hz1 hk1 hS => ?_)
  obtain ⟨fo_4, hfo, hP1, hK1, hD1⟩ := hB
  rw [ht] at hP1
  have hK1 := va_K.moved hvm.symm hK1
  obtain ⟨hP, hD⟩ := va_join (wr := [(mo, .inr (5, [.int 0, .int 2, .ref m_above, .ref m_isFace, .int 0, .ref m_fieldClass, .ref m_fieldType, .ref m_fieldStatic, .int 0, .ref m_arguments, .ref m_argumentCount, .ref m_results, .ref m_sizes, .ref m_codes, .ref m_maxStack, .ref m_maxLocals, .ref m_handlers, .ref m_handlerFrom, .ref m_handlerTo, .ref m_handlerPlace, .ref m_handlerClass, .ref m_verified, .ref m_fault, .ref m_faultAt, .int 0, .ref m_tape, .ref m_begins, .ref m_high, .ref m_locals, .ref m_stacks, .ref m_due, .ref m_dead, .ref m_framed, .int 0, .int 0, .int 0, .int 0, .ref m_local, .ref m_before, .ref m_stack, .int 0, .ref m_given, .ref m_givenStack, .int 0, .int 0, .int 0, .ref m_cutFrom, .ref m_cutTo, .ref m_cutPlace, .ref m_cutClass, .int 0, .ref m_bytes, .ref m_was, .int 0, .ref m_now, .int 0, .ref m_ends, .ref m_statics, .int 0, .ref m_thingType, .ref m_thingSize, .ref m_elements, .ref m_slots, .int 0, .ref m_callMethod, .ref m_callPlace, .ref m_callHigh, .ref m_values, .ref m_piles, .int 0, .long 0]))]) (w1 := [(ou, .inl (ko, 1, .inr (.inl fo_4)))]) hP hD [0, 1, 3] [2] rfl rfl (by decide) (by decide) hk1 hFc hP1 hD1
  have hK := (hK.sub (tys' := [(ko, .long)]) [0] rfl).app hK1
  generalize H1 = H at hP hS ⊢
  have hP : va_P (dC, dI) vwCl [(mo, .inr (5, [.int 0, .int 2, .ref m_above, .ref m_isFace, .int 0, .ref m_fieldClass, .ref m_fieldType, .ref m_fieldStatic, .int 0, .ref m_arguments, .ref m_argumentCount, .ref m_results, .ref m_sizes, .ref m_codes, .ref m_maxStack, .ref m_maxLocals, .ref m_handlers, .ref m_handlerFrom, .ref m_handlerTo, .ref m_handlerPlace, .ref m_handlerClass, .ref m_verified, .ref m_fault, .ref m_faultAt, .int 0, .ref m_tape, .ref m_begins, .ref m_high, .ref m_locals, .ref m_stacks, .ref m_due, .ref m_dead, .ref m_framed, .int 0, .int 0, .int 0, .int 0, .ref m_local, .ref m_before, .ref m_stack, .int 0, .ref m_given, .ref m_givenStack, .int 0, .int 0, .int 0, .ref m_cutFrom, .ref m_cutTo, .ref m_cutPlace, .ref m_cutClass, .int 0, .ref m_bytes, .ref m_was, .int 0, .ref m_now, .int 0, .ref m_ends, .ref m_statics, .int 0, .ref m_thingType, .ref m_thingSize, .ref m_elements, .ref m_slots, .int 0, .ref m_callMethod, .ref m_callPlace, .ref m_callHigh, .ref m_values, .ref m_piles, .int 0, .long 0])), (ou, .inl (ko, 1, .inr (.inl fo_4)))] H := hP
  have hD : va_D (fun q : Nat => s.heap.size ≤ q) [(mo, .inr (5, [.int 0, .int 2, .ref m_above, .ref m_isFace, .int 0, .ref m_fieldClass, .ref m_fieldType, .ref m_fieldStatic, .int 0, .ref m_arguments, .ref m_argumentCount, .ref m_results, .ref m_sizes, .ref m_codes, .ref m_maxStack, .ref m_maxLocals, .ref m_handlers, .ref m_handlerFrom, .ref m_handlerTo, .ref m_handlerPlace, .ref m_handlerClass, .ref m_verified, .ref m_fault, .ref m_faultAt, .int 0, .ref m_tape, .ref m_begins, .ref m_high, .ref m_locals, .ref m_stacks, .ref m_due, .ref m_dead, .ref m_framed, .int 0, .int 0, .int 0, .int 0, .ref m_local, .ref m_before, .ref m_stack, .int 0, .ref m_given, .ref m_givenStack, .int 0, .int 0, .int 0, .ref m_cutFrom, .ref m_cutTo, .ref m_cutPlace, .ref m_cutClass, .int 0, .ref m_bytes, .ref m_was, .int 0, .ref m_now, .int 0, .ref m_ends, .ref m_statics, .int 0, .ref m_thingType, .ref m_thingSize, .ref m_elements, .ref m_slots, .int 0, .ref m_callMethod, .ref m_callPlace, .ref m_callHigh, .ref m_values, .ref m_piles, .int 0, .long 0])), (ou, .inl (ko, 1, .inr (.inl fo_4)))] := hD
  have hK : va_K (dC, dI) vwCl [(ko, .long), (ko, .long)] s := hK
  refine W.widen (k := 143) (n := 53751) (Nat.le_of_ble_eq_true rfl) (Nat.le_of_ble_eq_true rfl) ?_
  obtain rfl : r_2 = 1 := hw
  refine lv_istore (lv' := [(5, .int 1), (4, .int 0), (3, .ref ou), (2, .ref mo), (1, .ref f), (0, .ref b)]) hx hb d_L_law_576 hl (by decide) rfl (fun ls hl => ?_)
  refine lv_aload_n hx hb d_L_law_578 rfl (lv_at hl 3 rfl) ?_
  refine lv_aload_n hx hb d_L_law_579 rfl (lv_at hl 5 rfl) ?_
  refine lv_iload hx hb d_L_law_580 (lv_at hl 1 rfl) ?_
  refine lv_iconst (v := 1) hx hb d_L_law_582 (by decide) ?_
  refine lv_iadd hx hb d_L_law_583 ?_
  refine tp_i 1 (by decide) ?_
  refine va_sld hx hb hX hbl hbA hS (vp_in_iff.mpr (by decide)) d_L_law_584 ?_
  refine tp_i (xs 1) (congrArg xs (by decide)) ?_
  have hPc := hP.sub (ws' := [(mo, .inr (5, [.int 0, .int 2, .ref m_above, .ref m_isFace, .int 0, .ref m_fieldClass, .ref m_fieldType, .ref m_fieldStatic, .int 0, .ref m_arguments, .ref m_argumentCount, .ref m_results, .ref m_sizes, .ref m_codes, .ref m_maxStack, .ref m_maxLocals, .ref m_handlers, .ref m_handlerFrom, .ref m_handlerTo, .ref m_handlerPlace, .ref m_handlerClass, .ref m_verified, .ref m_fault, .ref m_faultAt, .int 0, .ref m_tape, .ref m_begins, .ref m_high, .ref m_locals, .ref m_stacks, .ref m_due, .ref m_dead, .ref m_framed, .int 0, .int 0, .int 0, .int 0, .ref m_local, .ref m_before, .ref m_stack, .int 0, .ref m_given, .ref m_givenStack, .int 0, .int 0, .int 0, .ref m_cutFrom, .ref m_cutTo, .ref m_cutPlace, .ref m_cutClass, .int 0, .ref m_bytes, .ref m_was, .int 0, .ref m_now, .int 0, .ref m_ends, .ref m_statics, .int 0, .ref m_thingType, .ref m_thingSize, .ref m_elements, .ref m_slots, .int 0, .ref m_callMethod, .ref m_callPlace, .ref m_callHigh, .ref m_values, .ref m_piles, .int 0, .long 0]))]) [0] rfl
  have hKc := hK.sub (tys' := []) [] rfl
  have hDc := hD.sub (ws' := [(mo, .inr (5, [.int 0, .int 2, .ref m_above, .ref m_isFace, .int 0, .ref m_fieldClass, .ref m_fieldType, .ref m_fieldStatic, .int 0, .ref m_arguments, .ref m_argumentCount, .ref m_results, .ref m_sizes, .ref m_codes, .ref m_maxStack, .ref m_maxLocals, .ref m_handlers, .ref m_handlerFrom, .ref m_handlerTo, .ref m_handlerPlace, .ref m_handlerClass, .ref m_verified, .ref m_fault, .ref m_faultAt, .int 0, .ref m_tape, .ref m_begins, .ref m_high, .ref m_locals, .ref m_stacks, .ref m_due, .ref m_dead, .ref m_framed, .int 0, .int 0, .int 0, .int 0, .ref m_local, .ref m_before, .ref m_stack, .int 0, .ref m_given, .ref m_givenStack, .int 0, .int 0, .int 0, .ref m_cutFrom, .ref m_cutTo, .ref m_cutPlace, .ref m_cutClass, .int 0, .ref m_bytes, .ref m_was, .int 0, .ref m_now, .int 0, .ref m_ends, .ref m_statics, .int 0, .ref m_thingType, .ref m_thingSize, .ref m_elements, .ref m_slots, .int 0, .ref m_callMethod, .ref m_callPlace, .ref m_callHigh, .ref m_values, .ref m_piles, .int 0, .long 0]))]) [0] (by decide) rfl
  have hFc := va_free (wc := [(mo, .inr (5, [.int 0, .int 2, .ref m_above, .ref m_isFace, .int 0, .ref m_fieldClass, .ref m_fieldType, .ref m_fieldStatic, .int 0, .ref m_arguments, .ref m_argumentCount, .ref m_results, .ref m_sizes, .ref m_codes, .ref m_maxStack, .ref m_maxLocals, .ref m_handlers, .ref m_handlerFrom, .ref m_handlerTo, .ref m_handlerPlace, .ref m_handlerClass, .ref m_verified, .ref m_fault, .ref m_faultAt, .int 0, .ref m_tape, .ref m_begins, .ref m_high, .ref m_locals, .ref m_stacks, .ref m_due, .ref m_dead, .ref m_framed, .int 0, .int 0, .int 0, .int 0, .ref m_local, .ref m_before, .ref m_stack, .int 0, .ref m_given, .ref m_givenStack, .int 0, .int 0, .int 0, .ref m_cutFrom, .ref m_cutTo, .ref m_cutPlace, .ref m_cutClass, .int 0, .ref m_bytes, .ref m_was, .int 0, .ref m_now, .int 0, .ref m_ends, .ref m_statics, .int 0, .ref m_thingType, .ref m_thingSize, .ref m_elements, .ref m_slots, .int 0, .ref m_callMethod, .ref m_callPlace, .ref m_callHigh, .ref m_values, .ref m_piles, .int 0, .long 0]))]) hD hS hA [0] rfl
  refine va_calli (va_runV (As := [.int (xs 1)]) (rest := []) ⟨hx, hb, hml, hown, hts⟩ (k_M_verify l dC dI mo m_above m_isFace m_fieldClass m_fieldType m_fieldStatic m_arguments m_argumentCount m_results m_sizes m_codes m_maxStack m_maxLocals m_handlers m_handlerFrom m_handlerTo m_handlerPlace m_handlerClass m_verified m_fault m_faultAt m_tape m_begins m_high m_locals m_stacks m_due m_dead m_framed m_local m_before m_stack m_given m_givenStack m_cutFrom m_cutTo m_cutPlace m_cutClass m_bytes m_was m_now m_ends m_statics m_thingType m_thingSize m_elements m_slots m_callMethod m_callPlace m_callHigh m_values m_piles ((xs 1)) H.size) (cwV 1 hts (gV hsub w_444 w_445 w_446 w_266 w_447) rfl rfl rfl (by decide +kernel) ⟨Nat.le_of_ble_eq_true rfl, Nat.le_of_ble_eq_true rfl⟩) ⟨bl_1000, va_recv hKc hPc (ci := 5) (q0 := 0) rfl rfl, fun U hU hW => ⟨rfl, by rw [hU], by rw [hU]; exact hPc, va_K.moved hW.alike hKc, hDc.weaken (fun _ _ _ _ => trivial)⟩⟩ rfl rfl hl.1 rfl (lv_room (Nat.le_of_ble_eq_true rfl)) d_L_law_585 ⟨Nat.le_of_ble_eq_true rfl, Nat.le_of_ble_eq_true rfl⟩) hS (fun q _ h => hFc q h) hFc (fun r_6 u_7 t H1 locs ht hvm hw hB hz1 hk1 hS => ?_)
  obtain ⟨fs_8, hfs, hP1, hK1, hD1⟩ := hB
  rw [ht] at hP1
  have hK1 := va_K.moved hvm.symm hK1
  obtain ⟨hP, hD⟩ := va_join (wr := [(ou, .inl (ko, 1, .inr (.inl fo_4)))]) (w1 := [(mo, .inr (5, fs_8))]) hP hD [0] [1] rfl rfl (by decide) (by decide) hk1 hFc hP1 hD1
  have hK := (hK.sub (tys' := [(ko, .long), (ko, .long)]) [0, 1] rfl).app hK1
  generalize H1 = H at hP hS ⊢
  have hP : va_P (dC, dI) vwCl [(ou, .inl (ko, 1, .inr (.inl fo_4))), (mo, .inr (5, fs_8))] H := hP
  have hD : va_D (fun q : Nat => s.heap.size ≤ q) [(ou, .inl (ko, 1, .inr (.inl fo_4))), (mo, .inr (5, fs_8))] := hD
  have hK : va_K (dC, dI) vwCl [(ko, .long), (ko, .long)] s := hK
  refine W.widen (k := 143) (n := 53751) (Nat.le_of_ble_eq_true rfl) (Nat.le_of_ble_eq_true rfl) ?_
  subst hw
  refine lv_istore (lv' := [(6, .int r_6), (5, .int 1), (4, .int 0), (3, .ref ou), (2, .ref mo), (1, .ref f), (0, .ref b)]) hx hb d_L_law_588 hl (by decide) rfl (fun ls hl => ?_)
  refine lv_aload_n hx hb d_L_law_590 rfl (lv_at hl 4 rfl) ?_
  have hPc := hP.sub (ws' := [(mo, .inr (5, fs_8))]) [1] rfl
  have hKc := hK.sub (tys' := []) [] rfl
  refine va_calli (va_runV (As := []) (rest := []) ⟨hx, hb, hml, hown, hts⟩ (k_M_thrown l dC dI mo fs_8 1 hfs) (cwV 0 hts (gV hsub w_401 w_402 w_403 w_266 w_404) rfl rfl rfl (by decide +kernel) ⟨Nat.le_of_ble_eq_true rfl, Nat.le_of_ble_eq_true rfl⟩) ⟨bl_0000, va_recv hKc hPc (ci := 5) (q0 := 0) rfl rfl, fun U hU hW => ⟨rfl, by rw [hU]; exact hPc, va_K.moved hW.alike hKc⟩⟩ rfl rfl hl.1 rfl (lv_room (Nat.le_of_ble_eq_true rfl)) d_L_law_591 ⟨Nat.le_of_ble_eq_true rfl, Nat.le_of_ble_eq_true rfl⟩) hS (fun q _ h => h.elim) (fun q h => h.elim) (fun r_10 u_11 t H1 locs ht hvm hw hB hz1 hk1 hS => ?_)
  have hP := ro_keep hP hk1
  generalize H1 = H at hP hS ⊢
  refine W.widen (k := 143) (n := 53751) (Nat.le_of_ble_eq_true rfl) (Nat.le_of_ble_eq_true rfl) ?_
  subst hw
  refine lv_iload hx hb d_L_law_594 (lv_at hl 1 rfl) ?_
  refine lv_icmp_eq (tgt := 601) hx hb d_L_law_596 (by decide) (fun c_12 => ?_) (fun c_12 => ?_)
  · skip
    refine lv_iload hx hb d_L_law_601 (lv_at hl 1 rfl) ?_
    refine lv_if_ne (tgt := 618) hx hb d_L_law_603 (by decide) (fun c_13 => ?_) (fun c_13 => ?_)
    · skip
      refine lv_goto (tgt := 1192) hx hb d_L_law_618 (by decide) ?_
      refine lv_iinc (v := 7) (lv' := [(4, .int 7), (6, .int r_6), (5, .int 1), (3, .ref ou), (2, .ref mo), (1, .ref f), (0, .ref b)]) hx hb d_L_law_1192 hl (k := 2) rfl (by decide) (by decide) rfl (fun ls hl => ?_)
      refine lv_goto (tgt := 23) hx hb d_L_law_1195 (by decide) ?_
      refine lv_iload hx hb d_L_law_23 (lv_at hl 0 rfl) ?_
      refine lv_aload_n hx hb d_L_law_25 rfl (lv_at hl 6 rfl) ?_
      refine va_slen hx hb hX hbl hbA hS d_L_law_26 ?_
      refine tp_i 7 (rfl) ?_
      refine lv_bipush (v := 7) hx hb d_L_law_27 (by decide) ?_
      refine lv_isub hx hb d_L_law_29 ?_
      refine tp_i 0 (by decide) ?_
      refine lv_icmp_gt (tgt := 1198) hx hb d_L_law_30 (by decide) (fun c_14 => ?_) (fun c_14 => ?_)
      · skip
        refine lv_iconst (v := 1) hx hb d_L_law_1198 (by decide) ?_
        refine va_forget (fun q hq => hS.2.2 q hq) ?_
        refine W.widen (k := 600002) (n := 7302232) (Nat.le_of_ble_eq_true rfl) (Nat.le_of_ble_eq_true rfl) ?_
        exact lw_ret hx hb hr hlocks d_L_law_1199
      · skip
        first | exact absurd c_14 (by decide) | exact absurd (by decide) c_14
    · skip
      first | exact absurd c_13 (by decide) | exact absurd (by decide) c_13
  · skip
    first | exact absurd c_12 (by decide) | exact absurd (by decide) c_12

set_option maxHeartbeats 4000000 in
set_option maxRecDepth 100000 in
theorem law_c7 {p : Program} {e : Env} {s : State} {m : MethodId} {below : List Frame} {meth : Method} {cx : Code} (l : Launch) (hl9 : l.stackTraces = false) {b : Nat} {xs : Nat → Int32} (C0 : lw_At p s m meth cx b 7 xs) (hex : exP (fun q : Nat => s.heap.size ≤ q) s) {dC : Nat → ClassId} {dI : Nat → Nat → Nat} {f w wp wu wi wc wt wx wm k kh ks kc9 tp mo m_above m_isFace m_fieldClass m_fieldType m_fieldStatic m_arguments m_argumentCount m_results m_sizes m_codes m_maxStack m_maxLocals m_handlers m_handlerFrom m_handlerTo m_handlerPlace m_handlerClass m_verified m_fault m_faultAt m_tape m_begins m_high m_locals m_stacks m_due m_dead m_framed m_local m_before m_stack m_given m_givenStack m_cutFrom m_cutTo m_cutPlace m_cutClass m_bytes m_was m_now m_ends m_statics m_thingType m_thingSize m_elements m_slots m_callMethod m_callPlace m_callHigh m_values m_piles ou : Nat} {kp  ku  ki  kc  kt  kx  km  kt9  k_above  k_isFace  k_fieldClass  k_fieldType  k_fieldStatic  k_arguments  k_argumentCount  k_results  k_tape  k_ends  ko : ClassId} {H : Heap} {locs : List Loc} (hK : va_K (dC, dI) vwCl [(ko, .long)] s) (hP : va_P (dC, dI) vwCl [(f, .inr (4, [.ref w, .ref k, .ref tp, .int 0])), (w, .inr (3, [.ref wp, .ref wu, .ref wi, .int 2, .ref wc, .ref wt, .ref wx, .int 0, .ref wm, .int 0])), (mo, .inr (5, [.int 0, .int 2, .ref m_above, .ref m_isFace, .int 0, .ref m_fieldClass, .ref m_fieldType, .ref m_fieldStatic, .int 0, .ref m_arguments, .ref m_argumentCount, .ref m_results, .ref m_sizes, .ref m_codes, .ref m_maxStack, .ref m_maxLocals, .ref m_handlers, .ref m_handlerFrom, .ref m_handlerTo, .ref m_handlerPlace, .ref m_handlerClass, .ref m_verified, .ref m_fault, .ref m_faultAt, .int 0, .ref m_tape, .ref m_begins, .ref m_high, .ref m_locals, .ref m_stacks, .ref m_due, .ref m_dead, .ref m_framed, .int 0, .int 0, .int 0, .int 0, .ref m_local, .ref m_before, .ref m_stack, .int 0, .ref m_given, .ref m_givenStack, .int 0, .int 0, .int 0, .ref m_cutFrom, .ref m_cutTo, .ref m_cutPlace, .ref m_cutClass, .int 0, .ref m_bytes, .ref m_was, .int 0, .ref m_now, .int 0, .ref m_ends, .ref m_statics, .int 0, .ref m_thingType, .ref m_thingSize, .ref m_elements, .ref m_slots, .int 0, .ref m_callMethod, .ref m_callPlace, .ref m_callHigh, .ref m_values, .ref m_piles, .int 0, .long 0])), (ou, .inl (ko, 1, .inr (.inl (fun _ => 0))))] H) (hD : va_D (fun q : Nat => s.heap.size ≤ q) [(f, .inr (4, [.ref w, .ref k, .ref tp, .int 0])), (w, .inr (3, [.ref wp, .ref wu, .ref wi, .int 2, .ref wc, .ref wt, .ref wx, .int 0, .ref wm, .int 0])), (mo, .inr (5, [.int 0, .int 2, .ref m_above, .ref m_isFace, .int 0, .ref m_fieldClass, .ref m_fieldType, .ref m_fieldStatic, .int 0, .ref m_arguments, .ref m_argumentCount, .ref m_results, .ref m_sizes, .ref m_codes, .ref m_maxStack, .ref m_maxLocals, .ref m_handlers, .ref m_handlerFrom, .ref m_handlerTo, .ref m_handlerPlace, .ref m_handlerClass, .ref m_verified, .ref m_fault, .ref m_faultAt, .int 0, .ref m_tape, .ref m_begins, .ref m_high, .ref m_locals, .ref m_stacks, .ref m_due, .ref m_dead, .ref m_framed, .int 0, .int 0, .int 0, .int 0, .ref m_local, .ref m_before, .ref m_stack, .int 0, .ref m_given, .ref m_givenStack, .int 0, .int 0, .int 0, .ref m_cutFrom, .ref m_cutTo, .ref m_cutPlace, .ref m_cutClass, .int 0, .ref m_bytes, .ref m_was, .int 0, .ref m_now, .int 0, .ref m_ends, .ref m_statics, .int 0, .ref m_thingType, .ref m_thingSize, .ref m_elements, .ref m_slots, .int 0, .ref m_callMethod, .ref m_callPlace, .ref m_callHigh, .ref m_values, .ref m_piles, .int 0, .long 0])), (ou, .inl (ko, 1, .inr (.inl (fun _ => 0))))]) (hS : va_S (fun q : Nat => s.heap.size ≤ q) s.heap H locs) {ls : Array Slot} (hl : lv_has ls 8 [(4, .int 0), (3, .ref ou), (2, .ref mo), (1, .ref f), (0, .ref b)]) : W p l e room_1 s m #[Value.ref b] below meth cx H locs 142 53745 (lw_Z below #[Value.ref b] s) (F0 m 621 ls []) := by
  obtain ⟨hx, hb, hr, hml, hown0, hts0, hX, hbl, hlocks, hgv⟩ := id C0
  have hown : s.vm.findClass "MapFramerLaw" = some m.cls := hown0
  have hts : ∀ w ∈ bigW, w.before #[Value.ref b] s = true := fun w h => hts0 w (List.mem_filter.mp h).1
  have hsub : ∀ w ∈ bigW, w ∈ bigW := fun _ h => h
  have hA : ∀ q : Nat, s.heap.size ≤ q → (fun q : Nat => s.heap.size ≤ q) q := fun _ h => h
  have hbA : ¬ (fun q : Nat => s.heap.size ≤ q) b := Nat.not_le.mpr hbl
  refine lv_aload_n hx hb d_L_law_621 rfl (lv_at hl 3 rfl) ?_
  refine lv_aload_n hx hb d_L_law_622 rfl (lv_at hl 4 rfl) ?_
  refine lv_iload hx hb d_L_law_623 (lv_at hl 0 rfl) ?_
  refine lv_iconst (v := 1) hx hb d_L_law_625 (by decide) ?_
  refine lv_iadd hx hb d_L_law_626 ?_
  refine tp_i 1 (by decide) ?_
  refine va_sld hx hb hX hbl hbA hS (vp_in_iff.mpr (by decide)) d_L_law_627 ?_
  refine tp_i (xs 1) (congrArg xs (by decide)) ?_
  refine lv_aload_n hx hb d_L_law_628 rfl (lv_at hl 4 rfl) ?_
  refine lv_iload hx hb d_L_law_629 (lv_at hl 0 rfl) ?_
  refine lv_iconst (v := 2) hx hb d_L_law_631 (by decide) ?_
  refine lv_iadd hx hb d_L_law_632 ?_
  refine tp_i 2 (by decide) ?_
  refine va_sld hx hb hX hbl hbA hS (vp_in_iff.mpr (by decide)) d_L_law_633 ?_
  refine tp_i (xs 2) (congrArg xs (by decide)) ?_
  refine lv_aload_n hx hb d_L_law_634 rfl (lv_at hl 1 rfl) ?_
  have hPc := hP.sub (ws' := [(f, .inr (4, [.ref w, .ref k, .ref tp, .int 0])), (w, .inr (3, [.ref wp, .ref wu, .ref wi, .int 2, .ref wc, .ref wt, .ref wx, .int 0, .ref wm, .int 0])), (ou, .inl (ko, 1, .inr (.inl (fun _ => 0))))]) [0, 1, 3] rfl
  have hKc := hK.sub (tys' := [(ko, .long)]) [0] rfl
  have hDc := hD.sub (ws' := [(f, .inr (4, [.ref w, .ref k, .ref tp, .int 0])), (w, .inr (3, [.ref wp, .ref wu, .ref wi, .int 2, .ref wc, .ref wt, .ref wx, .int 0, .ref wm, .int 0])), (ou, .inl (ko, 1, .inr (.inl (fun _ => 0))))]) [0, 1, 3] (by decide) rfl
  have hFc := va_free (wc := [(f, .inr (4, [.ref w, .ref k, .ref tp, .int 0])), (w, .inr (3, [.ref wp, .ref wu, .ref wi, .int 2, .ref wc, .ref wt, .ref wx, .int 0, .ref wm, .int 0])), (ou, .inl (ko, 1, .inr (.inl (fun _ => 0))))]) hD hS hA [0, 1, 3] rfl
  refine va_calli (vx_runSW (As := [.ref f, .int (xs 1), .int (xs 2), .ref ou]) (rest := []) ⟨hx, hb, hml, hown, hts⟩ (k_L_about l hl9 dC dI f w k tp wp wu wi wc wt wx wm ((xs 1)) ((xs 2)) ou ko (fun _ => 0) H.size) (vx_cwSW 4 hts (gS hsub w_448 w_449 w_395 w_450) rfl rfl rfl (by decide +kernel) ⟨Nat.le_of_ble_eq_true rfl, Nat.le_of_ble_eq_true rfl⟩) ⟨bl_1010, fun U hU hW => ⟨rfl, by rw [hU], by rw [hU]; exact hPc, va_K.moved hW.alike hKc, hDc.weaken (fun _ _ _ _ => trivial), exP_go hex hS (fun q h => hFc q h) U hU hW⟩⟩ rfl rfl hl.1 rfl (lv_room (Nat.le_of_ble_eq_true rfl)) d_L_law_635 ⟨Nat.le_of_ble_eq_true rfl, Nat.le_of_ble_eq_true rfl⟩) hS (fun q _ h => hFc q h) hFc (fun r_2 u_3 t H1 locs ht hvm hw hB hz1 hk1 hS => ?_)
  obtain ⟨fo_4, hfo, hP1, hK1, hD1⟩ := hB
  rw [ht] at hP1
  have hK1 := va_K.moved hvm.symm hK1
  obtain ⟨hP, hD⟩ := va_join (wr := [(mo, .inr (5, [.int 0, .int 2, .ref m_above, .ref m_isFace, .int 0, .ref m_fieldClass, .ref m_fieldType, .ref m_fieldStatic, .int 0, .ref m_arguments, .ref m_argumentCount, .ref m_results, .ref m_sizes, .ref m_codes, .ref m_maxStack, .ref m_maxLocals, .ref m_handlers, .ref m_handlerFrom, .ref m_handlerTo, .ref m_handlerPlace, .ref m_handlerClass, .ref m_verified, .ref m_fault, .ref m_faultAt, .int 0, .ref m_tape, .ref m_begins, .ref m_high, .ref m_locals, .ref m_stacks, .ref m_due, .ref m_dead, .ref m_framed, .int 0, .int 0, .int 0, .int 0, .ref m_local, .ref m_before, .ref m_stack, .int 0, .ref m_given, .ref m_givenStack, .int 0, .int 0, .int 0, .ref m_cutFrom, .ref m_cutTo, .ref m_cutPlace, .ref m_cutClass, .int 0, .ref m_bytes, .ref m_was, .int 0, .ref m_now, .int 0, .ref m_ends, .ref m_statics, .int 0, .ref m_thingType, .ref m_thingSize, .ref m_elements, .ref m_slots, .int 0, .ref m_callMethod, .ref m_callPlace, .ref m_callHigh, .ref m_values, .ref m_piles, .int 0, .long 0]))]) (w1 := [(ou, .inl (ko, 1, .inr (.inl fo_4)))]) hP hD [0, 1, 3] [2] rfl rfl (by decide) (by decide) hk1 hFc hP1 hD1
  have hK := (hK.sub (tys' := [(ko, .long)]) [0] rfl).app hK1
  generalize H1 = H at hP hS ⊢
  have hP : va_P (dC, dI) vwCl [(mo, .inr (5, [.int 0, .int 2, .ref m_above, .ref m_isFace, .int 0, .ref m_fieldClass, .ref m_fieldType, .ref m_fieldStatic, .int 0, .ref m_arguments, .ref m_argumentCount, .ref m_results, .ref m_sizes, .ref m_codes, .ref m_maxStack, .ref m_maxLocals, .ref m_handlers, .ref m_handlerFrom, .ref m_handlerTo, .ref m_handlerPlace, .ref m_handlerClass, .ref m_verified, .ref m_fault, .ref m_faultAt, .int 0, .ref m_tape, .ref m_begins, .ref m_high, .ref m_locals, .ref m_stacks, .ref m_due, .ref m_dead, .ref m_framed, .int 0, .int 0, .int 0, .int 0, .ref m_local, .ref m_before, .ref m_stack, .int 0, .ref m_given, .ref m_givenStack, .int 0, .int 0, .int 0, .ref m_cutFrom, .ref m_cutTo, .ref m_cutPlace, .ref m_cutClass, .int 0, .ref m_bytes, .ref m_was, .int 0, .ref m_now, .int 0, .ref m_ends, .ref m_statics, .int 0, .ref m_thingType, .ref m_thingSize, .ref m_elements, .ref m_slots, .int 0, .ref m_callMethod, .ref m_callPlace, .ref m_callHigh, .ref m_values, .ref m_piles, .int 0, .long 0])), (ou, .inl (ko, 1, .inr (.inl fo_4)))] H := hP
  have hD : va_D (fun q : Nat => s.heap.size ≤ q) [(mo, .inr (5, [.int 0, .int 2, .ref m_above, .ref m_isFace, .int 0, .ref m_fieldClass, .ref m_fieldType, .ref m_fieldStatic, .int 0, .ref m_arguments, .ref m_argumentCount, .ref m_results, .ref m_sizes, .ref m_codes, .ref m_maxStack, .ref m_maxLocals, .ref m_handlers, .ref m_handlerFrom, .ref m_handlerTo, .ref m_handlerPlace, .ref m_handlerClass, .ref m_verified, .ref m_fault, .ref m_faultAt, .int 0, .ref m_tape, .ref m_begins, .ref m_high, .ref m_locals, .ref m_stacks, .ref m_due, .ref m_dead, .ref m_framed, .int 0, .int 0, .int 0, .int 0, .ref m_local, .ref m_before, .ref m_stack, .int 0, .ref m_given, .ref m_givenStack, .int 0, .int 0, .int 0, .ref m_cutFrom, .ref m_cutTo, .ref m_cutPlace, .ref m_cutClass, .int 0, .ref m_bytes, .ref m_was, .int 0, .ref m_now, .int 0, .ref m_ends, .ref m_statics, .int 0, .ref m_thingType, .ref m_thingSize, .ref m_elements, .ref m_slots, .int 0, .ref m_callMethod, .ref m_callPlace, .ref m_callHigh, .ref m_values, .ref m_piles, .int 0, .long 0])), (ou, .inl (ko, 1, .inr (.inl fo_4)))] := hD
  have hK : va_K (dC, dI) vwCl [(ko, .long), (ko, .long)] s := hK
  refine W.widen (k := 143) (n := 53751) (Nat.le_of_ble_eq_true rfl) (Nat.le_of_ble_eq_true rfl) ?_
  obtain rfl : r_2 = 1 := hw
  refine lv_istore (lv' := [(5, .int 1), (4, .int 0), (3, .ref ou), (2, .ref mo), (1, .ref f), (0, .ref b)]) hx hb d_L_law_638 hl (by decide) rfl (fun ls hl => ?_)
  refine lv_aload_n hx hb d_L_law_640 rfl (lv_at hl 3 rfl) ?_
  refine lv_aload_n hx hb d_L_law_641 rfl (lv_at hl 5 rfl) ?_
  refine lv_iload hx hb d_L_law_642 (lv_at hl 1 rfl) ?_
  refine lv_iconst (v := 1) hx hb d_L_law_644 (by decide) ?_
  refine lv_iadd hx hb d_L_law_645 ?_
  refine tp_i 1 (by decide) ?_
  refine va_sld hx hb hX hbl hbA hS (vp_in_iff.mpr (by decide)) d_L_law_646 ?_
  refine tp_i (xs 1) (congrArg xs (by decide)) ?_
  refine lv_aload_n hx hb d_L_law_647 rfl (lv_at hl 5 rfl) ?_
  refine lv_iload hx hb d_L_law_648 (lv_at hl 1 rfl) ?_
  refine lv_iconst (v := 2) hx hb d_L_law_650 (by decide) ?_
  refine lv_iadd hx hb d_L_law_651 ?_
  refine tp_i 2 (by decide) ?_
  refine va_sld hx hb hX hbl hbA hS (vp_in_iff.mpr (by decide)) d_L_law_652 ?_
  refine tp_i (xs 2) (congrArg xs (by decide)) ?_
  have hPc := hP.sub (ws' := [(mo, .inr (5, [.int 0, .int 2, .ref m_above, .ref m_isFace, .int 0, .ref m_fieldClass, .ref m_fieldType, .ref m_fieldStatic, .int 0, .ref m_arguments, .ref m_argumentCount, .ref m_results, .ref m_sizes, .ref m_codes, .ref m_maxStack, .ref m_maxLocals, .ref m_handlers, .ref m_handlerFrom, .ref m_handlerTo, .ref m_handlerPlace, .ref m_handlerClass, .ref m_verified, .ref m_fault, .ref m_faultAt, .int 0, .ref m_tape, .ref m_begins, .ref m_high, .ref m_locals, .ref m_stacks, .ref m_due, .ref m_dead, .ref m_framed, .int 0, .int 0, .int 0, .int 0, .ref m_local, .ref m_before, .ref m_stack, .int 0, .ref m_given, .ref m_givenStack, .int 0, .int 0, .int 0, .ref m_cutFrom, .ref m_cutTo, .ref m_cutPlace, .ref m_cutClass, .int 0, .ref m_bytes, .ref m_was, .int 0, .ref m_now, .int 0, .ref m_ends, .ref m_statics, .int 0, .ref m_thingType, .ref m_thingSize, .ref m_elements, .ref m_slots, .int 0, .ref m_callMethod, .ref m_callPlace, .ref m_callHigh, .ref m_values, .ref m_piles, .int 0, .long 0]))]) [0] rfl
  have hKc := hK.sub (tys' := []) [] rfl
  have hDc := hD.sub (ws' := [(mo, .inr (5, [.int 0, .int 2, .ref m_above, .ref m_isFace, .int 0, .ref m_fieldClass, .ref m_fieldType, .ref m_fieldStatic, .int 0, .ref m_arguments, .ref m_argumentCount, .ref m_results, .ref m_sizes, .ref m_codes, .ref m_maxStack, .ref m_maxLocals, .ref m_handlers, .ref m_handlerFrom, .ref m_handlerTo, .ref m_handlerPlace, .ref m_handlerClass, .ref m_verified, .ref m_fault, .ref m_faultAt, .int 0, .ref m_tape, .ref m_begins, .ref m_high, .ref m_locals, .ref m_stacks, .ref m_due, .ref m_dead, .ref m_framed, .int 0, .int 0, .int 0, .int 0, .ref m_local, .ref m_before, .ref m_stack, .int 0, .ref m_given, .ref m_givenStack, .int 0, .int 0, .int 0, .ref m_cutFrom, .ref m_cutTo, .ref m_cutPlace, .ref m_cutClass, .int 0, .ref m_bytes, .ref m_was, .int 0, .ref m_now, .int 0, .ref m_ends, .ref m_statics, .int 0, .ref m_thingType, .ref m_thingSize, .ref m_elements, .ref m_slots, .int 0, .ref m_callMethod, .ref m_callPlace, .ref m_callHigh, .ref m_values, .ref m_piles, .int 0, .long 0]))]) [0] (by decide) rfl
  have hFc := va_free (wc := [(mo, .inr (5, [.int 0, .int 2, .ref m_above, .ref m_isFace, .int 0, .ref m_fieldClass, .ref m_fieldType, .ref m_fieldStatic, .int 0, .ref m_arguments, .ref m_argumentCount, .ref m_results, .ref m_sizes, .ref m_codes, .ref m_maxStack, .ref m_maxLocals, .ref m_handlers, .ref m_handlerFrom, .ref m_handlerTo, .ref m_handlerPlace, .ref m_handlerClass, .ref m_verified, .ref m_fault, .ref m_faultAt, .int 0, .ref m_tape, .ref m_begins, .ref m_high, .ref m_locals, .ref m_stacks, .ref m_due, .ref m_dead, .ref m_framed, .int 0, .int 0, .int 0, .int 0, .ref m_local, .ref m_before, .ref m_stack, .int 0, .ref m_given, .ref m_givenStack, .int 0, .int 0, .int 0, .ref m_cutFrom, .ref m_cutTo, .ref m_cutPlace, .ref m_cutClass, .int 0, .ref m_bytes, .ref m_was, .int 0, .ref m_now, .int 0, .ref m_ends, .ref m_statics, .int 0, .ref m_thingType, .ref m_thingSize, .ref m_elements, .ref m_slots, .int 0, .ref m_callMethod, .ref m_callPlace, .ref m_callHigh, .ref m_values, .ref m_piles, .int 0, .long 0]))]) hD hS hA [0] rfl
  refine va_calli (va_runV (As := [.int (xs 1), .int (xs 2)]) (rest := []) ⟨hx, hb, hml, hown, hts⟩ (k_M_about l dC dI mo m_above m_isFace m_fieldClass m_fieldType m_fieldStatic m_arguments m_argumentCount m_results m_sizes m_codes m_maxStack m_maxLocals m_handlers m_handlerFrom m_handlerTo m_handlerPlace m_handlerClass m_verified m_fault m_faultAt m_tape m_begins m_high m_locals m_stacks m_due m_dead m_framed m_local m_before m_stack m_given m_givenStack m_cutFrom m_cutTo m_cutPlace m_cutClass m_bytes m_was m_now m_ends m_statics m_thingType m_thingSize m_elements m_slots m_callMethod m_callPlace m_callHigh m_values m_piles ((xs 1)) ((xs 2)) H.size) (cwV 2 hts (gV hsub w_451 w_452 w_453 w_266 w_454) rfl rfl rfl (by decide +kernel) ⟨Nat.le_of_ble_eq_true rfl, Nat.le_of_ble_eq_true rfl⟩) ⟨bl_1000, va_recv hKc hPc (ci := 5) (q0 := 0) rfl rfl, fun U hU hW => ⟨rfl, by rw [hU], by rw [hU]; exact hPc, va_K.moved hW.alike hKc, hDc.weaken (fun _ _ _ _ => trivial)⟩⟩ rfl rfl hl.1 rfl (lv_room (Nat.le_of_ble_eq_true rfl)) d_L_law_653 ⟨Nat.le_of_ble_eq_true rfl, Nat.le_of_ble_eq_true rfl⟩) hS (fun q _ h => hFc q h) hFc (fun r_6 u_7 t H1 locs ht hvm hw hB hz1 hk1 hS => ?_)
  obtain ⟨fs_8, hfs, hP1, hK1, hD1⟩ := hB
  rw [ht] at hP1
  have hK1 := va_K.moved hvm.symm hK1
  obtain ⟨hP, hD⟩ := va_join (wr := [(ou, .inl (ko, 1, .inr (.inl fo_4)))]) (w1 := [(mo, .inr (5, fs_8))]) hP hD [0] [1] rfl rfl (by decide) (by decide) hk1 hFc hP1 hD1
  have hK := (hK.sub (tys' := [(ko, .long), (ko, .long)]) [0, 1] rfl).app hK1
  generalize H1 = H at hP hS ⊢
  have hP : va_P (dC, dI) vwCl [(ou, .inl (ko, 1, .inr (.inl fo_4))), (mo, .inr (5, fs_8))] H := hP
  have hD : va_D (fun q : Nat => s.heap.size ≤ q) [(ou, .inl (ko, 1, .inr (.inl fo_4))), (mo, .inr (5, fs_8))] := hD
  have hK : va_K (dC, dI) vwCl [(ko, .long), (ko, .long)] s := hK
  refine W.widen (k := 143) (n := 53751) (Nat.le_of_ble_eq_true rfl) (Nat.le_of_ble_eq_true rfl) ?_
  subst hw
  refine lv_istore (lv' := [(6, .int r_6), (5, .int 1), (4, .int 0), (3, .ref ou), (2, .ref mo), (1, .ref f), (0, .ref b)]) hx hb d_L_law_656 hl (by decide) rfl (fun ls hl => ?_)
  refine lv_aload_n hx hb d_L_law_658 rfl (lv_at hl 4 rfl) ?_
  have hPc := hP.sub (ws' := [(mo, .inr (5, fs_8))]) [1] rfl
  have hKc := hK.sub (tys' := []) [] rfl
  refine va_calli (va_runV (As := []) (rest := []) ⟨hx, hb, hml, hown, hts⟩ (k_M_thrown l dC dI mo fs_8 1 hfs) (cwV 0 hts (gV hsub w_401 w_402 w_403 w_266 w_404) rfl rfl rfl (by decide +kernel) ⟨Nat.le_of_ble_eq_true rfl, Nat.le_of_ble_eq_true rfl⟩) ⟨bl_0000, va_recv hKc hPc (ci := 5) (q0 := 0) rfl rfl, fun U hU hW => ⟨rfl, by rw [hU]; exact hPc, va_K.moved hW.alike hKc⟩⟩ rfl rfl hl.1 rfl (lv_room (Nat.le_of_ble_eq_true rfl)) d_L_law_659 ⟨Nat.le_of_ble_eq_true rfl, Nat.le_of_ble_eq_true rfl⟩) hS (fun q _ h => h.elim) (fun q h => h.elim) (fun r_10 u_11 t H1 locs ht hvm hw hB hz1 hk1 hS => ?_)
  have hP := ro_keep hP hk1
  generalize H1 = H at hP hS ⊢
  refine W.widen (k := 143) (n := 53751) (Nat.le_of_ble_eq_true rfl) (Nat.le_of_ble_eq_true rfl) ?_
  subst hw
  refine lv_iload hx hb d_L_law_662 (lv_at hl 1 rfl) ?_
  refine lv_icmp_eq (tgt := 669) hx hb d_L_law_664 (by decide) (fun c_12 => ?_) (fun c_12 => ?_)
  · skip
    refine lv_iload hx hb d_L_law_669 (lv_at hl 1 rfl) ?_
    refine lv_if_ne (tgt := 686) hx hb d_L_law_671 (by decide) (fun c_13 => ?_) (fun c_13 => ?_)
    · skip
      refine lv_goto (tgt := 1192) hx hb d_L_law_686 (by decide) ?_
      refine lv_iinc (v := 7) (lv' := [(4, .int 7), (6, .int r_6), (5, .int 1), (3, .ref ou), (2, .ref mo), (1, .ref f), (0, .ref b)]) hx hb d_L_law_1192 hl (k := 2) rfl (by decide) (by decide) rfl (fun ls hl => ?_)
      refine lv_goto (tgt := 23) hx hb d_L_law_1195 (by decide) ?_
      refine lv_iload hx hb d_L_law_23 (lv_at hl 0 rfl) ?_
      refine lv_aload_n hx hb d_L_law_25 rfl (lv_at hl 6 rfl) ?_
      refine va_slen hx hb hX hbl hbA hS d_L_law_26 ?_
      refine tp_i 7 (rfl) ?_
      refine lv_bipush (v := 7) hx hb d_L_law_27 (by decide) ?_
      refine lv_isub hx hb d_L_law_29 ?_
      refine tp_i 0 (by decide) ?_
      refine lv_icmp_gt (tgt := 1198) hx hb d_L_law_30 (by decide) (fun c_14 => ?_) (fun c_14 => ?_)
      · skip
        refine lv_iconst (v := 1) hx hb d_L_law_1198 (by decide) ?_
        refine va_forget (fun q hq => hS.2.2 q hq) ?_
        refine W.widen (k := 600002) (n := 7302232) (Nat.le_of_ble_eq_true rfl) (Nat.le_of_ble_eq_true rfl) ?_
        exact lw_ret hx hb hr hlocks d_L_law_1199
      · skip
        first | exact absurd c_14 (by decide) | exact absurd (by decide) c_14
    · skip
      first | exact absurd c_13 (by decide) | exact absurd (by decide) c_13
  · skip
    first | exact absurd c_12 (by decide) | exact absurd (by decide) c_12

