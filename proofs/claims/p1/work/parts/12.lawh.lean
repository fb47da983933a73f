abbrev y_L_cls : MethodName := ⟨"MapFramerLaw", "cls", "(LMapFramer;IZ[J)I"⟩
abbrev y_L_field : MethodName := ⟨"MapFramerLaw", "field", "(LMapFramer;IIZ[J)I"⟩
abbrev y_L_method : MethodName := ⟨"MapFramerLaw", "method", "(LMapFramer;II[J)I"⟩
abbrev y_L_code : MethodName := ⟨"MapFramerLaw", "code", "(LMapFramer;IIII)I"⟩
abbrev y_L_handler : MethodName := ⟨"MapFramerLaw", "handler", "(LMapFramer;IIIII[J)I"⟩
abbrev y_L_verify : MethodName := ⟨"MapFramerLaw", "verify", "(LMapFramer;I[J)I"⟩
abbrev y_L_about : MethodName := ⟨"MapFramerLaw", "about", "(LMapFramer;II[J)I"⟩
abbrev y_L_codeAt : MethodName := ⟨"MapFramerLaw", "codeAt", "(LMapFramer;II[J)I"⟩
abbrev y_L_frameAt : MethodName := ⟨"MapFramerLaw", "frameAt", "(LMapFramer;II[J)I"⟩
abbrev y_L_handlerAt : MethodName := ⟨"MapFramerLaw", "handlerAt", "(LMapFramer;III[J)I"⟩
abbrev y_L_typeAt : MethodName := ⟨"MapFramerLaw", "typeAt", "(LMapFramer;III[J)I"⟩
abbrev y_L_run : MethodName := ⟨"MapFramerLaw", "run", "(LMapFramer;IJJI[J)I"⟩
theorem w_332 : (Cond.methodLink "MapFramerLaw" 7 ⟨"MapFramer", "cls", "(IZ)I"⟩ : Cond) ∈ bigW := inB_1 220 (by decide +kernel) rfl
theorem w_333 : (Cond.instanceMethod ⟨"MapFramer", "cls", "(IZ)I"⟩ : Cond) ∈ bigW := inB_1 221 (by decide +kernel) rfl
theorem w_334 : (Cond.selects "MapFramer" ⟨"MapFramer", "cls", "(IZ)I"⟩ ⟨"MapFramer", "cls", "(IZ)I"⟩ : Cond) ∈ bigW := inB_1 222 (by decide +kernel) rfl
theorem w_335 : (Cond.initialized "MapFramer" : Cond) ∈ bigW := inB_1 1 (by decide +kernel) rfl
theorem w_336 : (Cond.code ⟨"MapFramer", "cls", "(IZ)I"⟩ prog_1_method_2_code 3 (some .int) : Cond) ∈ bigW := inB_1 223 rfl rfl
theorem w_337 : (Cond.classLink "MapFramerLaw" 13 "java/lang/IllegalArgumentException" : Cond) ∈ bigW := inB_1 218 (by decide +kernel) rfl
theorem w_338 : (Cond.methodLink "MapFramerLaw" 17 ⟨"MapFramer", "field", "(IIZ)I"⟩ : Cond) ∈ bigW := inB_2 85 (by decide +kernel) rfl
theorem w_339 : (Cond.instanceMethod ⟨"MapFramer", "field", "(IIZ)I"⟩ : Cond) ∈ bigW := inB_2 86 (by decide +kernel) rfl
theorem w_340 : (Cond.selects "MapFramer" ⟨"MapFramer", "field", "(IIZ)I"⟩ ⟨"MapFramer", "field", "(IIZ)I"⟩ : Cond) ∈ bigW := inB_2 87 (by decide +kernel) rfl
theorem w_341 : (Cond.code ⟨"MapFramer", "field", "(IIZ)I"⟩ prog_1_method_3_code 4 (some .int) : Cond) ∈ bigW := inB_2 88 rfl rfl
theorem w_342 : (Cond.methodLink "MapFramerLaw" 21 ⟨"MapFramer", "method", "(II)I"⟩ : Cond) ∈ bigW := inB_2 104 (by decide +kernel) rfl
theorem w_343 : (Cond.instanceMethod ⟨"MapFramer", "method", "(II)I"⟩ : Cond) ∈ bigW := inB_2 105 (by decide +kernel) rfl
theorem w_344 : (Cond.selects "MapFramer" ⟨"MapFramer", "method", "(II)I"⟩ ⟨"MapFramer", "method", "(II)I"⟩ : Cond) ∈ bigW := inB_2 106 (by decide +kernel) rfl
theorem w_345 : (Cond.code ⟨"MapFramer", "method", "(II)I"⟩ prog_1_method_4_code 5 (some .int) : Cond) ∈ bigW := inB_2 107 rfl rfl
theorem w_346 : (Cond.methodLink "MapFramerLaw" 25 ⟨"MapFramer", "code", "(IIII)V"⟩ : Cond) ∈ bigW := inB_2 223 (by decide +kernel) rfl
theorem w_347 : (Cond.instanceMethod ⟨"MapFramer", "code", "(IIII)V"⟩ : Cond) ∈ bigW := inB_2 224 (by decide +kernel) rfl
theorem w_348 : (Cond.selects "MapFramer" ⟨"MapFramer", "code", "(IIII)V"⟩ ⟨"MapFramer", "code", "(IIII)V"⟩ : Cond) ∈ bigW := inB_2 225 (by decide +kernel) rfl
theorem w_349 : (Cond.code ⟨"MapFramer", "code", "(IIII)V"⟩ prog_1_method_6_code 7 none : Cond) ∈ bigW := inB_2 226 rfl rfl
theorem w_350 : (Cond.methodLink "MapFramerLaw" 29 ⟨"MapFramer", "handler", "(IIIII)I"⟩ : Cond) ∈ bigW := inB_3 24 (by decide +kernel) rfl
theorem w_351 : (Cond.instanceMethod ⟨"MapFramer", "handler", "(IIIII)I"⟩ : Cond) ∈ bigW := inB_3 25 (by decide +kernel) rfl
theorem w_352 : (Cond.selects "MapFramer" ⟨"MapFramer", "handler", "(IIIII)I"⟩ ⟨"MapFramer", "handler", "(IIIII)I"⟩ : Cond) ∈ bigW := inB_3 26 (by decide +kernel) rfl
theorem w_353 : (Cond.code ⟨"MapFramer", "handler", "(IIIII)I"⟩ prog_1_method_7_code 8 (some .int) : Cond) ∈ bigW := inB_3 27 rfl rfl
theorem w_354 : (Cond.methodLink "MapFramerLaw" 33 ⟨"MapFramer", "verify", "(I)I"⟩ : Cond) ∈ bigW := inB_3 136 (by decide +kernel) rfl
theorem w_355 : (Cond.instanceMethod ⟨"MapFramer", "verify", "(I)I"⟩ : Cond) ∈ bigW := inB_3 137 (by decide +kernel) rfl
theorem w_356 : (Cond.selects "MapFramer" ⟨"MapFramer", "verify", "(I)I"⟩ ⟨"MapFramer", "verify", "(I)I"⟩ : Cond) ∈ bigW := inB_3 138 (by decide +kernel) rfl
theorem w_357 : (Cond.code ⟨"MapFramer", "verify", "(I)I"⟩ prog_1_method_9_code 4 (some .int) : Cond) ∈ bigW := inB_3 139 rfl rfl
theorem w_358 : (Cond.methodLink "MapFramerLaw" 39 ⟨"MapFramer", "about", "(II)I"⟩ : Cond) ∈ bigW := inB_7 19 (by decide +kernel) rfl
theorem w_359 : (Cond.instanceMethod ⟨"MapFramer", "about", "(II)I"⟩ : Cond) ∈ bigW := inB_7 20 (by decide +kernel) rfl
theorem w_360 : (Cond.selects "MapFramer" ⟨"MapFramer", "about", "(II)I"⟩ ⟨"MapFramer", "about", "(II)I"⟩ : Cond) ∈ bigW := inB_7 21 (by decide +kernel) rfl
theorem w_361 : (Cond.code ⟨"MapFramer", "about", "(II)I"⟩ prog_1_method_10_code 4 (some .int) : Cond) ∈ bigW := inB_7 22 rfl rfl
theorem w_362 : (Cond.classLink "MapFramerLaw" 42 "java/lang/IndexOutOfBoundsException" : Cond) ∈ bigW := inB_7 18 (by decide +kernel) rfl
theorem w_363 : (Cond.methodLink "MapFramerLaw" 44 ⟨"MapFramer", "codeAt", "(II)I"⟩ : Cond) ∈ bigW := inB_7 29 (by decide +kernel) rfl
theorem w_364 : (Cond.instanceMethod ⟨"MapFramer", "codeAt", "(II)I"⟩ : Cond) ∈ bigW := inB_7 30 (by decide +kernel) rfl
theorem w_365 : (Cond.selects "MapFramer" ⟨"MapFramer", "codeAt", "(II)I"⟩ ⟨"MapFramer", "codeAt", "(II)I"⟩ : Cond) ∈ bigW := inB_7 31 (by decide +kernel) rfl
theorem w_366 : (Cond.code ⟨"MapFramer", "codeAt", "(II)I"⟩ prog_1_method_11_code 4 (some .int) : Cond) ∈ bigW := inB_7 32 rfl rfl
theorem w_367 : (Cond.methodLink "MapFramerLaw" 47 ⟨"MapFramer", "frameAt", "(II)I"⟩ : Cond) ∈ bigW := inB_7 37 (by decide +kernel) rfl
theorem w_368 : (Cond.instanceMethod ⟨"MapFramer", "frameAt", "(II)I"⟩ : Cond) ∈ bigW := inB_7 38 (by decide +kernel) rfl
theorem w_369 : (Cond.selects "MapFramer" ⟨"MapFramer", "frameAt", "(II)I"⟩ ⟨"MapFramer", "frameAt", "(II)I"⟩ : Cond) ∈ bigW := inB_7 39 (by decide +kernel) rfl
theorem w_370 : (Cond.code ⟨"MapFramer", "frameAt", "(II)I"⟩ prog_1_method_12_code 4 (some .int) : Cond) ∈ bigW := inB_7 40 rfl rfl
theorem w_371 : (Cond.methodLink "MapFramerLaw" 50 ⟨"MapFramer", "handlerAt", "(III)I"⟩ : Cond) ∈ bigW := inB_7 45 (by decide +kernel) rfl
theorem w_372 : (Cond.instanceMethod ⟨"MapFramer", "handlerAt", "(III)I"⟩ : Cond) ∈ bigW := inB_7 46 (by decide +kernel) rfl
theorem w_373 : (Cond.selects "MapFramer" ⟨"MapFramer", "handlerAt", "(III)I"⟩ ⟨"MapFramer", "handlerAt", "(III)I"⟩ : Cond) ∈ bigW := inB_7 47 (by decide +kernel) rfl
theorem w_374 : (Cond.code ⟨"MapFramer", "handlerAt", "(III)I"⟩ prog_1_method_13_code 6 (some .int) : Cond) ∈ bigW := inB_7 48 rfl rfl
theorem w_375 : (Cond.methodLink "MapFramerLaw" 54 ⟨"MapFramer", "typeAt", "(III)I"⟩ : Cond) ∈ bigW := inB_7 54 (by decide +kernel) rfl
theorem w_376 : (Cond.instanceMethod ⟨"MapFramer", "typeAt", "(III)I"⟩ : Cond) ∈ bigW := inB_7 55 (by decide +kernel) rfl
theorem w_377 : (Cond.selects "MapFramer" ⟨"MapFramer", "typeAt", "(III)I"⟩ ⟨"MapFramer", "typeAt", "(III)I"⟩ : Cond) ∈ bigW := inB_7 56 (by decide +kernel) rfl
theorem w_378 : (Cond.code ⟨"MapFramer", "typeAt", "(III)I"⟩ prog_1_method_14_code 6 (some .int) : Cond) ∈ bigW := inB_7 57 rfl rfl
theorem w_379 : (Cond.methodLink "MapFramerLaw" 57 ⟨"MapFramer", "run", "(IJJI)J"⟩ : Cond) ∈ bigW := inB_7 67 (by decide +kernel) rfl
theorem w_380 : (Cond.instanceMethod ⟨"MapFramer", "run", "(IJJI)J"⟩ : Cond) ∈ bigW := inB_7 68 (by decide +kernel) rfl
theorem w_381 : (Cond.selects "MapFramer" ⟨"MapFramer", "run", "(IJJI)J"⟩ ⟨"MapFramer", "run", "(IJJI)J"⟩ : Cond) ∈ bigW := inB_7 69 (by decide +kernel) rfl
theorem w_382 : (Cond.code ⟨"MapFramer", "run", "(IJJI)J"⟩ prog_1_method_15_code 8 (some .long) : Cond) ∈ bigW := inB_7 70 rfl rfl
theorem d_L_cls_0 : decode method_3_code 0 = .ok (.aload_n 3, 1) := by decide +kernel
theorem d_L_cls_1 : decode method_3_code 1 = .ok (.iconst 0, 1) := by decide +kernel
theorem d_L_cls_2 : decode method_3_code 2 = .ok (.aload_n 0, 1) := by decide +kernel
theorem d_L_cls_3 : decode method_3_code 3 = .ok (.iload_n 1, 1) := by decide +kernel
theorem d_L_cls_4 : decode method_3_code 4 = .ok (.iload_n 2, 1) := by decide +kernel
theorem d_L_cls_5 : decode method_3_code 5 = .ok (.invokevirtual 7, 3) := by decide +kernel
theorem d_L_cls_8 : decode method_3_code 8 = .ok (.i2l, 1) := by decide +kernel
theorem d_L_cls_9 : decode method_3_code 9 = .ok (.lastore, 1) := by decide +kernel
theorem d_L_cls_10 : decode method_3_code 10 = .ok (.goto 11, 3) := by decide +kernel
theorem d_L_cls_13 : decode method_3_code 13 = .ok (.astore 4, 2) := by decide +kernel
theorem d_L_cls_15 : decode method_3_code 15 = .ok (.iconst 1, 1) := by decide +kernel
theorem d_L_cls_16 : decode method_3_code 16 = .ok (.ireturn, 1) := by decide +kernel
theorem d_L_cls_21 : decode method_3_code 21 = .ok (.iconst 0, 1) := by decide +kernel
theorem d_L_cls_22 : decode method_3_code 22 = .ok (.ireturn, 1) := by decide +kernel
theorem d_L_field_0 : decode method_4_code 0 = .ok (.aload 4, 2) := by decide +kernel
theorem d_L_field_2 : decode method_4_code 2 = .ok (.iconst 0, 1) := by decide +kernel
theorem d_L_field_3 : decode method_4_code 3 = .ok (.aload_n 0, 1) := by decide +kernel
theorem d_L_field_4 : decode method_4_code 4 = .ok (.iload_n 1, 1) := by decide +kernel
theorem d_L_field_5 : decode method_4_code 5 = .ok (.iload_n 2, 1) := by decide +kernel
theorem d_L_field_6 : decode method_4_code 6 = .ok (.iload_n 3, 1) := by decide +kernel
theorem d_L_field_7 : decode method_4_code 7 = .ok (.invokevirtual 17, 3) := by decide +kernel
theorem d_L_field_10 : decode method_4_code 10 = .ok (.i2l, 1) := by decide +kernel
theorem d_L_field_11 : decode method_4_code 11 = .ok (.lastore, 1) := by decide +kernel
theorem d_L_field_12 : decode method_4_code 12 = .ok (.goto 11, 3) := by decide +kernel
theorem d_L_field_15 : decode method_4_code 15 = .ok (.astore 5, 2) := by decide +kernel
theorem d_L_field_17 : decode method_4_code 17 = .ok (.iconst 1, 1) := by decide +kernel
theorem d_L_field_18 : decode method_4_code 18 = .ok (.ireturn, 1) := by decide +kernel
theorem d_L_field_23 : decode method_4_code 23 = .ok (.iconst 0, 1) := by decide +kernel
theorem d_L_field_24 : decode method_4_code 24 = .ok (.ireturn, 1) := by decide +kernel
theorem d_L_method_0 : decode method_5_code 0 = .ok (.aload_n 3, 1) := by decide +kernel
theorem d_L_method_1 : decode method_5_code 1 = .ok (.iconst 0, 1) := by decide +kernel
theorem d_L_method_2 : decode method_5_code 2 = .ok (.aload_n 0, 1) := by decide +kernel
theorem d_L_method_3 : decode method_5_code 3 = .ok (.iload_n 1, 1) := by decide +kernel
theorem d_L_method_4 : decode method_5_code 4 = .ok (.iload_n 2, 1) := by decide +kernel
theorem d_L_method_5 : decode method_5_code 5 = .ok (.invokevirtual 21, 3) := by decide +kernel
theorem d_L_method_8 : decode method_5_code 8 = .ok (.i2l, 1) := by decide +kernel
theorem d_L_method_9 : decode method_5_code 9 = .ok (.lastore, 1) := by decide +kernel
theorem d_L_method_10 : decode method_5_code 10 = .ok (.goto 11, 3) := by decide +kernel
theorem d_L_method_13 : decode method_5_code 13 = .ok (.astore 4, 2) := by decide +kernel
theorem d_L_method_15 : decode method_5_code 15 = .ok (.iconst 1, 1) := by decide +kernel
theorem d_L_method_16 : decode method_5_code 16 = .ok (.ireturn, 1) := by decide +kernel
theorem d_L_method_21 : decode method_5_code 21 = .ok (.iconst 0, 1) := by decide +kernel
theorem d_L_method_22 : decode method_5_code 22 = .ok (.ireturn, 1) := by decide +kernel
theorem d_L_code_0 : decode method_6_code 0 = .ok (.aload_n 0, 1) := by decide +kernel
theorem d_L_code_1 : decode method_6_code 1 = .ok (.iload_n 1, 1) := by decide +kernel
theorem d_L_code_2 : decode method_6_code 2 = .ok (.iload_n 2, 1) := by decide +kernel
theorem d_L_code_3 : decode method_6_code 3 = .ok (.iload_n 3, 1) := by decide +kernel
theorem d_L_code_4 : decode method_6_code 4 = .ok (.iload 4, 2) := by decide +kernel
theorem d_L_code_6 : decode method_6_code 6 = .ok (.invokevirtual 25, 3) := by decide +kernel
theorem d_L_code_12 : decode method_6_code 12 = .ok (.astore 5, 2) := by decide +kernel
theorem d_L_code_14 : decode method_6_code 14 = .ok (.iconst 1, 1) := by decide +kernel
theorem d_L_code_15 : decode method_6_code 15 = .ok (.ireturn, 1) := by decide +kernel
theorem d_L_handler_0 : decode method_7_code 0 = .ok (.aload 6, 2) := by decide +kernel
theorem d_L_handler_2 : decode method_7_code 2 = .ok (.iconst 0, 1) := by decide +kernel
theorem d_L_handler_3 : decode method_7_code 3 = .ok (.aload_n 0, 1) := by decide +kernel
theorem d_L_handler_4 : decode method_7_code 4 = .ok (.iload_n 1, 1) := by decide +kernel
theorem d_L_handler_5 : decode method_7_code 5 = .ok (.iload_n 2, 1) := by decide +kernel
theorem d_L_handler_6 : decode method_7_code 6 = .ok (.iload_n 3, 1) := by decide +kernel
theorem d_L_handler_7 : decode method_7_code 7 = .ok (.iload 4, 2) := by decide +kernel
theorem d_L_handler_9 : decode method_7_code 9 = .ok (.iload 5, 2) := by decide +kernel
theorem d_L_handler_11 : decode method_7_code 11 = .ok (.invokevirtual 29, 3) := by decide +kernel
theorem d_L_handler_19 : decode method_7_code 19 = .ok (.astore 7, 2) := by decide +kernel
theorem d_L_handler_21 : decode method_7_code 21 = .ok (.iconst 1, 1) := by decide +kernel
theorem d_L_handler_22 : decode method_7_code 22 = .ok (.ireturn, 1) := by decide +kernel
theorem d_L_verify_0 : decode method_8_code 0 = .ok (.aload_n 2, 1) := by decide +kernel
theorem d_L_verify_1 : decode method_8_code 1 = .ok (.iconst 0, 1) := by decide +kernel
theorem d_L_verify_2 : decode method_8_code 2 = .ok (.aload_n 0, 1) := by decide +kernel
theorem d_L_verify_3 : decode method_8_code 3 = .ok (.iload_n 1, 1) := by decide +kernel
theorem d_L_verify_4 : decode method_8_code 4 = .ok (.invokevirtual 33, 3) := by decide +kernel
theorem d_L_verify_12 : decode method_8_code 12 = .ok (.astore_n 3, 1) := by decide +kernel
theorem d_L_verify_13 : decode method_8_code 13 = .ok (.iconst 1, 1) := by decide +kernel
theorem d_L_verify_14 : decode method_8_code 14 = .ok (.ireturn, 1) := by decide +kernel
theorem d_L_about_0 : decode method_9_code 0 = .ok (.aload_n 3, 1) := by decide +kernel
theorem d_L_about_1 : decode method_9_code 1 = .ok (.iconst 0, 1) := by decide +kernel
theorem d_L_about_2 : decode method_9_code 2 = .ok (.aload_n 0, 1) := by decide +kernel
theorem d_L_about_3 : decode method_9_code 3 = .ok (.iload_n 1, 1) := by decide +kernel
theorem d_L_about_4 : decode method_9_code 4 = .ok (.iload_n 2, 1) := by decide +kernel
theorem d_L_about_5 : decode method_9_code 5 = .ok (.invokevirtual 39, 3) := by decide +kernel
theorem d_L_about_13 : decode method_9_code 13 = .ok (.astore 4, 2) := by decide +kernel
theorem d_L_about_15 : decode method_9_code 15 = .ok (.iconst 1, 1) := by decide +kernel
theorem d_L_about_16 : decode method_9_code 16 = .ok (.ireturn, 1) := by decide +kernel
theorem d_L_codeAt_0 : decode method_10_code 0 = .ok (.aload_n 3, 1) := by decide +kernel
theorem d_L_codeAt_1 : decode method_10_code 1 = .ok (.iconst 0, 1) := by decide +kernel
theorem d_L_codeAt_2 : decode method_10_code 2 = .ok (.aload_n 0, 1) := by decide +kernel
theorem d_L_codeAt_3 : decode method_10_code 3 = .ok (.iload_n 1, 1) := by decide +kernel
theorem d_L_codeAt_4 : decode method_10_code 4 = .ok (.iload_n 2, 1) := by decide +kernel
theorem d_L_codeAt_5 : decode method_10_code 5 = .ok (.invokevirtual 44, 3) := by decide +kernel
theorem d_L_codeAt_13 : decode method_10_code 13 = .ok (.astore 4, 2) := by decide +kernel
theorem d_L_codeAt_15 : decode method_10_code 15 = .ok (.iconst 1, 1) := by decide +kernel
theorem d_L_codeAt_16 : decode method_10_code 16 = .ok (.ireturn, 1) := by decide +kernel
theorem d_L_frameAt_0 : decode method_11_code 0 = .ok (.aload_n 3, 1) := by decide +kernel
theorem d_L_frameAt_1 : decode method_11_code 1 = .ok (.iconst 0, 1) := by decide +kernel
theorem d_L_frameAt_2 : decode method_11_code 2 = .ok (.aload_n 0, 1) := by decide +kernel
theorem d_L_frameAt_3 : decode method_11_code 3 = .ok (.iload_n 1, 1) := by decide +kernel
theorem d_L_frameAt_4 : decode method_11_code 4 = .ok (.iload_n 2, 1) := by decide +kernel
theorem d_L_frameAt_5 : decode method_11_code 5 = .ok (.invokevirtual 47, 3) := by decide +kernel
theorem d_L_frameAt_13 : decode method_11_code 13 = .ok (.astore 4, 2) := by decide +kernel
theorem d_L_frameAt_15 : decode method_11_code 15 = .ok (.iconst 1, 1) := by decide +kernel
theorem d_L_frameAt_16 : decode method_11_code 16 = .ok (.ireturn, 1) := by decide +kernel
theorem d_L_handlerAt_0 : decode method_12_code 0 = .ok (.aload 4, 2) := by decide +kernel
theorem d_L_handlerAt_2 : decode method_12_code 2 = .ok (.iconst 0, 1) := by decide +kernel
theorem d_L_handlerAt_3 : decode method_12_code 3 = .ok (.aload_n 0, 1) := by decide +kernel
theorem d_L_handlerAt_4 : decode method_12_code 4 = .ok (.iload_n 1, 1) := by decide +kernel
theorem d_L_handlerAt_5 : decode method_12_code 5 = .ok (.iload_n 2, 1) := by decide +kernel
theorem d_L_handlerAt_6 : decode method_12_code 6 = .ok (.iload_n 3, 1) := by decide +kernel
theorem d_L_handlerAt_7 : decode method_12_code 7 = .ok (.invokevirtual 50, 3) := by decide +kernel
theorem d_L_handlerAt_15 : decode method_12_code 15 = .ok (.astore 5, 2) := by decide +kernel
theorem d_L_handlerAt_17 : decode method_12_code 17 = .ok (.iconst 1, 1) := by decide +kernel
theorem d_L_handlerAt_18 : decode method_12_code 18 = .ok (.ireturn, 1) := by decide +kernel
theorem d_L_typeAt_0 : decode method_13_code 0 = .ok (.aload 4, 2) := by decide +kernel
theorem d_L_typeAt_2 : decode method_13_code 2 = .ok (.iconst 0, 1) := by decide +kernel
theorem d_L_typeAt_3 : decode method_13_code 3 = .ok (.aload_n 0, 1) := by decide +kernel
theorem d_L_typeAt_4 : decode method_13_code 4 = .ok (.iload_n 1, 1) := by decide +kernel
theorem d_L_typeAt_5 : decode method_13_code 5 = .ok (.iload_n 2, 1) := by decide +kernel
theorem d_L_typeAt_6 : decode method_13_code 6 = .ok (.iload_n 3, 1) := by decide +kernel
theorem d_L_typeAt_7 : decode method_13_code 7 = .ok (.invokevirtual 54, 3) := by decide +kernel
theorem d_L_typeAt_15 : decode method_13_code 15 = .ok (.astore 5, 2) := by decide +kernel
theorem d_L_typeAt_17 : decode method_13_code 17 = .ok (.iconst 1, 1) := by decide +kernel
theorem d_L_typeAt_18 : decode method_13_code 18 = .ok (.ireturn, 1) := by decide +kernel
theorem d_L_run_0 : decode method_14_code 0 = .ok (.aload 7, 2) := by decide +kernel
theorem d_L_run_2 : decode method_14_code 2 = .ok (.iconst 0, 1) := by decide +kernel
theorem d_L_run_3 : decode method_14_code 3 = .ok (.aload_n 0, 1) := by decide +kernel
theorem d_L_run_4 : decode method_14_code 4 = .ok (.iload_n 1, 1) := by decide +kernel
theorem d_L_run_5 : decode method_14_code 5 = .ok (.lload_n 2, 1) := by decide +kernel
theorem d_L_run_6 : decode method_14_code 6 = .ok (.lload 4, 2) := by decide +kernel
theorem d_L_run_8 : decode method_14_code 8 = .ok (.iload 6, 2) := by decide +kernel
theorem d_L_run_10 : decode method_14_code 10 = .ok (.invokevirtual 57, 3) := by decide +kernel
theorem d_L_run_17 : decode method_14_code 17 = .ok (.astore 8, 2) := by decide +kernel
theorem d_L_run_19 : decode method_14_code 19 = .ok (.iconst 1, 1) := by decide +kernel
theorem d_L_run_20 : decode method_14_code 20 = .ok (.ireturn, 1) := by decide +kernel

theorem out_at (fo : Nat → Int64) (v : Int32) (n : Int64) (h : v.toInt64 = n) : (vp_updL fo (0 : Int32).toNatClampNeg v.toInt64) 0 = n := by
  have e0 : (0 : Int32).toNatClampNeg = 0 := by decide
  rw [e0]
  exact pk_uLs.trans h
abbrev ws_k_L_cls (f w k tp wp wu wi wc wt wx wm : Nat) (kp ku ki : ClassId) (fp fu : Nat → Int32) (ou : Nat) (ko : ClassId) (fo : Nat → Int64) : va_W := [(f, .inr (4, [.ref w, .ref k, .ref tp, .int 0])), (w, .inr (3, [.ref wp, .ref wu, .ref wi, .int 2, .ref wc, .ref wt, .ref wx, .int 0, .ref wm, .int 0])), (wp, .inl (kp, 16, .inl fp)), (wu, .inl (ku, 16, .inl fu)), (wi, .inl (ki, 16, .inl (fun _ => 0))), (ou, .inl (ko, 1, .inr (.inl fo)))]
set_option maxHeartbeats 4000000 in
set_option maxRecDepth 100000 in
theorem k_L_cls (l : Launch) (hl9 : l.stackTraces = false) (dC : Nat → ClassId) (dI : Nat → Nat → Nat) (f w k tp wp wu wi wc wt wx wm : Nat) (kp ku ki : ClassId) (fp fu : Nat → Int32) (pr bz : Int32) (ou : Nat) (ko : ClassId) (fo : Nat → Int64) (sz : Nat) : Met l y_L_cls (Cond.codeWith y_L_cls method_3_code 5 (some .int) [(0, 10, 13, 13), (0, 10, 17, 15)] :: bigW) ({ frames := 7, cells := 1, slots := 6, locals := 104 } : Room) (va_Pc [.ref f, .int pr, .int bz, .ref ou] (fun U => U.heap.size = sz ∧ va_P (dC, dI) vwCl (ws_k_L_cls f w k tp wp wu wi wc wt wx wm kp ku ki fp fu ou ko fo) U.heap ∧ va_K (dC, dI) vwCl [(kp, .int), (ku, .int), (ki, .boolean), (ko, .long)] U ∧ va_D (fun _ => True) (ws_k_L_cls f w k tp wp wu wi wc wt wx wm kp ku ki fp fu ou ko fo) ∧ exP (va_A (ws_k_L_cls f w k tp wp wu wi wc wt wx wm kp ku ki fp fu ou ko fo) sz) U)) (va_Qi (fun (r : Int32) (u : Int64) => (okC pr bz ∧ r = 0 ∧ u = 2) ∨ (¬ okC pr bz ∧ r = 1)) (fun u t => ∃ f9 : Nat → Int64, f9 0 = u ∧ va_P (dC, dI) vwCl [(ou, .inl (ko, 1, .inr (.inl f9)))] t.heap ∧ va_K (dC, dI) vwCl [(ko, .long)] t ∧ va_D (va_A (ws_k_L_cls f w k tp wp wu wi wc wt wx wm kp ku ki fp fu ou ko fo) sz) [(ou, .inl (ko, 1, .inr (.inl f9)))]) (va_A (ws_k_L_cls f w k tp wp wu wi wc wt wx wm kp ku ki fp fu ou ko fo) sz)) 1 6 (va_A (ws_k_L_cls f w k tp wp wu wi wc wt wx wm kp ku ki fp fu ou ko fo) sz) := by
  refine va_MetW (cc := method_3_code) (maxL := 5) (ret := (some .int)) (hh := [(0, 10, 13, 13), (0, 10, 17, 15)]) (by decide) rfl ?_
  intro p e s m args below meth cx s₁ B hml hv
  obtain ⟨rfl, hsz, hP, hK, hD0, hex⟩ := hv
  have hx := B.exec
  have hb := B.bytes
  have hr := B.returns
  have hts := atoms_spec (ws := (Cond.codeWith y_L_cls method_3_code 5 (some .int) [(0, 10, 13, 13), (0, 10, 17, 15)] :: bigW)) B.pre
  have hsub : ∀ w ∈ bigW, w ∈ (Cond.codeWith y_L_cls method_3_code 5 (some .int) [(0, 10, 13, 13), (0, 10, 17, 15)] :: bigW) := fun w h => List.mem_cons_of_mem _ h
  have hown : s.vm.findClass "MapFramerLaw" = some m.cls := findClass_of_methodNamed B.named
  have hlocks := B.notSynchronized
  have htab : cx.exceptionTable.toList = tableOf [(0, 10, 13, 13), (0, 10, 17, 15)] := vx_table (x := y_L_cls) B (hts _ List.mem_cons_self)
  subst hsz
  have hD := hD0.self (sz := s.heap.size)
  generalize hAe : va_A (ws_k_L_cls f w k tp wp wu wi wc wt wx wm kp ku ki fp fu ou ko fo) s.heap.size = A at hD hex ⊢
  have hA : ∀ q : Nat, s.heap.size ≤ q → A q := fun q h => by rw [← hAe]; exact Or.inr h
  have hS : va_S A s.heap s.heap [] := va_S.rf
  have hP : va_P (dC, dI) vwCl [(f, .inr (4, [.ref w, .ref k, .ref tp, .int 0])), (w, .inr (3, [.ref wp, .ref wu, .ref wi, .int 2, .ref wc, .ref wt, .ref wx, .int 0, .ref wm, .int 0])), (wp, .inl (kp, 16, .inl fp)), (wu, .inl (ku, 16, .inl fu)), (wi, .inl (ki, 16, .inl (fun _ => 0))), (ou, .inl (ko, 1, .inr (.inl fo)))] s.heap := hP
  have hD : va_D A [(f, .inr (4, [.ref w, .ref k, .ref tp, .int 0])), (w, .inr (3, [.ref wp, .ref wu, .ref wi, .int 2, .ref wc, .ref wt, .ref wx, .int 0, .ref wm, .int 0])), (wp, .inl (kp, 16, .inl fp)), (wu, .inl (ku, 16, .inl fu)), (wi, .inl (ki, 16, .inl (fun _ => 0))), (ou, .inl (ko, 1, .inr (.inl fo)))] := hD
  have hl := lv_entry ([.ref f, .int pr, .int bz, .ref ou]) (n := 5) (Nat.le_of_ble_eq_true rfl)
  rw [lg_entry_eq]
  generalize (lg_sl ([.ref f, .int pr, .int bz, .ref ou]) ++ List.replicate (5 - (lg_sl ([.ref f, .int pr, .int bz, .ref ou])).length) Slot.unset).toArray = ls at hl ⊢
  have hl : lv_has ls 5 [(0, .ref f), (1, .int pr), (2, .int bz), (3, .ref ou)] := hl
  have htb := hex.2.2.2.2.2.1
  refine lv_aload_n hx hb d_L_cls_0 rfl (lv_at hl 3 rfl) ?_
  refine lv_iconst (v := 0) hx hb d_L_cls_1 (by decide) ?_
  refine lv_aload_n hx hb d_L_cls_2 rfl (lv_at hl 0 rfl) ?_
  refine lv_iload_n hx hb d_L_cls_3 rfl (lv_at hl 1 rfl) ?_
  refine lv_iload_n hx hb d_L_cls_4 rfl (lv_at hl 2 rfl) ?_
  have hPc := hP.sub (ws' := [(f, .inr (4, [.ref w, .ref k, .ref tp, .int 0])), (w, .inr (3, [.ref wp, .ref wu, .ref wi, .int 2, .ref wc, .ref wt, .ref wx, .int 0, .ref wm, .int 0])), (wp, .inl (kp, 16, .inl fp)), (wu, .inl (ku, 16, .inl fu)), (wi, .inl (ki, 16, .inl (fun _ => 0)))]) [0, 1, 2, 3, 4] rfl
  have hKc := hK.sub (tys' := [(kp, .int), (ku, .int), (ki, .boolean)]) [0, 1, 2] rfl
  have hDc := hD.sub (ws' := [(f, .inr (4, [.ref w, .ref k, .ref tp, .int 0])), (w, .inr (3, [.ref wp, .ref wu, .ref wi, .int 2, .ref wc, .ref wt, .ref wx, .int 0, .ref wm, .int 0])), (wp, .inl (kp, 16, .inl fp)), (wu, .inl (ku, 16, .inl fu)), (wi, .inl (ki, 16, .inl (fun _ => 0)))]) [0, 1, 2, 3, 4] (by decide) rfl
  have hFc := va_free (wc := [(f, .inr (4, [.ref w, .ref k, .ref tp, .int 0])), (w, .inr (3, [.ref wp, .ref wu, .ref wi, .int 2, .ref wc, .ref wt, .ref wx, .int 0, .ref wm, .int 0])), (wp, .inl (kp, 16, .inl fp)), (wu, .inl (ku, 16, .inl fu)), (wi, .inl (ki, 16, .inl (fun _ => 0)))]) hD hS hA [0, 1, 2, 3, 4] rfl
  refine vx_calli (vx_runV (As := [.int pr, .int bz]) (rest := [.int 0, .ref ou]) ⟨hx, hb, hml, hown, hts⟩ (k_F_cls l hl9 dC dI f w k tp wp wu wi wc wt wx wm kp ku ki fp fu pr bz s.heap.size) (cwV 2 hts (gV hsub w_332 w_333 w_334 w_335 w_336) rfl rfl rfl (by decide +kernel) ⟨Nat.le_of_ble_eq_true rfl, Nat.le_of_ble_eq_true rfl⟩) ⟨bl_1010, va_recv hKc hPc (ci := 4) (q0 := 0) rfl rfl, fun U hU hW => ⟨rfl, by rw [hU], by rw [hU]; exact hPc, va_K.moved hW.alike hKc, hDc.weaken (fun _ _ _ _ => trivial), exP_go hex hS (fun q h => hFc q h) U hU hW⟩⟩ rfl rfl hl.1 rfl (lv_room (Nat.le_of_ble_eq_true rfl)) d_L_cls_5 ⟨Nat.le_of_ble_eq_true rfl, Nat.le_of_ble_eq_true rfl⟩) hS (fun q _ h => hFc q h) hFc (fun q _ h => hFc q h) (fun E9 ce9 q9 u9 t H1 locs ht hvm hpx hEq hz1 hk1 hS hq9 hcv9 hcl9 => ?_) (fun r_2 u_3 t H1 locs ht hvm hw hB hz1 hk1 hS => ?_)
  · skip
    subst hEq
    have hP1 : va_P (dC, dI) vwCl [] H1 := nil_P
    have hD1 : va_D (va_A [(f, .inr (4, [.ref w, .ref k, .ref tp, .int 0])), (w, .inr (3, [.ref wp, .ref wu, .ref wi, .int 2, .ref wc, .ref wt, .ref wx, .int 0, .ref wm, .int 0])), (wp, .inl (kp, 16, .inl fp)), (wu, .inl (ku, 16, .inl fu)), (wi, .inl (ki, 16, .inl (fun _ => 0)))] s.heap.size) [] := nil_D
    have hK1 : va_K (dC, dI) vwCl [] s := hK.sub (tys' := []) [] rfl
    obtain ⟨hP, hD⟩ := va_join (wr := [(ou, .inl (ko, 1, .inr (.inl fo)))]) (w1 := []) hP hD [0, 1, 2, 3, 4] [5] rfl rfl (by decide) (by decide) hk1 hFc hP1 hD1
    have hK := (hK.sub (tys' := [(kp, .int), (ku, .int), (ki, .boolean), (ko, .long)]) [0, 1, 2, 3] rfl).app hK1
    generalize H1 = H at hP hS hq9 ⊢
    have hP : va_P (dC, dI) vwCl [(ou, .inl (ko, 1, .inr (.inl fo)))] H := hP
    have hD : va_D A [(ou, .inl (ko, 1, .inr (.inl fo)))] := hD
    have hK : va_K (dC, dI) vwCl [(kp, .int), (ku, .int), (ki, .boolean), (ko, .long)] s := hK
    refine vx_widen (k := 1) (n := 6) (Nat.le_of_ble_eq_true rfl) (Nat.le_of_ble_eq_true rfl) ?_
    refine fc_catch hown ⟨0, 10, 13, 13⟩ (tableOf [(0, 10, 17, 15)]) htab (by decide) (by decide) (hts _ (hsub _ w_337)) (va_Nw.use rfl hex.2.2.1.1) hq9 hcv9 hcl9 ?_
    refine lv_astore (lv' := [(4, .ref q9), (0, .ref f), (1, .int pr), (2, .int bz), (3, .ref ou)]) hx hb d_L_cls_13 hl (by decide) rfl (fun ls hl => ?_)
    refine lv_iconst (v := 1) hx hb d_L_cls_15 (by decide) ?_
    refine W.widen (k := 1) (n := 6) (Nat.le_of_ble_eq_true rfl) (Nat.le_of_ble_eq_true rfl) ?_
    exact W.iret (v := 1) hx hb hr (fun t ht hW => ⟨⟨1, (fo 0), rfl, Or.inr ⟨hpx, rfl⟩, fo, rfl, by rw [ht]; exact hP.sub [0] rfl, va_K.moved hW.alike (hK.sub (tys' := [(ko, .long)]) [3] rfl), hD.sub [0] (by decide) rfl⟩, hS.F ht⟩) hS.2.2 d_L_cls_16
  · skip
    have hP1 : va_P (dC, dI) vwCl [] H1 := nil_P
    have hD1 : va_D (va_A [(f, .inr (4, [.ref w, .ref k, .ref tp, .int 0])), (w, .inr (3, [.ref wp, .ref wu, .ref wi, .int 2, .ref wc, .ref wt, .ref wx, .int 0, .ref wm, .int 0])), (wp, .inl (kp, 16, .inl fp)), (wu, .inl (ku, 16, .inl fu)), (wi, .inl (ki, 16, .inl (fun _ => 0)))] s.heap.size) [] := nil_D
    have hK1 : va_K (dC, dI) vwCl [] s := hK.sub (tys' := []) [] rfl
    obtain ⟨hP, hD⟩ := va_join (wr := [(ou, .inl (ko, 1, .inr (.inl fo)))]) (w1 := []) hP hD [0, 1, 2, 3, 4] [5] rfl rfl (by decide) (by decide) hk1 hFc hP1 hD1
    have hK := (hK.sub (tys' := [(kp, .int), (ku, .int), (ki, .boolean), (ko, .long)]) [0, 1, 2, 3] rfl).app hK1
    generalize H1 = H at hP hS ⊢
    have hP : va_P (dC, dI) vwCl [(ou, .inl (ko, 1, .inr (.inl fo)))] H := hP
    have hD : va_D A [(ou, .inl (ko, 1, .inr (.inl fo)))] := hD
    have hK : va_K (dC, dI) vwCl [(kp, .int), (ku, .int), (ki, .boolean), (ko, .long)] s := hK
    refine W.widen (k := 1) (n := 6) (Nat.le_of_ble_eq_true rfl) (Nat.le_of_ble_eq_true rfl) ?_
    obtain ⟨hok, rfl⟩ : _ ∧ r_2 = 2 := hw
    refine lv_i2l (v := (2 : Int32).toInt64) hx hb d_L_cls_8 rfl ?_
    refine va_last hx hb hK hP hD hS 0 3 rfl rfl (vp_in_iff.mpr (by decide)) d_L_cls_9 (fun H locs hP hD hS => ?_)
    have hP : va_P (dC, dI) vwCl [(ou, .inl (ko, 1, .inr (.inl (vp_updL fo (0 : Int32).toNatClampNeg ((2 : Int32).toInt64)))))] H := hP
    have hD : va_D A [(ou, .inl (ko, 1, .inr (.inl (vp_updL fo (0 : Int32).toNatClampNeg ((2 : Int32).toInt64)))))] := hD
    refine lv_goto (tgt := 21) hx hb d_L_cls_10 (by decide) ?_
    refine lv_iconst (v := 0) hx hb d_L_cls_21 (by decide) ?_
    refine W.widen (k := 1) (n := 6) (Nat.le_of_ble_eq_true rfl) (Nat.le_of_ble_eq_true rfl) ?_
    exact W.iret (v := 0) hx hb hr (fun t ht hW => ⟨⟨0, (2 : Int64), rfl, Or.inl ⟨hok, rfl, rfl⟩, (vp_updL fo (0 : Int32).toNatClampNeg ((2 : Int32).toInt64)), out_at fo 2 2 (by decide), by rw [ht]; exact hP.sub [0] rfl, va_K.moved hW.alike (hK.sub (tys' := [(ko, .long)]) [3] rfl), hD.sub [0] (by decide) rfl⟩, hS.F ht⟩) hS.2.2 d_L_cls_22

abbrev ws_k_L_field (f w k tp wp wu wi wc wt wx wm : Nat) (ki kc kt kx : ClassId) (ou : Nat) (ko : ClassId) (fo : Nat → Int64) : va_W := [(f, .inr (4, [.ref w, .ref k, .ref tp, .int 0])), (w, .inr (3, [.ref wp, .ref wu, .ref wi, .int 2, .ref wc, .ref wt, .ref wx, .int 0, .ref wm, .int 0])), (wi, .inl (ki, 16, .inl (fun _ => 0))), (wc, .inl (kc, 16, .inl (fun _ => 0))), (wt, .inl (kt, 16, .inl (fun _ => 0))), (wx, .inl (kx, 16, .inl (fun _ => 0))), (ou, .inl (ko, 1, .inr (.inl fo)))]
set_option maxHeartbeats 4000000 in
set_option maxRecDepth 100000 in
theorem k_L_field (l : Launch) (hl9 : l.stackTraces = false) (dC : Nat → ClassId) (dI : Nat → Nat → Nat) (f w k tp wp wu wi wc wt wx wm : Nat) (ki kc kt kx : ClassId) (ow ty bz : Int32) (ou : Nat) (ko : ClassId) (fo : Nat → Int64) (sz : Nat) : Met l y_L_field (Cond.codeWith y_L_field method_4_code 6 (some .int) [(0, 12, 15, 13), (0, 12, 19, 15)] :: bigW) ({ frames := 7, cells := 1, slots := 6, locals := 105 } : Room) (va_Pc [.ref f, .int ow, .int ty, .int bz, .ref ou] (fun U => U.heap.size = sz ∧ va_P (dC, dI) vwCl (ws_k_L_field f w k tp wp wu wi wc wt wx wm ki kc kt kx ou ko fo) U.heap ∧ va_K (dC, dI) vwCl [(ki, .boolean), (kc, .int), (kt, .int), (kx, .boolean), (ko, .long)] U ∧ va_D (fun _ => True) (ws_k_L_field f w k tp wp wu wi wc wt wx wm ki kc kt kx ou ko fo) ∧ exP (va_A (ws_k_L_field f w k tp wp wu wi wc wt wx wm ki kc kt kx ou ko fo) sz) U)) (va_Qi (fun (r : Int32) (u : Int64) => (okF ow ty bz ∧ r = 0 ∧ u = 0) ∨ (¬ okF ow ty bz ∧ r = 1)) (fun u t => ∃ f9 : Nat → Int64, f9 0 = u ∧ va_P (dC, dI) vwCl [(ou, .inl (ko, 1, .inr (.inl f9)))] t.heap ∧ va_K (dC, dI) vwCl [(ko, .long)] t ∧ va_D (va_A (ws_k_L_field f w k tp wp wu wi wc wt wx wm ki kc kt kx ou ko fo) sz) [(ou, .inl (ko, 1, .inr (.inl f9)))]) (va_A (ws_k_L_field f w k tp wp wu wi wc wt wx wm ki kc kt kx ou ko fo) sz)) 1 6 (va_A (ws_k_L_field f w k tp wp wu wi wc wt wx wm ki kc kt kx ou ko fo) sz) := by
  refine va_MetW (cc := method_4_code) (maxL := 6) (ret := (some .int)) (hh := [(0, 12, 15, 13), (0, 12, 19, 15)]) (by decide) rfl ?_
  intro p e s m args below meth cx s₁ B hml hv
  obtain ⟨rfl, hsz, hP, hK, hD0, hex⟩ := hv
  have hx := B.exec
  have hb := B.bytes
  have hr := B.returns
  have hts := atoms_spec (ws := (Cond.codeWith y_L_field method_4_code 6 (some .int) [(0, 12, 15, 13), (0, 12, 19, 15)] :: bigW)) B.pre
  have hsub : ∀ w ∈ bigW, w ∈ (Cond.codeWith y_L_field method_4_code 6 (some .int) [(0, 12, 15, 13), (0, 12, 19, 15)] :: bigW) := fun w h => List.mem_cons_of_mem _ h
  have hown : s.vm.findClass "MapFramerLaw" = some m.cls := findClass_of_methodNamed B.named
  have hlocks := B.notSynchronized
  have htab : cx.exceptionTable.toList = tableOf [(0, 12, 15, 13), (0, 12, 19, 15)] := vx_table (x := y_L_field) B (hts _ List.mem_cons_self)
  subst hsz
  have hD := hD0.self (sz := s.heap.size)
  generalize hAe : va_A (ws_k_L_field f w k tp wp wu wi wc wt wx wm ki kc kt kx ou ko fo) s.heap.size = A at hD hex ⊢
  have hA : ∀ q : Nat, s.heap.size ≤ q → A q := fun q h => by rw [← hAe]; exact Or.inr h
  have hS : va_S A s.heap s.heap [] := va_S.rf
  have hP : va_P (dC, dI) vwCl [(f, .inr (4, [.ref w, .ref k, .ref tp, .int 0])), (w, .inr (3, [.ref wp, .ref wu, .ref wi, .int 2, .ref wc, .ref wt, .ref wx, .int 0, .ref wm, .int 0])), (wi, .inl (ki, 16, .inl (fun _ => 0))), (wc, .inl (kc, 16, .inl (fun _ => 0))), (wt, .inl (kt, 16, .inl (fun _ => 0))), (wx, .inl (kx, 16, .inl (fun _ => 0))), (ou, .inl (ko, 1, .inr (.inl fo)))] s.heap := hP
  have hD : va_D A [(f, .inr (4, [.ref w, .ref k, .ref tp, .int 0])), (w, .inr (3, [.ref wp, .ref wu, .ref wi, .int 2, .ref wc, .ref wt, .ref wx, .int 0, .ref wm, .int 0])), (wi, .inl (ki, 16, .inl (fun _ => 0))), (wc, .inl (kc, 16, .inl (fun _ => 0))), (wt, .inl (kt, 16, .inl (fun _ => 0))), (wx, .inl (kx, 16, .inl (fun _ => 0))), (ou, .inl (ko, 1, .inr (.inl fo)))] := hD
  have hl := lv_entry ([.ref f, .int ow, .int ty, .int bz, .ref ou]) (n := 6) (Nat.le_of_ble_eq_true rfl)
  rw [lg_entry_eq]
  generalize (lg_sl ([.ref f, .int ow, .int ty, .int bz, .ref ou]) ++ List.replicate (6 - (lg_sl ([.ref f, .int ow, .int ty, .int bz, .ref ou])).length) Slot.unset).toArray = ls at hl ⊢
  have hl : lv_has ls 6 [(0, .ref f), (1, .int ow), (2, .int ty), (3, .int bz), (4, .ref ou)] := hl
  have htb := hex.2.2.2.2.2.1
  refine lv_aload hx hb d_L_field_0 (lv_at hl 4 rfl) ?_
  refine lv_iconst (v := 0) hx hb d_L_field_2 (by decide) ?_
  refine lv_aload_n hx hb d_L_field_3 rfl (lv_at hl 0 rfl) ?_
  refine lv_iload_n hx hb d_L_field_4 rfl (lv_at hl 1 rfl) ?_
  refine lv_iload_n hx hb d_L_field_5 rfl (lv_at hl 2 rfl) ?_
  refine lv_iload_n hx hb d_L_field_6 rfl (lv_at hl 3 rfl) ?_
  have hPc := hP.sub (ws' := [(f, .inr (4, [.ref w, .ref k, .ref tp, .int 0])), (w, .inr (3, [.ref wp, .ref wu, .ref wi, .int 2, .ref wc, .ref wt, .ref wx, .int 0, .ref wm, .int 0])), (wi, .inl (ki, 16, .inl (fun _ => 0))), (wc, .inl (kc, 16, .inl (fun _ => 0))), (wt, .inl (kt, 16, .inl (fun _ => 0))), (wx, .inl (kx, 16, .inl (fun _ => 0)))]) [0, 1, 2, 3, 4, 5] rfl
  have hKc := hK.sub (tys' := [(ki, .boolean), (kc, .int), (kt, .int), (kx, .boolean)]) [0, 1, 2, 3] rfl
  have hDc := hD.sub (ws' := [(f, .inr (4, [.ref w, .ref k, .ref tp, .int 0])), (w, .inr (3, [.ref wp, .ref wu, .ref wi, .int 2, .ref wc, .ref wt, .ref wx, .int 0, .ref wm, .int 0])), (wi, .inl (ki, 16, .inl (fun _ => 0))), (wc, .inl (kc, 16, .inl (fun _ => 0))), (wt, .inl (kt, 16, .inl (fun _ => 0))), (wx, .inl (kx, 16, .inl (fun _ => 0)))]) [0, 1, 2, 3, 4, 5] (by decide) rfl
  have hFc := va_free (wc := [(f, .inr (4, [.ref w, .ref k, .ref tp, .int 0])), (w, .inr (3, [.ref wp, .ref wu, .ref wi, .int 2, .ref wc, .ref wt, .ref wx, .int 0, .ref wm, .int 0])), (wi, .inl (ki, 16, .inl (fun _ => 0))), (wc, .inl (kc, 16, .inl (fun _ => 0))), (wt, .inl (kt, 16, .inl (fun _ => 0))), (wx, .inl (kx, 16, .inl (fun _ => 0)))]) hD hS hA [0, 1, 2, 3, 4, 5] rfl
  refine vx_calli (vx_runV (As := [.int ow, .int ty, .int bz]) (rest := [.int 0, .ref ou]) ⟨hx, hb, hml, hown, hts⟩ (k_F_field l hl9 dC dI f w k tp wp wu wi wc wt wx wm ki kc kt kx ow ty bz s.heap.size) (cwV 3 hts (gV hsub w_338 w_339 w_340 w_335 w_341) rfl rfl rfl (by decide +kernel) ⟨Nat.le_of_ble_eq_true rfl, Nat.le_of_ble_eq_true rfl⟩) ⟨bl_1010, va_recv hKc hPc (ci := 4) (q0 := 0) rfl rfl, fun U hU hW => ⟨rfl, by rw [hU], by rw [hU]; exact hPc, va_K.moved hW.alike hKc, hDc.weaken (fun _ _ _ _ => trivial), exP_go hex hS (fun q h => hFc q h) U hU hW⟩⟩ rfl rfl hl.1 rfl (lv_room (Nat.le_of_ble_eq_true rfl)) d_L_field_7 ⟨Nat.le_of_ble_eq_true rfl, Nat.le_of_ble_eq_true rfl⟩) hS (fun q _ h => hFc q h) hFc (fun q _ h => hFc q h) (fun E9 ce9 q9 u9 t H1 locs ht hvm hpx hEq hz1 hk1 hS hq9 hcv9 hcl9 => ?_) (fun r_2 u_3 t H1 locs ht hvm hw hB hz1 hk1 hS => ?_)
  · skip
    subst hEq
    have hP1 : va_P (dC, dI) vwCl [] H1 := nil_P
    have hD1 : va_D (va_A [(f, .inr (4, [.ref w, .ref k, .ref tp, .int 0])), (w, .inr (3, [.ref wp, .ref wu, .ref wi, .int 2, .ref wc, .ref wt, .ref wx, .int 0, .ref wm, .int 0])), (wi, .inl (ki, 16, .inl (fun _ => 0))), (wc, .inl (kc, 16, .inl (fun _ => 0))), (wt, .inl (kt, 16, .inl (fun _ => 0))), (wx, .inl (kx, 16, .inl (fun _ => 0)))] s.heap.size) [] := nil_D
    have hK1 : va_K (dC, dI) vwCl [] s := hK.sub (tys' := []) [] rfl
    obtain ⟨hP, hD⟩ := va_join (wr := [(ou, .inl (ko, 1, .inr (.inl fo)))]) (w1 := []) hP hD [0, 1, 2, 3, 4, 5] [6] rfl rfl (by decide) (by decide) hk1 hFc hP1 hD1
    have hK := (hK.sub (tys' := [(ki, .boolean), (kc, .int), (kt, .int), (kx, .boolean), (ko, .long)]) [0, 1, 2, 3, 4] rfl).app hK1
    generalize H1 = H at hP hS hq9 ⊢
    have hP : va_P (dC, dI) vwCl [(ou, .inl (ko, 1, .inr (.inl fo)))] H := hP
    have hD : va_D A [(ou, .inl (ko, 1, .inr (.inl fo)))] := hD
    have hK : va_K (dC, dI) vwCl [(ki, .boolean), (kc, .int), (kt, .int), (kx, .boolean), (ko, .long)] s := hK
    refine vx_widen (k := 1) (n := 6) (Nat.le_of_ble_eq_true rfl) (Nat.le_of_ble_eq_true rfl) ?_
    refine fc_catch hown ⟨0, 12, 15, 13⟩ (tableOf [(0, 12, 19, 15)]) htab (by decide) (by decide) (hts _ (hsub _ w_337)) (va_Nw.use rfl hex.2.2.1.1) hq9 hcv9 hcl9 ?_
    refine lv_astore (lv' := [(5, .ref q9), (0, .ref f), (1, .int ow), (2, .int ty), (3, .int bz), (4, .ref ou)]) hx hb d_L_field_15 hl (by decide) rfl (fun ls hl => ?_)
    refine lv_iconst (v := 1) hx hb d_L_field_17 (by decide) ?_
    refine W.widen (k := 1) (n := 6) (Nat.le_of_ble_eq_true rfl) (Nat.le_of_ble_eq_true rfl) ?_
    exact W.iret (v := 1) hx hb hr (fun t ht hW => ⟨⟨1, (fo 0), rfl, Or.inr ⟨hpx, rfl⟩, fo, rfl, by rw [ht]; exact hP.sub [0] rfl, va_K.moved hW.alike (hK.sub (tys' := [(ko, .long)]) [4] rfl), hD.sub [0] (by decide) rfl⟩, hS.F ht⟩) hS.2.2 d_L_field_18
  · skip
    have hP1 : va_P (dC, dI) vwCl [] H1 := nil_P
    have hD1 : va_D (va_A [(f, .inr (4, [.ref w, .ref k, .ref tp, .int 0])), (w, .inr (3, [.ref wp, .ref wu, .ref wi, .int 2, .ref wc, .ref wt, .ref wx, .int 0, .ref wm, .int 0])), (wi, .inl (ki, 16, .inl (fun _ => 0))), (wc, .inl (kc, 16, .inl (fun _ => 0))), (wt, .inl (kt, 16, .inl (fun _ => 0))), (wx, .inl (kx, 16, .inl (fun _ => 0)))] s.heap.size) [] := nil_D
    have hK1 : va_K (dC, dI) vwCl [] s := hK.sub (tys' := []) [] rfl
    obtain ⟨hP, hD⟩ := va_join (wr := [(ou, .inl (ko, 1, .inr (.inl fo)))]) (w1 := []) hP hD [0, 1, 2, 3, 4, 5] [6] rfl rfl (by decide) (by decide) hk1 hFc hP1 hD1
    have hK := (hK.sub (tys' := [(ki, .boolean), (kc, .int), (kt, .int), (kx, .boolean), (ko, .long)]) [0, 1, 2, 3, 4] rfl).app hK1
    generalize H1 = H at hP hS ⊢
    have hP : va_P (dC, dI) vwCl [(ou, .inl (ko, 1, .inr (.inl fo)))] H := hP
    have hD : va_D A [(ou, .inl (ko, 1, .inr (.inl fo)))] := hD
    have hK : va_K (dC, dI) vwCl [(ki, .boolean), (kc, .int), (kt, .int), (kx, .boolean), (ko, .long)] s := hK
    refine W.widen (k := 1) (n := 6) (Nat.le_of_ble_eq_true rfl) (Nat.le_of_ble_eq_true rfl) ?_
    obtain ⟨hok, rfl⟩ : _ ∧ r_2 = 0 := hw
    refine lv_i2l (v := (0 : Int32).toInt64) hx hb d_L_field_10 rfl ?_
    refine va_last hx hb hK hP hD hS 0 4 rfl rfl (vp_in_iff.mpr (by decide)) d_L_field_11 (fun H locs hP hD hS => ?_)
    have hP : va_P (dC, dI) vwCl [(ou, .inl (ko, 1, .inr (.inl (vp_updL fo (0 : Int32).toNatClampNeg ((0 : Int32).toInt64)))))] H := hP
    have hD : va_D A [(ou, .inl (ko, 1, .inr (.inl (vp_updL fo (0 : Int32).toNatClampNeg ((0 : Int32).toInt64)))))] := hD
    refine lv_goto (tgt := 23) hx hb d_L_field_12 (by decide) ?_
    refine lv_iconst (v := 0) hx hb d_L_field_23 (by decide) ?_
    refine W.widen (k := 1) (n := 6) (Nat.le_of_ble_eq_true rfl) (Nat.le_of_ble_eq_true rfl) ?_
    exact W.iret (v := 0) hx hb hr (fun t ht hW => ⟨⟨0, (0 : Int64), rfl, Or.inl ⟨hok, rfl, rfl⟩, (vp_updL fo (0 : Int32).toNatClampNeg ((0 : Int32).toInt64)), out_at fo 0 0 (by decide), by rw [ht]; exact hP.sub [0] rfl, va_K.moved hW.alike (hK.sub (tys' := [(ko, .long)]) [4] rfl), hD.sub [0] (by decide) rfl⟩, hS.F ht⟩) hS.2.2 d_L_field_24

abbrev ws_k_L_method (f w k tp wp wu wi wc wt wx wm : Nat) (km : ClassId) (fm : Nat → Option Nat) (ou : Nat) (ko : ClassId) (fo : Nat → Int64) : va_W := [(f, .inr (4, [.ref w, .ref k, .ref tp, .int 0])), (w, .inr (3, [.ref wp, .ref wu, .ref wi, .int 2, .ref wc, .ref wt, .ref wx, .int 0, .ref wm, .int 0])), (wm, .inl (km, 8, .inr (.inr (.inr (.inr fm))))), (ou, .inl (ko, 1, .inr (.inl fo)))]
set_option maxHeartbeats 4000000 in
set_option maxRecDepth 100000 in
theorem k_L_method (l : Launch) (hl9 : l.stackTraces = false) (dC : Nat → ClassId) (dI : Nat → Nat → Nat) (f w k tp wp wu wi wc wt wx wm : Nat) (km : ClassId) (fm : Nat → Option Nat) (pk rs : Int32) (ou : Nat) (ko : ClassId) (fo : Nat → Int64) (sz : Nat) : Met l y_L_method (Cond.codeWith y_L_method method_5_code 5 (some .int) [(0, 10, 13, 13), (0, 10, 17, 15)] :: bigW) ({ frames := 7, cells := 6, slots := 20, locals := 142 } : Room) (va_Pc [.ref f, .int pk, .int rs, .ref ou] (fun U => U.heap.size = sz ∧ va_P (dC, dI) vwCl (ws_k_L_method f w k tp wp wu wi wc wt wx wm km fm ou ko fo) U.heap ∧ va_K (dC, dI) vwCl [(km, .object "MapFramer$Method"), (ko, .long)] U ∧ va_D (fun _ => True) (ws_k_L_method f w k tp wp wu wi wc wt wx wm km fm ou ko fo) ∧ exP (va_A (ws_k_L_method f w k tp wp wu wi wc wt wx wm km fm ou ko fo) sz) U)) (va_Qi (fun (r : Int32) (u : Int64) => (okM pk rs ∧ r = 0 ∧ u = 0) ∨ (¬ okM pk rs ∧ r = 1)) (fun u t => ∃ f9 : Nat → Int64, f9 0 = u ∧ va_P (dC, dI) vwCl [(ou, .inl (ko, 1, .inr (.inl f9)))] t.heap ∧ va_K (dC, dI) vwCl [(ko, .long)] t ∧ va_D (va_A (ws_k_L_method f w k tp wp wu wi wc wt wx wm km fm ou ko fo) sz) [(ou, .inl (ko, 1, .inr (.inl f9)))]) (va_A (ws_k_L_method f w k tp wp wu wi wc wt wx wm km fm ou ko fo) sz)) 6 20 (va_A (ws_k_L_method f w k tp wp wu wi wc wt wx wm km fm ou ko fo) sz) := by
  refine va_MetW (cc := method_5_code) (maxL := 5) (ret := (some .int)) (hh := [(0, 10, 13, 13), (0, 10, 17, 15)]) (by decide) rfl ?_
  intro p e s m args below meth cx s₁ B hml hv
  obtain ⟨rfl, hsz, hP, hK, hD0, hex⟩ := hv
  have hx := B.exec
  have hb := B.bytes
  have hr := B.returns
  have hts := atoms_spec (ws := (Cond.codeWith y_L_method method_5_code 5 (some .int) [(0, 10, 13, 13), (0, 10, 17, 15)] :: bigW)) B.pre
  have hsub : ∀ w ∈ bigW, w ∈ (Cond.codeWith y_L_method method_5_code 5 (some .int) [(0, 10, 13, 13), (0, 10, 17, 15)] :: bigW) := fun w h => List.mem_cons_of_mem _ h
  have hown : s.vm.findClass "MapFramerLaw" = some m.cls := findClass_of_methodNamed B.named
  have hlocks := B.notSynchronized
  have htab : cx.exceptionTable.toList = tableOf [(0, 10, 13, 13), (0, 10, 17, 15)] := vx_table (x := y_L_method) B (hts _ List.mem_cons_self)
  subst hsz
  have hD := hD0.self (sz := s.heap.size)
  generalize hAe : va_A (ws_k_L_method f w k tp wp wu wi wc wt wx wm km fm ou ko fo) s.heap.size = A at hD hex ⊢
  have hA : ∀ q : Nat, s.heap.size ≤ q → A q := fun q h => by rw [← hAe]; exact Or.inr h
  have hS : va_S A s.heap s.heap [] := va_S.rf
  have hP : va_P (dC, dI) vwCl [(f, .inr (4, [.ref w, .ref k, .ref tp, .int 0])), (w, .inr (3, [.ref wp, .ref wu, .ref wi, .int 2, .ref wc, .ref wt, .ref wx, .int 0, .ref wm, .int 0])), (wm, .inl (km, 8, .inr (.inr (.inr (.inr fm))))), (ou, .inl (ko, 1, .inr (.inl fo)))] s.heap := hP
  have hD : va_D A [(f, .inr (4, [.ref w, .ref k, .ref tp, .int 0])), (w, .inr (3, [.ref wp, .ref wu, .ref wi, .int 2, .ref wc, .ref wt, .ref wx, .int 0, .ref wm, .int 0])), (wm, .inl (km, 8, .inr (.inr (.inr (.inr fm))))), (ou, .inl (ko, 1, .inr (.inl fo)))] := hD
  have hl := lv_entry ([.ref f, .int pk, .int rs, .ref ou]) (n := 5) (Nat.le_of_ble_eq_true rfl)
  rw [lg_entry_eq]
  generalize (lg_sl ([.ref f, .int pk, .int rs, .ref ou]) ++ List.replicate (5 - (lg_sl ([.ref f, .int pk, .int rs, .ref ou])).length) Slot.unset).toArray = ls at hl ⊢
  have hl : lv_has ls 5 [(0, .ref f), (1, .int pk), (2, .int rs), (3, .ref ou)] := hl
  have htb := hex.2.2.2.2.2.1
  refine lv_aload_n hx hb d_L_method_0 rfl (lv_at hl 3 rfl) ?_
  refine lv_iconst (v := 0) hx hb d_L_method_1 (by decide) ?_
  refine lv_aload_n hx hb d_L_method_2 rfl (lv_at hl 0 rfl) ?_
  refine lv_iload_n hx hb d_L_method_3 rfl (lv_at hl 1 rfl) ?_
  refine lv_iload_n hx hb d_L_method_4 rfl (lv_at hl 2 rfl) ?_
  have hPc := hP.sub (ws' := [(f, .inr (4, [.ref w, .ref k, .ref tp, .int 0])), (w, .inr (3, [.ref wp, .ref wu, .ref wi, .int 2, .ref wc, .ref wt, .ref wx, .int 0, .ref wm, .int 0])), (wm, .inl (km, 8, .inr (.inr (.inr (.inr fm)))))]) [0, 1, 2] rfl
  have hKc := hK.sub (tys' := [(km, .object "MapFramer$Method")]) [0] rfl
  have hDc := hD.sub (ws' := [(f, .inr (4, [.ref w, .ref k, .ref tp, .int 0])), (w, .inr (3, [.ref wp, .ref wu, .ref wi, .int 2, .ref wc, .ref wt, .ref wx, .int 0, .ref wm, .int 0])), (wm, .inl (km, 8, .inr (.inr (.inr (.inr fm)))))]) [0, 1, 2] (by decide) rfl
  have hFc := va_free (wc := [(f, .inr (4, [.ref w, .ref k, .ref tp, .int 0])), (w, .inr (3, [.ref wp, .ref wu, .ref wi, .int 2, .ref wc, .ref wt, .ref wx, .int 0, .ref wm, .int 0])), (wm, .inl (km, 8, .inr (.inr (.inr (.inr fm)))))]) hD hS hA [0, 1, 2] rfl
  refine vx_calli (vx_runV (As := [.int pk, .int rs]) (rest := [.int 0, .ref ou]) ⟨hx, hb, hml, hown, hts⟩ (k_F_method l hl9 dC dI f w k tp wp wu wi wc wt wx wm km fm pk rs s.heap.size) (cwV 2 hts (gV hsub w_342 w_343 w_344 w_335 w_345) rfl rfl rfl (by decide +kernel) ⟨Nat.le_of_ble_eq_true rfl, Nat.le_of_ble_eq_true rfl⟩) ⟨bl_1010, va_recv hKc hPc (ci := 4) (q0 := 0) rfl rfl, fun U hU hW => ⟨rfl, by rw [hU], by rw [hU]; exact hPc, va_K.moved hW.alike hKc, hDc.weaken (fun _ _ _ _ => trivial), exP_go hex hS (fun q h => hFc q h) U hU hW⟩⟩ rfl rfl hl.1 rfl (lv_room (Nat.le_of_ble_eq_true rfl)) d_L_method_5 ⟨Nat.le_of_ble_eq_true rfl, Nat.le_of_ble_eq_true rfl⟩) hS (fun q _ h => hFc q h) hFc (fun q _ h => hFc q h) (fun E9 ce9 q9 u9 t H1 locs ht hvm hpx hEq hz1 hk1 hS hq9 hcv9 hcl9 => ?_) (fun r_2 u_3 t H1 locs ht hvm hw hB hz1 hk1 hS => ?_)
  · skip
    subst hEq
    have hP1 : va_P (dC, dI) vwCl [] H1 := nil_P
    have hD1 : va_D (va_A [(f, .inr (4, [.ref w, .ref k, .ref tp, .int 0])), (w, .inr (3, [.ref wp, .ref wu, .ref wi, .int 2, .ref wc, .ref wt, .ref wx, .int 0, .ref wm, .int 0])), (wm, .inl (km, 8, .inr (.inr (.inr (.inr fm)))))] s.heap.size) [] := nil_D
    have hK1 : va_K (dC, dI) vwCl [] s := hK.sub (tys' := []) [] rfl
    obtain ⟨hP, hD⟩ := va_join (wr := [(ou, .inl (ko, 1, .inr (.inl fo)))]) (w1 := []) hP hD [0, 1, 2] [3] rfl rfl (by decide) (by decide) hk1 hFc hP1 hD1
    have hK := (hK.sub (tys' := [(km, .object "MapFramer$Method"), (ko, .long)]) [0, 1] rfl).app hK1
    generalize H1 = H at hP hS hq9 ⊢
    have hP : va_P (dC, dI) vwCl [(ou, .inl (ko, 1, .inr (.inl fo)))] H := hP
    have hD : va_D A [(ou, .inl (ko, 1, .inr (.inl fo)))] := hD
    have hK : va_K (dC, dI) vwCl [(km, .object "MapFramer$Method"), (ko, .long)] s := hK
    refine vx_widen (k := 6) (n := 20) (Nat.le_of_ble_eq_true rfl) (Nat.le_of_ble_eq_true rfl) ?_
    refine fc_catch hown ⟨0, 10, 13, 13⟩ (tableOf [(0, 10, 17, 15)]) htab (by decide) (by decide) (hts _ (hsub _ w_337)) (va_Nw.use rfl hex.2.2.1.1) hq9 hcv9 hcl9 ?_
    refine lv_astore (lv' := [(4, .ref q9), (0, .ref f), (1, .int pk), (2, .int rs), (3, .ref ou)]) hx hb d_L_method_13 hl (by decide) rfl (fun ls hl => ?_)
    refine lv_iconst (v := 1) hx hb d_L_method_15 (by decide) ?_
    refine W.widen (k := 6) (n := 20) (Nat.le_of_ble_eq_true rfl) (Nat.le_of_ble_eq_true rfl) ?_
    exact W.iret (v := 1) hx hb hr (fun t ht hW => ⟨⟨1, (fo 0), rfl, Or.inr ⟨hpx, rfl⟩, fo, rfl, by rw [ht]; exact hP.sub [0] rfl, va_K.moved hW.alike (hK.sub (tys' := [(ko, .long)]) [1] rfl), hD.sub [0] (by decide) rfl⟩, hS.F ht⟩) hS.2.2 d_L_method_16
  · skip
    have hP1 : va_P (dC, dI) vwCl [] H1 := nil_P
    have hD1 : va_D (va_A [(f, .inr (4, [.ref w, .ref k, .ref tp, .int 0])), (w, .inr (3, [.ref wp, .ref wu, .ref wi, .int 2, .ref wc, .ref wt, .ref wx, .int 0, .ref wm, .int 0])), (wm, .inl (km, 8, .inr (.inr (.inr (.inr fm)))))] s.heap.size) [] := nil_D
    have hK1 : va_K (dC, dI) vwCl [] s := hK.sub (tys' := []) [] rfl
    obtain ⟨hP, hD⟩ := va_join (wr := [(ou, .inl (ko, 1, .inr (.inl fo)))]) (w1 := []) hP hD [0, 1, 2] [3] rfl rfl (by decide) (by decide) hk1 hFc hP1 hD1
    have hK := (hK.sub (tys' := [(km, .object "MapFramer$Method"), (ko, .long)]) [0, 1] rfl).app hK1
    generalize H1 = H at hP hS ⊢
    have hP : va_P (dC, dI) vwCl [(ou, .inl (ko, 1, .inr (.inl fo)))] H := hP
    have hD : va_D A [(ou, .inl (ko, 1, .inr (.inl fo)))] := hD
    have hK : va_K (dC, dI) vwCl [(km, .object "MapFramer$Method"), (ko, .long)] s := hK
    refine W.widen (k := 6) (n := 20) (Nat.le_of_ble_eq_true rfl) (Nat.le_of_ble_eq_true rfl) ?_
    obtain ⟨hok, rfl⟩ : _ ∧ r_2 = 0 := hw
    refine lv_i2l (v := (0 : Int32).toInt64) hx hb d_L_method_8 rfl ?_
    refine va_last hx hb hK hP hD hS 0 1 rfl rfl (vp_in_iff.mpr (by decide)) d_L_method_9 (fun H locs hP hD hS => ?_)
    have hP : va_P (dC, dI) vwCl [(ou, .inl (ko, 1, .inr (.inl (vp_updL fo (0 : Int32).toNatClampNeg ((0 : Int32).toInt64)))))] H := hP
    have hD : va_D A [(ou, .inl (ko, 1, .inr (.inl (vp_updL fo (0 : Int32).toNatClampNeg ((0 : Int32).toInt64)))))] := hD
    refine lv_goto (tgt := 21) hx hb d_L_method_10 (by decide) ?_
    refine lv_iconst (v := 0) hx hb d_L_method_21 (by decide) ?_
    refine W.widen (k := 6) (n := 20) (Nat.le_of_ble_eq_true rfl) (Nat.le_of_ble_eq_true rfl) ?_
    exact W.iret (v := 0) hx hb hr (fun t ht hW => ⟨⟨0, (0 : Int64), rfl, Or.inl ⟨hok, rfl, rfl⟩, (vp_updL fo (0 : Int32).toNatClampNeg ((0 : Int32).toInt64)), out_at fo 0 0 (by decide), by rw [ht]; exact hP.sub [0] rfl, va_K.moved hW.alike (hK.sub (tys' := [(ko, .long)]) [1] rfl), hD.sub [0] (by decide) rfl⟩, hS.F ht⟩) hS.2.2 d_L_method_22

abbrev ws_k_L_code (f w k tp wp wu wi wc wt wx wm : Nat) : va_W := [(f, .inr (4, [.ref w, .ref k, .ref tp, .int 0])), (w, .inr (3, [.ref wp, .ref wu, .ref wi, .int 2, .ref wc, .ref wt, .ref wx, .int 0, .ref wm, .int 0]))]
set_option maxHeartbeats 4000000 in
set_option maxRecDepth 100000 in
theorem k_L_code (l : Launch) (hl9 : l.stackTraces = false) (dC : Nat → ClassId) (dI : Nat → Nat → Nat) (f w k tp wp wu wi wc wt wx wm : Nat) (a1 : Int32) (a2 : Int32) (a3 : Int32) (a4 : Int32) (sz : Nat) : Met l y_L_code (Cond.codeWith y_L_code method_6_code 6 (some .int) [(0, 9, 12, 13), (0, 9, 16, 15)] :: bigW) ({ frames := 7, cells := 1, slots := 6, locals := 108 } : Room) (va_Pc [.ref f, .int a1, .int a2, .int a3, .int a4] (fun U => U.heap.size = sz ∧ va_P (dC, dI) vwCl (ws_k_L_code f w k tp wp wu wi wc wt wx wm) U.heap ∧ va_K (dC, dI) vwCl [] U ∧ va_D (fun _ => True) (ws_k_L_code f w k tp wp wu wi wc wt wx wm) ∧ exP (va_A (ws_k_L_code f w k tp wp wu wi wc wt wx wm) sz) U)) (va_Qi (fun (r : Int32) (u : Unit) => r = 1) (fun _ _ => True) (va_A (ws_k_L_code f w k tp wp wu wi wc wt wx wm) sz)) 1 6 (va_A (ws_k_L_code f w k tp wp wu wi wc wt wx wm) sz) := by
  refine va_MetW (cc := method_6_code) (maxL := 6) (ret := (some .int)) (hh := [(0, 9, 12, 13), (0, 9, 16, 15)]) (by decide) rfl ?_
  intro p e s m args below meth cx s₁ B hml hv
  obtain ⟨rfl, hsz, hP, hK, hD0, hex⟩ := hv
  have hx := B.exec
  have hb := B.bytes
  have hr := B.returns
  have hts := atoms_spec (ws := (Cond.codeWith y_L_code method_6_code 6 (some .int) [(0, 9, 12, 13), (0, 9, 16, 15)] :: bigW)) B.pre
  have hsub : ∀ w ∈ bigW, w ∈ (Cond.codeWith y_L_code method_6_code 6 (some .int) [(0, 9, 12, 13), (0, 9, 16, 15)] :: bigW) := fun w h => List.mem_cons_of_mem _ h
  have hown : s.vm.findClass "MapFramerLaw" = some m.cls := findClass_of_methodNamed B.named
  have hlocks := B.notSynchronized
  have htab : cx.exceptionTable.toList = tableOf [(0, 9, 12, 13), (0, 9, 16, 15)] := vx_table (x := y_L_code) B (hts _ List.mem_cons_self)
  subst hsz
  have hD := hD0.self (sz := s.heap.size)
  generalize hAe : va_A (ws_k_L_code f w k tp wp wu wi wc wt wx wm) s.heap.size = A at hD hex ⊢
  have hA : ∀ q : Nat, s.heap.size ≤ q → A q := fun q h => by rw [← hAe]; exact Or.inr h
  have hS : va_S A s.heap s.heap [] := va_S.rf
  have hP : va_P (dC, dI) vwCl [(f, .inr (4, [.ref w, .ref k, .ref tp, .int 0])), (w, .inr (3, [.ref wp, .ref wu, .ref wi, .int 2, .ref wc, .ref wt, .ref wx, .int 0, .ref wm, .int 0]))] s.heap := hP
  have hD : va_D A [(f, .inr (4, [.ref w, .ref k, .ref tp, .int 0])), (w, .inr (3, [.ref wp, .ref wu, .ref wi, .int 2, .ref wc, .ref wt, .ref wx, .int 0, .ref wm, .int 0]))] := hD
  have hl := lv_entry ([.ref f, .int a1, .int a2, .int a3, .int a4]) (n := 6) (Nat.le_of_ble_eq_true rfl)
  rw [lg_entry_eq]
  generalize (lg_sl ([.ref f, .int a1, .int a2, .int a3, .int a4]) ++ List.replicate (6 - (lg_sl ([.ref f, .int a1, .int a2, .int a3, .int a4])).length) Slot.unset).toArray = ls at hl ⊢
  have hl : lv_has ls 6 [(0, .ref f), (1, .int a1), (2, .int a2), (3, .int a3), (4, .int a4)] := hl
  have htb := hex.2.2.2.2.2.1
  refine lv_aload_n hx hb d_L_code_0 rfl (lv_at hl 0 rfl) ?_
  refine lv_iload_n hx hb d_L_code_1 rfl (lv_at hl 1 rfl) ?_
  refine lv_iload_n hx hb d_L_code_2 rfl (lv_at hl 2 rfl) ?_
  refine lv_iload_n hx hb d_L_code_3 rfl (lv_at hl 3 rfl) ?_
  refine lv_iload hx hb d_L_code_4 (lv_at hl 4 rfl) ?_
  have hPc := hP.sub (ws' := [(f, .inr (4, [.ref w, .ref k, .ref tp, .int 0])), (w, .inr (3, [.ref wp, .ref wu, .ref wi, .int 2, .ref wc, .ref wt, .ref wx, .int 0, .ref wm, .int 0]))]) [0, 1] rfl
  have hKc := hK.sub (tys' := []) [] rfl
  have hDc := hD.sub (ws' := [(f, .inr (4, [.ref w, .ref k, .ref tp, .int 0])), (w, .inr (3, [.ref wp, .ref wu, .ref wi, .int 2, .ref wc, .ref wt, .ref wx, .int 0, .ref wm, .int 0]))]) [0, 1] (by decide) rfl
  have hFc := va_free (wc := [(f, .inr (4, [.ref w, .ref k, .ref tp, .int 0])), (w, .inr (3, [.ref wp, .ref wu, .ref wi, .int 2, .ref wc, .ref wt, .ref wx, .int 0, .ref wm, .int 0]))]) hD hS hA [0, 1] rfl
  refine vx_callv (vx_runV (As := [.int a1, .int a2, .int a3, .int a4]) (rest := []) ⟨hx, hb, hml, hown, hts⟩ (k_F_code l hl9 dC dI f w k tp wp wu wi wc wt wx wm a1 a2 a3 a4 s.heap.size) (cwV 4 hts (gV hsub w_346 w_347 w_348 w_335 w_349) rfl rfl rfl (by decide +kernel) ⟨Nat.le_of_ble_eq_true rfl, Nat.le_of_ble_eq_true rfl⟩) ⟨bl_1010, va_recv hKc hPc (ci := 4) (q0 := 0) rfl rfl, fun U hU hW => ⟨rfl, by rw [hU], by rw [hU]; exact hPc, va_K.moved hW.alike hKc, hDc.weaken (fun _ _ _ _ => trivial), exP_go hex hS (fun q h => hFc q h) U hU hW⟩⟩ rfl rfl hl.1 rfl (lv_room (Nat.le_of_ble_eq_true rfl)) d_L_code_6 ⟨Nat.le_of_ble_eq_true rfl, Nat.le_of_ble_eq_true rfl⟩) hS (fun q _ h => hFc q h) hFc (fun q _ h => hFc q h) (fun E9 ce9 q9 u9 t H1 locs ht hvm hpx hEq hz1 hk1 hS hq9 hcv9 hcl9 => ?_) (fun u_3 t H1 locs ht hvm hw hB hz1 hk1 hS => ?_)
  · skip
    subst hEq
    have hP1 : va_P (dC, dI) vwCl [] H1 := nil_P
    have hD1 : va_D (va_A [(f, .inr (4, [.ref w, .ref k, .ref tp, .int 0])), (w, .inr (3, [.ref wp, .ref wu, .ref wi, .int 2, .ref wc, .ref wt, .ref wx, .int 0, .ref wm, .int 0]))] s.heap.size) [] := nil_D
    have hK1 : va_K (dC, dI) vwCl [] s := hK.sub (tys' := []) [] rfl
    obtain ⟨hP, hD⟩ := va_join (wr := []) (w1 := []) hP hD [0, 1] [] rfl rfl (by decide) (by decide) hk1 hFc hP1 hD1
    have hK := (hK.sub (tys' := []) [] rfl).app hK1
    generalize H1 = H at hP hS hq9 ⊢
    have hP : va_P (dC, dI) vwCl [] H := hP
    have hD : va_D A [] := hD
    have hK : va_K (dC, dI) vwCl [] s := hK
    refine vx_widen (k := 1) (n := 6) (Nat.le_of_ble_eq_true rfl) (Nat.le_of_ble_eq_true rfl) ?_
    refine fc_catch hown ⟨0, 9, 12, 13⟩ (tableOf [(0, 9, 16, 15)]) htab (by decide) (by decide) (hts _ (hsub _ w_337)) (va_Nw.use rfl hex.2.2.1.1) hq9 hcv9 hcl9 ?_
    refine lv_astore (lv' := [(5, .ref q9), (0, .ref f), (1, .int a1), (2, .int a2), (3, .int a3), (4, .int a4)]) hx hb d_L_code_12 hl (by decide) rfl (fun ls hl => ?_)
    refine lv_iconst (v := 1) hx hb d_L_code_14 (by decide) ?_
    refine W.widen (k := 1) (n := 6) (Nat.le_of_ble_eq_true rfl) (Nat.le_of_ble_eq_true rfl) ?_
    exact W.iret (v := 1) hx hb hr (fun t ht hW => ⟨⟨1, (), rfl, rfl, trivial⟩, hS.F ht⟩) hS.2.2 d_L_code_15
  · skip
    have hP1 : va_P (dC, dI) vwCl [] H1 := nil_P
    have hD1 : va_D (va_A [(f, .inr (4, [.ref w, .ref k, .ref tp, .int 0])), (w, .inr (3, [.ref wp, .ref wu, .ref wi, .int 2, .ref wc, .ref wt, .ref wx, .int 0, .ref wm, .int 0]))] s.heap.size) [] := nil_D
    have hK1 : va_K (dC, dI) vwCl [] s := hK.sub (tys' := []) [] rfl
    obtain ⟨hP, hD⟩ := va_join (wr := []) (w1 := []) hP hD [0, 1] [] rfl rfl (by decide) (by decide) hk1 hFc hP1 hD1
    have hK := (hK.sub (tys' := []) [] rfl).app hK1
    generalize H1 = H at hP hS ⊢
    have hP : va_P (dC, dI) vwCl [] H := hP
    have hD : va_D A [] := hD
    have hK : va_K (dC, dI) vwCl [] s := hK
    refine W.widen (k := 1) (n := 6) (Nat.le_of_ble_eq_true rfl) (Nat.le_of_ble_eq_true rfl) ?_
    exact (hw : False).elim

abbrev ws_k_L_handler (f w k tp wp wu wi wc wt wx wm : Nat) (ou : Nat) (ko : ClassId) (fo : Nat → Int64) : va_W := [(f, .inr (4, [.ref w, .ref k, .ref tp, .int 0])), (w, .inr (3, [.ref wp, .ref wu, .ref wi, .int 2, .ref wc, .ref wt, .ref wx, .int 0, .ref wm, .int 0])), (ou, .inl (ko, 1, .inr (.inl fo)))]
set_option maxHeartbeats 4000000 in
set_option maxRecDepth 100000 in
theorem k_L_handler (l : Launch) (hl9 : l.stackTraces = false) (dC : Nat → ClassId) (dI : Nat → Nat → Nat) (f w k tp wp wu wi wc wt wx wm : Nat) (a1 : Int32) (a2 : Int32) (a3 : Int32) (a4 : Int32) (a5 : Int32) (ou : Nat) (ko : ClassId) (fo : Nat → Int64) (sz : Nat) : Met l y_L_handler (Cond.codeWith y_L_handler method_7_code 8 (some .int) [(0, 16, 19, 13), (0, 16, 23, 15)] :: bigW) ({ frames := 7, cells := 1, slots := 6, locals := 109 } : Room) (va_Pc [.ref f, .int a1, .int a2, .int a3, .int a4, .int a5, .ref ou] (fun U => U.heap.size = sz ∧ va_P (dC, dI) vwCl (ws_k_L_handler f w k tp wp wu wi wc wt wx wm ou ko fo) U.heap ∧ va_K (dC, dI) vwCl [(ko, .long)] U ∧ va_D (fun _ => True) (ws_k_L_handler f w k tp wp wu wi wc wt wx wm ou ko fo) ∧ exP (va_A (ws_k_L_handler f w k tp wp wu wi wc wt wx wm ou ko fo) sz) U)) (va_Qi (fun (r : Int32) (u : Int64) => r = 1) (fun u t => ∃ f9 : Nat → Int64, f9 0 = u ∧ va_P (dC, dI) vwCl [(ou, .inl (ko, 1, .inr (.inl f9)))] t.heap ∧ va_K (dC, dI) vwCl [(ko, .long)] t ∧ va_D (va_A (ws_k_L_handler f w k tp wp wu wi wc wt wx wm ou ko fo) sz) [(ou, .inl (ko, 1, .inr (.inl f9)))]) (va_A (ws_k_L_handler f w k tp wp wu wi wc wt wx wm ou ko fo) sz)) 1 6 (va_A (ws_k_L_handler f w k tp wp wu wi wc wt wx wm ou ko fo) sz) := by
  refine va_MetW (cc := method_7_code) (maxL := 8) (ret := (some .int)) (hh := [(0, 16, 19, 13), (0, 16, 23, 15)]) (by decide) rfl ?_
  intro p e s m args below meth cx s₁ B hml hv
  obtain ⟨rfl, hsz, hP, hK, hD0, hex⟩ := hv
  have hx := B.exec
  have hb := B.bytes
  have hr := B.returns
  have hts := atoms_spec (ws := (Cond.codeWith y_L_handler method_7_code 8 (some .int) [(0, 16, 19, 13), (0, 16, 23, 15)] :: bigW)) B.pre
  have hsub : ∀ w ∈ bigW, w ∈ (Cond.codeWith y_L_handler method_7_code 8 (some .int) [(0, 16, 19, 13), (0, 16, 23, 15)] :: bigW) := fun w h => List.mem_cons_of_mem _ h
  have hown : s.vm.findClass "MapFramerLaw" = some m.cls := findClass_of_methodNamed B.named
  have hlocks := B.notSynchronized
  have htab : cx.exceptionTable.toList = tableOf [(0, 16, 19, 13), (0, 16, 23, 15)] := vx_table (x := y_L_handler) B (hts _ List.mem_cons_self)
  subst hsz
  have hD := hD0.self (sz := s.heap.size)
  generalize hAe : va_A (ws_k_L_handler f w k tp wp wu wi wc wt wx wm ou ko fo) s.heap.size = A at hD hex ⊢
  have hA : ∀ q : Nat, s.heap.size ≤ q → A q := fun q h => by rw [← hAe]; exact Or.inr h
  have hS : va_S A s.heap s.heap [] := va_S.rf
  have hP : va_P (dC, dI) vwCl [(f, .inr (4, [.ref w, .ref k, .ref tp, .int 0])), (w, .inr (3, [.ref wp, .ref wu, .ref wi, .int 2, .ref wc, .ref wt, .ref wx, .int 0, .ref wm, .int 0])), (ou, .inl (ko, 1, .inr (.inl fo)))] s.heap := hP
  have hD : va_D A [(f, .inr (4, [.ref w, .ref k, .ref tp, .int 0])), (w, .inr (3, [.ref wp, .ref wu, .ref wi, .int 2, .ref wc, .ref wt, .ref wx, .int 0, .ref wm, .int 0])), (ou, .inl (ko, 1, .inr (.inl fo)))] := hD
  have hl := lv_entry ([.ref f, .int a1, .int a2, .int a3, .int a4, .int a5, .ref ou]) (n := 8) (Nat.le_of_ble_eq_true rfl)
  rw [lg_entry_eq]
  generalize (lg_sl ([.ref f, .int a1, .int a2, .int a3, .int a4, .int a5, .ref ou]) ++ List.replicate (8 - (lg_sl ([.ref f, .int a1, .int a2, .int a3, .int a4, .int a5, .ref ou])).length) Slot.unset).toArray = ls at hl ⊢
  have hl : lv_has ls 8 [(0, .ref f), (1, .int a1), (2, .int a2), (3, .int a3), (4, .int a4), (5, .int a5), (6, .ref ou)] := hl
  have htb := hex.2.2.2.2.2.1
  refine lv_aload hx hb d_L_handler_0 (lv_at hl 6 rfl) ?_
  refine lv_iconst (v := 0) hx hb d_L_handler_2 (by decide) ?_
  refine lv_aload_n hx hb d_L_handler_3 rfl (lv_at hl 0 rfl) ?_
  refine lv_iload_n hx hb d_L_handler_4 rfl (lv_at hl 1 rfl) ?_
  refine lv_iload_n hx hb d_L_handler_5 rfl (lv_at hl 2 rfl) ?_
  refine lv_iload_n hx hb d_L_handler_6 rfl (lv_at hl 3 rfl) ?_
  refine lv_iload hx hb d_L_handler_7 (lv_at hl 4 rfl) ?_
  refine lv_iload hx hb d_L_handler_9 (lv_at hl 5 rfl) ?_
  have hPc := hP.sub (ws' := [(f, .inr (4, [.ref w, .ref k, .ref tp, .int 0])), (w, .inr (3, [.ref wp, .ref wu, .ref wi, .int 2, .ref wc, .ref wt, .ref wx, .int 0, .ref wm, .int 0]))]) [0, 1] rfl
  have hKc := hK.sub (tys' := []) [] rfl
  refine vx_calli (vx_runV (As := [.int a1, .int a2, .int a3, .int a4, .int a5]) (rest := [.int 0, .ref ou]) ⟨hx, hb, hml, hown, hts⟩ (k_F_handler l hl9 dC dI f w k tp wp wu wi wc wt wx wm a1 a2 a3 a4 a5) (cwV 5 hts (gV hsub w_350 w_351 w_352 w_335 w_353) rfl rfl rfl (by decide +kernel) ⟨Nat.le_of_ble_eq_true rfl, Nat.le_of_ble_eq_true rfl⟩) ⟨bl_0010, va_recv hKc hPc (ci := 4) (q0 := 0) rfl rfl, fun U hU hW => ⟨rfl, by rw [hU]; exact hPc, va_K.moved hW.alike hKc, exP_go hex hS (fun q h => h.elim) U hU hW⟩⟩ rfl rfl hl.1 rfl (lv_room (Nat.le_of_ble_eq_true rfl)) d_L_handler_11 ⟨Nat.le_of_ble_eq_true rfl, Nat.le_of_ble_eq_true rfl⟩) hS (fun q _ h => h.elim) (fun q h => h.elim) (fun q _ h => h.elim) (fun E9 ce9 q9 u9 t H1 locs ht hvm hpx hEq hz1 hk1 hS hq9 hcv9 hcl9 => ?_) (fun r_2 u_3 t H1 locs ht hvm hw hB hz1 hk1 hS => ?_)
  · skip
    subst hEq
    have hP := ro_keep hP hk1
    generalize H1 = H at hP hS hq9 ⊢
    refine vx_widen (k := 1) (n := 6) (Nat.le_of_ble_eq_true rfl) (Nat.le_of_ble_eq_true rfl) ?_
    refine fc_catch hown ⟨0, 16, 19, 13⟩ (tableOf [(0, 16, 23, 15)]) htab (by decide) (by decide) (hts _ (hsub _ w_337)) (va_Nw.use rfl hex.2.2.1.1) hq9 hcv9 hcl9 ?_
    refine lv_astore (lv' := [(7, .ref q9), (0, .ref f), (1, .int a1), (2, .int a2), (3, .int a3), (4, .int a4), (5, .int a5), (6, .ref ou)]) hx hb d_L_handler_19 hl (by decide) rfl (fun ls hl => ?_)
    refine lv_iconst (v := 1) hx hb d_L_handler_21 (by decide) ?_
    refine W.widen (k := 1) (n := 6) (Nat.le_of_ble_eq_true rfl) (Nat.le_of_ble_eq_true rfl) ?_
    exact W.iret (v := 1) hx hb hr (fun t ht hW => ⟨⟨1, (fo 0), rfl, rfl, fo, rfl, by rw [ht]; exact hP.sub [2] rfl, va_K.moved hW.alike (hK.sub (tys' := [(ko, .long)]) [0] rfl), hD.sub [2] (by decide) rfl⟩, hS.F ht⟩) hS.2.2 d_L_handler_22
  · skip
    have hP := ro_keep hP hk1
    generalize H1 = H at hP hS ⊢
    refine W.widen (k := 1) (n := 6) (Nat.le_of_ble_eq_true rfl) (Nat.le_of_ble_eq_true rfl) ?_
    exact (hw : False).elim

abbrev ws_k_L_verify (f w k tp wp wu wi wc wt wx wm : Nat) (ou : Nat) (ko : ClassId) (fo : Nat → Int64) : va_W := [(f, .inr (4, [.ref w, .ref k, .ref tp, .int 0])), (w, .inr (3, [.ref wp, .ref wu, .ref wi, .int 2, .ref wc, .ref wt, .ref wx, .int 0, .ref wm, .int 0])), (ou, .inl (ko, 1, .inr (.inl fo)))]
set_option maxHeartbeats 4000000 in
set_option maxRecDepth 100000 in
theorem k_L_verify (l : Launch) (hl9 : l.stackTraces = false) (dC : Nat → ClassId) (dI : Nat → Nat → Nat) (f w k tp wp wu wi wc wt wx wm : Nat) (a1 : Int32) (ou : Nat) (ko : ClassId) (fo : Nat → Int64) (sz : Nat) : Met l y_L_verify (Cond.codeWith y_L_verify method_8_code 4 (some .int) [(0, 9, 12, 13), (0, 9, 15, 15), (0, 9, 18, 37)] :: bigW) ({ frames := 7, cells := 1, slots := 6, locals := 105 } : Room) (va_Pc [.ref f, .int a1, .ref ou] (fun U => U.heap.size = sz ∧ va_P (dC, dI) vwCl (ws_k_L_verify f w k tp wp wu wi wc wt wx wm ou ko fo) U.heap ∧ va_K (dC, dI) vwCl [(ko, .long)] U ∧ va_D (fun _ => True) (ws_k_L_verify f w k tp wp wu wi wc wt wx wm ou ko fo) ∧ exP (va_A (ws_k_L_verify f w k tp wp wu wi wc wt wx wm ou ko fo) sz) U)) (va_Qi (fun (r : Int32) (u : Int64) => r = 1) (fun u t => ∃ f9 : Nat → Int64, f9 0 = u ∧ va_P (dC, dI) vwCl [(ou, .inl (ko, 1, .inr (.inl f9)))] t.heap ∧ va_K (dC, dI) vwCl [(ko, .long)] t ∧ va_D (va_A (ws_k_L_verify f w k tp wp wu wi wc wt wx wm ou ko fo) sz) [(ou, .inl (ko, 1, .inr (.inl f9)))]) (va_A (ws_k_L_verify f w k tp wp wu wi wc wt wx wm ou ko fo) sz)) 1 6 (va_A (ws_k_L_verify f w k tp wp wu wi wc wt wx wm ou ko fo) sz) := by
  refine va_MetW (cc := method_8_code) (maxL := 4) (ret := (some .int)) (hh := [(0, 9, 12, 13), (0, 9, 15, 15), (0, 9, 18, 37)]) (by decide) rfl ?_
  intro p e s m args below meth cx s₁ B hml hv
  obtain ⟨rfl, hsz, hP, hK, hD0, hex⟩ := hv
  have hx := B.exec
  have hb := B.bytes
  have hr := B.returns
  have hts := atoms_spec (ws := (Cond.codeWith y_L_verify method_8_code 4 (some .int) [(0, 9, 12, 13), (0, 9, 15, 15), (0, 9, 18, 37)] :: bigW)) B.pre
  have hsub : ∀ w ∈ bigW, w ∈ (Cond.codeWith y_L_verify method_8_code 4 (some .int) [(0, 9, 12, 13), (0, 9, 15, 15), (0, 9, 18, 37)] :: bigW) := fun w h => List.mem_cons_of_mem _ h
  have hown : s.vm.findClass "MapFramerLaw" = some m.cls := findClass_of_methodNamed B.named
  have hlocks := B.notSynchronized
  have htab : cx.exceptionTable.toList = tableOf [(0, 9, 12, 13), (0, 9, 15, 15), (0, 9, 18, 37)] := vx_table (x := y_L_verify) B (hts _ List.mem_cons_self)
  subst hsz
  have hD := hD0.self (sz := s.heap.size)
  generalize hAe : va_A (ws_k_L_verify f w k tp wp wu wi wc wt wx wm ou ko fo) s.heap.size = A at hD hex ⊢
  have hA : ∀ q : Nat, s.heap.size ≤ q → A q := fun q h => by rw [← hAe]; exact Or.inr h
  have hS : va_S A s.heap s.heap [] := va_S.rf
  have hP : va_P (dC, dI) vwCl [(f, .inr (4, [.ref w, .ref k, .ref tp, .int 0])), (w, .inr (3, [.ref wp, .ref wu, .ref wi, .int 2, .ref wc, .ref wt, .ref wx, .int 0, .ref wm, .int 0])), (ou, .inl (ko, 1, .inr (.inl fo)))] s.heap := hP
  have hD : va_D A [(f, .inr (4, [.ref w, .ref k, .ref tp, .int 0])), (w, .inr (3, [.ref wp, .ref wu, .ref wi, .int 2, .ref wc, .ref wt, .ref wx, .int 0, .ref wm, .int 0])), (ou, .inl (ko, 1, .inr (.inl fo)))] := hD
  have hl := lv_entry ([.ref f, .int a1, .ref ou]) (n := 4) (Nat.le_of_ble_eq_true rfl)
  rw [lg_entry_eq]
  generalize (lg_sl ([.ref f, .int a1, .ref ou]) ++ List.replicate (4 - (lg_sl ([.ref f, .int a1, .ref ou])).length) Slot.unset).toArray = ls at hl ⊢
  have hl : lv_has ls 4 [(0, .ref f), (1, .int a1), (2, .ref ou)] := hl
  have htb := hex.2.2.2.2.2.1
  refine lv_aload_n hx hb d_L_verify_0 rfl (lv_at hl 2 rfl) ?_
  refine lv_iconst (v := 0) hx hb d_L_verify_1 (by decide) ?_
  refine lv_aload_n hx hb d_L_verify_2 rfl (lv_at hl 0 rfl) ?_
  refine lv_iload_n hx hb d_L_verify_3 rfl (lv_at hl 1 rfl) ?_
  have hPc := hP.sub (ws' := [(f, .inr (4, [.ref w, .ref k, .ref tp, .int 0])), (w, .inr (3, [.ref wp, .ref wu, .ref wi, .int 2, .ref wc, .ref wt, .ref wx, .int 0, .ref wm, .int 0]))]) [0, 1] rfl
  have hKc := hK.sub (tys' := []) [] rfl
  refine vx_calli (vx_runV (As := [.int a1]) (rest := [.int 0, .ref ou]) ⟨hx, hb, hml, hown, hts⟩ (k_F_verify l hl9 dC dI f w k tp wp wu wi wc wt wx wm a1) (cwV 1 hts (gV hsub w_354 w_355 w_356 w_335 w_357) rfl rfl rfl (by decide +kernel) ⟨Nat.le_of_ble_eq_true rfl, Nat.le_of_ble_eq_true rfl⟩) ⟨bl_0010, va_recv hKc hPc (ci := 4) (q0 := 0) rfl rfl, fun U hU hW => ⟨rfl, by rw [hU]; exact hPc, va_K.moved hW.alike hKc, exP_go hex hS (fun q h => h.elim) U hU hW⟩⟩ rfl rfl hl.1 rfl (lv_room (Nat.le_of_ble_eq_true rfl)) d_L_verify_4 ⟨Nat.le_of_ble_eq_true rfl, Nat.le_of_ble_eq_true rfl⟩) hS (fun q _ h => h.elim) (fun q h => h.elim) (fun q _ h => h.elim) (fun E9 ce9 q9 u9 t H1 locs ht hvm hpx hEq hz1 hk1 hS hq9 hcv9 hcl9 => ?_) (fun r_2 u_3 t H1 locs ht hvm hw hB hz1 hk1 hS => ?_)
  · skip
    subst hEq
    have hP := ro_keep hP hk1
    generalize H1 = H at hP hS hq9 ⊢
    refine vx_widen (k := 1) (n := 6) (Nat.le_of_ble_eq_true rfl) (Nat.le_of_ble_eq_true rfl) ?_
    refine fc_catch hown ⟨0, 9, 12, 13⟩ (tableOf [(0, 9, 15, 15), (0, 9, 18, 37)]) htab (by decide) (by decide) (hts _ (hsub _ w_337)) (va_Nw.use rfl hex.2.2.1.1) hq9 hcv9 hcl9 ?_
    refine lv_astore_n (lv' := [(3, .ref q9), (0, .ref f), (1, .int a1), (2, .ref ou)]) hx hb d_L_verify_12 rfl hl (by decide) rfl (fun ls hl => ?_)
    refine lv_iconst (v := 1) hx hb d_L_verify_13 (by decide) ?_
    refine W.widen (k := 1) (n := 6) (Nat.le_of_ble_eq_true rfl) (Nat.le_of_ble_eq_true rfl) ?_
    exact W.iret (v := 1) hx hb hr (fun t ht hW => ⟨⟨1, (fo 0), rfl, rfl, fo, rfl, by rw [ht]; exact hP.sub [2] rfl, va_K.moved hW.alike (hK.sub (tys' := [(ko, .long)]) [0] rfl), hD.sub [2] (by decide) rfl⟩, hS.F ht⟩) hS.2.2 d_L_verify_14
  · skip
    have hP := ro_keep hP hk1
    generalize H1 = H at hP hS ⊢
    refine W.widen (k := 1) (n := 6) (Nat.le_of_ble_eq_true rfl) (Nat.le_of_ble_eq_true rfl) ?_
    exact (hw : False).elim

abbrev ws_k_L_about (f w k tp wp wu wi wc wt wx wm : Nat) (ou : Nat) (ko : ClassId) (fo : Nat → Int64) : va_W := [(f, .inr (4, [.ref w, .ref k, .ref tp, .int 0])), (w, .inr (3, [.ref wp, .ref wu, .ref wi, .int 2, .ref wc, .ref wt, .ref wx, .int 0, .ref wm, .int 0])), (ou, .inl (ko, 1, .inr (.inl fo)))]
set_option maxHeartbeats 4000000 in
set_option maxRecDepth 100000 in
theorem k_L_about (l : Launch) (hl9 : l.stackTraces = false) (dC : Nat → ClassId) (dI : Nat → Nat → Nat) (f w k tp wp wu wi wc wt wx wm : Nat) (a1 : Int32) (a2 : Int32) (ou : Nat) (ko : ClassId) (fo : Nat → Int64) (sz : Nat) : Met l y_L_about (Cond.codeWith y_L_about method_9_code 5 (some .int) [(0, 10, 13, 42)] :: bigW) ({ frames := 7, cells := 1, slots := 6, locals := 105 } : Room) (va_Pc [.ref f, .int a1, .int a2, .ref ou] (fun U => U.heap.size = sz ∧ va_P (dC, dI) vwCl (ws_k_L_about f w k tp wp wu wi wc wt wx wm ou ko fo) U.heap ∧ va_K (dC, dI) vwCl [(ko, .long)] U ∧ va_D (fun _ => True) (ws_k_L_about f w k tp wp wu wi wc wt wx wm ou ko fo) ∧ exP (va_A (ws_k_L_about f w k tp wp wu wi wc wt wx wm ou ko fo) sz) U)) (va_Qi (fun (r : Int32) (u : Int64) => r = 1) (fun u t => ∃ f9 : Nat → Int64, f9 0 = u ∧ va_P (dC, dI) vwCl [(ou, .inl (ko, 1, .inr (.inl f9)))] t.heap ∧ va_K (dC, dI) vwCl [(ko, .long)] t ∧ va_D (va_A (ws_k_L_about f w k tp wp wu wi wc wt wx wm ou ko fo) sz) [(ou, .inl (ko, 1, .inr (.inl f9)))]) (va_A (ws_k_L_about f w k tp wp wu wi wc wt wx wm ou ko fo) sz)) 1 6 (va_A (ws_k_L_about f w k tp wp wu wi wc wt wx wm ou ko fo) sz) := by
  refine va_MetW (cc := method_9_code) (maxL := 5) (ret := (some .int)) (hh := [(0, 10, 13, 42)]) (by decide) rfl ?_
  intro p e s m args below meth cx s₁ B hml hv
  obtain ⟨rfl, hsz, hP, hK, hD0, hex⟩ := hv
  have hx := B.exec
  have hb := B.bytes
  have hr := B.returns
  have hts := atoms_spec (ws := (Cond.codeWith y_L_about method_9_code 5 (some .int) [(0, 10, 13, 42)] :: bigW)) B.pre
  have hsub : ∀ w ∈ bigW, w ∈ (Cond.codeWith y_L_about method_9_code 5 (some .int) [(0, 10, 13, 42)] :: bigW) := fun w h => List.mem_cons_of_mem _ h
  have hown : s.vm.findClass "MapFramerLaw" = some m.cls := findClass_of_methodNamed B.named
  have hlocks := B.notSynchronized
  have htab : cx.exceptionTable.toList = tableOf [(0, 10, 13, 42)] := vx_table (x := y_L_about) B (hts _ List.mem_cons_self)
  subst hsz
  have hD := hD0.self (sz := s.heap.size)
  generalize hAe : va_A (ws_k_L_about f w k tp wp wu wi wc wt wx wm ou ko fo) s.heap.size = A at hD hex ⊢
  have hA : ∀ q : Nat, s.heap.size ≤ q → A q := fun q h => by rw [← hAe]; exact Or.inr h
  have hS : va_S A s.heap s.heap [] := va_S.rf
  have hP : va_P (dC, dI) vwCl [(f, .inr (4, [.ref w, .ref k, .ref tp, .int 0])), (w, .inr (3, [.ref wp, .ref wu, .ref wi, .int 2, .ref wc, .ref wt, .ref wx, .int 0, .ref wm, .int 0])), (ou, .inl (ko, 1, .inr (.inl fo)))] s.heap := hP
  have hD : va_D A [(f, .inr (4, [.ref w, .ref k, .ref tp, .int 0])), (w, .inr (3, [.ref wp, .ref wu, .ref wi, .int 2, .ref wc, .ref wt, .ref wx, .int 0, .ref wm, .int 0])), (ou, .inl (ko, 1, .inr (.inl fo)))] := hD
  have hl := lv_entry ([.ref f, .int a1, .int a2, .ref ou]) (n := 5) (Nat.le_of_ble_eq_true rfl)
  rw [lg_entry_eq]
  generalize (lg_sl ([.ref f, .int a1, .int a2, .ref ou]) ++ List.replicate (5 - (lg_sl ([.ref f, .int a1, .int a2, .ref ou])).length) Slot.unset).toArray = ls at hl ⊢
  have hl : lv_has ls 5 [(0, .ref f), (1, .int a1), (2, .int a2), (3, .ref ou)] := hl
  have htb := hex.2.2.2.2.2.1
  refine lv_aload_n hx hb d_L_about_0 rfl (lv_at hl 3 rfl) ?_
  refine lv_iconst (v := 0) hx hb d_L_about_1 (by decide) ?_
  refine lv_aload_n hx hb d_L_about_2 rfl (lv_at hl 0 rfl) ?_
  refine lv_iload_n hx hb d_L_about_3 rfl (lv_at hl 1 rfl) ?_
  refine lv_iload_n hx hb d_L_about_4 rfl (lv_at hl 2 rfl) ?_
  have hPc := hP.sub (ws' := [(f, .inr (4, [.ref w, .ref k, .ref tp, .int 0])), (w, .inr (3, [.ref wp, .ref wu, .ref wi, .int 2, .ref wc, .ref wt, .ref wx, .int 0, .ref wm, .int 0]))]) [0, 1] rfl
  have hKc := hK.sub (tys' := []) [] rfl
  refine vx_calli (vx_runV (As := [.int a1, .int a2]) (rest := [.int 0, .ref ou]) ⟨hx, hb, hml, hown, hts⟩ (k_F_about l hl9 dC dI f w k tp wp wu wi wc wt wx wm a1 a2) (cwV 2 hts (gV hsub w_358 w_359 w_360 w_335 w_361) rfl rfl rfl (by decide +kernel) ⟨Nat.le_of_ble_eq_true rfl, Nat.le_of_ble_eq_true rfl⟩) ⟨bl_0010, va_recv hKc hPc (ci := 4) (q0 := 0) rfl rfl, fun U hU hW => ⟨rfl, by rw [hU]; exact hPc, va_K.moved hW.alike hKc, exP_go hex hS (fun q h => h.elim) U hU hW⟩⟩ rfl rfl hl.1 rfl (lv_room (Nat.le_of_ble_eq_true rfl)) d_L_about_5 ⟨Nat.le_of_ble_eq_true rfl, Nat.le_of_ble_eq_true rfl⟩) hS (fun q _ h => h.elim) (fun q h => h.elim) (fun q _ h => h.elim) (fun E9 ce9 q9 u9 t H1 locs ht hvm hpx hEq hz1 hk1 hS hq9 hcv9 hcl9 => ?_) (fun r_2 u_3 t H1 locs ht hvm hw hB hz1 hk1 hS => ?_)
  · skip
    subst hEq
    have hP := ro_keep hP hk1
    generalize H1 = H at hP hS hq9 ⊢
    refine vx_widen (k := 1) (n := 6) (Nat.le_of_ble_eq_true rfl) (Nat.le_of_ble_eq_true rfl) ?_
    refine fc_catch hown ⟨0, 10, 13, 42⟩ (tableOf []) htab (by decide) (by decide) (hts _ (hsub _ w_362)) (va_Nw.use rfl hex.2.2.2.1.1) hq9 hcv9 hcl9 ?_
    refine lv_astore (lv' := [(4, .ref q9), (0, .ref f), (1, .int a1), (2, .int a2), (3, .ref ou)]) hx hb d_L_about_13 hl (by decide) rfl (fun ls hl => ?_)
    refine lv_iconst (v := 1) hx hb d_L_about_15 (by decide) ?_
    refine W.widen (k := 1) (n := 6) (Nat.le_of_ble_eq_true rfl) (Nat.le_of_ble_eq_true rfl) ?_
    exact W.iret (v := 1) hx hb hr (fun t ht hW => ⟨⟨1, (fo 0), rfl, rfl, fo, rfl, by rw [ht]; exact hP.sub [2] rfl, va_K.moved hW.alike (hK.sub (tys' := [(ko, .long)]) [0] rfl), hD.sub [2] (by decide) rfl⟩, hS.F ht⟩) hS.2.2 d_L_about_16
  · skip
    have hP := ro_keep hP hk1
    generalize H1 = H at hP hS ⊢
    refine W.widen (k := 1) (n := 6) (Nat.le_of_ble_eq_true rfl) (Nat.le_of_ble_eq_true rfl) ?_
    exact (hw : False).elim

abbrev ws_k_L_codeAt (f w k tp wp wu wi wc wt wx wm : Nat) (ou : Nat) (ko : ClassId) (fo : Nat → Int64) : va_W := [(f, .inr (4, [.ref w, .ref k, .ref tp, .int 0])), (w, .inr (3, [.ref wp, .ref wu, .ref wi, .int 2, .ref wc, .ref wt, .ref wx, .int 0, .ref wm, .int 0])), (ou, .inl (ko, 1, .inr (.inl fo)))]
set_option maxHeartbeats 4000000 in
set_option maxRecDepth 100000 in
theorem k_L_codeAt (l : Launch) (hl9 : l.stackTraces = false) (dC : Nat → ClassId) (dI : Nat → Nat → Nat) (f w k tp wp wu wi wc wt wx wm : Nat) (a1 : Int32) (a2 : Int32) (ou : Nat) (ko : ClassId) (fo : Nat → Int64) (sz : Nat) : Met l y_L_codeAt (Cond.codeWith y_L_codeAt method_10_code 5 (some .int) [(0, 10, 13, 42)] :: bigW) ({ frames := 7, cells := 1, slots := 6, locals := 105 } : Room) (va_Pc [.ref f, .int a1, .int a2, .ref ou] (fun U => U.heap.size = sz ∧ va_P (dC, dI) vwCl (ws_k_L_codeAt f w k tp wp wu wi wc wt wx wm ou ko fo) U.heap ∧ va_K (dC, dI) vwCl [(ko, .long)] U ∧ va_D (fun _ => True) (ws_k_L_codeAt f w k tp wp wu wi wc wt wx wm ou ko fo) ∧ exP (va_A (ws_k_L_codeAt f w k tp wp wu wi wc wt wx wm ou ko fo) sz) U)) (va_Qi (fun (r : Int32) (u : Int64) => r = 1) (fun u t => ∃ f9 : Nat → Int64, f9 0 = u ∧ va_P (dC, dI) vwCl [(ou, .inl (ko, 1, .inr (.inl f9)))] t.heap ∧ va_K (dC, dI) vwCl [(ko, .long)] t ∧ va_D (va_A (ws_k_L_codeAt f w k tp wp wu wi wc wt wx wm ou ko fo) sz) [(ou, .inl (ko, 1, .inr (.inl f9)))]) (va_A (ws_k_L_codeAt f w k tp wp wu wi wc wt wx wm ou ko fo) sz)) 1 6 (va_A (ws_k_L_codeAt f w k tp wp wu wi wc wt wx wm ou ko fo) sz) := by
  refine va_MetW (cc := method_10_code) (maxL := 5) (ret := (some .int)) (hh := [(0, 10, 13, 42)]) (by decide) rfl ?_
  intro p e s m args below meth cx s₁ B hml hv
  obtain ⟨rfl, hsz, hP, hK, hD0, hex⟩ := hv
  have hx := B.exec
  have hb := B.bytes
  have hr := B.returns
  have hts := atoms_spec (ws := (Cond.codeWith y_L_codeAt method_10_code 5 (some .int) [(0, 10, 13, 42)] :: bigW)) B.pre
  have hsub : ∀ w ∈ bigW, w ∈ (Cond.codeWith y_L_codeAt method_10_code 5 (some .int) [(0, 10, 13, 42)] :: bigW) := fun w h => List.mem_cons_of_mem _ h
  have hown : s.vm.findClass "MapFramerLaw" = some m.cls := findClass_of_methodNamed B.named
  have hlocks := B.notSynchronized
  have htab : cx.exceptionTable.toList = tableOf [(0, 10, 13, 42)] := vx_table (x := y_L_codeAt) B (hts _ List.mem_cons_self)
  subst hsz
  have hD := hD0.self (sz := s.heap.size)
  generalize hAe : va_A (ws_k_L_codeAt f w k tp wp wu wi wc wt wx wm ou ko fo) s.heap.size = A at hD hex ⊢
  have hA : ∀ q : Nat, s.heap.size ≤ q → A q := fun q h => by rw [← hAe]; exact Or.inr h
  have hS : va_S A s.heap s.heap [] := va_S.rf
  have hP : va_P (dC, dI) vwCl [(f, .inr (4, [.ref w, .ref k, .ref tp, .int 0])), (w, .inr (3, [.ref wp, .ref wu, .ref wi, .int 2, .ref wc, .ref wt, .ref wx, .int 0, .ref wm, .int 0])), (ou, .inl (ko, 1, .inr (.inl fo)))] s.heap := hP
  have hD : va_D A [(f, .inr (4, [.ref w, .ref k, .ref tp, .int 0])), (w, .inr (3, [.ref wp, .ref wu, .ref wi, .int 2, .ref wc, .ref wt, .ref wx, .int 0, .ref wm, .int 0])), (ou, .inl (ko, 1, .inr (.inl fo)))] := hD
  have hl := lv_entry ([.ref f, .int a1, .int a2, .ref ou]) (n := 5) (Nat.le_of_ble_eq_true rfl)
  rw [lg_entry_eq]
  generalize (lg_sl ([.ref f, .int a1, .int a2, .ref ou]) ++ List.replicate (5 - (lg_sl ([.ref f, .int a1, .int a2, .ref ou])).length) Slot.unset).toArray = ls at hl ⊢
  have hl : lv_has ls 5 [(0, .ref f), (1, .int a1), (2, .int a2), (3, .ref ou)] := hl
  have htb := hex.2.2.2.2.2.1
  refine lv_aload_n hx hb d_L_codeAt_0 rfl (lv_at hl 3 rfl) ?_
  refine lv_iconst (v := 0) hx hb d_L_codeAt_1 (by decide) ?_
  refine lv_aload_n hx hb d_L_codeAt_2 rfl (lv_at hl 0 rfl) ?_
  refine lv_iload_n hx hb d_L_codeAt_3 rfl (lv_at hl 1 rfl) ?_
  refine lv_iload_n hx hb d_L_codeAt_4 rfl (lv_at hl 2 rfl) ?_
  have hPc := hP.sub (ws' := [(f, .inr (4, [.ref w, .ref k, .ref tp, .int 0])), (w, .inr (3, [.ref wp, .ref wu, .ref wi, .int 2, .ref wc, .ref wt, .ref wx, .int 0, .ref wm, .int 0]))]) [0, 1] rfl
  have hKc := hK.sub (tys' := []) [] rfl
  refine vx_calli (vx_runV (As := [.int a1, .int a2]) (rest := [.int 0, .ref ou]) ⟨hx, hb, hml, hown, hts⟩ (k_F_codeAt l hl9 dC dI f w k tp wp wu wi wc wt wx wm a1 a2) (cwV 2 hts (gV hsub w_363 w_364 w_365 w_335 w_366) rfl rfl rfl (by decide +kernel) ⟨Nat.le_of_ble_eq_true rfl, Nat.le_of_ble_eq_true rfl⟩) ⟨bl_0010, va_recv hKc hPc (ci := 4) (q0 := 0) rfl rfl, fun U hU hW => ⟨rfl, by rw [hU]; exact hPc, va_K.moved hW.alike hKc, exP_go hex hS (fun q h => h.elim) U hU hW⟩⟩ rfl rfl hl.1 rfl (lv_room (Nat.le_of_ble_eq_true rfl)) d_L_codeAt_5 ⟨Nat.le_of_ble_eq_true rfl, Nat.le_of_ble_eq_true rfl⟩) hS (fun q _ h => h.elim) (fun q h => h.elim) (fun q _ h => h.elim) (fun E9 ce9 q9 u9 t H1 locs ht hvm hpx hEq hz1 hk1 hS hq9 hcv9 hcl9 => ?_) (fun r_2 u_3 t H1 locs ht hvm hw hB hz1 hk1 hS => ?_)
  · skip
    subst hEq
    have hP := ro_keep hP hk1
    generalize H1 = H at hP hS hq9 ⊢
    refine vx_widen (k := 1) (n := 6) (Nat.le_of_ble_eq_true rfl) (Nat.le_of_ble_eq_true rfl) ?_
    refine fc_catch hown ⟨0, 10, 13, 42⟩ (tableOf []) htab (by decide) (by decide) (hts _ (hsub _ w_362)) (va_Nw.use rfl hex.2.2.2.1.1) hq9 hcv9 hcl9 ?_
    refine lv_astore (lv' := [(4, .ref q9), (0, .ref f), (1, .int a1), (2, .int a2), (3, .ref ou)]) hx hb d_L_codeAt_13 hl (by decide) rfl (fun ls hl => ?_)
    refine lv_iconst (v := 1) hx hb d_L_codeAt_15 (by decide) ?_
    refine W.widen (k := 1) (n := 6) (Nat.le_of_ble_eq_true rfl) (Nat.le_of_ble_eq_true rfl) ?_
    exact W.iret (v := 1) hx hb hr (fun t ht hW => ⟨⟨1, (fo 0), rfl, rfl, fo, rfl, by rw [ht]; exact hP.sub [2] rfl, va_K.moved hW.alike (hK.sub (tys' := [(ko, .long)]) [0] rfl), hD.sub [2] (by decide) rfl⟩, hS.F ht⟩) hS.2.2 d_L_codeAt_16
  · skip
    have hP := ro_keep hP hk1
    generalize H1 = H at hP hS ⊢
    refine W.widen (k := 1) (n := 6) (Nat.le_of_ble_eq_true rfl) (Nat.le_of_ble_eq_true rfl) ?_
    exact (hw : False).elim

abbrev ws_k_L_frameAt (f w k tp wp wu wi wc wt wx wm : Nat) (ou : Nat) (ko : ClassId) (fo : Nat → Int64) : va_W := [(f, .inr (4, [.ref w, .ref k, .ref tp, .int 0])), (w, .inr (3, [.ref wp, .ref wu, .ref wi, .int 2, .ref wc, .ref wt, .ref wx, .int 0, .ref wm, .int 0])), (ou, .inl (ko, 1, .inr (.inl fo)))]
set_option maxHeartbeats 4000000 in
set_option maxRecDepth 100000 in
theorem k_L_frameAt (l : Launch) (hl9 : l.stackTraces = false) (dC : Nat → ClassId) (dI : Nat → Nat → Nat) (f w k tp wp wu wi wc wt wx wm : Nat) (a1 : Int32) (a2 : Int32) (ou : Nat) (ko : ClassId) (fo : Nat → Int64) (sz : Nat) : Met l y_L_frameAt (Cond.codeWith y_L_frameAt method_11_code 5 (some .int) [(0, 10, 13, 42)] :: bigW) ({ frames := 7, cells := 1, slots := 6, locals := 105 } : Room) (va_Pc [.ref f, .int a1, .int a2, .ref ou] (fun U => U.heap.size = sz ∧ va_P (dC, dI) vwCl (ws_k_L_frameAt f w k tp wp wu wi wc wt wx wm ou ko fo) U.heap ∧ va_K (dC, dI) vwCl [(ko, .long)] U ∧ va_D (fun _ => True) (ws_k_L_frameAt f w k tp wp wu wi wc wt wx wm ou ko fo) ∧ exP (va_A (ws_k_L_frameAt f w k tp wp wu wi wc wt wx wm ou ko fo) sz) U)) (va_Qi (fun (r : Int32) (u : Int64) => r = 1) (fun u t => ∃ f9 : Nat → Int64, f9 0 = u ∧ va_P (dC, dI) vwCl [(ou, .inl (ko, 1, .inr (.inl f9)))] t.heap ∧ va_K (dC, dI) vwCl [(ko, .long)] t ∧ va_D (va_A (ws_k_L_frameAt f w k tp wp wu wi wc wt wx wm ou ko fo) sz) [(ou, .inl (ko, 1, .inr (.inl f9)))]) (va_A (ws_k_L_frameAt f w k tp wp wu wi wc wt wx wm ou ko fo) sz)) 1 6 (va_A (ws_k_L_frameAt f w k tp wp wu wi wc wt wx wm ou ko fo) sz) := by
  refine va_MetW (cc := method_11_code) (maxL := 5) (ret := (some .int)) (hh := [(0, 10, 13, 42)]) (by decide) rfl ?_
  intro p e s m args below meth cx s₁ B hml hv
  obtain ⟨rfl, hsz, hP, hK, hD0, hex⟩ := hv
  have hx := B.exec
  have hb := B.bytes
  have hr := B.returns
  have hts := atoms_spec (ws := (Cond.codeWith y_L_frameAt method_11_code 5 (some .int) [(0, 10, 13, 42)] :: bigW)) B.pre
  have hsub : ∀ w ∈ bigW, w ∈ (Cond.codeWith y_L_frameAt method_11_code 5 (some .int) [(0, 10, 13, 42)] :: bigW) := fun w h => List.mem_cons_of_mem _ h
  have hown : s.vm.findClass "MapFramerLaw" = some m.cls := findClass_of_methodNamed B.named
  have hlocks := B.notSynchronized
  have htab : cx.exceptionTable.toList = tableOf [(0, 10, 13, 42)] := vx_table (x := y_L_frameAt) B (hts _ List.mem_cons_self)
  subst hsz
  have hD := hD0.self (sz := s.heap.size)
  generalize hAe : va_A (ws_k_L_frameAt f w k tp wp wu wi wc wt wx wm ou ko fo) s.heap.size = A at hD hex ⊢
  have hA : ∀ q : Nat, s.heap.size ≤ q → A q := fun q h => by rw [← hAe]; exact Or.inr h
  have hS : va_S A s.heap s.heap [] := va_S.rf
  have hP : va_P (dC, dI) vwCl [(f, .inr (4, [.ref w, .ref k, .ref tp, .int 0])), (w, .inr (3, [.ref wp, .ref wu, .ref wi, .int 2, .ref wc, .ref wt, .ref wx, .int 0, .ref wm, .int 0])), (ou, .inl (ko, 1, .inr (.inl fo)))] s.heap := hP
  have hD : va_D A [(f, .inr (4, [.ref w, .ref k, .ref tp, .int 0])), (w, .inr (3, [.ref wp, .ref wu, .ref wi, .int 2, .ref wc, .ref wt, .ref wx, .int 0, .ref wm, .int 0])), (ou, .inl (ko, 1, .inr (.inl fo)))] := hD
  have hl := lv_entry ([.ref f, .int a1, .int a2, .ref ou]) (n := 5) (Nat.le_of_ble_eq_true rfl)
  rw [lg_entry_eq]
  generalize (lg_sl ([.ref f, .int a1, .int a2, .ref ou]) ++ List.replicate (5 - (lg_sl ([.ref f, .int a1, .int a2, .ref ou])).length) Slot.unset).toArray = ls at hl ⊢
  have hl : lv_has ls 5 [(0, .ref f), (1, .int a1), (2, .int a2), (3, .ref ou)] := hl
  have htb := hex.2.2.2.2.2.1
  refine lv_aload_n hx hb d_L_frameAt_0 rfl (lv_at hl 3 rfl) ?_
  refine lv_iconst (v := 0) hx hb d_L_frameAt_1 (by decide) ?_
  refine lv_aload_n hx hb d_L_frameAt_2 rfl (lv_at hl 0 rfl) ?_
  refine lv_iload_n hx hb d_L_frameAt_3 rfl (lv_at hl 1 rfl) ?_
  refine lv_iload_n hx hb d_L_frameAt_4 rfl (lv_at hl 2 rfl) ?_
  have hPc := hP.sub (ws' := [(f, .inr (4, [.ref w, .ref k, .ref tp, .int 0])), (w, .inr (3, [.ref wp, .ref wu, .ref wi, .int 2, .ref wc, .ref wt, .ref wx, .int 0, .ref wm, .int 0]))]) [0, 1] rfl
  have hKc := hK.sub (tys' := []) [] rfl
  refine vx_calli (vx_runV (As := [.int a1, .int a2]) (rest := [.int 0, .ref ou]) ⟨hx, hb, hml, hown, hts⟩ (k_F_frameAt l hl9 dC dI f w k tp wp wu wi wc wt wx wm a1 a2) (cwV 2 hts (gV hsub w_367 w_368 w_369 w_335 w_370) rfl rfl rfl (by decide +kernel) ⟨Nat.le_of_ble_eq_true rfl, Nat.le_of_ble_eq_true rfl⟩) ⟨bl_0010, va_recv hKc hPc (ci := 4) (q0 := 0) rfl rfl, fun U hU hW => ⟨rfl, by rw [hU]; exact hPc, va_K.moved hW.alike hKc, exP_go hex hS (fun q h => h.elim) U hU hW⟩⟩ rfl rfl hl.1 rfl (lv_room (Nat.le_of_ble_eq_true rfl)) d_L_frameAt_5 ⟨Nat.le_of_ble_eq_true rfl, Nat.le_of_ble_eq_true rfl⟩) hS (fun q _ h => h.elim) (fun q h => h.elim) (fun q _ h => h.elim) (fun E9 ce9 q9 u9 t H1 locs ht hvm hpx hEq hz1 hk1 hS hq9 hcv9 hcl9 => ?_) (fun r_2 u_3 t H1 locs ht hvm hw hB hz1 hk1 hS => ?_)
  · skip
    subst hEq
    have hP := ro_keep hP hk1
    generalize H1 = H at hP hS hq9 ⊢
    refine vx_widen (k := 1) (n := 6) (Nat.le_of_ble_eq_true rfl) (Nat.le_of_ble_eq_true rfl) ?_
    refine fc_catch hown ⟨0, 10, 13, 42⟩ (tableOf []) htab (by decide) (by decide) (hts _ (hsub _ w_362)) (va_Nw.use rfl hex.2.2.2.1.1) hq9 hcv9 hcl9 ?_
    refine lv_astore (lv' := [(4, .ref q9), (0, .ref f), (1, .int a1), (2, .int a2), (3, .ref ou)]) hx hb d_L_frameAt_13 hl (by decide) rfl (fun ls hl => ?_)
    refine lv_iconst (v := 1) hx hb d_L_frameAt_15 (by decide) ?_
    refine W.widen (k := 1) (n := 6) (Nat.le_of_ble_eq_true rfl) (Nat.le_of_ble_eq_true rfl) ?_
    exact W.iret (v := 1) hx hb hr (fun t ht hW => ⟨⟨1, (fo 0), rfl, rfl, fo, rfl, by rw [ht]; exact hP.sub [2] rfl, va_K.moved hW.alike (hK.sub (tys' := [(ko, .long)]) [0] rfl), hD.sub [2] (by decide) rfl⟩, hS.F ht⟩) hS.2.2 d_L_frameAt_16
  · skip
    have hP := ro_keep hP hk1
    generalize H1 = H at hP hS ⊢
    refine W.widen (k := 1) (n := 6) (Nat.le_of_ble_eq_true rfl) (Nat.le_of_ble_eq_true rfl) ?_
    exact (hw : False).elim

abbrev ws_k_L_handlerAt (f w k tp wp wu wi wc wt wx wm : Nat) (ou : Nat) (ko : ClassId) (fo : Nat → Int64) : va_W := [(f, .inr (4, [.ref w, .ref k, .ref tp, .int 0])), (w, .inr (3, [.ref wp, .ref wu, .ref wi, .int 2, .ref wc, .ref wt, .ref wx, .int 0, .ref wm, .int 0])), (ou, .inl (ko, 1, .inr (.inl fo)))]
set_option maxHeartbeats 4000000 in
set_option maxRecDepth 100000 in
theorem k_L_handlerAt (l : Launch) (hl9 : l.stackTraces = false) (dC : Nat → ClassId) (dI : Nat → Nat → Nat) (f w k tp wp wu wi wc wt wx wm : Nat) (a1 : Int32) (a2 : Int32) (a3 : Int32) (ou : Nat) (ko : ClassId) (fo : Nat → Int64) (sz : Nat) : Met l y_L_handlerAt (Cond.codeWith y_L_handlerAt method_12_code 6 (some .int) [(0, 12, 15, 42)] :: bigW) ({ frames := 7, cells := 1, slots := 6, locals := 107 } : Room) (va_Pc [.ref f, .int a1, .int a2, .int a3, .ref ou] (fun U => U.heap.size = sz ∧ va_P (dC, dI) vwCl (ws_k_L_handlerAt f w k tp wp wu wi wc wt wx wm ou ko fo) U.heap ∧ va_K (dC, dI) vwCl [(ko, .long)] U ∧ va_D (fun _ => True) (ws_k_L_handlerAt f w k tp wp wu wi wc wt wx wm ou ko fo) ∧ exP (va_A (ws_k_L_handlerAt f w k tp wp wu wi wc wt wx wm ou ko fo) sz) U)) (va_Qi (fun (r : Int32) (u : Int64) => r = 1) (fun u t => ∃ f9 : Nat → Int64, f9 0 = u ∧ va_P (dC, dI) vwCl [(ou, .inl (ko, 1, .inr (.inl f9)))] t.heap ∧ va_K (dC, dI) vwCl [(ko, .long)] t ∧ va_D (va_A (ws_k_L_handlerAt f w k tp wp wu wi wc wt wx wm ou ko fo) sz) [(ou, .inl (ko, 1, .inr (.inl f9)))]) (va_A (ws_k_L_handlerAt f w k tp wp wu wi wc wt wx wm ou ko fo) sz)) 1 6 (va_A (ws_k_L_handlerAt f w k tp wp wu wi wc wt wx wm ou ko fo) sz) := by
  refine va_MetW (cc := method_12_code) (maxL := 6) (ret := (some .int)) (hh := [(0, 12, 15, 42)]) (by decide) rfl ?_
  intro p e s m args below meth cx s₁ B hml hv
  obtain ⟨rfl, hsz, hP, hK, hD0, hex⟩ := hv
  have hx := B.exec
  have hb := B.bytes
  have hr := B.returns
  have hts := atoms_spec (ws := (Cond.codeWith y_L_handlerAt method_12_code 6 (some .int) [(0, 12, 15, 42)] :: bigW)) B.pre
  have hsub : ∀ w ∈ bigW, w ∈ (Cond.codeWith y_L_handlerAt method_12_code 6 (some .int) [(0, 12, 15, 42)] :: bigW) := fun w h => List.mem_cons_of_mem _ h
  have hown : s.vm.findClass "MapFramerLaw" = some m.cls := findClass_of_methodNamed B.named
  have hlocks := B.notSynchronized
  have htab : cx.exceptionTable.toList = tableOf [(0, 12, 15, 42)] := vx_table (x := y_L_handlerAt) B (hts _ List.mem_cons_self)
  subst hsz
  have hD := hD0.self (sz := s.heap.size)
  generalize hAe : va_A (ws_k_L_handlerAt f w k tp wp wu wi wc wt wx wm ou ko fo) s.heap.size = A at hD hex ⊢
  have hA : ∀ q : Nat, s.heap.size ≤ q → A q := fun q h => by rw [← hAe]; exact Or.inr h
  have hS : va_S A s.heap s.heap [] := va_S.rf
  have hP : va_P (dC, dI) vwCl [(f, .inr (4, [.ref w, .ref k, .ref tp, .int 0])), (w, .inr (3, [.ref wp, .ref wu, .ref wi, .int 2, .ref wc, .ref wt, .ref wx, .int 0, .ref wm, .int 0])), (ou, .inl (ko, 1, .inr (.inl fo)))] s.heap := hP
  have hD : va_D A [(f, .inr (4, [.ref w, .ref k, .ref tp, .int 0])), (w, .inr (3, [.ref wp, .ref wu, .ref wi, .int 2, .ref wc, .ref wt, .ref wx, .int 0, .ref wm, .int 0])), (ou, .inl (ko, 1, .inr (.inl fo)))] := hD
  have hl := lv_entry ([.ref f, .int a1, .int a2, .int a3, .ref ou]) (n := 6) (Nat.le_of_ble_eq_true rfl)
  rw [lg_entry_eq]
  generalize (lg_sl ([.ref f, .int a1, .int a2, .int a3, .ref ou]) ++ List.replicate (6 - (lg_sl ([.ref f, .int a1, .int a2, .int a3, .ref ou])).length) Slot.unset).toArray = ls at hl ⊢
  have hl : lv_has ls 6 [(0, .ref f), (1, .int a1), (2, .int a2), (3, .int a3), (4, .ref ou)] := hl
  have htb := hex.2.2.2.2.2.1
  refine lv_aload hx hb d_L_handlerAt_0 (lv_at hl 4 rfl) ?_
  refine lv_iconst (v := 0) hx hb d_L_handlerAt_2 (by decide) ?_
  refine lv_aload_n hx hb d_L_handlerAt_3 rfl (lv_at hl 0 rfl) ?_
  refine lv_iload_n hx hb d_L_handlerAt_4 rfl (lv_at hl 1 rfl) ?_
  refine lv_iload_n hx hb d_L_handlerAt_5 rfl (lv_at hl 2 rfl) ?_
  refine lv_iload_n hx hb d_L_handlerAt_6 rfl (lv_at hl 3 rfl) ?_
  have hPc := hP.sub (ws' := [(f, .inr (4, [.ref w, .ref k, .ref tp, .int 0])), (w, .inr (3, [.ref wp, .ref wu, .ref wi, .int 2, .ref wc, .ref wt, .ref wx, .int 0, .ref wm, .int 0]))]) [0, 1] rfl
  have hKc := hK.sub (tys' := []) [] rfl
  refine vx_calli (vx_runV (As := [.int a1, .int a2, .int a3]) (rest := [.int 0, .ref ou]) ⟨hx, hb, hml, hown, hts⟩ (k_F_handlerAt l hl9 dC dI f w k tp wp wu wi wc wt wx wm a1 a2 a3) (cwV 3 hts (gV hsub w_371 w_372 w_373 w_335 w_374) rfl rfl rfl (by decide +kernel) ⟨Nat.le_of_ble_eq_true rfl, Nat.le_of_ble_eq_true rfl⟩) ⟨bl_0010, va_recv hKc hPc (ci := 4) (q0 := 0) rfl rfl, fun U hU hW => ⟨rfl, by rw [hU]; exact hPc, va_K.moved hW.alike hKc, exP_go hex hS (fun q h => h.elim) U hU hW⟩⟩ rfl rfl hl.1 rfl (lv_room (Nat.le_of_ble_eq_true rfl)) d_L_handlerAt_7 ⟨Nat.le_of_ble_eq_true rfl, Nat.le_of_ble_eq_true rfl⟩) hS (fun q _ h => h.elim) (fun q h => h.elim) (fun q _ h => h.elim) (fun E9 ce9 q9 u9 t H1 locs ht hvm hpx hEq hz1 hk1 hS hq9 hcv9 hcl9 => ?_) (fun r_2 u_3 t H1 locs ht hvm hw hB hz1 hk1 hS => ?_)
  · skip
    subst hEq
    have hP := ro_keep hP hk1
    generalize H1 = H at hP hS hq9 ⊢
    refine vx_widen (k := 1) (n := 6) (Nat.le_of_ble_eq_true rfl) (Nat.le_of_ble_eq_true rfl) ?_
    refine fc_catch hown ⟨0, 12, 15, 42⟩ (tableOf []) htab (by decide) (by decide) (hts _ (hsub _ w_362)) (va_Nw.use rfl hex.2.2.2.1.1) hq9 hcv9 hcl9 ?_
    refine lv_astore (lv' := [(5, .ref q9), (0, .ref f), (1, .int a1), (2, .int a2), (3, .int a3), (4, .ref ou)]) hx hb d_L_handlerAt_15 hl (by decide) rfl (fun ls hl => ?_)
    refine lv_iconst (v := 1) hx hb d_L_handlerAt_17 (by decide) ?_
    refine W.widen (k := 1) (n := 6) (Nat.le_of_ble_eq_true rfl) (Nat.le_of_ble_eq_true rfl) ?_
    exact W.iret (v := 1) hx hb hr (fun t ht hW => ⟨⟨1, (fo 0), rfl, rfl, fo, rfl, by rw [ht]; exact hP.sub [2] rfl, va_K.moved hW.alike (hK.sub (tys' := [(ko, .long)]) [0] rfl), hD.sub [2] (by decide) rfl⟩, hS.F ht⟩) hS.2.2 d_L_handlerAt_18
  · skip
    have hP := ro_keep hP hk1
    generalize H1 = H at hP hS ⊢
    refine W.widen (k := 1) (n := 6) (Nat.le_of_ble_eq_true rfl) (Nat.le_of_ble_eq_true rfl) ?_
    exact (hw : False).elim

abbrev ws_k_L_typeAt (f w k tp wp wu wi wc wt wx wm : Nat) (ou : Nat) (ko : ClassId) (fo : Nat → Int64) : va_W := [(f, .inr (4, [.ref w, .ref k, .ref tp, .int 0])), (w, .inr (3, [.ref wp, .ref wu, .ref wi, .int 2, .ref wc, .ref wt, .ref wx, .int 0, .ref wm, .int 0])), (ou, .inl (ko, 1, .inr (.inl fo)))]
set_option maxHeartbeats 4000000 in
set_option maxRecDepth 100000 in
theorem k_L_typeAt (l : Launch) (hl9 : l.stackTraces = false) (dC : Nat → ClassId) (dI : Nat → Nat → Nat) (f w k tp wp wu wi wc wt wx wm : Nat) (a1 : Int32) (a2 : Int32) (a3 : Int32) (ou : Nat) (ko : ClassId) (fo : Nat → Int64) (sz : Nat) : Met l y_L_typeAt (Cond.codeWith y_L_typeAt method_13_code 6 (some .int) [(0, 12, 15, 42)] :: bigW) ({ frames := 7, cells := 1, slots := 6, locals := 107 } : Room) (va_Pc [.ref f, .int a1, .int a2, .int a3, .ref ou] (fun U => U.heap.size = sz ∧ va_P (dC, dI) vwCl (ws_k_L_typeAt f w k tp wp wu wi wc wt wx wm ou ko fo) U.heap ∧ va_K (dC, dI) vwCl [(ko, .long)] U ∧ va_D (fun _ => True) (ws_k_L_typeAt f w k tp wp wu wi wc wt wx wm ou ko fo) ∧ exP (va_A (ws_k_L_typeAt f w k tp wp wu wi wc wt wx wm ou ko fo) sz) U)) (va_Qi (fun (r : Int32) (u : Int64) => r = 1) (fun u t => ∃ f9 : Nat → Int64, f9 0 = u ∧ va_P (dC, dI) vwCl [(ou, .inl (ko, 1, .inr (.inl f9)))] t.heap ∧ va_K (dC, dI) vwCl [(ko, .long)] t ∧ va_D (va_A (ws_k_L_typeAt f w k tp wp wu wi wc wt wx wm ou ko fo) sz) [(ou, .inl (ko, 1, .inr (.inl f9)))]) (va_A (ws_k_L_typeAt f w k tp wp wu wi wc wt wx wm ou ko fo) sz)) 1 6 (va_A (ws_k_L_typeAt f w k tp wp wu wi wc wt wx wm ou ko fo) sz) := by
  refine va_MetW (cc := method_13_code) (maxL := 6) (ret := (some .int)) (hh := [(0, 12, 15, 42)]) (by decide) rfl ?_
  intro p e s m args below meth cx s₁ B hml hv
  obtain ⟨rfl, hsz, hP, hK, hD0, hex⟩ := hv
  have hx := B.exec
  have hb := B.bytes
  have hr := B.returns
  have hts := atoms_spec (ws := (Cond.codeWith y_L_typeAt method_13_code 6 (some .int) [(0, 12, 15, 42)] :: bigW)) B.pre
  have hsub : ∀ w ∈ bigW, w ∈ (Cond.codeWith y_L_typeAt method_13_code 6 (some .int) [(0, 12, 15, 42)] :: bigW) := fun w h => List.mem_cons_of_mem _ h
  have hown : s.vm.findClass "MapFramerLaw" = some m.cls := findClass_of_methodNamed B.named
  have hlocks := B.notSynchronized
  have htab : cx.exceptionTable.toList = tableOf [(0, 12, 15, 42)] := vx_table (x := y_L_typeAt) B (hts _ List.mem_cons_self)
  subst hsz
  have hD := hD0.self (sz := s.heap.size)
  generalize hAe : va_A (ws_k_L_typeAt f w k tp wp wu wi wc wt wx wm ou ko fo) s.heap.size = A at hD hex ⊢
  have hA : ∀ q : Nat, s.heap.size ≤ q → A q := fun q h => by rw [← hAe]; exact Or.inr h
  have hS : va_S A s.heap s.heap [] := va_S.rf
  have hP : va_P (dC, dI) vwCl [(f, .inr (4, [.ref w, .ref k, .ref tp, .int 0])), (w, .inr (3, [.ref wp, .ref wu, .ref wi, .int 2, .ref wc, .ref wt, .ref wx, .int 0, .ref wm, .int 0])), (ou, .inl (ko, 1, .inr (.inl fo)))] s.heap := hP
  have hD : va_D A [(f, .inr (4, [.ref w, .ref k, .ref tp, .int 0])), (w, .inr (3, [.ref wp, .ref wu, .ref wi, .int 2, .ref wc, .ref wt, .ref wx, .int 0, .ref wm, .int 0])), (ou, .inl (ko, 1, .inr (.inl fo)))] := hD
  have hl := lv_entry ([.ref f, .int a1, .int a2, .int a3, .ref ou]) (n := 6) (Nat.le_of_ble_eq_true rfl)
  rw [lg_entry_eq]
  generalize (lg_sl ([.ref f, .int a1, .int a2, .int a3, .ref ou]) ++ List.replicate (6 - (lg_sl ([.ref f, .int a1, .int a2, .int a3, .ref ou])).length) Slot.unset).toArray = ls at hl ⊢
  have hl : lv_has ls 6 [(0, .ref f), (1, .int a1), (2, .int a2), (3, .int a3), (4, .ref ou)] := hl
  have htb := hex.2.2.2.2.2.1
  refine lv_aload hx hb d_L_typeAt_0 (lv_at hl 4 rfl) ?_
  refine lv_iconst (v := 0) hx hb d_L_typeAt_2 (by decide) ?_
  refine lv_aload_n hx hb d_L_typeAt_3 rfl (lv_at hl 0 rfl) ?_
  refine lv_iload_n hx hb d_L_typeAt_4 rfl (lv_at hl 1 rfl) ?_
  refine lv_iload_n hx hb d_L_typeAt_5 rfl (lv_at hl 2 rfl) ?_
  refine lv_iload_n hx hb d_L_typeAt_6 rfl (lv_at hl 3 rfl) ?_
  have hPc := hP.sub (ws' := [(f, .inr (4, [.ref w, .ref k, .ref tp, .int 0])), (w, .inr (3, [.ref wp, .ref wu, .ref wi, .int 2, .ref wc, .ref wt, .ref wx, .int 0, .ref wm, .int 0]))]) [0, 1] rfl
  have hKc := hK.sub (tys' := []) [] rfl
  refine vx_calli (vx_runV (As := [.int a1, .int a2, .int a3]) (rest := [.int 0, .ref ou]) ⟨hx, hb, hml, hown, hts⟩ (k_F_typeAt l hl9 dC dI f w k tp wp wu wi wc wt wx wm a1 a2 a3) (cwV 3 hts (gV hsub w_375 w_376 w_377 w_335 w_378) rfl rfl rfl (by decide +kernel) ⟨Nat.le_of_ble_eq_true rfl, Nat.le_of_ble_eq_true rfl⟩) ⟨bl_0010, va_recv hKc hPc (ci := 4) (q0 := 0) rfl rfl, fun U hU hW => ⟨rfl, by rw [hU]; exact hPc, va_K.moved hW.alike hKc, exP_go hex hS (fun q h => h.elim) U hU hW⟩⟩ rfl rfl hl.1 rfl (lv_room (Nat.le_of_ble_eq_true rfl)) d_L_typeAt_7 ⟨Nat.le_of_ble_eq_true rfl, Nat.le_of_ble_eq_true rfl⟩) hS (fun q _ h => h.elim) (fun q h => h.elim) (fun q _ h => h.elim) (fun E9 ce9 q9 u9 t H1 locs ht hvm hpx hEq hz1 hk1 hS hq9 hcv9 hcl9 => ?_) (fun r_2 u_3 t H1 locs ht hvm hw hB hz1 hk1 hS => ?_)
  · skip
    subst hEq
    have hP := ro_keep hP hk1
    generalize H1 = H at hP hS hq9 ⊢
    refine vx_widen (k := 1) (n := 6) (Nat.le_of_ble_eq_true rfl) (Nat.le_of_ble_eq_true rfl) ?_
    refine fc_catch hown ⟨0, 12, 15, 42⟩ (tableOf []) htab (by decide) (by decide) (hts _ (hsub _ w_362)) (va_Nw.use rfl hex.2.2.2.1.1) hq9 hcv9 hcl9 ?_
    refine lv_astore (lv' := [(5, .ref q9), (0, .ref f), (1, .int a1), (2, .int a2), (3, .int a3), (4, .ref ou)]) hx hb d_L_typeAt_15 hl (by decide) rfl (fun ls hl => ?_)
    refine lv_iconst (v := 1) hx hb d_L_typeAt_17 (by decide) ?_
    refine W.widen (k := 1) (n := 6) (Nat.le_of_ble_eq_true rfl) (Nat.le_of_ble_eq_true rfl) ?_
    exact W.iret (v := 1) hx hb hr (fun t ht hW => ⟨⟨1, (fo 0), rfl, rfl, fo, rfl, by rw [ht]; exact hP.sub [2] rfl, va_K.moved hW.alike (hK.sub (tys' := [(ko, .long)]) [0] rfl), hD.sub [2] (by decide) rfl⟩, hS.F ht⟩) hS.2.2 d_L_typeAt_18
  · skip
    have hP := ro_keep hP hk1
    generalize H1 = H at hP hS ⊢
    refine W.widen (k := 1) (n := 6) (Nat.le_of_ble_eq_true rfl) (Nat.le_of_ble_eq_true rfl) ?_
    exact (hw : False).elim

abbrev ws_k_L_run (f w k tp wp wu wi wc wt wx wm : Nat) (ou : Nat) (ko : ClassId) (fo : Nat → Int64) : va_W := [(f, .inr (4, [.ref w, .ref k, .ref tp, .int 0])), (w, .inr (3, [.ref wp, .ref wu, .ref wi, .int 2, .ref wc, .ref wt, .ref wx, .int 0, .ref wm, .int 0])), (ou, .inl (ko, 1, .inr (.inl fo)))]
set_option maxHeartbeats 4000000 in
set_option maxRecDepth 100000 in
theorem k_L_run (l : Launch) (hl9 : l.stackTraces = false) (dC : Nat → ClassId) (dI : Nat → Nat → Nat) (f w k tp wp wu wi wc wt wx wm : Nat) (a1 : Int32) (a2 : Int64) (a3 : Int64) (a4 : Int32) (ou : Nat) (ko : ClassId) (fo : Nat → Int64) (sz : Nat) : Met l y_L_run (Cond.codeWith y_L_run method_14_code 9 (some .int) [(0, 14, 17, 13), (0, 14, 21, 15), (0, 14, 25, 37)] :: bigW) ({ frames := 7, cells := 1, slots := 6, locals := 109 } : Room) (va_Pc [.ref f, .int a1, .long a2, .long a3, .int a4, .ref ou] (fun U => U.heap.size = sz ∧ va_P (dC, dI) vwCl (ws_k_L_run f w k tp wp wu wi wc wt wx wm ou ko fo) U.heap ∧ va_K (dC, dI) vwCl [(ko, .long)] U ∧ va_D (fun _ => True) (ws_k_L_run f w k tp wp wu wi wc wt wx wm ou ko fo) ∧ exP (va_A (ws_k_L_run f w k tp wp wu wi wc wt wx wm ou ko fo) sz) U)) (va_Qi (fun (r : Int32) (u : Int64) => r = 1) (fun u t => ∃ f9 : Nat → Int64, f9 0 = u ∧ va_P (dC, dI) vwCl [(ou, .inl (ko, 1, .inr (.inl f9)))] t.heap ∧ va_K (dC, dI) vwCl [(ko, .long)] t ∧ va_D (va_A (ws_k_L_run f w k tp wp wu wi wc wt wx wm ou ko fo) sz) [(ou, .inl (ko, 1, .inr (.inl f9)))]) (va_A (ws_k_L_run f w k tp wp wu wi wc wt wx wm ou ko fo) sz)) 1 6 (va_A (ws_k_L_run f w k tp wp wu wi wc wt wx wm ou ko fo) sz) := by
  refine va_MetW (cc := method_14_code) (maxL := 9) (ret := (some .int)) (hh := [(0, 14, 17, 13), (0, 14, 21, 15), (0, 14, 25, 37)]) (by decide) rfl ?_
  intro p e s m args below meth cx s₁ B hml hv
  obtain ⟨rfl, hsz, hP, hK, hD0, hex⟩ := hv
  have hx := B.exec
  have hb := B.bytes
  have hr := B.returns
  have hts := atoms_spec (ws := (Cond.codeWith y_L_run method_14_code 9 (some .int) [(0, 14, 17, 13), (0, 14, 21, 15), (0, 14, 25, 37)] :: bigW)) B.pre
  have hsub : ∀ w ∈ bigW, w ∈ (Cond.codeWith y_L_run method_14_code 9 (some .int) [(0, 14, 17, 13), (0, 14, 21, 15), (0, 14, 25, 37)] :: bigW) := fun w h => List.mem_cons_of_mem _ h
  have hown : s.vm.findClass "MapFramerLaw" = some m.cls := findClass_of_methodNamed B.named
  have hlocks := B.notSynchronized
  have htab : cx.exceptionTable.toList = tableOf [(0, 14, 17, 13), (0, 14, 21, 15), (0, 14, 25, 37)] := vx_table (x := y_L_run) B (hts _ List.mem_cons_self)
  subst hsz
  have hD := hD0.self (sz := s.heap.size)
  generalize hAe : va_A (ws_k_L_run f w k tp wp wu wi wc wt wx wm ou ko fo) s.heap.size = A at hD hex ⊢
  have hA : ∀ q : Nat, s.heap.size ≤ q → A q := fun q h => by rw [← hAe]; exact Or.inr h
  have hS : va_S A s.heap s.heap [] := va_S.rf
  have hP : va_P (dC, dI) vwCl [(f, .inr (4, [.ref w, .ref k, .ref tp, .int 0])), (w, .inr (3, [.ref wp, .ref wu, .ref wi, .int 2, .ref wc, .ref wt, .ref wx, .int 0, .ref wm, .int 0])), (ou, .inl (ko, 1, .inr (.inl fo)))] s.heap := hP
  have hD : va_D A [(f, .inr (4, [.ref w, .ref k, .ref tp, .int 0])), (w, .inr (3, [.ref wp, .ref wu, .ref wi, .int 2, .ref wc, .ref wt, .ref wx, .int 0, .ref wm, .int 0])), (ou, .inl (ko, 1, .inr (.inl fo)))] := hD
  have hl := lv_entry ([.ref f, .int a1, .long a2, .long a3, .int a4, .ref ou]) (n := 9) (Nat.le_of_ble_eq_true rfl)
  rw [lg_entry_eq]
  generalize (lg_sl ([.ref f, .int a1, .long a2, .long a3, .int a4, .ref ou]) ++ List.replicate (9 - (lg_sl ([.ref f, .int a1, .long a2, .long a3, .int a4, .ref ou])).length) Slot.unset).toArray = ls at hl ⊢
  have hl : lv_has ls 9 [(0, .ref f), (1, .int a1), (2, .long a2), (4, .long a3), (6, .int a4), (7, .ref ou)] := hl
  have htb := hex.2.2.2.2.2.1
  refine lv_aload hx hb d_L_run_0 (lv_at hl 5 rfl) ?_
  refine lv_iconst (v := 0) hx hb d_L_run_2 (by decide) ?_
  refine lv_aload_n hx hb d_L_run_3 rfl (lv_at hl 0 rfl) ?_
  refine lv_iload_n hx hb d_L_run_4 rfl (lv_at hl 1 rfl) ?_
  refine lv_lload_n hx hb d_L_run_5 rfl (lv_at hl 2 rfl) ?_
  refine lv_lload hx hb d_L_run_6 (lv_at hl 3 rfl) ?_
  refine lv_iload hx hb d_L_run_8 (lv_at hl 4 rfl) ?_
  have hPc := hP.sub (ws' := [(f, .inr (4, [.ref w, .ref k, .ref tp, .int 0])), (w, .inr (3, [.ref wp, .ref wu, .ref wi, .int 2, .ref wc, .ref wt, .ref wx, .int 0, .ref wm, .int 0]))]) [0, 1] rfl
  have hKc := hK.sub (tys' := []) [] rfl
  refine vx_calll (vx_runV (As := [.int a1, .long a2, .long a3, .int a4]) (rest := [.int 0, .ref ou]) ⟨hx, hb, hml, hown, hts⟩ (k_F_run l hl9 dC dI f w k tp wp wu wi wc wt wx wm a1 a2 a3 a4) (cwV 4 hts (gV hsub w_379 w_380 w_381 w_335 w_382) rfl rfl rfl (by decide +kernel) ⟨Nat.le_of_ble_eq_true rfl, Nat.le_of_ble_eq_true rfl⟩) ⟨bl_0010, va_recv hKc hPc (ci := 4) (q0 := 0) rfl rfl, fun U hU hW => ⟨rfl, by rw [hU]; exact hPc, va_K.moved hW.alike hKc, exP_go hex hS (fun q h => h.elim) U hU hW⟩⟩ rfl rfl hl.1 rfl (lv_room (Nat.le_of_ble_eq_true rfl)) d_L_run_10 ⟨Nat.le_of_ble_eq_true rfl, Nat.le_of_ble_eq_true rfl⟩) hS (fun q _ h => h.elim) (fun q h => h.elim) (fun q _ h => h.elim) (fun E9 ce9 q9 u9 t H1 locs ht hvm hpx hEq hz1 hk1 hS hq9 hcv9 hcl9 => ?_) (fun r_2 u_3 t H1 locs ht hvm hw hB hz1 hk1 hS => ?_)
  · skip
    subst hEq
    have hP := ro_keep hP hk1
    generalize H1 = H at hP hS hq9 ⊢
    refine vx_widen (k := 1) (n := 6) (Nat.le_of_ble_eq_true rfl) (Nat.le_of_ble_eq_true rfl) ?_
    refine fc_catch hown ⟨0, 14, 17, 13⟩ (tableOf [(0, 14, 21, 15), (0, 14, 25, 37)]) htab (by decide) (by decide) (hts _ (hsub _ w_337)) (va_Nw.use rfl hex.2.2.1.1) hq9 hcv9 hcl9 ?_
    refine lv_astore (lv' := [(8, .ref q9), (0, .ref f), (1, .int a1), (2, .long a2), (4, .long a3), (6, .int a4), (7, .ref ou)]) hx hb d_L_run_17 hl (by decide) rfl (fun ls hl => ?_)
    refine lv_iconst (v := 1) hx hb d_L_run_19 (by decide) ?_
    refine W.widen (k := 1) (n := 6) (Nat.le_of_ble_eq_true rfl) (Nat.le_of_ble_eq_true rfl) ?_
    exact W.iret (v := 1) hx hb hr (fun t ht hW => ⟨⟨1, (fo 0), rfl, rfl, fo, rfl, by rw [ht]; exact hP.sub [2] rfl, va_K.moved hW.alike (hK.sub (tys' := [(ko, .long)]) [0] rfl), hD.sub [2] (by decide) rfl⟩, hS.F ht⟩) hS.2.2 d_L_run_20
  · skip
    have hP := ro_keep hP hk1
    generalize H1 = H at hP hS ⊢
    refine W.widen (k := 1) (n := 6) (Nat.le_of_ble_eq_true rfl) (Nat.le_of_ble_eq_true rfl) ?_
    exact (hw : False).elim

