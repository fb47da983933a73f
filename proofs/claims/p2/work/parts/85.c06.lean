abbrev g_K_step : MethodName := ⟨"MapFramer$Machine", "step", "(I)V"⟩
theorem u_375 : (Cond.methodLink "MapFramer$Machine" 185 ⟨"MapFramer$Op", "isGet", "(I)Z"⟩ : Cond) ∈ bigW := inB_7 130 (by decide +kernel) rfl
theorem u_376 : (Cond.static ⟨"MapFramer$Op", "isGet", "(I)Z"⟩ : Cond) ∈ bigW := inB_4 140 (by decide +kernel) rfl
theorem u_377 : (Cond.code ⟨"MapFramer$Op", "isGet", "(I)Z"⟩ prog_8_method_5_code 1 (some .boolean) : Cond) ∈ bigW := inB_4 141 rfl rfl
theorem u_378 : (Cond.methodLink "MapFramer$Machine" 206 ⟨"MapFramer$Op", "isBranch", "(I)Z"⟩ : Cond) ∈ bigW := inB_7 211 (by decide +kernel) rfl
theorem u_379 : (Cond.static ⟨"MapFramer$Op", "isBranch", "(I)Z"⟩ : Cond) ∈ bigW := inB_4 27 (by decide +kernel) rfl
theorem u_380 : (Cond.code ⟨"MapFramer$Op", "isBranch", "(I)Z"⟩ prog_8_method_3_code 1 (some .boolean) : Cond) ∈ bigW := inB_4 28 rfl rfl
theorem u_381 : (Cond.methodLink "MapFramer$Machine" 225 ⟨"MapFramer$Machine", "useObject", "(I)V"⟩ : Cond) ∈ bigW := inB_8 2 (by decide +kernel) rfl
theorem u_382 : (Cond.instanceMethod ⟨"MapFramer$Machine", "useObject", "(I)V"⟩ : Cond) ∈ bigW := inB_8 4 (by decide +kernel) rfl
theorem u_383 : (Cond.selects "MapFramer$Machine" ⟨"MapFramer$Machine", "useObject", "(I)V"⟩ ⟨"MapFramer$Machine", "useObject", "(I)V"⟩ : Cond) ∈ bigW := inS (y := ⟨"MapFramer$Machine", "useObject", "(I)V"⟩) (n := 14) (List.mem_of_getElem? (i := 70) (by decide +kernel))
theorem u_384 : (Cond.code ⟨"MapFramer$Machine", "useObject", "(I)V"⟩ prog_6_method_27_code 3 none : Cond) ∈ bigW := inB_8 5 rfl rfl
theorem u_385 : (Cond.methodLink "MapFramer$Machine" 222 ⟨"MapFramer$Machine", "enter", "()V"⟩ : Cond) ∈ bigW := inB_7 236 (by decide +kernel) rfl
theorem u_386 : (Cond.instanceMethod ⟨"MapFramer$Machine", "enter", "()V"⟩ : Cond) ∈ bigW := inB_7 238 (by decide +kernel) rfl
theorem u_387 : (Cond.selects "MapFramer$Machine" ⟨"MapFramer$Machine", "enter", "()V"⟩ ⟨"MapFramer$Machine", "enter", "()V"⟩ : Cond) ∈ bigW := inS (y := ⟨"MapFramer$Machine", "enter", "()V"⟩) (n := 14) (List.mem_of_getElem? (i := 69) (by decide +kernel))
theorem u_388 : (Cond.code ⟨"MapFramer$Machine", "enter", "()V"⟩ prog_6_method_25_code 4 none : Cond) ∈ bigW := inB_7 239 rfl rfl
theorem u_389 : (Cond.methodLink "MapFramer$Machine" 218 ⟨"MapFramer$Machine", "useField", "(II)V"⟩ : Cond) ∈ bigW := inB_7 231 (by decide +kernel) rfl
theorem u_390 : (Cond.instanceMethod ⟨"MapFramer$Machine", "useField", "(II)V"⟩ : Cond) ∈ bigW := inB_7 233 (by decide +kernel) rfl
theorem u_391 : (Cond.selects "MapFramer$Machine" ⟨"MapFramer$Machine", "useField", "(II)V"⟩ ⟨"MapFramer$Machine", "useField", "(II)V"⟩ : Cond) ∈ bigW := inS (y := ⟨"MapFramer$Machine", "useField", "(II)V"⟩) (n := 14) (List.mem_of_getElem? (i := 68) (by decide +kernel))
theorem u_392 : (Cond.code ⟨"MapFramer$Machine", "useField", "(II)V"⟩ prog_6_method_26_code 8 none : Cond) ∈ bigW := inB_7 234 rfl rfl
theorem u_393 : (Cond.methodLink "MapFramer$Machine" 212 ⟨"MapFramer$Machine", "leave", "()V"⟩ : Cond) ∈ bigW := inB_7 224 (by decide +kernel) rfl
theorem u_394 : (Cond.instanceMethod ⟨"MapFramer$Machine", "leave", "()V"⟩ : Cond) ∈ bigW := inB_7 226 (by decide +kernel) rfl
theorem u_395 : (Cond.selects "MapFramer$Machine" ⟨"MapFramer$Machine", "leave", "()V"⟩ ⟨"MapFramer$Machine", "leave", "()V"⟩ : Cond) ∈ bigW := inS (y := ⟨"MapFramer$Machine", "leave", "()V"⟩) (n := 14) (List.mem_of_getElem? (i := 67) (by decide +kernel))
theorem u_396 : (Cond.code ⟨"MapFramer$Machine", "leave", "()V"⟩ prog_6_method_23_code 5 none : Cond) ∈ bigW := inB_7 227 rfl rfl
theorem u_397 : (Cond.methodLink "MapFramer$Machine" 209 ⟨"MapFramer$Machine", "branch", "(I)V"⟩ : Cond) ∈ bigW := inB_7 212 (by decide +kernel) rfl
theorem u_398 : (Cond.instanceMethod ⟨"MapFramer$Machine", "branch", "(I)V"⟩ : Cond) ∈ bigW := inB_7 214 (by decide +kernel) rfl
theorem u_399 : (Cond.selects "MapFramer$Machine" ⟨"MapFramer$Machine", "branch", "(I)V"⟩ ⟨"MapFramer$Machine", "branch", "(I)V"⟩ : Cond) ∈ bigW := inS (y := ⟨"MapFramer$Machine", "branch", "(I)V"⟩) (n := 14) (List.mem_of_getElem? (i := 65) (by decide +kernel))
theorem u_400 : (Cond.code ⟨"MapFramer$Machine", "branch", "(I)V"⟩ prog_6_method_20_code 2 none : Cond) ∈ bigW := inB_7 215 rfl rfl
theorem u_401 : (Cond.methodLink "MapFramer$Machine" 203 ⟨"MapFramer$Machine", "reckon", "(I)V"⟩ : Cond) ∈ bigW := inB_7 198 (by decide +kernel) rfl
theorem u_402 : (Cond.instanceMethod ⟨"MapFramer$Machine", "reckon", "(I)V"⟩ : Cond) ∈ bigW := inB_7 200 (by decide +kernel) rfl
theorem u_403 : (Cond.selects "MapFramer$Machine" ⟨"MapFramer$Machine", "reckon", "(I)V"⟩ ⟨"MapFramer$Machine", "reckon", "(I)V"⟩ : Cond) ∈ bigW := inS (y := ⟨"MapFramer$Machine", "reckon", "(I)V"⟩) (n := 14) (List.mem_of_getElem? (i := 62) (by decide +kernel))
theorem u_404 : (Cond.code ⟨"MapFramer$Machine", "reckon", "(I)V"⟩ prog_6_method_17_code 6 none : Cond) ∈ bigW := inB_7 201 rfl rfl
theorem u_405 : (Cond.methodLink "MapFramer$Machine" 200 ⟨"MapFramer$Machine", "increase", "()V"⟩ : Cond) ∈ bigW := inB_7 194 (by decide +kernel) rfl
theorem u_406 : (Cond.instanceMethod ⟨"MapFramer$Machine", "increase", "()V"⟩ : Cond) ∈ bigW := inB_7 196 (by decide +kernel) rfl
theorem u_407 : (Cond.selects "MapFramer$Machine" ⟨"MapFramer$Machine", "increase", "()V"⟩ ⟨"MapFramer$Machine", "increase", "()V"⟩ : Cond) ∈ bigW := inS (y := ⟨"MapFramer$Machine", "increase", "()V"⟩) (n := 14) (List.mem_of_getElem? (i := 61) (by decide +kernel))
theorem u_408 : (Cond.code ⟨"MapFramer$Machine", "increase", "()V"⟩ prog_6_method_16_code 2 none : Cond) ∈ bigW := inB_7 197 rfl rfl
theorem u_409 : (Cond.methodLink "MapFramer$Machine" 197 ⟨"MapFramer$Machine", "moveOnStack", "(I)V"⟩ : Cond) ∈ bigW := inB_7 190 (by decide +kernel) rfl
theorem u_410 : (Cond.instanceMethod ⟨"MapFramer$Machine", "moveOnStack", "(I)V"⟩ : Cond) ∈ bigW := inB_7 192 (by decide +kernel) rfl
theorem u_411 : (Cond.selects "MapFramer$Machine" ⟨"MapFramer$Machine", "moveOnStack", "(I)V"⟩ ⟨"MapFramer$Machine", "moveOnStack", "(I)V"⟩ : Cond) ∈ bigW := inS (y := ⟨"MapFramer$Machine", "moveOnStack", "(I)V"⟩) (n := 14) (List.mem_of_getElem? (i := 60) (by decide +kernel))
theorem u_412 : (Cond.code ⟨"MapFramer$Machine", "moveOnStack", "(I)V"⟩ prog_6_method_15_code 10 none : Cond) ∈ bigW := inB_7 193 rfl rfl
theorem u_413 : (Cond.methodLink "MapFramer$Machine" 194 ⟨"MapFramer$Machine", "putElement", "(I)V"⟩ : Cond) ∈ bigW := inB_7 173 (by decide +kernel) rfl
theorem u_414 : (Cond.instanceMethod ⟨"MapFramer$Machine", "putElement", "(I)V"⟩ : Cond) ∈ bigW := inB_7 175 (by decide +kernel) rfl
theorem u_415 : (Cond.selects "MapFramer$Machine" ⟨"MapFramer$Machine", "putElement", "(I)V"⟩ ⟨"MapFramer$Machine", "putElement", "(I)V"⟩ : Cond) ∈ bigW := inS (y := ⟨"MapFramer$Machine", "putElement", "(I)V"⟩) (n := 14) (List.mem_of_getElem? (i := 58) (by decide +kernel))
theorem u_416 : (Cond.code ⟨"MapFramer$Machine", "putElement", "(I)V"⟩ prog_6_method_13_code 7 none : Cond) ∈ bigW := inB_7 176 rfl rfl
theorem u_417 : (Cond.methodLink "MapFramer$Machine" 191 ⟨"MapFramer$Machine", "useLocal", "(I)V"⟩ : Cond) ∈ bigW := inB_7 156 (by decide +kernel) rfl
theorem u_418 : (Cond.instanceMethod ⟨"MapFramer$Machine", "useLocal", "(I)V"⟩ : Cond) ∈ bigW := inB_7 158 (by decide +kernel) rfl
theorem u_419 : (Cond.selects "MapFramer$Machine" ⟨"MapFramer$Machine", "useLocal", "(I)V"⟩ ⟨"MapFramer$Machine", "useLocal", "(I)V"⟩ : Cond) ∈ bigW := inS (y := ⟨"MapFramer$Machine", "useLocal", "(I)V"⟩) (n := 14) (List.mem_of_getElem? (i := 56) (by decide +kernel))
theorem u_420 : (Cond.code ⟨"MapFramer$Machine", "useLocal", "(I)V"⟩ prog_6_method_11_code 2 none : Cond) ∈ bigW := inB_7 159 rfl rfl
theorem u_421 : (Cond.methodLink "MapFramer$Machine" 188 ⟨"MapFramer$Machine", "getElement", "(I)V"⟩ : Cond) ∈ bigW := inB_7 131 (by decide +kernel) rfl
theorem u_422 : (Cond.instanceMethod ⟨"MapFramer$Machine", "getElement", "(I)V"⟩ : Cond) ∈ bigW := inB_7 133 (by decide +kernel) rfl
theorem u_423 : (Cond.selects "MapFramer$Machine" ⟨"MapFramer$Machine", "getElement", "(I)V"⟩ ⟨"MapFramer$Machine", "getElement", "(I)V"⟩ : Cond) ∈ bigW := inS (y := ⟨"MapFramer$Machine", "getElement", "(I)V"⟩) (n := 14) (List.mem_of_getElem? (i := 55) (by decide +kernel))
theorem u_424 : (Cond.code ⟨"MapFramer$Machine", "getElement", "(I)V"⟩ prog_6_method_12_code 4 none : Cond) ∈ bigW := inB_7 134 rfl rfl
theorem u_425 : (Cond.methodLink "MapFramer$Machine" 182 ⟨"MapFramer$Machine", "pushConstant", "(I)V"⟩ : Cond) ∈ bigW := inB_7 112 (by decide +kernel) rfl
theorem u_426 : (Cond.instanceMethod ⟨"MapFramer$Machine", "pushConstant", "(I)V"⟩ : Cond) ∈ bigW := inB_7 114 (by decide +kernel) rfl
theorem u_427 : (Cond.selects "MapFramer$Machine" ⟨"MapFramer$Machine", "pushConstant", "(I)V"⟩ ⟨"MapFramer$Machine", "pushConstant", "(I)V"⟩ : Cond) ∈ bigW := inS (y := ⟨"MapFramer$Machine", "pushConstant", "(I)V"⟩) (n := 14) (List.mem_of_getElem? (i := 54) (by decide +kernel))
theorem u_428 : (Cond.code ⟨"MapFramer$Machine", "pushConstant", "(I)V"⟩ prog_6_method_10_code 2 none : Cond) ∈ bigW := inB_7 115 rfl rfl
theorem h_K_step_0 : decode prog_6_method_9_code 0 = .ok (.aload_n 0, 1) := by decide +kernel
theorem h_K_step_1 : decode prog_6_method_9_code 1 = .ok (.aload_n 0, 1) := by decide +kernel
theorem h_K_step_2 : decode prog_6_method_9_code 2 = .ok (.getfield 76, 3) := by decide +kernel
theorem h_K_step_5 : decode prog_6_method_9_code 5 = .ok (.getfield 84, 3) := by decide +kernel
theorem h_K_step_8 : decode prog_6_method_9_code 8 = .ok (.iload_n 1, 1) := by decide +kernel
theorem h_K_step_9 : decode prog_6_method_9_code 9 = .ok (.invokestatic 177, 3) := by decide +kernel
theorem h_K_step_12 : decode prog_6_method_9_code 12 = .ok (.iadd, 1) := by decide +kernel
theorem h_K_step_13 : decode prog_6_method_9_code 13 = .ok (.putfield 137, 3) := by decide +kernel
theorem h_K_step_16 : decode prog_6_method_9_code 16 = .ok (.aload_n 0, 1) := by decide +kernel
theorem h_K_step_17 : decode prog_6_method_9_code 17 = .ok (.iconst 0, 1) := by decide +kernel
theorem h_K_step_18 : decode prog_6_method_9_code 18 = .ok (.putfield 123, 3) := by decide +kernel
theorem h_K_step_21 : decode prog_6_method_9_code 21 = .ok (.aload_n 0, 1) := by decide +kernel
theorem h_K_step_22 : decode prog_6_method_9_code 22 = .ok (.iconst 0, 1) := by decide +kernel
theorem h_K_step_23 : decode prog_6_method_9_code 23 = .ok (.putfield 131, 3) := by decide +kernel
theorem h_K_step_26 : decode prog_6_method_9_code 26 = .ok (.iload_n 1, 1) := by decide +kernel
theorem h_K_step_27 : decode prog_6_method_9_code 27 = .ok (.bipush 17, 2) := by decide +kernel
theorem h_K_step_29 : decode prog_6_method_9_code 29 = .ok (.if_icmp .gt 11, 3) := by decide +kernel
theorem h_K_step_32 : decode prog_6_method_9_code 32 = .ok (.aload_n 0, 1) := by decide +kernel
theorem h_K_step_33 : decode prog_6_method_9_code 33 = .ok (.iload_n 1, 1) := by decide +kernel
theorem h_K_step_34 : decode prog_6_method_9_code 34 = .ok (.invokevirtual 182, 3) := by decide +kernel
theorem h_K_step_37 : decode prog_6_method_9_code 37 = .ok (.goto 156, 3) := by decide +kernel
theorem h_K_step_40 : decode prog_6_method_9_code 40 = .ok (.iload_n 1, 1) := by decide +kernel
theorem h_K_step_41 : decode prog_6_method_9_code 41 = .ok (.invokestatic 185, 3) := by decide +kernel
theorem h_K_step_44 : decode prog_6_method_9_code 44 = .ok (.ifCond .eq 11, 3) := by decide +kernel
theorem h_K_step_47 : decode prog_6_method_9_code 47 = .ok (.aload_n 0, 1) := by decide +kernel
theorem h_K_step_48 : decode prog_6_method_9_code 48 = .ok (.iload_n 1, 1) := by decide +kernel
theorem h_K_step_49 : decode prog_6_method_9_code 49 = .ok (.invokevirtual 188, 3) := by decide +kernel
theorem h_K_step_52 : decode prog_6_method_9_code 52 = .ok (.goto 141, 3) := by decide +kernel
theorem h_K_step_55 : decode prog_6_method_9_code 55 = .ok (.iload_n 1, 1) := by decide +kernel
theorem h_K_step_56 : decode prog_6_method_9_code 56 = .ok (.bipush 58, 2) := by decide +kernel
theorem h_K_step_58 : decode prog_6_method_9_code 58 = .ok (.if_icmp .gt 11, 3) := by decide +kernel
theorem h_K_step_61 : decode prog_6_method_9_code 61 = .ok (.aload_n 0, 1) := by decide +kernel
theorem h_K_step_62 : decode prog_6_method_9_code 62 = .ok (.iload_n 1, 1) := by decide +kernel
theorem h_K_step_63 : decode prog_6_method_9_code 63 = .ok (.invokevirtual 191, 3) := by decide +kernel
theorem h_K_step_66 : decode prog_6_method_9_code 66 = .ok (.goto 127, 3) := by decide +kernel
theorem h_K_step_69 : decode prog_6_method_9_code 69 = .ok (.iload_n 1, 1) := by decide +kernel
theorem h_K_step_70 : decode prog_6_method_9_code 70 = .ok (.bipush 83, 2) := by decide +kernel
theorem h_K_step_72 : decode prog_6_method_9_code 72 = .ok (.if_icmp .gt 11, 3) := by decide +kernel
theorem h_K_step_75 : decode prog_6_method_9_code 75 = .ok (.aload_n 0, 1) := by decide +kernel
theorem h_K_step_76 : decode prog_6_method_9_code 76 = .ok (.iload_n 1, 1) := by decide +kernel
theorem h_K_step_77 : decode prog_6_method_9_code 77 = .ok (.invokevirtual 194, 3) := by decide +kernel
theorem h_K_step_80 : decode prog_6_method_9_code 80 = .ok (.goto 113, 3) := by decide +kernel
theorem h_K_step_83 : decode prog_6_method_9_code 83 = .ok (.iload_n 1, 1) := by decide +kernel
theorem h_K_step_84 : decode prog_6_method_9_code 84 = .ok (.bipush 95, 2) := by decide +kernel
theorem h_K_step_86 : decode prog_6_method_9_code 86 = .ok (.if_icmp .gt 11, 3) := by decide +kernel
theorem h_K_step_89 : decode prog_6_method_9_code 89 = .ok (.aload_n 0, 1) := by decide +kernel
theorem h_K_step_90 : decode prog_6_method_9_code 90 = .ok (.iload_n 1, 1) := by decide +kernel
theorem h_K_step_91 : decode prog_6_method_9_code 91 = .ok (.invokevirtual 197, 3) := by decide +kernel
theorem h_K_step_94 : decode prog_6_method_9_code 94 = .ok (.goto 99, 3) := by decide +kernel
theorem h_K_step_97 : decode prog_6_method_9_code 97 = .ok (.iload_n 1, 1) := by decide +kernel
theorem h_K_step_98 : decode prog_6_method_9_code 98 = .ok (.sipush 132, 3) := by decide +kernel
theorem h_K_step_101 : decode prog_6_method_9_code 101 = .ok (.if_icmp .ne 10, 3) := by decide +kernel
theorem h_K_step_104 : decode prog_6_method_9_code 104 = .ok (.aload_n 0, 1) := by decide +kernel
theorem h_K_step_105 : decode prog_6_method_9_code 105 = .ok (.invokevirtual 200, 3) := by decide +kernel
theorem h_K_step_108 : decode prog_6_method_9_code 108 = .ok (.goto 85, 3) := by decide +kernel
theorem h_K_step_111 : decode prog_6_method_9_code 111 = .ok (.iload_n 1, 1) := by decide +kernel
theorem h_K_step_112 : decode prog_6_method_9_code 112 = .ok (.sipush 148, 3) := by decide +kernel
theorem h_K_step_115 : decode prog_6_method_9_code 115 = .ok (.if_icmp .gt 11, 3) := by decide +kernel
theorem h_K_step_118 : decode prog_6_method_9_code 118 = .ok (.aload_n 0, 1) := by decide +kernel
theorem h_K_step_119 : decode prog_6_method_9_code 119 = .ok (.iload_n 1, 1) := by decide +kernel
theorem h_K_step_120 : decode prog_6_method_9_code 120 = .ok (.invokevirtual 203, 3) := by decide +kernel
theorem h_K_step_123 : decode prog_6_method_9_code 123 = .ok (.goto 70, 3) := by decide +kernel
theorem h_K_step_126 : decode prog_6_method_9_code 126 = .ok (.iload_n 1, 1) := by decide +kernel
theorem h_K_step_127 : decode prog_6_method_9_code 127 = .ok (.invokestatic 206, 3) := by decide +kernel
theorem h_K_step_130 : decode prog_6_method_9_code 130 = .ok (.ifCond .eq 11, 3) := by decide +kernel
theorem h_K_step_133 : decode prog_6_method_9_code 133 = .ok (.aload_n 0, 1) := by decide +kernel
theorem h_K_step_134 : decode prog_6_method_9_code 134 = .ok (.iload_n 1, 1) := by decide +kernel
theorem h_K_step_135 : decode prog_6_method_9_code 135 = .ok (.invokevirtual 209, 3) := by decide +kernel
theorem h_K_step_138 : decode prog_6_method_9_code 138 = .ok (.goto 55, 3) := by decide +kernel
theorem h_K_step_141 : decode prog_6_method_9_code 141 = .ok (.iload_n 1, 1) := by decide +kernel
theorem h_K_step_142 : decode prog_6_method_9_code 142 = .ok (.sipush 177, 3) := by decide +kernel
theorem h_K_step_145 : decode prog_6_method_9_code 145 = .ok (.if_icmp .gt 10, 3) := by decide +kernel
theorem h_K_step_148 : decode prog_6_method_9_code 148 = .ok (.aload_n 0, 1) := by decide +kernel
theorem h_K_step_149 : decode prog_6_method_9_code 149 = .ok (.invokevirtual 212, 3) := by decide +kernel
theorem h_K_step_152 : decode prog_6_method_9_code 152 = .ok (.goto 41, 3) := by decide +kernel
theorem h_K_step_155 : decode prog_6_method_9_code 155 = .ok (.iload_n 1, 1) := by decide +kernel
theorem h_K_step_156 : decode prog_6_method_9_code 156 = .ok (.sipush 181, 3) := by decide +kernel
theorem h_K_step_159 : decode prog_6_method_9_code 159 = .ok (.if_icmp .gt 15, 3) := by decide +kernel
theorem h_K_step_162 : decode prog_6_method_9_code 162 = .ok (.aload_n 0, 1) := by decide +kernel
theorem h_K_step_163 : decode prog_6_method_9_code 163 = .ok (.iload_n 1, 1) := by decide +kernel
theorem h_K_step_164 : decode prog_6_method_9_code 164 = .ok (.aload_n 0, 1) := by decide +kernel
theorem h_K_step_165 : decode prog_6_method_9_code 165 = .ok (.invokevirtual 215, 3) := by decide +kernel
theorem h_K_step_168 : decode prog_6_method_9_code 168 = .ok (.invokevirtual 218, 3) := by decide +kernel
theorem h_K_step_171 : decode prog_6_method_9_code 171 = .ok (.goto 22, 3) := by decide +kernel
theorem h_K_step_174 : decode prog_6_method_9_code 174 = .ok (.iload_n 1, 1) := by decide +kernel
theorem h_K_step_175 : decode prog_6_method_9_code 175 = .ok (.sipush 184, 3) := by decide +kernel
theorem h_K_step_178 : decode prog_6_method_9_code 178 = .ok (.if_icmp .ne 10, 3) := by decide +kernel
theorem h_K_step_181 : decode prog_6_method_9_code 181 = .ok (.aload_n 0, 1) := by decide +kernel
theorem h_K_step_182 : decode prog_6_method_9_code 182 = .ok (.invokevirtual 222, 3) := by decide +kernel
theorem h_K_step_185 : decode prog_6_method_9_code 185 = .ok (.goto 8, 3) := by decide +kernel
theorem h_K_step_188 : decode prog_6_method_9_code 188 = .ok (.aload_n 0, 1) := by decide +kernel
theorem h_K_step_189 : decode prog_6_method_9_code 189 = .ok (.iload_n 1, 1) := by decide +kernel
theorem h_K_step_190 : decode prog_6_method_9_code 190 = .ok (.invokevirtual 225, 3) := by decide +kernel
theorem h_K_step_193 : decode prog_6_method_9_code 193 = .ok (.return_, 1) := by decide +kernel
def x_K_step (a0 : Nat) (x1 : Int32) (σ0 : CST) (P : CST → Prop) : Prop := σ0.1 a0 = some (2, 0) ∧ (∀ b2 : Option Nat, b2 = (σ0.2.2.2.1 a0 5) → (∃ r3 : Nat, b2 = some r3 ∧ (σ0.1 r3 = some (0, 0) ∧ (x_Op_length x1 σ0 (fun r6 σ5 => σ5.1 a0 = some (2, 0) ∧ (∀ σ8 : CST, σ8 = sI σ5 a0 6 ((σ0.2.1 r3 1) + r6) → σ8.1 a0 = some (2, 0) ∧ (∀ σ10 : CST, σ10 = sI σ8 a0 7 (0 : Int32) → σ10.1 a0 = some (2, 0) ∧ (∀ σ12 : CST, σ12 = sI σ10 a0 8 (0 : Int32) → ((17 < x1 → x_Op_isGet x1 σ12 (fun r15 σ14 => ((r15 = 0 → ((58 < x1 → ((83 < x1 → ((95 < x1 → ((x1 = 132 → σ14.1 a0 = some (2, 0) ∧ (x_K_increase a0 σ14 (fun σ50 => P σ50))) ∧ (¬ x1 = 132 → ((148 < x1 → x_Op_isBranch x1 σ14 (fun r23 σ22 => ((r23 = 0 → ((177 < x1 → ((181 < x1 → ((x1 = 184 → σ22.1 a0 = some (2, 0) ∧ (x_K_enter a0 σ22 (fun σ32 => P σ32))) ∧ (¬ x1 = 184 → σ22.1 a0 = some (2, 0) ∧ (x_K_useObject a0 x1 σ22 (fun σ29 => P σ29))))) ∧ (¬ 181 < x1 → σ22.1 a0 = some (2, 0) ∧ (x_K_operand a0 σ22 (fun r36 σ35 => σ35.1 a0 = some (2, 0) ∧ (x_K_useField a0 x1 r36 σ35 (fun σ38 => P σ38))))))) ∧ (¬ 177 < x1 → σ22.1 a0 = some (2, 0) ∧ (x_K_leave a0 σ22 (fun σ41 => P σ41))))) ∧ (¬ r23 = 0 → σ22.1 a0 = some (2, 0) ∧ (x_K_branch a0 x1 σ22 (fun σ44 => P σ44)))))) ∧ (¬ 148 < x1 → σ14.1 a0 = some (2, 0) ∧ (x_K_reckon a0 x1 σ14 (fun σ47 => P σ47))))))) ∧ (¬ 95 < x1 → σ14.1 a0 = some (2, 0) ∧ (x_K_moveOnStack a0 x1 σ14 (fun σ53 => P σ53))))) ∧ (¬ 83 < x1 → σ14.1 a0 = some (2, 0) ∧ (x_K_putElement a0 x1 σ14 (fun σ56 => P σ56))))) ∧ (¬ 58 < x1 → σ14.1 a0 = some (2, 0) ∧ (x_K_useLocal a0 x1 σ14 (fun σ59 => P σ59))))) ∧ (¬ r15 = 0 → σ14.1 a0 = some (2, 0) ∧ (x_K_getElement a0 x1 σ14 (fun σ62 => P σ62)))))) ∧ (¬ 17 < x1 → σ12.1 a0 = some (2, 0) ∧ (x_K_pushConstant a0 x1 σ12 (fun σ65 => P σ65))))))))))))
set_option maxHeartbeats 4000000 in
set_option maxRecDepth 100000 in
theorem X_K_step (l : Launch) (dC : Nat → ClassId) (dI : Nat → Nat → Nat) (ca : Nat → ClassId) (H0 : Heap) (σ0 : CST) (a0 : Nat) (x1 : Int32) {P : CST → Prop} (hw : x_K_step a0 x1 σ0 P) : Met l g_K_step (mW g_K_step prog_6_method_9_code 2 none) ({ frames := 6, cells := σ0.2.2.2.2.1, slots := σ0.2.2.2.2.2.1, locals := 136 } : Room) (va_Pc [.ref a0, .int x1] (CPre (dC, dI) ca σ0 H0)) (va_Qv P (CB (dC, dI) ca σ0 H0) (cA σ0 H0.size)) σ0.2.2.2.2.1 σ0.2.2.2.2.2.1 (cA σ0 H0.size) := by
  refine C_ofv (by decide +kernel) rfl rfl rfl (Nat.le_of_ble_eq_true rfl) ?_
  intro p e s m below meth cx Q A ls C hnm hend hH0 h hl
  subst hH0
  have C0 := C
  obtain ⟨⟨hx, hb, hml, hown, hts⟩, hsub⟩ := C0
  obtain ⟨cells, e_cells⟩ : ∃ z : Nat, z = 0 := ⟨_, rfl⟩
  obtain ⟨slots, e_slots⟩ : ∃ z : Nat, z = 0 := ⟨_, rfl⟩
  have h : CH (dC, dI) A ca ({ frames := 6, cells := σ0.2.2.2.2.1, slots := σ0.2.2.2.2.2.1, locals := 136 } : Room) σ0.2.2.2.2.2.2 σ0 s s.heap [] cells slots := by rw [e_cells, e_slots]; exact h
  show W p l e ({ frames := 6, cells := σ0.2.2.2.2.1, slots := σ0.2.2.2.2.2.1, locals := 136 } : Room) s m ([.ref a0, .int x1] : List Value).toArray below meth cx s.heap [] 0 0 Q (F0 m 0 ls [])
  rw [show W p l e ({ frames := 6, cells := σ0.2.2.2.2.1, slots := σ0.2.2.2.2.2.1, locals := 136 } : Room) s m ([.ref a0, .int x1] : List Value).toArray below meth cx s.heap [] 0 0 Q (F0 m 0 ls []) = W p l e ({ frames := 6, cells := σ0.2.2.2.2.1, slots := σ0.2.2.2.2.2.1, locals := 136 } : Room) s m ([.ref a0, .int x1] : List Value).toArray below meth cx s.heap [] cells slots Q (F0 m 0 ls []) by rw [e_cells, e_slots]]
  have hl : lv_has ls 2 [(0, .ref a0), (1, .int x1)] := hl
  unfold x_K_step at hw
  refine lv_aload_n hx hb h_K_step_0 rfl (lv_at hl 0 rfl) ?_
  refine lv_aload_n hx hb h_K_step_1 rfl (lv_at hl 0 rfl) ?_
  obtain ⟨g1, hw⟩ := hw
  refine C_get C h 2 5 (v := va_rf (σ0.2.2.2.1 a0 5)) g1 rfl (Cn := R_K) (T := T_K) (N := 14) rfl (by decide) rfl uw_K (by decide) u_231 (fun _ q => q) h_K_step_2 ?_
  refine lv_topq (fun b2 e_b2 => ?_)
  replace hw := hw b2 e_b2
  obtain ⟨r3, e_r3, hw⟩ := hw
  subst e_r3
  have hl : lv_has ls 2 [(0, .ref a0), (1, .int x1)] := hl
  refine W.eq (g2 := F0 m 5 ls [.ref r3, .ref a0]) rfl ?_
  obtain ⟨g4, hw⟩ := hw
  refine C_get C h 0 1 (v := .int (σ0.2.1 r3 1)) g4 rfl (Cn := R_C) (T := T_C) (N := 5) rfl (by decide) rfl uw_C (by decide) u_237 (fun _ q => q) h_K_step_5 ?_
  refine lv_iload_n hx hb h_K_step_8 rfl (lv_at hl 1 rfl) ?_
  refine C_callSi (As := [.int x1]) (rest := [.int (σ0.2.1 r3 1), .ref a0]) C h (X_Op_length l dC dI ca s.heap σ0 x1 hw) (va_cwS 1 hts (gS hsub u_325 u_326 u_327 u_328) rfl rfl rfl (by decide +kernel) ⟨(Nat.le_of_ble_eq_true rfl), (Nat.le_of_ble_eq_true rfl)⟩) rfl hl.1 (Nat.le_of_ble_eq_true rfl) h_K_step_9 (fun r6 σ5 H locs cells slots hw9 h9 => ?_)
  clear hw h; have hw := hw9; have h := h9; clear hw9 h9
  refine W.eq (g2 := F0 m 12 ls [.int r6, .int (σ0.2.1 r3 1), .ref a0]) rfl ?_
  refine lv_iadd hx hb h_K_step_12 ?_
  obtain ⟨g7, hw⟩ := hw
  refine C_puti C h 2 6 g7 (Cn := R_K) (T := T_K) (N := 14) rfl (by decide) rfl uw_K tok_K nm_K (by decide) rfl u_316 (fun _ q => q) (Or.inl rfl) (by decide +kernel) h_K_step_13 (fun H locs h => ?_)
  obtain ⟨σ8, e_σ8⟩ : ∃ z : CST, z = sI σ5 a0 6 ((σ0.2.1 r3 1) + r6) := ⟨_, rfl⟩
  rw [← e_σ8] at h
  replace hw := hw σ8 e_σ8
  refine lv_aload_n hx hb h_K_step_16 rfl (lv_at hl 0 rfl) ?_
  refine lv_iconst (v := 0) hx hb h_K_step_17 (by decide) ?_
  obtain ⟨g9, hw⟩ := hw
  refine C_putz C h 2 7 g9 (Cn := R_K) (T := T_K) (N := 14) rfl (by decide) rfl uw_K tok_K nm_K (by decide) rfl u_255 (fun _ q => q) (Or.inl rfl) (by decide +kernel) (by decide) h_K_step_18 (fun H locs h => ?_)
  obtain ⟨σ10, e_σ10⟩ : ∃ z : CST, z = sI σ8 a0 7 (0 : Int32) := ⟨_, rfl⟩
  rw [← e_σ10] at h
  replace hw := hw σ10 e_σ10
  refine lv_aload_n hx hb h_K_step_21 rfl (lv_at hl 0 rfl) ?_
  refine lv_iconst (v := 0) hx hb h_K_step_22 (by decide) ?_
  obtain ⟨g11, hw⟩ := hw
  refine C_puti C h 2 8 g11 (Cn := R_K) (T := T_K) (N := 14) rfl (by decide) rfl uw_K tok_K nm_K (by decide) rfl u_370 (fun _ q => q) (Or.inl rfl) (by decide +kernel) h_K_step_23 (fun H locs h => ?_)
  obtain ⟨σ12, e_σ12⟩ : ∃ z : CST, z = sI σ10 a0 8 (0 : Int32) := ⟨_, rfl⟩
  rw [← e_σ12] at h
  replace hw := hw σ12 e_σ12
  refine lv_iload_n hx hb h_K_step_26 rfl (lv_at hl 1 rfl) ?_
  refine lv_bipush (v := 17) hx hb h_K_step_27 (by decide) ?_
  refine lv_icmp_gt (tgt := 40) hx hb h_K_step_29 (by decide) (fun c13 => ?_) (fun c13 => ?_)
  · skip
    replace hw := hw.1 c13
    refine lv_iload_n hx hb h_K_step_40 rfl (lv_at hl 1 rfl) ?_
    refine C_callSi (As := [.int x1]) (rest := []) C h (X_Op_isGet l dC dI ca H σ12 x1 hw) (va_cwS 1 hts (gS hsub u_375 u_376 u_327 u_377) rfl rfl rfl (by decide +kernel) ⟨(Nat.le_of_ble_eq_true rfl), (Nat.le_of_ble_eq_true rfl)⟩) rfl hl.1 (Nat.le_of_ble_eq_true rfl) h_K_step_41 (fun r15 σ14 H locs cells slots hw9 h9 => ?_)
    clear hw h; have hw := hw9; have h := h9; clear hw9 h9
    refine W.eq (g2 := F0 m 44 ls [.int r15]) rfl ?_
    refine lv_if_eq (tgt := 55) hx hb h_K_step_44 (by decide) (fun c16 => ?_) (fun c16 => ?_)
    · skip
      replace hw := hw.1 c16
      refine lv_iload_n hx hb h_K_step_55 rfl (lv_at hl 1 rfl) ?_
      refine lv_bipush (v := 58) hx hb h_K_step_56 (by decide) ?_
      refine lv_icmp_gt (tgt := 69) hx hb h_K_step_58 (by decide) (fun c17 => ?_) (fun c17 => ?_)
      · skip
        replace hw := hw.1 c17
        refine lv_iload_n hx hb h_K_step_69 rfl (lv_at hl 1 rfl) ?_
        refine lv_bipush (v := 83) hx hb h_K_step_70 (by decide) ?_
        refine lv_icmp_gt (tgt := 83) hx hb h_K_step_72 (by decide) (fun c18 => ?_) (fun c18 => ?_)
        · skip
          replace hw := hw.1 c18
          refine lv_iload_n hx hb h_K_step_83 rfl (lv_at hl 1 rfl) ?_
          refine lv_bipush (v := 95) hx hb h_K_step_84 (by decide) ?_
          refine lv_icmp_gt (tgt := 97) hx hb h_K_step_86 (by decide) (fun c19 => ?_) (fun c19 => ?_)
          · skip
            replace hw := hw.1 c19
            refine lv_iload_n hx hb h_K_step_97 rfl (lv_at hl 1 rfl) ?_
            refine lv_sipush (v := 132) hx hb h_K_step_98 (by decide) ?_
            refine lv_icmp_ne (tgt := 111) hx hb h_K_step_101 (by decide) (fun c20 => ?_) (fun c20 => ?_)
            · skip
              replace hw := hw.2 c20
              refine lv_iload_n hx hb h_K_step_111 rfl (lv_at hl 1 rfl) ?_
              refine lv_sipush (v := 148) hx hb h_K_step_112 (by decide) ?_
              refine lv_icmp_gt (tgt := 126) hx hb h_K_step_115 (by decide) (fun c21 => ?_) (fun c21 => ?_)
              · skip
                replace hw := hw.1 c21
                refine lv_iload_n hx hb h_K_step_126 rfl (lv_at hl 1 rfl) ?_
                refine C_callSi (As := [.int x1]) (rest := []) C h (X_Op_isBranch l dC dI ca H σ14 x1 hw) (va_cwS 1 hts (gS hsub u_378 u_379 u_327 u_380) rfl rfl rfl (by decide +kernel) ⟨(Nat.le_of_ble_eq_true rfl), (Nat.le_of_ble_eq_true rfl)⟩) rfl hl.1 (Nat.le_of_ble_eq_true rfl) h_K_step_127 (fun r23 σ22 H locs cells slots hw9 h9 => ?_)
                clear hw h; have hw := hw9; have h := h9; clear hw9 h9
                refine W.eq (g2 := F0 m 130 ls [.int r23]) rfl ?_
                refine lv_if_eq (tgt := 141) hx hb h_K_step_130 (by decide) (fun c24 => ?_) (fun c24 => ?_)
                · skip
                  replace hw := hw.1 c24
                  refine lv_iload_n hx hb h_K_step_141 rfl (lv_at hl 1 rfl) ?_
                  refine lv_sipush (v := 177) hx hb h_K_step_142 (by decide) ?_
                  refine lv_icmp_gt (tgt := 155) hx hb h_K_step_145 (by decide) (fun c25 => ?_) (fun c25 => ?_)
                  · skip
                    replace hw := hw.1 c25
                    refine lv_iload_n hx hb h_K_step_155 rfl (lv_at hl 1 rfl) ?_
                    refine lv_sipush (v := 181) hx hb h_K_step_156 (by decide) ?_
                    refine lv_icmp_gt (tgt := 174) hx hb h_K_step_159 (by decide) (fun c26 => ?_) (fun c26 => ?_)
                    · skip
                      replace hw := hw.1 c26
                      refine lv_iload_n hx hb h_K_step_174 rfl (lv_at hl 1 rfl) ?_
                      refine lv_sipush (v := 184) hx hb h_K_step_175 (by decide) ?_
                      refine lv_icmp_ne (tgt := 188) hx hb h_K_step_178 (by decide) (fun c27 => ?_) (fun c27 => ?_)
                      · skip
                        replace hw := hw.2 c27
                        refine lv_aload_n hx hb h_K_step_188 rfl (lv_at hl 0 rfl) ?_
                        refine lv_iload_n hx hb h_K_step_189 rfl (lv_at hl 1 rfl) ?_
                        obtain ⟨g28, hw⟩ := hw
                        refine C_callVv (As := [.int x1]) (rest := []) C h (ci := 2) (Cn := R_K) (T := T_K) (N := 14) g28 rfl (by decide) (X_K_useObject l dC dI ca H σ22 a0 x1 hw) (cwV 1 hts (gV hsub u_381 u_382 u_383 u_260 u_384) rfl rfl rfl (by decide +kernel) ⟨(Nat.le_of_ble_eq_true rfl), (Nat.le_of_ble_eq_true rfl)⟩) rfl hl.1 (Nat.le_of_ble_eq_true rfl) h_K_step_190 (fun σ29 H locs cells slots hw9 h9 => ?_)
                        clear hw h; have hw := hw9; have h := h9; clear hw9 h9
                        refine W.eq (g2 := F0 m 193 ls []) rfl ?_
                        exact hend σ29 _ _ _ _ _ _ hw h h_K_step_193
                      · skip
                        replace hw := hw.1 c27
                        refine lv_aload_n hx hb h_K_step_181 rfl (lv_at hl 0 rfl) ?_
                        obtain ⟨g31, hw⟩ := hw
                        refine C_callVv (As := []) (rest := []) C h (ci := 2) (Cn := R_K) (T := T_K) (N := 14) g31 rfl (by decide) (X_K_enter l dC dI ca H σ22 a0 hw) (cwV 0 hts (gV hsub u_385 u_386 u_387 u_260 u_388) rfl rfl rfl (by decide +kernel) ⟨(Nat.le_of_ble_eq_true rfl), (Nat.le_of_ble_eq_true rfl)⟩) rfl hl.1 (Nat.le_of_ble_eq_true rfl) h_K_step_182 (fun σ32 H locs cells slots hw9 h9 => ?_)
                        clear hw h; have hw := hw9; have h := h9; clear hw9 h9
                        refine W.eq (g2 := F0 m 185 ls []) rfl ?_
                        refine lv_goto (tgt := 193) hx hb h_K_step_185 (by decide) ?_
                        exact hend σ32 _ _ _ _ _ _ hw h h_K_step_193
                    · skip
                      replace hw := hw.2 c26
                      refine lv_aload_n hx hb h_K_step_162 rfl (lv_at hl 0 rfl) ?_
                      refine lv_iload_n hx hb h_K_step_163 rfl (lv_at hl 1 rfl) ?_
                      refine lv_aload_n hx hb h_K_step_164 rfl (lv_at hl 0 rfl) ?_
                      obtain ⟨g34, hw⟩ := hw
                      refine C_callVi (As := []) (rest := [.int x1, .ref a0]) C h (ci := 2) (Cn := R_K) (T := T_K) (N := 14) g34 rfl (by decide) (X_K_operand l dC dI ca H σ22 a0 hw) (cwV 0 hts (gV hsub u_257 u_258 u_259 u_260 u_261) rfl rfl rfl (by decide +kernel) ⟨(Nat.le_of_ble_eq_true rfl), (Nat.le_of_ble_eq_true rfl)⟩) rfl hl.1 (Nat.le_of_ble_eq_true rfl) h_K_step_165 (fun r36 σ35 H locs cells slots hw9 h9 => ?_)
                      clear hw h; have hw := hw9; have h := h9; clear hw9 h9
                      refine W.eq (g2 := F0 m 168 ls [.int r36, .int x1, .ref a0]) rfl ?_
                      obtain ⟨g37, hw⟩ := hw
                      refine C_callVv (As := [.int x1, .int r36]) (rest := []) C h (ci := 2) (Cn := R_K) (T := T_K) (N := 14) g37 rfl (by decide) (X_K_useField l dC dI ca H σ35 a0 x1 r36 hw) (cwV 2 hts (gV hsub u_389 u_390 u_391 u_260 u_392) rfl rfl rfl (by decide +kernel) ⟨(Nat.le_of_ble_eq_true rfl), (Nat.le_of_ble_eq_true rfl)⟩) rfl hl.1 (Nat.le_of_ble_eq_true rfl) h_K_step_168 (fun σ38 H locs cells slots hw9 h9 => ?_)
                      clear hw h; have hw := hw9; have h := h9; clear hw9 h9
                      refine W.eq (g2 := F0 m 171 ls []) rfl ?_
                      refine lv_goto (tgt := 193) hx hb h_K_step_171 (by decide) ?_
                      exact hend σ38 _ _ _ _ _ _ hw h h_K_step_193
                  · skip
                    replace hw := hw.2 c25
                    refine lv_aload_n hx hb h_K_step_148 rfl (lv_at hl 0 rfl) ?_
                    obtain ⟨g40, hw⟩ := hw
                    refine C_callVv (As := []) (rest := []) C h (ci := 2) (Cn := R_K) (T := T_K) (N := 14) g40 rfl (by decide) (X_K_leave l dC dI ca H σ22 a0 hw) (cwV 0 hts (gV hsub u_393 u_394 u_395 u_260 u_396) rfl rfl rfl (by decide +kernel) ⟨(Nat.le_of_ble_eq_true rfl), (Nat.le_of_ble_eq_true rfl)⟩) rfl hl.1 (Nat.le_of_ble_eq_true rfl) h_K_step_149 (fun σ41 H locs cells slots hw9 h9 => ?_)
                    clear hw h; have hw := hw9; have h := h9; clear hw9 h9
                    refine W.eq (g2 := F0 m 152 ls []) rfl ?_
                    refine lv_goto (tgt := 193) hx hb h_K_step_152 (by decide) ?_
                    exact hend σ41 _ _ _ _ _ _ hw h h_K_step_193
                · skip
                  replace hw := hw.2 c24
                  refine lv_aload_n hx hb h_K_step_133 rfl (lv_at hl 0 rfl) ?_
                  refine lv_iload_n hx hb h_K_step_134 rfl (lv_at hl 1 rfl) ?_
                  obtain ⟨g43, hw⟩ := hw
                  refine C_callVv (As := [.int x1]) (rest := []) C h (ci := 2) (Cn := R_K) (T := T_K) (N := 14) g43 rfl (by decide) (X_K_branch l dC dI ca H σ22 a0 x1 hw) (cwV 1 hts (gV hsub u_397 u_398 u_399 u_260 u_400) rfl rfl rfl (by decide +kernel) ⟨(Nat.le_of_ble_eq_true rfl), (Nat.le_of_ble_eq_true rfl)⟩) rfl hl.1 (Nat.le_of_ble_eq_true rfl) h_K_step_135 (fun σ44 H locs cells slots hw9 h9 => ?_)
                  clear hw h; have hw := hw9; have h := h9; clear hw9 h9
                  refine W.eq (g2 := F0 m 138 ls []) rfl ?_
                  refine lv_goto (tgt := 193) hx hb h_K_step_138 (by decide) ?_
                  exact hend σ44 _ _ _ _ _ _ hw h h_K_step_193
              · skip
                replace hw := hw.2 c21
                refine lv_aload_n hx hb h_K_step_118 rfl (lv_at hl 0 rfl) ?_
                refine lv_iload_n hx hb h_K_step_119 rfl (lv_at hl 1 rfl) ?_
                obtain ⟨g46, hw⟩ := hw
                refine C_callVv (As := [.int x1]) (rest := []) C h (ci := 2) (Cn := R_K) (T := T_K) (N := 14) g46 rfl (by decide) (X_K_reckon l dC dI ca H σ14 a0 x1 hw) (cwV 1 hts (gV hsub u_401 u_402 u_403 u_260 u_404) rfl rfl rfl (by decide +kernel) ⟨(Nat.le_of_ble_eq_true rfl), (Nat.le_of_ble_eq_true rfl)⟩) rfl hl.1 (Nat.le_of_ble_eq_true rfl) h_K_step_120 (fun σ47 H locs cells slots hw9 h9 => ?_)
                clear hw h; have hw := hw9; have h := h9; clear hw9 h9
                refine W.eq (g2 := F0 m 123 ls []) rfl ?_
                refine lv_goto (tgt := 193) hx hb h_K_step_123 (by decide) ?_
                exact hend σ47 _ _ _ _ _ _ hw h h_K_step_193
            · skip
              replace hw := hw.1 c20
              refine lv_aload_n hx hb h_K_step_104 rfl (lv_at hl 0 rfl) ?_
              obtain ⟨g49, hw⟩ := hw
              refine C_callVv (As := []) (rest := []) C h (ci := 2) (Cn := R_K) (T := T_K) (N := 14) g49 rfl (by decide) (X_K_increase l dC dI ca H σ14 a0 hw) (cwV 0 hts (gV hsub u_405 u_406 u_407 u_260 u_408) rfl rfl rfl (by decide +kernel) ⟨(Nat.le_of_ble_eq_true rfl), (Nat.le_of_ble_eq_true rfl)⟩) rfl hl.1 (Nat.le_of_ble_eq_true rfl) h_K_step_105 (fun σ50 H locs cells slots hw9 h9 => ?_)
              clear hw h; have hw := hw9; have h := h9; clear hw9 h9
              refine W.eq (g2 := F0 m 108 ls []) rfl ?_
              refine lv_goto (tgt := 193) hx hb h_K_step_108 (by decide) ?_
              exact hend σ50 _ _ _ _ _ _ hw h h_K_step_193
          · skip
            replace hw := hw.2 c19
            refine lv_aload_n hx hb h_K_step_89 rfl (lv_at hl 0 rfl) ?_
            refine lv_iload_n hx hb h_K_step_90 rfl (lv_at hl 1 rfl) ?_
            obtain ⟨g52, hw⟩ := hw
            refine C_callVv (As := [.int x1]) (rest := []) C h (ci := 2) (Cn := R_K) (T := T_K) (N := 14) g52 rfl (by decide) (X_K_moveOnStack l dC dI ca H σ14 a0 x1 hw) (cwV 1 hts (gV hsub u_409 u_410 u_411 u_260 u_412) rfl rfl rfl (by decide +kernel) ⟨(Nat.le_of_ble_eq_true rfl), (Nat.le_of_ble_eq_true rfl)⟩) rfl hl.1 (Nat.le_of_ble_eq_true rfl) h_K_step_91 (fun σ53 H locs cells slots hw9 h9 => ?_)
            clear hw h; have hw := hw9; have h := h9; clear hw9 h9
            refine W.eq (g2 := F0 m 94 ls []) rfl ?_
            refine lv_goto (tgt := 193) hx hb h_K_step_94 (by decide) ?_
            exact hend σ53 _ _ _ _ _ _ hw h h_K_step_193
        · skip
          replace hw := hw.2 c18
          refine lv_aload_n hx hb h_K_step_75 rfl (lv_at hl 0 rfl) ?_
          refine lv_iload_n hx hb h_K_step_76 rfl (lv_at hl 1 rfl) ?_
          obtain ⟨g55, hw⟩ := hw
          refine C_callVv (As := [.int x1]) (rest := []) C h (ci := 2) (Cn := R_K) (T := T_K) (N := 14) g55 rfl (by decide) (X_K_putElement l dC dI ca H σ14 a0 x1 hw) (cwV 1 hts (gV hsub u_413 u_414 u_415 u_260 u_416) rfl rfl rfl (by decide +kernel) ⟨(Nat.le_of_ble_eq_true rfl), (Nat.le_of_ble_eq_true rfl)⟩) rfl hl.1 (Nat.le_of_ble_eq_true rfl) h_K_step_77 (fun σ56 H locs cells slots hw9 h9 => ?_)
          clear hw h; have hw := hw9; have h := h9; clear hw9 h9
          refine W.eq (g2 := F0 m 80 ls []) rfl ?_
          refine lv_goto (tgt := 193) hx hb h_K_step_80 (by decide) ?_
          exact hend σ56 _ _ _ _ _ _ hw h h_K_step_193
      · skip
        replace hw := hw.2 c17
        refine lv_aload_n hx hb h_K_step_61 rfl (lv_at hl 0 rfl) ?_
        refine lv_iload_n hx hb h_K_step_62 rfl (lv_at hl 1 rfl) ?_
        obtain ⟨g58, hw⟩ := hw
        refine C_callVv (As := [.int x1]) (rest := []) C h (ci := 2) (Cn := R_K) (T := T_K) (N := 14) g58 rfl (by decide) (X_K_useLocal l dC dI ca H σ14 a0 x1 hw) (cwV 1 hts (gV hsub u_417 u_418 u_419 u_260 u_420) rfl rfl rfl (by decide +kernel) ⟨(Nat.le_of_ble_eq_true rfl), (Nat.le_of_ble_eq_true rfl)⟩) rfl hl.1 (Nat.le_of_ble_eq_true rfl) h_K_step_63 (fun σ59 H locs cells slots hw9 h9 => ?_)
        clear hw h; have hw := hw9; have h := h9; clear hw9 h9
        refine W.eq (g2 := F0 m 66 ls []) rfl ?_
        refine lv_goto (tgt := 193) hx hb h_K_step_66 (by decide) ?_
        exact hend σ59 _ _ _ _ _ _ hw h h_K_step_193
    · skip
      replace hw := hw.2 c16
      refine lv_aload_n hx hb h_K_step_47 rfl (lv_at hl 0 rfl) ?_
      refine lv_iload_n hx hb h_K_step_48 rfl (lv_at hl 1 rfl) ?_
      obtain ⟨g61, hw⟩ := hw
      refine C_callVv (As := [.int x1]) (rest := []) C h (ci := 2) (Cn := R_K) (T := T_K) (N := 14) g61 rfl (by decide) (X_K_getElement l dC dI ca H σ14 a0 x1 hw) (cwV 1 hts (gV hsub u_421 u_422 u_423 u_260 u_424) rfl rfl rfl (by decide +kernel) ⟨(Nat.le_of_ble_eq_true rfl), (Nat.le_of_ble_eq_true rfl)⟩) rfl hl.1 (Nat.le_of_ble_eq_true rfl) h_K_step_49 (fun σ62 H locs cells slots hw9 h9 => ?_)
      clear hw h; have hw := hw9; have h := h9; clear hw9 h9
      refine W.eq (g2 := F0 m 52 ls []) rfl ?_
      refine lv_goto (tgt := 193) hx hb h_K_step_52 (by decide) ?_
      exact hend σ62 _ _ _ _ _ _ hw h h_K_step_193
  · skip
    replace hw := hw.2 c13
    refine lv_aload_n hx hb h_K_step_32 rfl (lv_at hl 0 rfl) ?_
    refine lv_iload_n hx hb h_K_step_33 rfl (lv_at hl 1 rfl) ?_
    obtain ⟨g64, hw⟩ := hw
    refine C_callVv (As := [.int x1]) (rest := []) C h (ci := 2) (Cn := R_K) (T := T_K) (N := 14) g64 rfl (by decide) (X_K_pushConstant l dC dI ca H σ12 a0 x1 hw) (cwV 1 hts (gV hsub u_425 u_426 u_427 u_260 u_428) rfl rfl rfl (by decide +kernel) ⟨(Nat.le_of_ble_eq_true rfl), (Nat.le_of_ble_eq_true rfl)⟩) rfl hl.1 (Nat.le_of_ble_eq_true rfl) h_K_step_34 (fun σ65 H locs cells slots hw9 h9 => ?_)
    clear hw h; have hw := hw9; have h := h9; clear hw9 h9
    refine W.eq (g2 := F0 m 37 ls []) rfl ?_
    refine lv_goto (tgt := 193) hx hb h_K_step_37 (by decide) ?_
    exact hend σ65 _ _ _ _ _ _ hw h h_K_step_193
abbrev g_K_handlerOf : MethodName := ⟨"MapFramer$Machine", "handlerOf", "(LMapFramer$Call;I)LMapFramer$Handler;"⟩
theorem u_429 : (Cond.methodLink "MapFramer$Machine" 158 ⟨"java/util/ArrayList", "size", "()I"⟩ : Cond) ∈ bigW := inB_8 42 (by decide +kernel) rfl
theorem u_430 : (Cond.methodLink "MapFramer$Machine" 163 ⟨"java/util/ArrayList", "get", "(I)Ljava/lang/Object;"⟩ : Cond) ∈ bigW := inB_8 43 (by decide +kernel) rfl
theorem u_431 : (Cond.classLink "MapFramer$Machine" 152 "MapFramer$Handler" : Cond) ∈ bigW := inB_8 44 (by decide +kernel) rfl
theorem u_432 : (Cond.methodLink "MapFramer$Machine" 167 ⟨"MapFramer$Handler", "covers", "(I)Z"⟩ : Cond) ∈ bigW := inB_8 45 (by decide +kernel) rfl
theorem u_433 : (Cond.instanceMethod ⟨"MapFramer$Handler", "covers", "(I)Z"⟩ : Cond) ∈ bigW := inB_5 46 (by decide +kernel) rfl
theorem u_434 : (Cond.selects "MapFramer$Handler" ⟨"MapFramer$Handler", "covers", "(I)Z"⟩ ⟨"MapFramer$Handler", "covers", "(I)Z"⟩ : Cond) ∈ bigW := inB_5 47 (by decide +kernel) rfl
theorem u_435 : (Cond.code ⟨"MapFramer$Handler", "covers", "(I)Z"⟩ prog_4_method_2_code 2 (some .boolean) : Cond) ∈ bigW := inB_5 48 rfl rfl
theorem u_436 : (Cond.fieldLink "MapFramer$Machine" 170 "MapFramer$Handler" "caught" "I" : Cond) ∈ bigW := inB_3 59 (by decide +kernel) rfl
theorem u_437 : (Cond.methodLink "MapFramer$Machine" 173 ⟨"MapFramer$World", "subs", "(II)Z"⟩ : Cond) ∈ bigW := inB_8 46 (by decide +kernel) rfl
theorem u_438 : (Cond.fieldLink "MapFramer$Machine" 154 "MapFramer$Method" "handlers" "Ljava/util/ArrayList;" : Cond) ∈ bigW := inB_2 173 (by decide +kernel) rfl
theorem h_K_handlerOf_0 : decode prog_6_method_7_code 0 = .ok (.aload_n 1, 1) := by decide +kernel
theorem h_K_handlerOf_1 : decode prog_6_method_7_code 1 = .ok (.getfield 80, 3) := by decide +kernel
theorem h_K_handlerOf_4 : decode prog_6_method_7_code 4 = .ok (.getfield 154, 3) := by decide +kernel
theorem h_K_handlerOf_7 : decode prog_6_method_7_code 7 = .ok (.astore_n 3, 1) := by decide +kernel
theorem h_K_handlerOf_8 : decode prog_6_method_7_code 8 = .ok (.iconst 0, 1) := by decide +kernel
theorem h_K_handlerOf_9 : decode prog_6_method_7_code 9 = .ok (.istore 4, 2) := by decide +kernel
theorem h_K_handlerOf_11 : decode prog_6_method_7_code 11 = .ok (.iload 4, 2) := by decide +kernel
theorem h_K_handlerOf_13 : decode prog_6_method_7_code 13 = .ok (.aload_n 3, 1) := by decide +kernel
theorem h_K_handlerOf_14 : decode prog_6_method_7_code 14 = .ok (.invokevirtual 158, 3) := by decide +kernel
theorem h_K_handlerOf_17 : decode prog_6_method_7_code 17 = .ok (.if_icmp .ge 51, 3) := by decide +kernel
theorem h_K_handlerOf_20 : decode prog_6_method_7_code 20 = .ok (.aload_n 3, 1) := by decide +kernel
theorem h_K_handlerOf_21 : decode prog_6_method_7_code 21 = .ok (.iload 4, 2) := by decide +kernel
theorem h_K_handlerOf_23 : decode prog_6_method_7_code 23 = .ok (.invokevirtual 163, 3) := by decide +kernel
theorem h_K_handlerOf_26 : decode prog_6_method_7_code 26 = .ok (.checkcast 152, 3) := by decide +kernel
theorem h_K_handlerOf_29 : decode prog_6_method_7_code 29 = .ok (.astore 5, 2) := by decide +kernel
theorem h_K_handlerOf_31 : decode prog_6_method_7_code 31 = .ok (.aload 5, 2) := by decide +kernel
theorem h_K_handlerOf_33 : decode prog_6_method_7_code 33 = .ok (.aload_n 1, 1) := by decide +kernel
theorem h_K_handlerOf_34 : decode prog_6_method_7_code 34 = .ok (.getfield 84, 3) := by decide +kernel
theorem h_K_handlerOf_37 : decode prog_6_method_7_code 37 = .ok (.invokevirtual 167, 3) := by decide +kernel
theorem h_K_handlerOf_40 : decode prog_6_method_7_code 40 = .ok (.ifCond .eq 22, 3) := by decide +kernel
theorem h_K_handlerOf_43 : decode prog_6_method_7_code 43 = .ok (.aload_n 0, 1) := by decide +kernel
theorem h_K_handlerOf_44 : decode prog_6_method_7_code 44 = .ok (.getfield 38, 3) := by decide +kernel
theorem h_K_handlerOf_47 : decode prog_6_method_7_code 47 = .ok (.iload_n 2, 1) := by decide +kernel
theorem h_K_handlerOf_48 : decode prog_6_method_7_code 48 = .ok (.aload 5, 2) := by decide +kernel
theorem h_K_handlerOf_50 : decode prog_6_method_7_code 50 = .ok (.getfield 170, 3) := by decide +kernel
theorem h_K_handlerOf_53 : decode prog_6_method_7_code 53 = .ok (.invokevirtual 173, 3) := by decide +kernel
theorem h_K_handlerOf_56 : decode prog_6_method_7_code 56 = .ok (.ifCond .eq 6, 3) := by decide +kernel
theorem h_K_handlerOf_59 : decode prog_6_method_7_code 59 = .ok (.aload 5, 2) := by decide +kernel
theorem h_K_handlerOf_61 : decode prog_6_method_7_code 61 = .ok (.areturn, 1) := by decide +kernel
theorem h_K_handlerOf_62 : decode prog_6_method_7_code 62 = .ok (.iinc 4 1, 3) := by decide +kernel
theorem h_K_handlerOf_65 : decode prog_6_method_7_code 65 = .ok (.goto (-54), 3) := by decide +kernel
theorem h_K_handlerOf_68 : decode prog_6_method_7_code 68 = .ok (.aconst_null, 1) := by decide +kernel
theorem h_K_handlerOf_69 : decode prog_6_method_7_code 69 = .ok (.areturn, 1) := by decide +kernel
def x_K_handlerOf_62 (a0 : Nat) (a1 : Nat) (K11 : Int32 → Option Nat → Int32 → CST → Prop) (P : Option Nat → CST → Prop) (z2 : Int32) (z3 : Option Nat) (z4 : Int32) (σ : CST) : Prop := K11 z2 z3 (z4 + 1) σ
def x_K_handlerOf_11 (a0 : Nat) (a1 : Nat) (P : Option Nat → CST → Prop) : Nat → Int32 → Option Nat → Int32 → CST → Prop
  | 0, _, _, _, _ => False
  | n + 1, z2, z3, z4, σ => (∃ r1 : Nat, z3 = some r1 ∧ (σ.1 r1 = some (6, 0) ∧ (x_AL_size r1 σ (fun r4 σ3 => ((r4 ≤ z4 → P none σ3) ∧ (¬ r4 ≤ z4 → σ3.1 r1 = some (6, 0) ∧ (x_AL_get r1 z4 σ3 (fun r8 σ7 => ((r8 = none → σ7.1 a1 = some (0, 0) ∧ (False)) ∧ (∀ r10 : Nat, r8 = some r10 → σ7.1 r10 = some (7, 0) ∧ (σ7.1 a1 = some (0, 0) ∧ (x_Ha_covers r10 (σ7.2.1 a1 1) σ7 (fun r15 σ14 => ((r15 = 0 → x_K_handlerOf_62 a0 a1 (x_K_handlerOf_11 a0 a1 P n) P z2 (some r1) z4 σ14) ∧ (¬ r15 = 0 → σ14.1 a0 = some (2, 0) ∧ (∀ b18 : Option Nat, b18 = (σ14.2.2.2.1 a0 3) → σ14.1 r10 = some (7, 0) ∧ ((∃ r20 : Nat, b18 = some r20 ∧ (σ14.1 r20 = some (3, 0) ∧ (x_W_subs r20 z2 (σ14.2.1 r10 3) σ14 (fun r23 σ22 => ((r23 = 0 → x_K_handlerOf_62 a0 a1 (x_K_handlerOf_11 a0 a1 P n) P z2 (some r1) z4 σ22) ∧ (¬ r23 = 0 → P (some r10) σ22)))))))))))))))))))))))
def x_K_handlerOf (a0 : Nat) (a1 : Nat) (x2 : Int32) (σ0 : CST) (P : Option Nat → CST → Prop) : Prop := σ0.1 a1 = some (0, 0) ∧ (∀ b26 : Option Nat, b26 = (σ0.2.2.2.1 a1 0) → (∃ r27 : Nat, b26 = some r27 ∧ (σ0.1 r27 = some (5, 0) ∧ (∀ b29 : Option Nat, b29 = (σ0.2.2.2.1 r27 5) → (∃ n9 : Nat, x_K_handlerOf_11 a0 a1 P n9 x2 b29 0 σ0)))))
set_option maxHeartbeats 4000000 in
set_option maxRecDepth 100000 in
theorem X_K_handlerOf (l : Launch) (dC : Nat → ClassId) (dI : Nat → Nat → Nat) (ca : Nat → ClassId) (H0 : Heap) (σ0 : CST) (a0 : Nat) (a1 : Nat) (x2 : Int32) {P : Option Nat → CST → Prop} (hw : x_K_handlerOf a0 a1 x2 σ0 P) : Met l g_K_handlerOf (mW g_K_handlerOf prog_6_method_7_code 6 (some (.object "MapFramer$Handler"))) ({ frames := 3, cells := σ0.2.2.2.2.1, slots := σ0.2.2.2.2.2.1, locals := 64 } : Room) (va_Pc [.ref a0, .ref a1, .int x2] (CPre (dC, dI) ca σ0 H0)) (va_Qq P (CB (dC, dI) ca σ0 H0) (cA σ0 H0.size)) σ0.2.2.2.2.1 σ0.2.2.2.2.2.1 (cA σ0 H0.size) := by
  refine C_ofq (Or.inl ⟨_, rfl⟩) (by decide +kernel) rfl rfl rfl (Nat.le_of_ble_eq_true rfl) ?_
  intro p e s m below meth cx Q A ls C hnm hend hH0 h hl
  subst hH0
  have C0 := C
  obtain ⟨⟨hx, hb, hml, hown, hts⟩, hsub⟩ := C0
  obtain ⟨cells, e_cells⟩ : ∃ z : Nat, z = 0 := ⟨_, rfl⟩
  obtain ⟨slots, e_slots⟩ : ∃ z : Nat, z = 0 := ⟨_, rfl⟩
  have h : CH (dC, dI) A ca ({ frames := 3, cells := σ0.2.2.2.2.1, slots := σ0.2.2.2.2.2.1, locals := 64 } : Room) σ0.2.2.2.2.2.2 σ0 s s.heap [] cells slots := by rw [e_cells, e_slots]; exact h
  show W p l e ({ frames := 3, cells := σ0.2.2.2.2.1, slots := σ0.2.2.2.2.2.1, locals := 64 } : Room) s m ([.ref a0, .ref a1, .int x2] : List Value).toArray below meth cx s.heap [] 0 0 Q (F0 m 0 ls [])
  rw [show W p l e ({ frames := 3, cells := σ0.2.2.2.2.1, slots := σ0.2.2.2.2.2.1, locals := 64 } : Room) s m ([.ref a0, .ref a1, .int x2] : List Value).toArray below meth cx s.heap [] 0 0 Q (F0 m 0 ls []) = W p l e ({ frames := 3, cells := σ0.2.2.2.2.1, slots := σ0.2.2.2.2.2.1, locals := 64 } : Room) s m ([.ref a0, .ref a1, .int x2] : List Value).toArray below meth cx s.heap [] cells slots Q (F0 m 0 ls []) by rw [e_cells, e_slots]]
  have K_62 : ∀ (K11 : Int32 → Option Nat → Int32 → CST → Prop) (hK11 : ∀ (z2 : Int32) (z3 : Option Nat) (z4 : Int32) (σ : CST) (H : Heap) (locs : List Loc) (cells slots : Nat) (ls : Array Slot), K11 z2 z3 z4 σ → CH (dC, dI) A ca ({ frames := 3, cells := σ0.2.2.2.2.1, slots := σ0.2.2.2.2.2.1, locals := 64 } : Room) σ0.2.2.2.2.2.2 σ s H locs cells slots → lv_has ls 6 [(0, .ref a0), (1, .ref a1), (2, .int z2), (3, va_rf z3), (4, .int z4)] → W p l e ({ frames := 3, cells := σ0.2.2.2.2.1, slots := σ0.2.2.2.2.2.1, locals := 64 } : Room) s m ([.ref a0, .ref a1, .int x2] : List Value).toArray below meth cx H locs cells slots Q (F0 m 11 ls [])), ∀ (z2 : Int32) (z3 : Option Nat) (z4 : Int32) (σ : CST) (H : Heap) (locs : List Loc) (cells slots : Nat) (ls : Array Slot), x_K_handlerOf_62 a0 a1 K11 P z2 z3 z4 σ → CH (dC, dI) A ca ({ frames := 3, cells := σ0.2.2.2.2.1, slots := σ0.2.2.2.2.2.1, locals := 64 } : Room) σ0.2.2.2.2.2.2 σ s H locs cells slots → lv_has ls 6 [(0, .ref a0), (1, .ref a1), (2, .int z2), (3, va_rf z3), (4, .int z4)] → W p l e ({ frames := 3, cells := σ0.2.2.2.2.1, slots := σ0.2.2.2.2.2.1, locals := 64 } : Room) s m ([.ref a0, .ref a1, .int x2] : List Value).toArray below meth cx H locs cells slots Q (F0 m 62 ls []) := by
    intro K11 hK11 z2 z3 z4 σ H locs cells slots ls hw h hl
    unfold x_K_handlerOf_62 at hw
    refine lv_iinc (v := (z4 + 1)) (lv' := [(4, .int (z4 + 1)), (0, .ref a0), (1, .ref a1), (2, .int z2), (3, va_rf z3)]) hx hb h_K_handlerOf_62 hl (k := 4) rfl (rfl) (by decide) (by simp [cq_cat]) (fun ls hl => ?_)
    refine lv_goto (tgt := 11) hx hb h_K_handlerOf_65 (by decide) ?_
    exact hK11 z2 z3 (z4 + 1) σ _ _ _ _ _ hw h (lv_sub hl [1, 2, 3, 4, 0] rfl)
  have K_11 : ∀ (n : Nat), ∀ (z2 : Int32) (z3 : Option Nat) (z4 : Int32) (σ : CST) (H : Heap) (locs : List Loc) (cells slots : Nat) (ls : Array Slot), x_K_handlerOf_11 a0 a1 P n z2 z3 z4 σ → CH (dC, dI) A ca ({ frames := 3, cells := σ0.2.2.2.2.1, slots := σ0.2.2.2.2.2.1, locals := 64 } : Room) σ0.2.2.2.2.2.2 σ s H locs cells slots → lv_has ls 6 [(0, .ref a0), (1, .ref a1), (2, .int z2), (3, va_rf z3), (4, .int z4)] → W p l e ({ frames := 3, cells := σ0.2.2.2.2.1, slots := σ0.2.2.2.2.2.1, locals := 64 } : Room) s m ([.ref a0, .ref a1, .int x2] : List Value).toArray below meth cx H locs cells slots Q (F0 m 11 ls []) := by
    intro  n
    induction n with
    | zero => intro z2 z3 z4 σ H locs cells slots ls hw h hl; unfold x_K_handlerOf_11 at hw; exact hw.elim
    | succ n ih =>
      intro z2 z3 z4 σ H locs cells slots ls hw h hl
      unfold x_K_handlerOf_11 at hw
      refine lv_iload hx hb h_K_handlerOf_11 (lv_at hl 4 rfl) ?_
      refine cq_aload_n hx hb h_K_handlerOf_13 rfl (lv_at hl 3 rfl) ?_
      obtain ⟨r1, e_r1, hw⟩ := hw
      subst e_r1
      have hl : lv_has ls 6 [(0, .ref a0), (1, .ref a1), (2, .int z2), (3, .ref r1), (4, .int z4)] := hl
      refine W.eq (g2 := F0 m 14 ls [.ref r1, .int z4]) rfl ?_
      obtain ⟨g2, hw⟩ := hw
      refine C_callVi (As := []) (rest := [.int z4]) C h (ci := 6) (Cn := R_A) (T := T_A) (N := 3) g2 rfl (by decide) (X_AL_size l dC dI ca H σ r1 hw) (cwV 0 hts (gV hsub u_429 u_180 u_181 u_117 u_182) rfl rfl rfl (by decide +kernel) ⟨(Nat.le_of_ble_eq_true rfl), (Nat.le_of_ble_eq_true rfl)⟩) rfl hl.1 (Nat.le_of_ble_eq_true rfl) h_K_handlerOf_14 (fun r4 σ3 H locs cells slots hw9 h9 => ?_)
      clear hw h; have hw := hw9; have h := h9; clear hw9 h9
      refine W.eq (g2 := F0 m 17 ls [.int r4, .int z4]) rfl ?_
      refine lv_icmp_ge (tgt := 68) hx hb h_K_handlerOf_17 (by decide) (fun c5 => ?_) (fun c5 => ?_)
      · skip
        replace hw := hw.1 c5
        refine lv_null hx hb h_K_handlerOf_68 ?_
        exact hend none σ3 _ _ _ _ _ _ hw h h_K_handlerOf_69
      · skip
        replace hw := hw.2 c5
        refine lv_aload_n hx hb h_K_handlerOf_20 rfl (lv_at hl 3 rfl) ?_
        refine lv_iload hx hb h_K_handlerOf_21 (lv_at hl 4 rfl) ?_
        obtain ⟨g6, hw⟩ := hw
        refine C_callVq (As := [.int z4]) (rest := []) C h (ci := 6) (Cn := R_A) (T := T_A) (N := 3) g6 rfl (by decide) (X_AL_get l dC dI ca H σ3 r1 z4 hw) (cwV 1 hts (gV hsub u_430 u_172 u_173 u_117 u_174) rfl rfl rfl (by decide +kernel) ⟨(Nat.le_of_ble_eq_true rfl), (Nat.le_of_ble_eq_true rfl)⟩) rfl hl.1 (Nat.le_of_ble_eq_true rfl) h_K_handlerOf_23 (fun r8 σ7 H locs cells slots hw9 h9 => ?_)
        clear hw h; have hw := hw9; have h := h9; clear hw9 h9
        refine W.eq (g2 := F0 m 26 ls [va_rf r8]) rfl ?_
        rcases cq_or r8 with c9 | ⟨r10, c9⟩
        · subst c9
          replace hw := hw.1 rfl
          have hl : lv_has ls 6 [(0, .ref a0), (1, .ref a1), (2, .int z2), (3, .ref r1), (4, .int z4)] := hl
          refine W.eq (g2 := F0 m 26 ls [.null]) rfl ?_
          refine lv_castN hx hb h_K_handlerOf_26 ?_
          refine lv_astoreN (lv' := [(5, .null), (0, .ref a0), (1, .ref a1), (2, .int z2), (3, .ref r1), (4, .int z4)]) hx hb h_K_handlerOf_29 hl (by decide) rfl (fun ls hl => ?_)
          refine lv_aloadN hx hb h_K_handlerOf_31 (lv_at hl 0 rfl) ?_
          refine lv_aload_n hx hb h_K_handlerOf_33 rfl (lv_at hl 2 rfl) ?_
          obtain ⟨g11, hw⟩ := hw
          refine C_get C h 0 1 (v := .int (σ7.2.1 a1 1)) g11 rfl (Cn := R_C) (T := T_C) (N := 5) rfl (by decide) rfl uw_C (by decide) u_237 (fun _ q => q) h_K_handlerOf_34 ?_
          exact hw.elim
        · subst c9
          replace hw := hw.2 r10 rfl
          have hl : lv_has ls 6 [(0, .ref a0), (1, .ref a1), (2, .int z2), (3, .ref r1), (4, .int z4)] := hl
          refine W.eq (g2 := F0 m 26 ls [.ref r10]) rfl ?_
          obtain ⟨g12, hw⟩ := hw
          refine C_cast C h 7 (Cn := R_Ha) (T := T_Ha) (N := 4) rfl (by decide) u_431 g12 h_K_handlerOf_26 ?_
          refine lv_astore (lv' := [(5, .ref r10), (0, .ref a0), (1, .ref a1), (2, .int z2), (3, .ref r1), (4, .int z4)]) hx hb h_K_handlerOf_29 hl (by decide) rfl (fun ls hl => ?_)
          refine lv_aload hx hb h_K_handlerOf_31 (lv_at hl 0 rfl) ?_
          refine lv_aload_n hx hb h_K_handlerOf_33 rfl (lv_at hl 2 rfl) ?_
          obtain ⟨g13, hw⟩ := hw
          refine C_get C h 0 1 (v := .int (σ7.2.1 a1 1)) g13 rfl (Cn := R_C) (T := T_C) (N := 5) rfl (by decide) rfl uw_C (by decide) u_237 (fun _ q => q) h_K_handlerOf_34 ?_
          refine C_callVi (As := [.int (σ7.2.1 a1 1)]) (rest := []) C h (ci := 7) (Cn := R_Ha) (T := T_Ha) (N := 4) g12 rfl (by decide) (X_Ha_covers l dC dI ca H σ7 r10 (σ7.2.1 a1 1) hw) (cwV 1 hts (gV hsub u_432 u_433 u_434 u_163 u_435) rfl rfl rfl (by decide +kernel) ⟨(Nat.le_of_ble_eq_true rfl), (Nat.le_of_ble_eq_true rfl)⟩) rfl hl.1 (Nat.le_of_ble_eq_true rfl) h_K_handlerOf_37 (fun r15 σ14 H locs cells slots hw9 h9 => ?_)
          clear hw h; have hw := hw9; have h := h9; clear hw9 h9
          refine W.eq (g2 := F0 m 40 ls [.int r15]) rfl ?_
          refine lv_if_eq (tgt := 62) hx hb h_K_handlerOf_40 (by decide) (fun c16 => ?_) (fun c16 => ?_)
          · skip
            replace hw := hw.1 c16
            exact K_62 _ ih z2 (some r1) z4 σ14 _ _ _ _ _ hw h (lv_sub hl [1, 2, 3, 4, 5] rfl)
          · skip
            replace hw := hw.2 c16
            refine lv_aload_n hx hb h_K_handlerOf_43 rfl (lv_at hl 1 rfl) ?_
            obtain ⟨g17, hw⟩ := hw
            refine C_get C h 2 3 (v := va_rf (σ14.2.2.2.1 a0 3)) g17 rfl (Cn := R_K) (T := T_K) (N := 14) rfl (by decide) rfl uw_K (by decide) u_282 (fun _ q => q) h_K_handlerOf_44 ?_
            refine lv_topq (fun b18 e_b18 => ?_)
            replace hw := hw b18 e_b18
            refine lv_iload_n hx hb h_K_handlerOf_47 rfl (lv_at hl 3 rfl) ?_
            refine lv_aload hx hb h_K_handlerOf_48 (lv_at hl 0 rfl) ?_
            obtain ⟨g19, hw⟩ := hw
            refine C_get C h 7 3 (v := .int (σ14.2.1 r10 3)) g19 rfl (Cn := R_Ha) (T := T_Ha) (N := 4) rfl (by decide) rfl uw_Ha (by decide) u_436 (fun _ q => q) h_K_handlerOf_50 ?_
            obtain ⟨r20, e_r20, hw⟩ := hw
            subst e_r20
            have hl : lv_has ls 6 [(5, .ref r10), (0, .ref a0), (1, .ref a1), (2, .int z2), (3, .ref r1), (4, .int z4)] := hl
            refine W.eq (g2 := F0 m 53 ls [.int (σ14.2.1 r10 3), .int z2, .ref r20]) rfl ?_
            obtain ⟨g21, hw⟩ := hw
            refine C_callVi (As := [.int z2, .int (σ14.2.1 r10 3)]) (rest := []) C h (ci := 3) (Cn := R_W) (T := T_W) (N := 10) g21 rfl (by decide) (X_W_subs l dC dI ca H σ14 r20 z2 (σ14.2.1 r10 3) hw) (cwV 2 hts (gV hsub u_437 u_273 u_274 u_51 u_275) rfl rfl rfl (by decide +kernel) ⟨(Nat.le_of_ble_eq_true rfl), (Nat.le_of_ble_eq_true rfl)⟩) rfl hl.1 (Nat.le_of_ble_eq_true rfl) h_K_handlerOf_53 (fun r23 σ22 H locs cells slots hw9 h9 => ?_)
            clear hw h; have hw := hw9; have h := h9; clear hw9 h9
            refine W.eq (g2 := F0 m 56 ls [.int r23]) rfl ?_
            refine lv_if_eq (tgt := 62) hx hb h_K_handlerOf_56 (by decide) (fun c24 => ?_) (fun c24 => ?_)
            · skip
              replace hw := hw.1 c24
              exact K_62 _ ih z2 (some r1) z4 σ22 _ _ _ _ _ hw h (lv_sub hl [1, 2, 3, 4, 5] rfl)
            · skip
              replace hw := hw.2 c24
              refine lv_aload hx hb h_K_handlerOf_59 (lv_at hl 0 rfl) ?_
              exact hend (some r10) σ22 _ _ _ _ _ _ hw h h_K_handlerOf_61
  have hl : lv_has ls 6 [(0, .ref a0), (1, .ref a1), (2, .int x2)] := hl
  unfold x_K_handlerOf at hw
  refine lv_aload_n hx hb h_K_handlerOf_0 rfl (lv_at hl 1 rfl) ?_
  obtain ⟨g25, hw⟩ := hw
  refine C_get C h 0 0 (v := va_rf (σ0.2.2.2.1 a1 0)) g25 rfl (Cn := R_C) (T := T_C) (N := 5) rfl (by decide) rfl uw_C (by decide) u_222 (fun _ q => q) h_K_handlerOf_1 ?_
  refine lv_topq (fun b26 e_b26 => ?_)
  replace hw := hw b26 e_b26
  obtain ⟨r27, e_r27, hw⟩ := hw
  subst e_r27
  have hl : lv_has ls 6 [(0, .ref a0), (1, .ref a1), (2, .int x2)] := hl
  refine W.eq (g2 := F0 m 4 ls [.ref r27]) rfl ?_
  obtain ⟨g28, hw⟩ := hw
  refine C_get C h 5 5 (v := va_rf (σ0.2.2.2.1 r27 5)) g28 rfl (Cn := R_E) (T := T_E) (N := 13) rfl (by decide) rfl uw_E (by decide) u_438 (fun _ q => q) h_K_handlerOf_4 ?_
  refine lv_topq (fun b29 e_b29 => ?_)
  replace hw := hw b29 e_b29
  refine cq_astore_n (i := 3) (lv' := [(3, va_rf b29), (0, .ref a0), (1, .ref a1), (2, .int x2)]) hx hb h_K_handlerOf_7 rfl hl (by decide) rfl (fun ls hl => ?_)
  refine lv_iconst (v := 0) hx hb h_K_handlerOf_8 (by decide) ?_
  refine lv_istore (lv' := [(4, .int 0), (3, va_rf b29), (0, .ref a0), (1, .ref a1), (2, .int x2)]) hx hb h_K_handlerOf_9 hl (by decide) (by simp [cq_cat]) (fun ls hl => ?_)
  obtain ⟨n9, hw⟩ := hw
  exact K_11 n9 x2 b29 0 σ0 _ _ _ _ _ hw h (lv_sub hl [2, 3, 4, 1, 0] rfl)
abbrev g_K_toss : MethodName := ⟨"MapFramer$Machine", "toss", "()V"⟩
theorem u_439 : (Cond.methodLink "MapFramer$Machine" 140 ⟨"MapFramer$Machine", "handlerOf", "(LMapFramer$Call;I)LMapFramer$Handler;"⟩ : Cond) ∈ bigW := inB_8 38 (by decide +kernel) rfl
theorem u_440 : (Cond.instanceMethod ⟨"MapFramer$Machine", "handlerOf", "(LMapFramer$Call;I)LMapFramer$Handler;"⟩ : Cond) ∈ bigW := inB_8 40 (by decide +kernel) rfl
theorem u_441 : (Cond.selects "MapFramer$Machine" ⟨"MapFramer$Machine", "handlerOf", "(LMapFramer$Call;I)LMapFramer$Handler;"⟩ ⟨"MapFramer$Machine", "handlerOf", "(LMapFramer$Call;I)LMapFramer$Handler;"⟩ : Cond) ∈ bigW := inS (y := ⟨"MapFramer$Machine", "handlerOf", "(LMapFramer$Call;I)LMapFramer$Handler;"⟩) (n := 14) (List.mem_of_getElem? (i := 77) (by decide +kernel))
theorem u_442 : (Cond.code ⟨"MapFramer$Machine", "handlerOf", "(LMapFramer$Call;I)LMapFramer$Handler;"⟩ prog_6_method_7_code 6 (some (.object "MapFramer$Handler")) : Cond) ∈ bigW := inB_8 41 rfl rfl
theorem u_443 : (Cond.fieldLink "MapFramer$Machine" 144 "MapFramer$Call" "size" "I" : Cond) ∈ bigW := inB_1 131 (by decide +kernel) rfl
theorem u_444 : (Cond.fieldLink "MapFramer$Machine" 151 "MapFramer$Handler" "place" "I" : Cond) ∈ bigW := inB_3 55 (by decide +kernel) rfl
theorem h_K_toss_0 : decode prog_6_method_6_code 0 = .ok (.aload_n 0, 1) := by decide +kernel
theorem h_K_toss_1 : decode prog_6_method_6_code 1 = .ok (.getfield 12, 3) := by decide +kernel
theorem h_K_toss_4 : decode prog_6_method_6_code 4 = .ok (.aload_n 0, 1) := by decide +kernel
theorem h_K_toss_5 : decode prog_6_method_6_code 5 = .ok (.getfield 131, 3) := by decide +kernel
theorem h_K_toss_8 : decode prog_6_method_6_code 8 = .ok (.invokevirtual 113, 3) := by decide +kernel
theorem h_K_toss_11 : decode prog_6_method_6_code 11 = .ok (.bipush 32, 2) := by decide +kernel
theorem h_K_toss_13 : decode prog_6_method_6_code 13 = .ok (.isub, 1) := by decide +kernel
theorem h_K_toss_14 : decode prog_6_method_6_code 14 = .ok (.istore_n 1, 1) := by decide +kernel
theorem h_K_toss_15 : decode prog_6_method_6_code 15 = .ok (.aload_n 0, 1) := by decide +kernel
theorem h_K_toss_16 : decode prog_6_method_6_code 16 = .ok (.getfield 62, 3) := by decide +kernel
theorem h_K_toss_19 : decode prog_6_method_6_code 19 = .ok (.ifCond .le 62, 3) := by decide +kernel
theorem h_K_toss_22 : decode prog_6_method_6_code 22 = .ok (.aload_n 0, 1) := by decide +kernel
theorem h_K_toss_23 : decode prog_6_method_6_code 23 = .ok (.getfield 26, 3) := by decide +kernel
theorem h_K_toss_26 : decode prog_6_method_6_code 26 = .ok (.aload_n 0, 1) := by decide +kernel
theorem h_K_toss_27 : decode prog_6_method_6_code 27 = .ok (.getfield 62, 3) := by decide +kernel
theorem h_K_toss_30 : decode prog_6_method_6_code 30 = .ok (.iconst 1, 1) := by decide +kernel
theorem h_K_toss_31 : decode prog_6_method_6_code 31 = .ok (.isub, 1) := by decide +kernel
theorem h_K_toss_32 : decode prog_6_method_6_code 32 = .ok (.aaload, 1) := by decide +kernel
theorem h_K_toss_33 : decode prog_6_method_6_code 33 = .ok (.astore_n 2, 1) := by decide +kernel
theorem h_K_toss_34 : decode prog_6_method_6_code 34 = .ok (.aload_n 0, 1) := by decide +kernel
theorem h_K_toss_35 : decode prog_6_method_6_code 35 = .ok (.aload_n 2, 1) := by decide +kernel
theorem h_K_toss_36 : decode prog_6_method_6_code 36 = .ok (.iload_n 1, 1) := by decide +kernel
theorem h_K_toss_37 : decode prog_6_method_6_code 37 = .ok (.invokevirtual 140, 3) := by decide +kernel
theorem h_K_toss_40 : decode prog_6_method_6_code 40 = .ok (.astore_n 3, 1) := by decide +kernel
theorem h_K_toss_41 : decode prog_6_method_6_code 41 = .ok (.aload_n 3, 1) := by decide +kernel
theorem h_K_toss_42 : decode prog_6_method_6_code 42 = .ok (.ifnull 26, 3) := by decide +kernel
theorem h_K_toss_45 : decode prog_6_method_6_code 45 = .ok (.aload_n 2, 1) := by decide +kernel
theorem h_K_toss_46 : decode prog_6_method_6_code 46 = .ok (.iconst 0, 1) := by decide +kernel
theorem h_K_toss_47 : decode prog_6_method_6_code 47 = .ok (.putfield 144, 3) := by decide +kernel
theorem h_K_toss_50 : decode prog_6_method_6_code 50 = .ok (.aload_n 2, 1) := by decide +kernel
theorem h_K_toss_51 : decode prog_6_method_6_code 51 = .ok (.aload_n 0, 1) := by decide +kernel
theorem h_K_toss_52 : decode prog_6_method_6_code 52 = .ok (.getfield 131, 3) := by decide +kernel
theorem h_K_toss_55 : decode prog_6_method_6_code 55 = .ok (.i2l, 1) := by decide +kernel
theorem h_K_toss_56 : decode prog_6_method_6_code 56 = .ok (.invokevirtual 147, 3) := by decide +kernel
theorem h_K_toss_59 : decode prog_6_method_6_code 59 = .ok (.aload_n 2, 1) := by decide +kernel
theorem h_K_toss_60 : decode prog_6_method_6_code 60 = .ok (.aload_n 3, 1) := by decide +kernel
theorem h_K_toss_61 : decode prog_6_method_6_code 61 = .ok (.getfield 151, 3) := by decide +kernel
theorem h_K_toss_64 : decode prog_6_method_6_code 64 = .ok (.putfield 84, 3) := by decide +kernel
theorem h_K_toss_67 : decode prog_6_method_6_code 67 = .ok (.return_, 1) := by decide +kernel
theorem h_K_toss_68 : decode prog_6_method_6_code 68 = .ok (.aload_n 0, 1) := by decide +kernel
theorem h_K_toss_69 : decode prog_6_method_6_code 69 = .ok (.dup, 1) := by decide +kernel
theorem h_K_toss_70 : decode prog_6_method_6_code 70 = .ok (.getfield 62, 3) := by decide +kernel
theorem h_K_toss_73 : decode prog_6_method_6_code 73 = .ok (.iconst 1, 1) := by decide +kernel
theorem h_K_toss_74 : decode prog_6_method_6_code 74 = .ok (.isub, 1) := by decide +kernel
theorem h_K_toss_75 : decode prog_6_method_6_code 75 = .ok (.putfield 62, 3) := by decide +kernel
theorem h_K_toss_78 : decode prog_6_method_6_code 78 = .ok (.goto (-63), 3) := by decide +kernel
theorem h_K_toss_81 : decode prog_6_method_6_code 81 = .ok (.aload_n 0, 1) := by decide +kernel
theorem h_K_toss_82 : decode prog_6_method_6_code 82 = .ok (.iconst 1, 1) := by decide +kernel
theorem h_K_toss_83 : decode prog_6_method_6_code 83 = .ok (.putfield 30, 3) := by decide +kernel
theorem h_K_toss_86 : decode prog_6_method_6_code 86 = .ok (.aload_n 0, 1) := by decide +kernel
theorem h_K_toss_87 : decode prog_6_method_6_code 87 = .ok (.iload_n 1, 1) := by decide +kernel
theorem h_K_toss_88 : decode prog_6_method_6_code 88 = .ok (.putfield 34, 3) := by decide +kernel
theorem h_K_toss_91 : decode prog_6_method_6_code 91 = .ok (.return_, 1) := by decide +kernel
def x_K_toss_15 (a0 : Nat) (P : CST → Prop) : Nat → Int32 → CST → Prop
  | 0, _, _ => False
  | n + 1, z1, σ => σ.1 a0 = some (2, 0) ∧ ((((σ.2.1 a0 4) ≤ 0 → ∀ σ3 : CST, σ3 = sI σ a0 11 (1 : Int32) → σ3.1 a0 = some (2, 0) ∧ (∀ σ5 : CST, σ5 = sI σ3 a0 13 z1 → P σ5)) ∧ (¬ (σ.2.1 a0 4) ≤ 0 → ∀ b6 : Option Nat, b6 = (σ.2.2.2.1 a0 2) → (∃ r7 : Nat, b6 = some r7 ∧ ((∃ n9 : Nat, σ.1 r7 = some (26, n9) ∧ (vp_in ((σ.2.1 a0 4) - 1) n9 ∧ (∀ b11 : Option Nat, b11 = (σ.2.2.2.1 r7 (((σ.2.1 a0 4) - 1) : Int32).toNatClampNeg) → (∃ r12 : Nat, b11 = some r12 ∧ (x_K_handlerOf a0 r12 z1 σ (fun r14 σ13 => ((r14 = none → σ13.1 a0 = some (2, 0) ∧ (∀ σ18 : CST, σ18 = sI σ13 a0 4 ((σ13.2.1 a0 4) - 1) → x_K_toss_15 a0 P n z1 σ18)) ∧ (∀ r16 : Nat, r14 = some r16 → σ13.1 r12 = some (0, 0) ∧ (∀ σ20 : CST, σ20 = sI σ13 r12 4 (0 : Int32) → σ20.1 a0 = some (2, 0) ∧ (σ20.1 r12 = some (0, 0) ∧ (x_C_push r12 (((σ20.2.1 a0 8) : Int32).toInt64) σ20 (fun σ23 => σ23.1 r16 = some (7, 0) ∧ (σ23.1 r12 = some (0, 0) ∧ (∀ σ27 : CST, σ27 = sI σ23 r12 1 (σ23.2.1 r16 2) → P σ27)))))))))))))))))))
def x_K_toss (a0 : Nat) (σ0 : CST) (P : CST → Prop) : Prop := σ0.1 a0 = some (2, 0) ∧ (∀ b29 : Option Nat, b29 = (σ0.2.2.2.1 a0 0) → (∃ r30 : Nat, b29 = some r30 ∧ (σ0.1 r30 = some (1, 0) ∧ (x_H_typeOf r30 (σ0.2.1 a0 8) σ0 (fun r33 σ32 => (∃ n9 : Nat, x_K_toss_15 a0 P n9 (r33 - 32) σ32))))))
set_option maxHeartbeats 4000000 in
set_option maxRecDepth 100000 in
theorem X_K_toss (l : Launch) (dC : Nat → ClassId) (dI : Nat → Nat → Nat) (ca : Nat → ClassId) (H0 : Heap) (σ0 : CST) (a0 : Nat) {P : CST → Prop} (hw : x_K_toss a0 σ0 P) : Met l g_K_toss (mW g_K_toss prog_6_method_6_code 4 none) ({ frames := 4, cells := σ0.2.2.2.2.1, slots := σ0.2.2.2.2.2.1, locals := 89 } : Room) (va_Pc [.ref a0] (CPre (dC, dI) ca σ0 H0)) (va_Qv P (CB (dC, dI) ca σ0 H0) (cA σ0 H0.size)) σ0.2.2.2.2.1 σ0.2.2.2.2.2.1 (cA σ0 H0.size) := by
  refine C_ofv (by decide +kernel) rfl rfl rfl (Nat.le_of_ble_eq_true rfl) ?_
  intro p e s m below meth cx Q A ls C hnm hend hH0 h hl
  subst hH0
  have C0 := C
  obtain ⟨⟨hx, hb, hml, hown, hts⟩, hsub⟩ := C0
  obtain ⟨cells, e_cells⟩ : ∃ z : Nat, z = 0 := ⟨_, rfl⟩
  obtain ⟨slots, e_slots⟩ : ∃ z : Nat, z = 0 := ⟨_, rfl⟩
  have h : CH (dC, dI) A ca ({ frames := 4, cells := σ0.2.2.2.2.1, slots := σ0.2.2.2.2.2.1, locals := 89 } : Room) σ0.2.2.2.2.2.2 σ0 s s.heap [] cells slots := by rw [e_cells, e_slots]; exact h
  show W p l e ({ frames := 4, cells := σ0.2.2.2.2.1, slots := σ0.2.2.2.2.2.1, locals := 89 } : Room) s m ([.ref a0] : List Value).toArray below meth cx s.heap [] 0 0 Q (F0 m 0 ls [])
  rw [show W p l e ({ frames := 4, cells := σ0.2.2.2.2.1, slots := σ0.2.2.2.2.2.1, locals := 89 } : Room) s m ([.ref a0] : List Value).toArray below meth cx s.heap [] 0 0 Q (F0 m 0 ls []) = W p l e ({ frames := 4, cells := σ0.2.2.2.2.1, slots := σ0.2.2.2.2.2.1, locals := 89 } : Room) s m ([.ref a0] : List Value).toArray below meth cx s.heap [] cells slots Q (F0 m 0 ls []) by rw [e_cells, e_slots]]
  have K_15 : ∀ (n : Nat), ∀ (z1 : Int32) (σ : CST) (H : Heap) (locs : List Loc) (cells slots : Nat) (ls : Array Slot), x_K_toss_15 a0 P n z1 σ → CH (dC, dI) A ca ({ frames := 4, cells := σ0.2.2.2.2.1, slots := σ0.2.2.2.2.2.1, locals := 89 } : Room) σ0.2.2.2.2.2.2 σ s H locs cells slots → lv_has ls 4 [(0, .ref a0), (1, .int z1)] → W p l e ({ frames := 4, cells := σ0.2.2.2.2.1, slots := σ0.2.2.2.2.2.1, locals := 89 } : Room) s m ([.ref a0] : List Value).toArray below meth cx H locs cells slots Q (F0 m 15 ls []) := by
    intro  n
    induction n with
    | zero => intro z1 σ H locs cells slots ls hw h hl; unfold x_K_toss_15 at hw; exact hw.elim
    | succ n ih =>
      intro z1 σ H locs cells slots ls hw h hl
      unfold x_K_toss_15 at hw
      refine lv_aload_n hx hb h_K_toss_15 rfl (lv_at hl 0 rfl) ?_
      obtain ⟨g1, hw⟩ := hw
      refine C_get C h 2 4 (v := .int (σ.2.1 a0 4)) g1 rfl (Cn := R_K) (T := T_K) (N := 14) rfl (by decide) rfl uw_K (by decide) u_321 (fun _ q => q) h_K_toss_16 ?_
      refine lv_if_le (tgt := 81) hx hb h_K_toss_19 (by decide) (fun c2 => ?_) (fun c2 => ?_)
      · skip
        replace hw := hw.1 c2
        refine lv_aload_n hx hb h_K_toss_81 rfl (lv_at hl 0 rfl) ?_
        refine lv_iconst (v := 1) hx hb h_K_toss_82 (by decide) ?_
        refine C_puti C h 2 11 g1 (Cn := R_K) (T := T_K) (N := 14) rfl (by decide) rfl uw_K tok_K nm_K (by decide) rfl u_215 (fun _ q => q) (Or.inl rfl) (by decide +kernel) h_K_toss_83 (fun H locs h => ?_)
        obtain ⟨σ3, e_σ3⟩ : ∃ z : CST, z = sI σ a0 11 (1 : Int32) := ⟨_, rfl⟩
        rw [← e_σ3] at h
        replace hw := hw σ3 e_σ3
        refine lv_aload_n hx hb h_K_toss_86 rfl (lv_at hl 0 rfl) ?_
        refine lv_iload_n hx hb h_K_toss_87 rfl (lv_at hl 1 rfl) ?_
        obtain ⟨g4, hw⟩ := hw
        refine C_puti C h 2 13 g4 (Cn := R_K) (T := T_K) (N := 14) rfl (by decide) rfl uw_K tok_K nm_K (by decide) rfl u_216 (fun _ q => q) (Or.inl rfl) (by decide +kernel) h_K_toss_88 (fun H locs h => ?_)
        obtain ⟨σ5, e_σ5⟩ : ∃ z : CST, z = sI σ3 a0 13 z1 := ⟨_, rfl⟩
        rw [← e_σ5] at h
        replace hw := hw σ5 e_σ5
        exact hend σ5 _ _ _ _ _ _ hw h h_K_toss_91
      · skip
        replace hw := hw.2 c2
        refine lv_aload_n hx hb h_K_toss_22 rfl (lv_at hl 0 rfl) ?_
        refine C_get C h 2 2 (v := va_rf (σ.2.2.2.1 a0 2)) g1 rfl (Cn := R_K) (T := T_K) (N := 14) rfl (by decide) rfl uw_K (by decide) u_203 (fun _ q => q) h_K_toss_23 ?_
        refine lv_topq (fun b6 e_b6 => ?_)
        replace hw := hw b6 e_b6
        refine lv_aload_n hx hb h_K_toss_26 rfl (lv_at hl 0 rfl) ?_
        refine C_get C h 2 4 (v := .int (σ.2.1 a0 4)) g1 rfl (Cn := R_K) (T := T_K) (N := 14) rfl (by decide) rfl uw_K (by decide) u_321 (fun _ q => q) h_K_toss_27 ?_
        refine lv_iconst (v := 1) hx hb h_K_toss_30 (by decide) ?_
        refine lv_isub hx hb h_K_toss_31 ?_
        obtain ⟨r7, e_r7, hw⟩ := hw
        subst e_r7
        have hl : lv_has ls 4 [(0, .ref a0), (1, .int z1)] := hl
        refine W.eq (g2 := F0 m 32 ls [.int ((σ.2.1 a0 4) - 1), .ref r7]) rfl ?_
        obtain ⟨n9, g8, hw⟩ := hw
        obtain ⟨g10, hw⟩ := hw
        refine C_aald C h 26 5 rfl (by decide) g8 g10 h_K_toss_32 ?_
        refine lv_topq (fun b11 e_b11 => ?_)
        replace hw := hw b11 e_b11
        refine cq_astore_n (i := 2) (lv' := [(2, va_rf b11), (0, .ref a0), (1, .int z1)]) hx hb h_K_toss_33 rfl hl (by decide) rfl (fun ls hl => ?_)
        refine lv_aload_n hx hb h_K_toss_34 rfl (lv_at hl 1 rfl) ?_
        refine cq_aload_n hx hb h_K_toss_35 rfl (lv_at hl 0 rfl) ?_
        refine lv_iload_n hx hb h_K_toss_36 rfl (lv_at hl 2 rfl) ?_
        obtain ⟨r12, e_r12, hw⟩ := hw
        subst e_r12
        have hl : lv_has ls 4 [(2, .ref r12), (0, .ref a0), (1, .int z1)] := hl
        refine W.eq (g2 := F0 m 37 ls [.int z1, .ref r12, .ref a0]) rfl ?_
        refine C_callVq (As := [.ref r12, .int z1]) (rest := []) C h (ci := 2) (Cn := R_K) (T := T_K) (N := 14) g1 rfl (by decide) (X_K_handlerOf l dC dI ca H σ a0 r12 z1 hw) (cwV 2 hts (gV hsub u_439 u_440 u_441 u_260 u_442) rfl rfl rfl (by decide +kernel) ⟨(Nat.le_of_ble_eq_true rfl), (Nat.le_of_ble_eq_true rfl)⟩) rfl hl.1 (Nat.le_of_ble_eq_true rfl) h_K_toss_37 (fun r14 σ13 H locs cells slots hw9 h9 => ?_)
        clear hw h; have hw := hw9; have h := h9; clear hw9 h9
        refine W.eq (g2 := F0 m 40 ls [va_rf r14]) rfl ?_
        refine cq_astore_n (i := 3) (lv' := [(3, va_rf r14), (2, .ref r12), (0, .ref a0), (1, .int z1)]) hx hb h_K_toss_40 rfl hl (by decide) rfl (fun ls hl => ?_)
        refine cq_aload_n hx hb h_K_toss_41 rfl (lv_at hl 0 rfl) ?_
        rcases cq_or r14 with c15 | ⟨r16, c15⟩
        · subst c15
          replace hw := hw.1 rfl
          have hl : lv_has ls 4 [(3, .null), (2, .ref r12), (0, .ref a0), (1, .int z1)] := hl
          refine W.eq (g2 := F0 m 42 ls [.null]) rfl ?_
          refine lv_ifnullN (tgt := 68) hx hb h_K_toss_42 (by decide) ?_
          refine lv_aload_n hx hb h_K_toss_68 rfl (lv_at hl 2 rfl) ?_
          refine lv_dup hx hb h_K_toss_69 rfl ?_
          obtain ⟨g17, hw⟩ := hw
          refine C_get C h 2 4 (v := .int (σ13.2.1 a0 4)) g17 rfl (Cn := R_K) (T := T_K) (N := 14) rfl (by decide) rfl uw_K (by decide) u_321 (fun _ q => q) h_K_toss_70 ?_
          refine lv_iconst (v := 1) hx hb h_K_toss_73 (by decide) ?_
          refine lv_isub hx hb h_K_toss_74 ?_
          refine C_puti C h 2 4 g17 (Cn := R_K) (T := T_K) (N := 14) rfl (by decide) rfl uw_K tok_K nm_K (by decide) rfl u_321 (fun _ q => q) (Or.inl rfl) (by decide +kernel) h_K_toss_75 (fun H locs h => ?_)
          obtain ⟨σ18, e_σ18⟩ : ∃ z : CST, z = sI σ13 a0 4 ((σ13.2.1 a0 4) - 1) := ⟨_, rfl⟩
          rw [← e_σ18] at h
          replace hw := hw σ18 e_σ18
          refine lv_goto (tgt := 15) hx hb h_K_toss_78 (by decide) ?_
          exact ih z1 σ18 _ _ _ _ _ hw h (lv_sub hl [2, 3] rfl)
        · subst c15
          replace hw := hw.2 r16 rfl
          have hl : lv_has ls 4 [(3, .ref r16), (2, .ref r12), (0, .ref a0), (1, .int z1)] := hl
          refine W.eq (g2 := F0 m 42 ls [.ref r16]) rfl ?_
          refine lv_ifnull hx hb h_K_toss_42 ?_
          refine lv_aload_n hx hb h_K_toss_45 rfl (lv_at hl 1 rfl) ?_
          refine lv_iconst (v := 0) hx hb h_K_toss_46 (by decide) ?_
          obtain ⟨g19, hw⟩ := hw
          refine C_puti C h 0 4 g19 (Cn := R_C) (T := T_C) (N := 5) rfl (by decide) rfl uw_C tok_C nm_C (by decide) rfl u_443 (fun _ q => q) (Or.inl rfl) (by decide +kernel) h_K_toss_47 (fun H locs h => ?_)
          obtain ⟨σ20, e_σ20⟩ : ∃ z : CST, z = sI σ13 r12 4 (0 : Int32) := ⟨_, rfl⟩
          rw [← e_σ20] at h
          replace hw := hw σ20 e_σ20
          refine lv_aload_n hx hb h_K_toss_50 rfl (lv_at hl 1 rfl) ?_
          refine lv_aload_n hx hb h_K_toss_51 rfl (lv_at hl 2 rfl) ?_
          obtain ⟨g21, hw⟩ := hw
          refine C_get C h 2 8 (v := .int (σ20.2.1 a0 8)) g21 rfl (Cn := R_K) (T := T_K) (N := 14) rfl (by decide) rfl uw_K (by decide) u_370 (fun _ q => q) h_K_toss_52 ?_
          refine lv_i2l (v := ((σ20.2.1 a0 8) : Int32).toInt64) hx hb h_K_toss_55 rfl ?_
          obtain ⟨g22, hw⟩ := hw
          refine C_callVv (As := [.long (((σ20.2.1 a0 8) : Int32).toInt64)]) (rest := []) C h (ci := 0) (Cn := R_C) (T := T_C) (N := 5) g22 rfl (by decide) (X_C_push l dC dI ca H σ20 r12 (((σ20.2.1 a0 8) : Int32).toInt64) hw) (cwV 1 hts (gV hsub u_232 u_10 u_11 u_12 u_13) rfl rfl rfl (by decide +kernel) ⟨(Nat.le_of_ble_eq_true rfl), (Nat.le_of_ble_eq_true rfl)⟩) rfl hl.1 (Nat.le_of_ble_eq_true rfl) h_K_toss_56 (fun σ23 H locs cells slots hw9 h9 => ?_)
          clear hw h; have hw := hw9; have h := h9; clear hw9 h9
          refine W.eq (g2 := F0 m 59 ls []) rfl ?_
          refine lv_aload_n hx hb h_K_toss_59 rfl (lv_at hl 1 rfl) ?_
          refine lv_aload_n hx hb h_K_toss_60 rfl (lv_at hl 0 rfl) ?_
          obtain ⟨g25, hw⟩ := hw
          refine C_get C h 7 2 (v := .int (σ23.2.1 r16 2)) g25 rfl (Cn := R_Ha) (T := T_Ha) (N := 4) rfl (by decide) rfl uw_Ha (by decide) u_444 (fun _ q => q) h_K_toss_61 ?_
          obtain ⟨g26, hw⟩ := hw
          refine C_puti C h 0 1 g26 (Cn := R_C) (T := T_C) (N := 5) rfl (by decide) rfl uw_C tok_C nm_C (by decide) rfl u_237 (fun _ q => q) (Or.inl rfl) (by decide +kernel) h_K_toss_64 (fun H locs h => ?_)
          obtain ⟨σ27, e_σ27⟩ : ∃ z : CST, z = sI σ23 r12 1 (σ23.2.1 r16 2) := ⟨_, rfl⟩
          rw [← e_σ27] at h
          replace hw := hw σ27 e_σ27
          exact hend σ27 _ _ _ _ _ _ hw h h_K_toss_67
  have hl : lv_has ls 4 [(0, .ref a0)] := hl
  unfold x_K_toss at hw
  refine lv_aload_n hx hb h_K_toss_0 rfl (lv_at hl 0 rfl) ?_
  obtain ⟨g28, hw⟩ := hw
  refine C_get C h 2 0 (v := va_rf (σ0.2.2.2.1 a0 0)) g28 rfl (Cn := R_K) (T := T_K) (N := 14) rfl (by decide) rfl uw_K (by decide) u_213 (fun _ q => q) h_K_toss_1 ?_
  refine lv_topq (fun b29 e_b29 => ?_)
  replace hw := hw b29 e_b29
  refine lv_aload_n hx hb h_K_toss_4 rfl (lv_at hl 0 rfl) ?_
  refine C_get C h 2 8 (v := .int (σ0.2.1 a0 8)) g28 rfl (Cn := R_K) (T := T_K) (N := 14) rfl (by decide) rfl uw_K (by decide) u_370 (fun _ q => q) h_K_toss_5 ?_
  obtain ⟨r30, e_r30, hw⟩ := hw
  subst e_r30
  have hl : lv_has ls 4 [(0, .ref a0)] := hl
  refine W.eq (g2 := F0 m 8 ls [.int (σ0.2.1 a0 8), .ref r30]) rfl ?_
  obtain ⟨g31, hw⟩ := hw
  refine C_callVi (As := [.int (σ0.2.1 a0 8)]) (rest := []) C h (ci := 1) (Cn := R_H) (T := T_H) (N := 4) g31 rfl (by decide) (X_H_typeOf l dC dI ca s.heap σ0 r30 (σ0.2.1 a0 8) hw) (cwV 1 hts (gV hsub u_283 u_284 u_285 u_197 u_286) rfl rfl rfl (by decide +kernel) ⟨(Nat.le_of_ble_eq_true rfl), (Nat.le_of_ble_eq_true rfl)⟩) rfl hl.1 (Nat.le_of_ble_eq_true rfl) h_K_toss_8 (fun r33 σ32 H locs cells slots hw9 h9 => ?_)
  clear hw h; have hw := hw9; have h := h9; clear hw9 h9
  refine W.eq (g2 := F0 m 11 ls [.int r33]) rfl ?_
  refine lv_bipush (v := 32) hx hb h_K_toss_11 (by decide) ?_
  refine lv_isub hx hb h_K_toss_13 ?_
  refine lv_istore_n (i := 1) (lv' := [(1, .int (r33 - 32)), (0, .ref a0)]) hx hb h_K_toss_14 rfl hl (by decide) rfl (fun ls hl => ?_)
  obtain ⟨n9, hw⟩ := hw
  exact K_15 n9 (r33 - 32) σ32 _ _ _ _ _ hw h (lv_sub hl [1, 0] rfl)
abbrev g_K_settle : MethodName := ⟨"MapFramer$Machine", "settle", "()V"⟩
theorem u_445 : (Cond.methodLink "MapFramer$Machine" 134 ⟨"MapFramer$Machine", "toss", "()V"⟩ : Cond) ∈ bigW := inB_8 34 (by decide +kernel) rfl
theorem u_446 : (Cond.instanceMethod ⟨"MapFramer$Machine", "toss", "()V"⟩ : Cond) ∈ bigW := inB_8 36 (by decide +kernel) rfl
theorem u_447 : (Cond.selects "MapFramer$Machine" ⟨"MapFramer$Machine", "toss", "()V"⟩ ⟨"MapFramer$Machine", "toss", "()V"⟩ : Cond) ∈ bigW := inS (y := ⟨"MapFramer$Machine", "toss", "()V"⟩) (n := 14) (List.mem_of_getElem? (i := 76) (by decide +kernel))
theorem u_448 : (Cond.code ⟨"MapFramer$Machine", "toss", "()V"⟩ prog_6_method_6_code 4 none : Cond) ∈ bigW := inB_8 37 rfl rfl
theorem h_K_settle_0 : decode prog_6_method_5_code 0 = .ok (.aload_n 0, 1) := by decide +kernel
theorem h_K_settle_1 : decode prog_6_method_5_code 1 = .ok (.getfield 123, 3) := by decide +kernel
theorem h_K_settle_4 : decode prog_6_method_5_code 4 = .ok (.ifCond .eq 30, 3) := by decide +kernel
theorem h_K_settle_7 : decode prog_6_method_5_code 7 = .ok (.aload_n 0, 1) := by decide +kernel
theorem h_K_settle_8 : decode prog_6_method_5_code 8 = .ok (.aload_n 0, 1) := by decide +kernel
theorem h_K_settle_9 : decode prog_6_method_5_code 9 = .ok (.getfield 12, 3) := by decide +kernel
theorem h_K_settle_12 : decode prog_6_method_5_code 12 = .ok (.bipush 33, 2) := by decide +kernel
theorem h_K_settle_14 : decode prog_6_method_5_code 14 = .ok (.bipush 16, 2) := by decide +kernel
theorem h_K_settle_16 : decode prog_6_method_5_code 16 = .ok (.invokevirtual 127, 3) := by decide +kernel
theorem h_K_settle_19 : decode prog_6_method_5_code 19 = .ok (.putfield 131, 3) := by decide +kernel
theorem h_K_settle_22 : decode prog_6_method_5_code 22 = .ok (.aload_n 0, 1) := by decide +kernel
theorem h_K_settle_23 : decode prog_6_method_5_code 23 = .ok (.getfield 131, 3) := by decide +kernel
theorem h_K_settle_26 : decode prog_6_method_5_code 26 = .ok (.ifCond .ne 8, 3) := by decide +kernel
theorem h_K_settle_29 : decode prog_6_method_5_code 29 = .ok (.aload_n 0, 1) := by decide +kernel
theorem h_K_settle_30 : decode prog_6_method_5_code 30 = .ok (.iconst 4, 1) := by decide +kernel
theorem h_K_settle_31 : decode prog_6_method_5_code 31 = .ok (.putfield 30, 3) := by decide +kernel
theorem h_K_settle_34 : decode prog_6_method_5_code 34 = .ok (.aload_n 0, 1) := by decide +kernel
theorem h_K_settle_35 : decode prog_6_method_5_code 35 = .ok (.getfield 131, 3) := by decide +kernel
theorem h_K_settle_38 : decode prog_6_method_5_code 38 = .ok (.ifCond .eq 10, 3) := by decide +kernel
theorem h_K_settle_41 : decode prog_6_method_5_code 41 = .ok (.aload_n 0, 1) := by decide +kernel
theorem h_K_settle_42 : decode prog_6_method_5_code 42 = .ok (.invokevirtual 134, 3) := by decide +kernel
theorem h_K_settle_45 : decode prog_6_method_5_code 45 = .ok (.goto 14, 3) := by decide +kernel
theorem h_K_settle_48 : decode prog_6_method_5_code 48 = .ok (.aload_n 0, 1) := by decide +kernel
theorem h_K_settle_49 : decode prog_6_method_5_code 49 = .ok (.getfield 76, 3) := by decide +kernel
theorem h_K_settle_52 : decode prog_6_method_5_code 52 = .ok (.aload_n 0, 1) := by decide +kernel
theorem h_K_settle_53 : decode prog_6_method_5_code 53 = .ok (.getfield 137, 3) := by decide +kernel
theorem h_K_settle_56 : decode prog_6_method_5_code 56 = .ok (.putfield 84, 3) := by decide +kernel
theorem h_K_settle_59 : decode prog_6_method_5_code 59 = .ok (.return_, 1) := by decide +kernel
def x_K_settle_34 (a0 : Nat) (P : CST → Prop) (σ : CST) : Prop := σ.1 a0 = some (2, 0) ∧ ((((σ.2.1 a0 8) = 0 → ∀ b3 : Option Nat, b3 = (σ.2.2.2.1 a0 5) → (∃ r4 : Nat, b3 = some r4 ∧ (σ.1 r4 = some (0, 0) ∧ (∀ σ6 : CST, σ6 = sI σ r4 1 (σ.2.1 a0 6) → P σ6)))) ∧ (¬ (σ.2.1 a0 8) = 0 → x_K_toss a0 σ (fun σ7 => P σ7))))
def x_K_settle (a0 : Nat) (σ0 : CST) (P : CST → Prop) : Prop := σ0.1 a0 = some (2, 0) ∧ ((((σ0.2.1 a0 7) = 0 → x_K_settle_34 a0 P σ0) ∧ (¬ (σ0.2.1 a0 7) = 0 → ∀ b11 : Option Nat, b11 = (σ0.2.2.2.1 a0 0) → (∃ r12 : Nat, b11 = some r12 ∧ (σ0.1 r12 = some (1, 0) ∧ (x_H_make r12 (33 : Int32) (16 : Int32) σ0 (fun r15 σ14 => σ14.1 a0 = some (2, 0) ∧ (∀ σ17 : CST, σ17 = sI σ14 a0 8 r15 → σ17.1 a0 = some (2, 0) ∧ ((((σ17.2.1 a0 8) = 0 → ∀ σ20 : CST, σ20 = sI σ17 a0 11 (4 : Int32) → x_K_settle_34 a0 P σ20) ∧ (¬ (σ17.2.1 a0 8) = 0 → x_K_settle_34 a0 P σ17)))))))))))
set_option maxHeartbeats 4000000 in
set_option maxRecDepth 100000 in
theorem X_K_settle (l : Launch) (dC : Nat → ClassId) (dI : Nat → Nat → Nat) (ca : Nat → ClassId) (H0 : Heap) (σ0 : CST) (a0 : Nat) {P : CST → Prop} (hw : x_K_settle a0 σ0 P) : Met l g_K_settle (mW g_K_settle prog_6_method_5_code 1 none) ({ frames := 5, cells := σ0.2.2.2.2.1, slots := σ0.2.2.2.2.2.1, locals := 112 } : Room) (va_Pc [.ref a0] (CPre (dC, dI) ca σ0 H0)) (va_Qv P (CB (dC, dI) ca σ0 H0) (cA σ0 H0.size)) σ0.2.2.2.2.1 σ0.2.2.2.2.2.1 (cA σ0 H0.size) := by
  refine C_ofv (by decide +kernel) rfl rfl rfl (Nat.le_of_ble_eq_true rfl) ?_
  intro p e s m below meth cx Q A ls C hnm hend hH0 h hl
  subst hH0
  have C0 := C
  obtain ⟨⟨hx, hb, hml, hown, hts⟩, hsub⟩ := C0
  obtain ⟨cells, e_cells⟩ : ∃ z : Nat, z = 0 := ⟨_, rfl⟩
  obtain ⟨slots, e_slots⟩ : ∃ z : Nat, z = 0 := ⟨_, rfl⟩
  have h : CH (dC, dI) A ca ({ frames := 5, cells := σ0.2.2.2.2.1, slots := σ0.2.2.2.2.2.1, locals := 112 } : Room) σ0.2.2.2.2.2.2 σ0 s s.heap [] cells slots := by rw [e_cells, e_slots]; exact h
  show W p l e ({ frames := 5, cells := σ0.2.2.2.2.1, slots := σ0.2.2.2.2.2.1, locals := 112 } : Room) s m ([.ref a0] : List Value).toArray below meth cx s.heap [] 0 0 Q (F0 m 0 ls [])
  rw [show W p l e ({ frames := 5, cells := σ0.2.2.2.2.1, slots := σ0.2.2.2.2.2.1, locals := 112 } : Room) s m ([.ref a0] : List Value).toArray below meth cx s.heap [] 0 0 Q (F0 m 0 ls []) = W p l e ({ frames := 5, cells := σ0.2.2.2.2.1, slots := σ0.2.2.2.2.2.1, locals := 112 } : Room) s m ([.ref a0] : List Value).toArray below meth cx s.heap [] cells slots Q (F0 m 0 ls []) by rw [e_cells, e_slots]]
  have K_34 : ∀ (u9 : Unit), ∀ (σ : CST) (H : Heap) (locs : List Loc) (cells slots : Nat) (ls : Array Slot), x_K_settle_34 a0 P σ → CH (dC, dI) A ca ({ frames := 5, cells := σ0.2.2.2.2.1, slots := σ0.2.2.2.2.2.1, locals := 112 } : Room) σ0.2.2.2.2.2.2 σ s H locs cells slots → lv_has ls 1 [(0, .ref a0)] → W p l e ({ frames := 5, cells := σ0.2.2.2.2.1, slots := σ0.2.2.2.2.2.1, locals := 112 } : Room) s m ([.ref a0] : List Value).toArray below meth cx H locs cells slots Q (F0 m 34 ls []) := by
    intro u9  σ H locs cells slots ls hw h hl
    unfold x_K_settle_34 at hw
    refine lv_aload_n hx hb h_K_settle_34 rfl (lv_at hl 0 rfl) ?_
    obtain ⟨g1, hw⟩ := hw
    refine C_get C h 2 8 (v := .int (σ.2.1 a0 8)) g1 rfl (Cn := R_K) (T := T_K) (N := 14) rfl (by decide) rfl uw_K (by decide) u_370 (fun _ q => q) h_K_settle_35 ?_
    refine lv_if_eq (tgt := 48) hx hb h_K_settle_38 (by decide) (fun c2 => ?_) (fun c2 => ?_)
    · skip
      replace hw := hw.1 c2
      refine lv_aload_n hx hb h_K_settle_48 rfl (lv_at hl 0 rfl) ?_
      refine C_get C h 2 5 (v := va_rf (σ.2.2.2.1 a0 5)) g1 rfl (Cn := R_K) (T := T_K) (N := 14) rfl (by decide) rfl uw_K (by decide) u_231 (fun _ q => q) h_K_settle_49 ?_
      refine lv_topq (fun b3 e_b3 => ?_)
      replace hw := hw b3 e_b3
      refine lv_aload_n hx hb h_K_settle_52 rfl (lv_at hl 0 rfl) ?_
      refine C_get C h 2 6 (v := .int (σ.2.1 a0 6)) g1 rfl (Cn := R_K) (T := T_K) (N := 14) rfl (by decide) rfl uw_K (by decide) u_316 (fun _ q => q) h_K_settle_53 ?_
      obtain ⟨r4, e_r4, hw⟩ := hw
      subst e_r4
      have hl : lv_has ls 1 [(0, .ref a0)] := hl
      refine W.eq (g2 := F0 m 56 ls [.int (σ.2.1 a0 6), .ref r4]) rfl ?_
      obtain ⟨g5, hw⟩ := hw
      refine C_puti C h 0 1 g5 (Cn := R_C) (T := T_C) (N := 5) rfl (by decide) rfl uw_C tok_C nm_C (by decide) rfl u_237 (fun _ q => q) (Or.inl rfl) (by decide +kernel) h_K_settle_56 (fun H locs h => ?_)
      obtain ⟨σ6, e_σ6⟩ : ∃ z : CST, z = sI σ r4 1 (σ.2.1 a0 6) := ⟨_, rfl⟩
      rw [← e_σ6] at h
      replace hw := hw σ6 e_σ6
      exact hend σ6 _ _ _ _ _ _ hw h h_K_settle_59
    · skip
      replace hw := hw.2 c2
      refine lv_aload_n hx hb h_K_settle_41 rfl (lv_at hl 0 rfl) ?_
      refine C_callVv (As := []) (rest := []) C h (ci := 2) (Cn := R_K) (T := T_K) (N := 14) g1 rfl (by decide) (X_K_toss l dC dI ca H σ a0 hw) (cwV 0 hts (gV hsub u_445 u_446 u_447 u_260 u_448) rfl rfl rfl (by decide +kernel) ⟨(Nat.le_of_ble_eq_true rfl), (Nat.le_of_ble_eq_true rfl)⟩) rfl hl.1 (Nat.le_of_ble_eq_true rfl) h_K_settle_42 (fun σ7 H locs cells slots hw9 h9 => ?_)
      clear hw h; have hw := hw9; have h := h9; clear hw9 h9
      refine W.eq (g2 := F0 m 45 ls []) rfl ?_
      refine lv_goto (tgt := 59) hx hb h_K_settle_45 (by decide) ?_
      exact hend σ7 _ _ _ _ _ _ hw h h_K_settle_59
  have hl : lv_has ls 1 [(0, .ref a0)] := hl
  unfold x_K_settle at hw
  refine lv_aload_n hx hb h_K_settle_0 rfl (lv_at hl 0 rfl) ?_
  obtain ⟨g9, hw⟩ := hw
  refine C_get C h 2 7 (v := .int (σ0.2.1 a0 7)) g9 rfl (Cn := R_K) (T := T_K) (N := 14) rfl (by decide) rfl uw_K (by decide) u_255 (fun _ q => q) h_K_settle_1 ?_
  refine lv_if_eq (tgt := 34) hx hb h_K_settle_4 (by decide) (fun c10 => ?_) (fun c10 => ?_)
  · skip
    replace hw := hw.1 c10
    exact K_34 () σ0 _ _ _ _ _ hw h (lv_sub hl [0] rfl)
  · skip
    replace hw := hw.2 c10
    refine lv_aload_n hx hb h_K_settle_7 rfl (lv_at hl 0 rfl) ?_
    refine lv_aload_n hx hb h_K_settle_8 rfl (lv_at hl 0 rfl) ?_
    refine C_get C h 2 0 (v := va_rf (σ0.2.2.2.1 a0 0)) g9 rfl (Cn := R_K) (T := T_K) (N := 14) rfl (by decide) rfl uw_K (by decide) u_213 (fun _ q => q) h_K_settle_9 ?_
    refine lv_topq (fun b11 e_b11 => ?_)
    replace hw := hw b11 e_b11
    refine lv_bipush (v := 33) hx hb h_K_settle_12 (by decide) ?_
    refine lv_bipush (v := 16) hx hb h_K_settle_14 (by decide) ?_
    obtain ⟨r12, e_r12, hw⟩ := hw
    subst e_r12
    have hl : lv_has ls 1 [(0, .ref a0)] := hl
    refine W.eq (g2 := F0 m 16 ls [.int 16, .int 33, .ref r12, .ref a0]) rfl ?_
    obtain ⟨g13, hw⟩ := hw
    refine C_callVi (As := [.int 33, .int 16]) (rest := [.ref a0]) C h (ci := 1) (Cn := R_H) (T := T_H) (N := 4) g13 rfl (by decide) (X_H_make l dC dI ca s.heap σ0 r12 (33 : Int32) (16 : Int32) hw) (cwV 2 hts (gV hsub u_353 u_354 u_355 u_197 u_356) rfl rfl rfl (by decide +kernel) ⟨(Nat.le_of_ble_eq_true rfl), (Nat.le_of_ble_eq_true rfl)⟩) rfl hl.1 (Nat.le_of_ble_eq_true rfl) h_K_settle_16 (fun r15 σ14 H locs cells slots hw9 h9 => ?_)
    clear hw h; have hw := hw9; have h := h9; clear hw9 h9
    refine W.eq (g2 := F0 m 19 ls [.int r15, .ref a0]) rfl ?_
    obtain ⟨g16, hw⟩ := hw
    refine C_puti C h 2 8 g16 (Cn := R_K) (T := T_K) (N := 14) rfl (by decide) rfl uw_K tok_K nm_K (by decide) rfl u_370 (fun _ q => q) (Or.inl rfl) (by decide +kernel) h_K_settle_19 (fun H locs h => ?_)
    obtain ⟨σ17, e_σ17⟩ : ∃ z : CST, z = sI σ14 a0 8 r15 := ⟨_, rfl⟩
    rw [← e_σ17] at h
    replace hw := hw σ17 e_σ17
    refine lv_aload_n hx hb h_K_settle_22 rfl (lv_at hl 0 rfl) ?_
    obtain ⟨g18, hw⟩ := hw
    refine C_get C h 2 8 (v := .int (σ17.2.1 a0 8)) g18 rfl (Cn := R_K) (T := T_K) (N := 14) rfl (by decide) rfl uw_K (by decide) u_370 (fun _ q => q) h_K_settle_23 ?_
    refine lv_if_ne (tgt := 34) hx hb h_K_settle_26 (by decide) (fun c19 => ?_) (fun c19 => ?_)
    · skip
      replace hw := hw.2 c19
      exact K_34 () σ17 _ _ _ _ _ hw h (lv_sub hl [0] rfl)
    · skip
      replace hw := hw.1 c19
      refine lv_aload_n hx hb h_K_settle_29 rfl (lv_at hl 0 rfl) ?_
      refine lv_iconst (v := 4) hx hb h_K_settle_30 (by decide) ?_
      refine C_puti C h 2 11 g18 (Cn := R_K) (T := T_K) (N := 14) rfl (by decide) rfl uw_K tok_K nm_K (by decide) rfl u_215 (fun _ q => q) (Or.inl rfl) (by decide +kernel) h_K_settle_31 (fun H locs h => ?_)
      obtain ⟨σ20, e_σ20⟩ : ∃ z : CST, z = sI σ17 a0 11 (4 : Int32) := ⟨_, rfl⟩
      rw [← e_σ20] at h
      replace hw := hw σ20 e_σ20
      exact K_34 () σ20 _ _ _ _ _ hw h (lv_sub hl [0] rfl)
abbrev g_K_execute : MethodName := ⟨"MapFramer$Machine", "execute", "(LMapFramer$World;LMapFramer$Method;JJI)V"⟩
theorem u_449 : (Cond.fieldLink "MapFramer$Machine" 73 "MapFramer$Machine" "used" "I" : Cond) ∈ bigW := inB_1 157 (by decide +kernel) rfl
theorem u_450 : (Cond.methodLink "MapFramer$Machine" 91 ⟨"MapFramer$Machine", "step", "(I)V"⟩ : Cond) ∈ bigW := inB_7 107 (by decide +kernel) rfl
theorem u_451 : (Cond.instanceMethod ⟨"MapFramer$Machine", "step", "(I)V"⟩ : Cond) ∈ bigW := inB_7 109 (by decide +kernel) rfl
theorem u_452 : (Cond.selects "MapFramer$Machine" ⟨"MapFramer$Machine", "step", "(I)V"⟩ ⟨"MapFramer$Machine", "step", "(I)V"⟩ : Cond) ∈ bigW := inS (y := ⟨"MapFramer$Machine", "step", "(I)V"⟩) (n := 14) (List.mem_of_getElem? (i := 53) (by decide +kernel))
theorem u_453 : (Cond.code ⟨"MapFramer$Machine", "step", "(I)V"⟩ prog_6_method_9_code 2 none : Cond) ∈ bigW := inB_7 110 rfl rfl
theorem u_454 : (Cond.methodLink "MapFramer$Machine" 95 ⟨"MapFramer$Machine", "settle", "()V"⟩ : Cond) ∈ bigW := inB_8 30 (by decide +kernel) rfl
theorem u_455 : (Cond.instanceMethod ⟨"MapFramer$Machine", "settle", "()V"⟩ : Cond) ∈ bigW := inB_8 32 (by decide +kernel) rfl
theorem u_456 : (Cond.selects "MapFramer$Machine" ⟨"MapFramer$Machine", "settle", "()V"⟩ ⟨"MapFramer$Machine", "settle", "()V"⟩ : Cond) ∈ bigW := inS (y := ⟨"MapFramer$Machine", "settle", "()V"⟩) (n := 14) (List.mem_of_getElem? (i := 75) (by decide +kernel))
theorem u_457 : (Cond.code ⟨"MapFramer$Machine", "settle", "()V"⟩ prog_6_method_5_code 1 none : Cond) ∈ bigW := inB_8 33 rfl rfl
theorem u_458 : (Cond.fieldLink "MapFramer$Machine" 42 "MapFramer$Heap" "made" "I" : Cond) ∈ bigW := inB_1 105 (by decide +kernel) rfl
theorem u_459 : (Cond.methodLink "MapFramer$Machine" 45 ⟨"java/util/Arrays", "fill", "([JJ)V"⟩ : Cond) ∈ bigW := inB_7 91 (by decide +kernel) rfl
theorem u_460 : (Cond.static ⟨"java/util/Arrays", "fill", "([JJ)V"⟩ : Cond) ∈ bigW := inB_7 92 (by decide +kernel) rfl
theorem u_461 : (Cond.code ⟨"java/util/Arrays", "fill", "([JJ)V"⟩ prog_37_method_101_code 5 none : Cond) ∈ bigW := inB_7 93 rfl rfl
theorem u_462 : (Cond.fieldLink "MapFramer$Machine" 56 "MapFramer$Machine" "resultType" "I" : Cond) ∈ bigW := inB_1 153 (by decide +kernel) rfl
theorem u_463 : (Cond.methodLink "MapFramer$Machine" 69 ⟨"MapFramer$Machine", "setArguments", "(LMapFramer$Call;JJ)V"⟩ : Cond) ∈ bigW := inB_7 98 (by decide +kernel) rfl
theorem u_464 : (Cond.static ⟨"MapFramer$Machine", "setArguments", "(LMapFramer$Call;JJ)V"⟩ : Cond) ∈ bigW := inB_7 99 (by decide +kernel) rfl
theorem u_465 : (Cond.code ⟨"MapFramer$Machine", "setArguments", "(LMapFramer$Call;JJ)V"⟩ prog_6_method_3_code 10 none : Cond) ∈ bigW := inB_7 100 rfl rfl
theorem h_K_execute_0 : decode prog_6_method_2_code 0 = .ok (.aload_n 0, 1) := by decide +kernel
theorem h_K_execute_1 : decode prog_6_method_2_code 1 = .ok (.aload_n 1, 1) := by decide +kernel
theorem h_K_execute_2 : decode prog_6_method_2_code 2 = .ok (.putfield 38, 3) := by decide +kernel
theorem h_K_execute_5 : decode prog_6_method_2_code 5 = .ok (.aload_n 0, 1) := by decide +kernel
theorem h_K_execute_6 : decode prog_6_method_2_code 6 = .ok (.getfield 12, 3) := by decide +kernel
theorem h_K_execute_9 : decode prog_6_method_2_code 9 = .ok (.iconst 0, 1) := by decide +kernel
theorem h_K_execute_10 : decode prog_6_method_2_code 10 = .ok (.putfield 42, 3) := by decide +kernel
theorem h_K_execute_13 : decode prog_6_method_2_code 13 = .ok (.aload_n 0, 1) := by decide +kernel
theorem h_K_execute_14 : decode prog_6_method_2_code 14 = .ok (.getfield 20, 3) := by decide +kernel
theorem h_K_execute_17 : decode prog_6_method_2_code 17 = .ok (.lconst 0, 1) := by decide +kernel
theorem h_K_execute_18 : decode prog_6_method_2_code 18 = .ok (.invokestatic 45, 3) := by decide +kernel
theorem h_K_execute_21 : decode prog_6_method_2_code 21 = .ok (.aload_n 0, 1) := by decide +kernel
theorem h_K_execute_22 : decode prog_6_method_2_code 22 = .ok (.aload_n 2, 1) := by decide +kernel
theorem h_K_execute_23 : decode prog_6_method_2_code 23 = .ok (.getfield 51, 3) := by decide +kernel
theorem h_K_execute_26 : decode prog_6_method_2_code 26 = .ok (.putfield 56, 3) := by decide +kernel
theorem h_K_execute_29 : decode prog_6_method_2_code 29 = .ok (.aload_n 0, 1) := by decide +kernel
theorem h_K_execute_30 : decode prog_6_method_2_code 30 = .ok (.lconst 0, 1) := by decide +kernel
theorem h_K_execute_31 : decode prog_6_method_2_code 31 = .ok (.putfield 59, 3) := by decide +kernel
theorem h_K_execute_34 : decode prog_6_method_2_code 34 = .ok (.aload_n 0, 1) := by decide +kernel
theorem h_K_execute_35 : decode prog_6_method_2_code 35 = .ok (.iconst (-1), 1) := by decide +kernel
theorem h_K_execute_36 : decode prog_6_method_2_code 36 = .ok (.putfield 34, 3) := by decide +kernel
theorem h_K_execute_39 : decode prog_6_method_2_code 39 = .ok (.aload_n 0, 1) := by decide +kernel
theorem h_K_execute_40 : decode prog_6_method_2_code 40 = .ok (.bipush (-2), 2) := by decide +kernel
theorem h_K_execute_42 : decode prog_6_method_2_code 42 = .ok (.putfield 30, 3) := by decide +kernel
theorem h_K_execute_45 : decode prog_6_method_2_code 45 = .ok (.aload_n 0, 1) := by decide +kernel
theorem h_K_execute_46 : decode prog_6_method_2_code 46 = .ok (.iconst 1, 1) := by decide +kernel
theorem h_K_execute_47 : decode prog_6_method_2_code 47 = .ok (.putfield 62, 3) := by decide +kernel
theorem h_K_execute_50 : decode prog_6_method_2_code 50 = .ok (.aload_n 0, 1) := by decide +kernel
theorem h_K_execute_51 : decode prog_6_method_2_code 51 = .ok (.getfield 26, 3) := by decide +kernel
theorem h_K_execute_54 : decode prog_6_method_2_code 54 = .ok (.iconst 0, 1) := by decide +kernel
theorem h_K_execute_55 : decode prog_6_method_2_code 55 = .ok (.aaload, 1) := by decide +kernel
theorem h_K_execute_56 : decode prog_6_method_2_code 56 = .ok (.aload_n 2, 1) := by decide +kernel
theorem h_K_execute_57 : decode prog_6_method_2_code 57 = .ok (.invokevirtual 65, 3) := by decide +kernel
theorem h_K_execute_60 : decode prog_6_method_2_code 60 = .ok (.aload_n 0, 1) := by decide +kernel
theorem h_K_execute_61 : decode prog_6_method_2_code 61 = .ok (.getfield 26, 3) := by decide +kernel
theorem h_K_execute_64 : decode prog_6_method_2_code 64 = .ok (.iconst 0, 1) := by decide +kernel
theorem h_K_execute_65 : decode prog_6_method_2_code 65 = .ok (.aaload, 1) := by decide +kernel
theorem h_K_execute_66 : decode prog_6_method_2_code 66 = .ok (.lload_n 3, 1) := by decide +kernel
theorem h_K_execute_67 : decode prog_6_method_2_code 67 = .ok (.lload 5, 2) := by decide +kernel
theorem h_K_execute_69 : decode prog_6_method_2_code 69 = .ok (.invokestatic 69, 3) := by decide +kernel
theorem h_K_execute_72 : decode prog_6_method_2_code 72 = .ok (.aload_n 0, 1) := by decide +kernel
theorem h_K_execute_73 : decode prog_6_method_2_code 73 = .ok (.iconst 0, 1) := by decide +kernel
theorem h_K_execute_74 : decode prog_6_method_2_code 74 = .ok (.putfield 73, 3) := by decide +kernel
theorem h_K_execute_77 : decode prog_6_method_2_code 77 = .ok (.aload_n 0, 1) := by decide +kernel
theorem h_K_execute_78 : decode prog_6_method_2_code 78 = .ok (.getfield 73, 3) := by decide +kernel
theorem h_K_execute_81 : decode prog_6_method_2_code 81 = .ok (.iload 7, 2) := by decide +kernel
theorem h_K_execute_83 : decode prog_6_method_2_code 83 = .ok (.if_icmp .ge 72, 3) := by decide +kernel
theorem h_K_execute_86 : decode prog_6_method_2_code 86 = .ok (.aload_n 0, 1) := by decide +kernel
theorem h_K_execute_87 : decode prog_6_method_2_code 87 = .ok (.getfield 30, 3) := by decide +kernel
theorem h_K_execute_90 : decode prog_6_method_2_code 90 = .ok (.bipush (-2), 2) := by decide +kernel
theorem h_K_execute_92 : decode prog_6_method_2_code 92 = .ok (.if_icmp .ne 63, 3) := by decide +kernel
theorem h_K_execute_95 : decode prog_6_method_2_code 95 = .ok (.aload_n 0, 1) := by decide +kernel
theorem h_K_execute_96 : decode prog_6_method_2_code 96 = .ok (.getfield 62, 3) := by decide +kernel
theorem h_K_execute_99 : decode prog_6_method_2_code 99 = .ok (.ifCond .le 56, 3) := by decide +kernel
theorem h_K_execute_102 : decode prog_6_method_2_code 102 = .ok (.aload_n 0, 1) := by decide +kernel
theorem h_K_execute_103 : decode prog_6_method_2_code 103 = .ok (.aload_n 0, 1) := by decide +kernel
theorem h_K_execute_104 : decode prog_6_method_2_code 104 = .ok (.getfield 26, 3) := by decide +kernel
theorem h_K_execute_107 : decode prog_6_method_2_code 107 = .ok (.aload_n 0, 1) := by decide +kernel
theorem h_K_execute_108 : decode prog_6_method_2_code 108 = .ok (.getfield 62, 3) := by decide +kernel
theorem h_K_execute_111 : decode prog_6_method_2_code 111 = .ok (.iconst 1, 1) := by decide +kernel
theorem h_K_execute_112 : decode prog_6_method_2_code 112 = .ok (.isub, 1) := by decide +kernel
theorem h_K_execute_113 : decode prog_6_method_2_code 113 = .ok (.aaload, 1) := by decide +kernel
theorem h_K_execute_114 : decode prog_6_method_2_code 114 = .ok (.putfield 76, 3) := by decide +kernel
theorem h_K_execute_117 : decode prog_6_method_2_code 117 = .ok (.aload_n 0, 1) := by decide +kernel
theorem h_K_execute_118 : decode prog_6_method_2_code 118 = .ok (.aload_n 0, 1) := by decide +kernel
theorem h_K_execute_119 : decode prog_6_method_2_code 119 = .ok (.getfield 76, 3) := by decide +kernel
theorem h_K_execute_122 : decode prog_6_method_2_code 122 = .ok (.getfield 80, 3) := by decide +kernel
theorem h_K_execute_125 : decode prog_6_method_2_code 125 = .ok (.aload_n 0, 1) := by decide +kernel
theorem h_K_execute_126 : decode prog_6_method_2_code 126 = .ok (.getfield 76, 3) := by decide +kernel
theorem h_K_execute_129 : decode prog_6_method_2_code 129 = .ok (.getfield 84, 3) := by decide +kernel
theorem h_K_execute_132 : decode prog_6_method_2_code 132 = .ok (.invokevirtual 87, 3) := by decide +kernel
theorem h_K_execute_135 : decode prog_6_method_2_code 135 = .ok (.invokevirtual 91, 3) := by decide +kernel
theorem h_K_execute_138 : decode prog_6_method_2_code 138 = .ok (.aload_n 0, 1) := by decide +kernel
theorem h_K_execute_139 : decode prog_6_method_2_code 139 = .ok (.invokevirtual 95, 3) := by decide +kernel
theorem h_K_execute_142 : decode prog_6_method_2_code 142 = .ok (.aload_n 0, 1) := by decide +kernel
theorem h_K_execute_143 : decode prog_6_method_2_code 143 = .ok (.dup, 1) := by decide +kernel
theorem h_K_execute_144 : decode prog_6_method_2_code 144 = .ok (.getfield 73, 3) := by decide +kernel
theorem h_K_execute_147 : decode prog_6_method_2_code 147 = .ok (.iconst 1, 1) := by decide +kernel
theorem h_K_execute_148 : decode prog_6_method_2_code 148 = .ok (.iadd, 1) := by decide +kernel
theorem h_K_execute_149 : decode prog_6_method_2_code 149 = .ok (.putfield 73, 3) := by decide +kernel
theorem h_K_execute_152 : decode prog_6_method_2_code 152 = .ok (.goto (-75), 3) := by decide +kernel
theorem h_K_execute_155 : decode prog_6_method_2_code 155 = .ok (.aload_n 0, 1) := by decide +kernel
theorem h_K_execute_156 : decode prog_6_method_2_code 156 = .ok (.getfield 30, 3) := by decide +kernel
theorem h_K_execute_159 : decode prog_6_method_2_code 159 = .ok (.bipush (-2), 2) := by decide +kernel
theorem h_K_execute_161 : decode prog_6_method_2_code 161 = .ok (.if_icmp .ne 8, 3) := by decide +kernel
theorem h_K_execute_164 : decode prog_6_method_2_code 164 = .ok (.aload_n 0, 1) := by decide +kernel
theorem h_K_execute_165 : decode prog_6_method_2_code 165 = .ok (.iconst 2, 1) := by decide +kernel
theorem h_K_execute_166 : decode prog_6_method_2_code 166 = .ok (.putfield 30, 3) := by decide +kernel
theorem h_K_execute_169 : decode prog_6_method_2_code 169 = .ok (.return_, 1) := by decide +kernel
def x_K_execute_155 (a0 : Nat) (a1 : Nat) (a2 : Nat) (P : CST → Prop) (σ : CST) : Prop := σ.1 a0 = some (2, 0) ∧ ((((σ.2.1 a0 11) = (-2) → ∀ σ3 : CST, σ3 = sI σ a0 11 (2 : Int32) → P σ3) ∧ (¬ (σ.2.1 a0 11) = (-2) → P σ)))
def x_K_execute_77 (a0 : Nat) (a1 : Nat) (a2 : Nat) (P : CST → Prop) : Nat → Int32 → CST → Prop
  | 0, _, _ => False
  | n + 1, z7, σ => σ.1 a0 = some (2, 0) ∧ (((z7 ≤ (σ.2.1 a0 12) → x_K_execute_155 a0 a1 a2 P σ) ∧ (¬ z7 ≤ (σ.2.1 a0 12) → (((σ.2.1 a0 11) = (-2) → (((σ.2.1 a0 4) ≤ 0 → x_K_execute_155 a0 a1 a2 P σ) ∧ (¬ (σ.2.1 a0 4) ≤ 0 → ∀ b8 : Option Nat, b8 = (σ.2.2.2.1 a0 2) → (∃ r9 : Nat, b8 = some r9 ∧ ((∃ n11 : Nat, σ.1 r9 = some (26, n11) ∧ (vp_in ((σ.2.1 a0 4) - 1) n11 ∧ (∀ b13 : Option Nat, b13 = (σ.2.2.2.1 r9 (((σ.2.1 a0 4) - 1) : Int32).toNatClampNeg) → ∀ σ14 : CST, σ14 = sR σ a0 5 b13 → σ14.1 a0 = some (2, 0) ∧ (∀ b16 : Option Nat, b16 = (σ14.2.2.2.1 a0 5) → (∃ r17 : Nat, b16 = some r17 ∧ (σ14.1 r17 = some (0, 0) ∧ (∀ b19 : Option Nat, b19 = (σ14.2.2.2.1 r17 0) → ∀ b20 : Option Nat, b20 = (σ14.2.2.2.1 a0 5) → (∃ r21 : Nat, b20 = some r21 ∧ (σ14.1 r21 = some (0, 0) ∧ ((∃ r23 : Nat, b19 = some r23 ∧ (σ14.1 r23 = some (5, 0) ∧ (x_E_byteAt r23 (σ14.2.1 r21 1) σ14 (fun r26 σ25 => σ25.1 a0 = some (2, 0) ∧ (x_K_step a0 r26 σ25 (fun σ28 => σ28.1 a0 = some (2, 0) ∧ (x_K_settle a0 σ28 (fun σ31 => σ31.1 a0 = some (2, 0) ∧ (∀ σ34 : CST, σ34 = sI σ31 a0 12 ((σ31.2.1 a0 12) + 1) → x_K_execute_77 a0 a1 a2 P n z7 σ34)))))))))))))))))))))))) ∧ (¬ (σ.2.1 a0 11) = (-2) → x_K_execute_155 a0 a1 a2 P σ)))))
def x_K_execute (a0 : Nat) (a1 : Nat) (a2 : Nat) (x3 : Int64) (x5 : Int64) (x7 : Int32) (σ0 : CST) (P : CST → Prop) : Prop := σ0.1 a0 = some (2, 0) ∧ (∀ σ36 : CST, σ36 = sR σ0 a0 3 (some a1) → σ36.1 a0 = some (2, 0) ∧ (∀ b38 : Option Nat, b38 = (σ36.2.2.2.1 a0 0) → (∃ r39 : Nat, b38 = some r39 ∧ (σ36.1 r39 = some (1, 0) ∧ (∀ σ41 : CST, σ41 = sI σ36 r39 3 (0 : Int32) → σ41.1 a0 = some (2, 0) ∧ (∀ b43 : Option Nat, b43 = (σ41.2.2.2.1 a0 1) → (∃ r44 : Nat, b43 = some r44 ∧ (x_Ar_fill2 r44 (0 : Int64) σ41 (fun σ45 => σ45.1 a2 = some (5, 0) ∧ (σ45.1 a0 = some (2, 0) ∧ (∀ σ49 : CST, σ49 = sI σ45 a0 9 (σ45.2.1 a2 1) → σ49.1 a0 = some (2, 0) ∧ (∀ σ51 : CST, σ51 = sL σ49 a0 10 (0 : Int64) → σ51.1 a0 = some (2, 0) ∧ (∀ σ53 : CST, σ53 = sI σ51 a0 13 ((-1) : Int32) → σ53.1 a0 = some (2, 0) ∧ (∀ σ55 : CST, σ55 = sI σ53 a0 11 ((-2) : Int32) → σ55.1 a0 = some (2, 0) ∧ (∀ σ57 : CST, σ57 = sI σ55 a0 4 (1 : Int32) → σ57.1 a0 = some (2, 0) ∧ (∀ b59 : Option Nat, b59 = (σ57.2.2.2.1 a0 2) → (∃ r60 : Nat, b59 = some r60 ∧ ((∃ n62 : Nat, σ57.1 r60 = some (26, n62) ∧ (vp_in 0 n62 ∧ (∀ b64 : Option Nat, b64 = (σ57.2.2.2.1 r60 (0 : Int32).toNatClampNeg) → (∃ r65 : Nat, b64 = some r65 ∧ (σ57.1 r65 = some (0, 0) ∧ (x_C_start r65 a2 σ57 (fun σ67 => σ67.1 a0 = some (2, 0) ∧ (∀ b70 : Option Nat, b70 = (σ67.2.2.2.1 a0 2) → (∃ r71 : Nat, b70 = some r71 ∧ ((∃ n73 : Nat, σ67.1 r71 = some (26, n73) ∧ (vp_in 0 n73 ∧ (∀ b75 : Option Nat, b75 = (σ67.2.2.2.1 r71 (0 : Int32).toNatClampNeg) → (∃ r76 : Nat, b75 = some r76 ∧ (x_K_setArguments r76 x3 x5 σ67 (fun σ77 => σ77.1 a0 = some (2, 0) ∧ (∀ σ80 : CST, σ80 = sI σ77 a0 12 (0 : Int32) → (∃ n9 : Nat, x_K_execute_77 a0 a1 a2 P n9 x7 σ80))))))))))))))))))))))))))))))))))))
set_option maxHeartbeats 4000000 in
set_option maxRecDepth 100000 in
theorem X_K_execute (l : Launch) (dC : Nat → ClassId) (dI : Nat → Nat → Nat) (ca : Nat → ClassId) (H0 : Heap) (σ0 : CST) (a0 : Nat) (a1 : Nat) (a2 : Nat) (x3 : Int64) (x5 : Int64) (x7 : Int32) {P : CST → Prop} (hw : x_K_execute a0 a1 a2 x3 x5 x7 σ0 P) : Met l g_K_execute (mW g_K_execute prog_6_method_2_code 8 none) ({ frames := 7, cells := σ0.2.2.2.2.1, slots := σ0.2.2.2.2.2.1, locals := 157 } : Room) (va_Pc [.ref a0, .ref a1, .ref a2, .long x3, .long x5, .int x7] (CPre (dC, dI) ca σ0 H0)) (va_Qv P (CB (dC, dI) ca σ0 H0) (cA σ0 H0.size)) σ0.2.2.2.2.1 σ0.2.2.2.2.2.1 (cA σ0 H0.size) := by
  refine C_ofv (by decide +kernel) rfl rfl rfl (Nat.le_of_ble_eq_true rfl) ?_
  intro p e s m below meth cx Q A ls C hnm hend hH0 h hl
  subst hH0
  have C0 := C
  obtain ⟨⟨hx, hb, hml, hown, hts⟩, hsub⟩ := C0
  obtain ⟨cells, e_cells⟩ : ∃ z : Nat, z = 0 := ⟨_, rfl⟩
  obtain ⟨slots, e_slots⟩ : ∃ z : Nat, z = 0 := ⟨_, rfl⟩
  have h : CH (dC, dI) A ca ({ frames := 7, cells := σ0.2.2.2.2.1, slots := σ0.2.2.2.2.2.1, locals := 157 } : Room) σ0.2.2.2.2.2.2 σ0 s s.heap [] cells slots := by rw [e_cells, e_slots]; exact h
  show W p l e ({ frames := 7, cells := σ0.2.2.2.2.1, slots := σ0.2.2.2.2.2.1, locals := 157 } : Room) s m ([.ref a0, .ref a1, .ref a2, .long x3, .long x5, .int x7] : List Value).toArray below meth cx s.heap [] 0 0 Q (F0 m 0 ls [])
  rw [show W p l e ({ frames := 7, cells := σ0.2.2.2.2.1, slots := σ0.2.2.2.2.2.1, locals := 157 } : Room) s m ([.ref a0, .ref a1, .ref a2, .long x3, .long x5, .int x7] : List Value).toArray below meth cx s.heap [] 0 0 Q (F0 m 0 ls []) = W p l e ({ frames := 7, cells := σ0.2.2.2.2.1, slots := σ0.2.2.2.2.2.1, locals := 157 } : Room) s m ([.ref a0, .ref a1, .ref a2, .long x3, .long x5, .int x7] : List Value).toArray below meth cx s.heap [] cells slots Q (F0 m 0 ls []) by rw [e_cells, e_slots]]
  have K_155 : ∀ (u9 : Unit), ∀ (σ : CST) (H : Heap) (locs : List Loc) (cells slots : Nat) (ls : Array Slot), x_K_execute_155 a0 a1 a2 P σ → CH (dC, dI) A ca ({ frames := 7, cells := σ0.2.2.2.2.1, slots := σ0.2.2.2.2.2.1, locals := 157 } : Room) σ0.2.2.2.2.2.2 σ s H locs cells slots → lv_has ls 8 [(0, .ref a0)] → W p l e ({ frames := 7, cells := σ0.2.2.2.2.1, slots := σ0.2.2.2.2.2.1, locals := 157 } : Room) s m ([.ref a0, .ref a1, .ref a2, .long x3, .long x5, .int x7] : List Value).toArray below meth cx H locs cells slots Q (F0 m 155 ls []) := by
    intro u9  σ H locs cells slots ls hw h hl
    unfold x_K_execute_155 at hw
    refine lv_aload_n hx hb h_K_execute_155 rfl (lv_at hl 0 rfl) ?_
    obtain ⟨g1, hw⟩ := hw
    refine C_get C h 2 11 (v := .int (σ.2.1 a0 11)) g1 rfl (Cn := R_K) (T := T_K) (N := 14) rfl (by decide) rfl uw_K (by decide) u_215 (fun _ q => q) h_K_execute_156 ?_
    refine lv_bipush (v := (-2)) hx hb h_K_execute_159 (by decide) ?_
    refine lv_icmp_ne (tgt := 169) hx hb h_K_execute_161 (by decide) (fun c2 => ?_) (fun c2 => ?_)
    · skip
      replace hw := hw.2 c2
      exact hend σ _ _ _ _ _ _ hw h h_K_execute_169
    · skip
      replace hw := hw.1 c2
      refine lv_aload_n hx hb h_K_execute_164 rfl (lv_at hl 0 rfl) ?_
      refine lv_iconst (v := 2) hx hb h_K_execute_165 (by decide) ?_
      refine C_puti C h 2 11 g1 (Cn := R_K) (T := T_K) (N := 14) rfl (by decide) rfl uw_K tok_K nm_K (by decide) rfl u_215 (fun _ q => q) (Or.inl rfl) (by decide +kernel) h_K_execute_166 (fun H locs h => ?_)
      obtain ⟨σ3, e_σ3⟩ : ∃ z : CST, z = sI σ a0 11 (2 : Int32) := ⟨_, rfl⟩
      rw [← e_σ3] at h
      replace hw := hw σ3 e_σ3
      exact hend σ3 _ _ _ _ _ _ hw h h_K_execute_169
  have K_77 : ∀ (n : Nat), ∀ (z7 : Int32) (σ : CST) (H : Heap) (locs : List Loc) (cells slots : Nat) (ls : Array Slot), x_K_execute_77 a0 a1 a2 P n z7 σ → CH (dC, dI) A ca ({ frames := 7, cells := σ0.2.2.2.2.1, slots := σ0.2.2.2.2.2.1, locals := 157 } : Room) σ0.2.2.2.2.2.2 σ s H locs cells slots → lv_has ls 8 [(0, .ref a0), (7, .int z7)] → W p l e ({ frames := 7, cells := σ0.2.2.2.2.1, slots := σ0.2.2.2.2.2.1, locals := 157 } : Room) s m ([.ref a0, .ref a1, .ref a2, .long x3, .long x5, .int x7] : List Value).toArray below meth cx H locs cells slots Q (F0 m 77 ls []) := by
    intro  n
    induction n with
    | zero => intro z7 σ H locs cells slots ls hw h hl; unfold x_K_execute_77 at hw; exact hw.elim
    | succ n ih =>
      intro z7 σ H locs cells slots ls hw h hl
      unfold x_K_execute_77 at hw
      refine lv_aload_n hx hb h_K_execute_77 rfl (lv_at hl 0 rfl) ?_
      obtain ⟨g4, hw⟩ := hw
      refine C_get C h 2 12 (v := .int (σ.2.1 a0 12)) g4 rfl (Cn := R_K) (T := T_K) (N := 14) rfl (by decide) rfl uw_K (by decide) u_449 (fun _ q => q) h_K_execute_78 ?_
      refine lv_iload hx hb h_K_execute_81 (lv_at hl 1 rfl) ?_
      refine lv_icmp_ge (tgt := 155) hx hb h_K_execute_83 (by decide) (fun c5 => ?_) (fun c5 => ?_)
      · skip
        replace hw := hw.1 c5
        exact K_155 () σ _ _ _ _ _ hw h (lv_sub hl [0] rfl)
      · skip
        replace hw := hw.2 c5
        refine lv_aload_n hx hb h_K_execute_86 rfl (lv_at hl 0 rfl) ?_
        refine C_get C h 2 11 (v := .int (σ.2.1 a0 11)) g4 rfl (Cn := R_K) (T := T_K) (N := 14) rfl (by decide) rfl uw_K (by decide) u_215 (fun _ q => q) h_K_execute_87 ?_
        refine lv_bipush (v := (-2)) hx hb h_K_execute_90 (by decide) ?_
        refine lv_icmp_ne (tgt := 155) hx hb h_K_execute_92 (by decide) (fun c6 => ?_) (fun c6 => ?_)
        · skip
          replace hw := hw.2 c6
          exact K_155 () σ _ _ _ _ _ hw h (lv_sub hl [0] rfl)
        · skip
          replace hw := hw.1 c6
          refine lv_aload_n hx hb h_K_execute_95 rfl (lv_at hl 0 rfl) ?_
          refine C_get C h 2 4 (v := .int (σ.2.1 a0 4)) g4 rfl (Cn := R_K) (T := T_K) (N := 14) rfl (by decide) rfl uw_K (by decide) u_321 (fun _ q => q) h_K_execute_96 ?_
          refine lv_if_le (tgt := 155) hx hb h_K_execute_99 (by decide) (fun c7 => ?_) (fun c7 => ?_)
          · skip
            replace hw := hw.1 c7
            exact K_155 () σ _ _ _ _ _ hw h (lv_sub hl [0] rfl)
          · skip
            replace hw := hw.2 c7
            refine lv_aload_n hx hb h_K_execute_102 rfl (lv_at hl 0 rfl) ?_
            refine lv_aload_n hx hb h_K_execute_103 rfl (lv_at hl 0 rfl) ?_
            refine C_get C h 2 2 (v := va_rf (σ.2.2.2.1 a0 2)) g4 rfl (Cn := R_K) (T := T_K) (N := 14) rfl (by decide) rfl uw_K (by decide) u_203 (fun _ q => q) h_K_execute_104 ?_
            refine lv_topq (fun b8 e_b8 => ?_)
            replace hw := hw b8 e_b8
            refine lv_aload_n hx hb h_K_execute_107 rfl (lv_at hl 0 rfl) ?_
            refine C_get C h 2 4 (v := .int (σ.2.1 a0 4)) g4 rfl (Cn := R_K) (T := T_K) (N := 14) rfl (by decide) rfl uw_K (by decide) u_321 (fun _ q => q) h_K_execute_108 ?_
            refine lv_iconst (v := 1) hx hb h_K_execute_111 (by decide) ?_
            refine lv_isub hx hb h_K_execute_112 ?_
            obtain ⟨r9, e_r9, hw⟩ := hw
            subst e_r9
            have hl : lv_has ls 8 [(0, .ref a0), (7, .int z7)] := hl
            refine W.eq (g2 := F0 m 113 ls [.int ((σ.2.1 a0 4) - 1), .ref r9, .ref a0]) rfl ?_
            obtain ⟨n11, g10, hw⟩ := hw
            obtain ⟨g12, hw⟩ := hw
            refine C_aald C h 26 5 rfl (by decide) g10 g12 h_K_execute_113 ?_
            refine lv_topq (fun b13 e_b13 => ?_)
            replace hw := hw b13 e_b13
            refine C_putr C h 2 5 (v := b13) (ty := (.object "MapFramer$Call")) g4 (Cn := R_K) (T := T_K) (N := 14) rfl (by decide) rfl uw_K tok_K nm_K (by decide) rfl u_231 (fun _ q => q) (Or.inl rfl) (by decide +kernel) ck_o h_K_execute_114 (fun H locs h => ?_)
            obtain ⟨σ14, e_σ14⟩ : ∃ z : CST, z = sR σ a0 5 b13 := ⟨_, rfl⟩
            rw [← e_σ14] at h
            replace hw := hw σ14 e_σ14
            refine lv_aload_n hx hb h_K_execute_117 rfl (lv_at hl 0 rfl) ?_
            refine lv_aload_n hx hb h_K_execute_118 rfl (lv_at hl 0 rfl) ?_
            obtain ⟨g15, hw⟩ := hw
            refine C_get C h 2 5 (v := va_rf (σ14.2.2.2.1 a0 5)) g15 rfl (Cn := R_K) (T := T_K) (N := 14) rfl (by decide) rfl uw_K (by decide) u_231 (fun _ q => q) h_K_execute_119 ?_
            refine lv_topq (fun b16 e_b16 => ?_)
            replace hw := hw b16 e_b16
            obtain ⟨r17, e_r17, hw⟩ := hw
            subst e_r17
            have hl : lv_has ls 8 [(0, .ref a0), (7, .int z7)] := hl
            refine W.eq (g2 := F0 m 122 ls [.ref r17, .ref a0]) rfl ?_
            obtain ⟨g18, hw⟩ := hw
            refine C_get C h 0 0 (v := va_rf (σ14.2.2.2.1 r17 0)) g18 rfl (Cn := R_C) (T := T_C) (N := 5) rfl (by decide) rfl uw_C (by decide) u_222 (fun _ q => q) h_K_execute_122 ?_
            refine lv_topq (fun b19 e_b19 => ?_)
            replace hw := hw b19 e_b19
            refine lv_aload_n hx hb h_K_execute_125 rfl (lv_at hl 0 rfl) ?_
            refine C_get C h 2 5 (v := va_rf (σ14.2.2.2.1 a0 5)) g15 rfl (Cn := R_K) (T := T_K) (N := 14) rfl (by decide) rfl uw_K (by decide) u_231 (fun _ q => q) h_K_execute_126 ?_
            refine lv_topq (fun b20 e_b20 => ?_)
            replace hw := hw b20 e_b20
            obtain ⟨r21, e_r21, hw⟩ := hw
            subst e_r21
            have hl : lv_has ls 8 [(0, .ref a0), (7, .int z7)] := hl
            refine W.eq (g2 := F0 m 129 ls [.ref r21, va_rf b19, .ref a0]) rfl ?_
            obtain ⟨g22, hw⟩ := hw
            refine C_get C h 0 1 (v := .int (σ14.2.1 r21 1)) g22 rfl (Cn := R_C) (T := T_C) (N := 5) rfl (by decide) rfl uw_C (by decide) u_237 (fun _ q => q) h_K_execute_129 ?_
            obtain ⟨r23, e_r23, hw⟩ := hw
            subst e_r23
            have hl : lv_has ls 8 [(0, .ref a0), (7, .int z7)] := hl
            refine W.eq (g2 := F0 m 132 ls [.int (σ14.2.1 r21 1), .ref r23, .ref a0]) rfl ?_
            obtain ⟨g24, hw⟩ := hw
            refine C_callVi (As := [.int (σ14.2.1 r21 1)]) (rest := [.ref a0]) C h (ci := 5) (Cn := R_E) (T := T_E) (N := 13) g24 rfl (by decide) (X_E_byteAt l dC dI ca H σ14 r23 (σ14.2.1 r21 1) hw) (cwV 1 hts (gV hsub u_256 u_227 u_228 u_229 u_230) rfl rfl rfl (by decide +kernel) ⟨(Nat.le_of_ble_eq_true rfl), (Nat.le_of_ble_eq_true rfl)⟩) rfl hl.1 (Nat.le_of_ble_eq_true rfl) h_K_execute_132 (fun r26 σ25 H locs cells slots hw9 h9 => ?_)
            clear hw h; have hw := hw9; have h := h9; clear hw9 h9
            refine W.eq (g2 := F0 m 135 ls [.int r26, .ref a0]) rfl ?_
            obtain ⟨g27, hw⟩ := hw
            refine C_callVv (As := [.int r26]) (rest := []) C h (ci := 2) (Cn := R_K) (T := T_K) (N := 14) g27 rfl (by decide) (X_K_step l dC dI ca H σ25 a0 r26 hw) (cwV 1 hts (gV hsub u_450 u_451 u_452 u_260 u_453) rfl rfl rfl (by decide +kernel) ⟨(Nat.le_of_ble_eq_true rfl), (Nat.le_of_ble_eq_true rfl)⟩) rfl hl.1 (Nat.le_of_ble_eq_true rfl) h_K_execute_135 (fun σ28 H locs cells slots hw9 h9 => ?_)
            clear hw h; have hw := hw9; have h := h9; clear hw9 h9
            refine W.eq (g2 := F0 m 138 ls []) rfl ?_
            refine lv_aload_n hx hb h_K_execute_138 rfl (lv_at hl 0 rfl) ?_
            obtain ⟨g30, hw⟩ := hw
            refine C_callVv (As := []) (rest := []) C h (ci := 2) (Cn := R_K) (T := T_K) (N := 14) g30 rfl (by decide) (X_K_settle l dC dI ca H σ28 a0 hw) (cwV 0 hts (gV hsub u_454 u_455 u_456 u_260 u_457) rfl rfl rfl (by decide +kernel) ⟨(Nat.le_of_ble_eq_true rfl), (Nat.le_of_ble_eq_true rfl)⟩) rfl hl.1 (Nat.le_of_ble_eq_true rfl) h_K_execute_139 (fun σ31 H locs cells slots hw9 h9 => ?_)
            clear hw h; have hw := hw9; have h := h9; clear hw9 h9
            refine W.eq (g2 := F0 m 142 ls []) rfl ?_
            refine lv_aload_n hx hb h_K_execute_142 rfl (lv_at hl 0 rfl) ?_
            refine lv_dup hx hb h_K_execute_143 rfl ?_
            obtain ⟨g33, hw⟩ := hw
            refine C_get C h 2 12 (v := .int (σ31.2.1 a0 12)) g33 rfl (Cn := R_K) (T := T_K) (N := 14) rfl (by decide) rfl uw_K (by decide) u_449 (fun _ q => q) h_K_execute_144 ?_
            refine lv_iconst (v := 1) hx hb h_K_execute_147 (by decide) ?_
            refine lv_iadd hx hb h_K_execute_148 ?_
            refine C_puti C h 2 12 g33 (Cn := R_K) (T := T_K) (N := 14) rfl (by decide) rfl uw_K tok_K nm_K (by decide) rfl u_449 (fun _ q => q) (Or.inl rfl) (by decide +kernel) h_K_execute_149 (fun H locs h => ?_)
            obtain ⟨σ34, e_σ34⟩ : ∃ z : CST, z = sI σ31 a0 12 ((σ31.2.1 a0 12) + 1) := ⟨_, rfl⟩
            rw [← e_σ34] at h
            replace hw := hw σ34 e_σ34
            refine lv_goto (tgt := 77) hx hb h_K_execute_152 (by decide) ?_
            exact ih z7 σ34 _ _ _ _ _ hw h (lv_sub hl [0, 1] rfl)
  have hl : lv_has ls 8 [(0, .ref a0), (1, .ref a1), (2, .ref a2), (3, .long x3), (5, .long x5), (7, .int x7)] := hl
  unfold x_K_execute at hw
  refine lv_aload_n hx hb h_K_execute_0 rfl (lv_at hl 0 rfl) ?_
  refine lv_aload_n hx hb h_K_execute_1 rfl (lv_at hl 1 rfl) ?_
  obtain ⟨g35, hw⟩ := hw
  refine C_putr C h 2 3 (v := (some a1)) (ty := (.object "MapFramer$World")) g35 (Cn := R_K) (T := T_K) (N := 14) rfl (by decide) rfl uw_K tok_K nm_K (by decide) rfl u_282 (fun _ q => q) (Or.inl rfl) (by decide +kernel) ck_o h_K_execute_2 (fun H locs h => ?_)
  obtain ⟨σ36, e_σ36⟩ : ∃ z : CST, z = sR σ0 a0 3 (some a1) := ⟨_, rfl⟩
  rw [← e_σ36] at h
  replace hw := hw σ36 e_σ36
  refine lv_aload_n hx hb h_K_execute_5 rfl (lv_at hl 0 rfl) ?_
  obtain ⟨g37, hw⟩ := hw
  refine C_get C h 2 0 (v := va_rf (σ36.2.2.2.1 a0 0)) g37 rfl (Cn := R_K) (T := T_K) (N := 14) rfl (by decide) rfl uw_K (by decide) u_213 (fun _ q => q) h_K_execute_6 ?_
  refine lv_topq (fun b38 e_b38 => ?_)
  replace hw := hw b38 e_b38
  refine lv_iconst (v := 0) hx hb h_K_execute_9 (by decide) ?_
  obtain ⟨r39, e_r39, hw⟩ := hw
  subst e_r39
  have hl : lv_has ls 8 [(0, .ref a0), (1, .ref a1), (2, .ref a2), (3, .long x3), (5, .long x5), (7, .int x7)] := hl
  refine W.eq (g2 := F0 m 10 ls [.int 0, .ref r39]) rfl ?_
  obtain ⟨g40, hw⟩ := hw
  refine C_puti C h 1 3 g40 (Cn := R_H) (T := T_H) (N := 4) rfl (by decide) rfl uw_H tok_H nm_H (by decide) rfl u_458 (fun _ q => q) (Or.inl rfl) (by decide +kernel) h_K_execute_10 (fun H locs h => ?_)
  obtain ⟨σ41, e_σ41⟩ : ∃ z : CST, z = sI σ36 r39 3 (0 : Int32) := ⟨_, rfl⟩
  rw [← e_σ41] at h
  replace hw := hw σ41 e_σ41
  refine lv_aload_n hx hb h_K_execute_13 rfl (lv_at hl 0 rfl) ?_
  obtain ⟨g42, hw⟩ := hw
  refine C_get C h 2 1 (v := va_rf (σ41.2.2.2.1 a0 1)) g42 rfl (Cn := R_K) (T := T_K) (N := 14) rfl (by decide) rfl uw_K (by decide) u_214 (fun _ q => q) h_K_execute_14 ?_
  refine lv_topq (fun b43 e_b43 => ?_)
  replace hw := hw b43 e_b43
  refine lv_lconst (v := 0) hx hb h_K_execute_17 (by decide) ?_
  obtain ⟨r44, e_r44, hw⟩ := hw
  subst e_r44
  have hl : lv_has ls 8 [(0, .ref a0), (1, .ref a1), (2, .ref a2), (3, .long x3), (5, .long x5), (7, .int x7)] := hl
  refine W.eq (g2 := F0 m 18 ls [.long 0, .ref r44]) rfl ?_
  refine C_callSv (As := [.ref r44, .long 0]) (rest := []) C h (X_Ar_fill2 l dC dI ca H σ41 r44 (0 : Int64) hw) (va_cwS 2 hts (gS hsub u_459 u_460 u_46 u_461) rfl rfl rfl (by decide +kernel) ⟨(Nat.le_of_ble_eq_true rfl), (Nat.le_of_ble_eq_true rfl)⟩) rfl hl.1 (Nat.le_of_ble_eq_true rfl) h_K_execute_18 (fun σ45 H locs cells slots hw9 h9 => ?_)
  clear hw h; have hw := hw9; have h := h9; clear hw9 h9
  refine W.eq (g2 := F0 m 21 ls []) rfl ?_
  refine lv_aload_n hx hb h_K_execute_21 rfl (lv_at hl 0 rfl) ?_
  refine lv_aload_n hx hb h_K_execute_22 rfl (lv_at hl 2 rfl) ?_
  obtain ⟨g47, hw⟩ := hw
  refine C_get C h 5 1 (v := .int (σ45.2.1 a2 1)) g47 rfl (Cn := R_E) (T := T_E) (N := 13) rfl (by decide) rfl uw_E (by decide) u_330 (fun _ q => q) h_K_execute_23 ?_
  obtain ⟨g48, hw⟩ := hw
  refine C_puti C h 2 9 g48 (Cn := R_K) (T := T_K) (N := 14) rfl (by decide) rfl uw_K tok_K nm_K (by decide) rfl u_462 (fun _ q => q) (Or.inl rfl) (by decide +kernel) h_K_execute_26 (fun H locs h => ?_)
  obtain ⟨σ49, e_σ49⟩ : ∃ z : CST, z = sI σ45 a0 9 (σ45.2.1 a2 1) := ⟨_, rfl⟩
  rw [← e_σ49] at h
  replace hw := hw σ49 e_σ49
  refine lv_aload_n hx hb h_K_execute_29 rfl (lv_at hl 0 rfl) ?_
  refine lv_lconst (v := 0) hx hb h_K_execute_30 (by decide) ?_
  obtain ⟨g50, hw⟩ := hw
  refine C_putl C h 2 10 g50 (Cn := R_K) (T := T_K) (N := 14) rfl (by decide) rfl uw_K tok_K nm_K (by decide) rfl u_329 (fun _ q => q) (Or.inl rfl) (by decide +kernel) h_K_execute_31 (fun H locs h => ?_)
  obtain ⟨σ51, e_σ51⟩ : ∃ z : CST, z = sL σ49 a0 10 (0 : Int64) := ⟨_, rfl⟩
  rw [← e_σ51] at h
  replace hw := hw σ51 e_σ51
  refine lv_aload_n hx hb h_K_execute_34 rfl (lv_at hl 0 rfl) ?_
  refine lv_iconst (v := (-1)) hx hb h_K_execute_35 (by decide) ?_
  obtain ⟨g52, hw⟩ := hw
  refine C_puti C h 2 13 g52 (Cn := R_K) (T := T_K) (N := 14) rfl (by decide) rfl uw_K tok_K nm_K (by decide) rfl u_216 (fun _ q => q) (Or.inl rfl) (by decide +kernel) h_K_execute_36 (fun H locs h => ?_)
  obtain ⟨σ53, e_σ53⟩ : ∃ z : CST, z = sI σ51 a0 13 ((-1) : Int32) := ⟨_, rfl⟩
  rw [← e_σ53] at h
  replace hw := hw σ53 e_σ53
  refine lv_aload_n hx hb h_K_execute_39 rfl (lv_at hl 0 rfl) ?_
  refine lv_bipush (v := (-2)) hx hb h_K_execute_40 (by decide) ?_
  obtain ⟨g54, hw⟩ := hw
  refine C_puti C h 2 11 g54 (Cn := R_K) (T := T_K) (N := 14) rfl (by decide) rfl uw_K tok_K nm_K (by decide) rfl u_215 (fun _ q => q) (Or.inl rfl) (by decide +kernel) h_K_execute_42 (fun H locs h => ?_)
  obtain ⟨σ55, e_σ55⟩ : ∃ z : CST, z = sI σ53 a0 11 ((-2) : Int32) := ⟨_, rfl⟩
  rw [← e_σ55] at h
  replace hw := hw σ55 e_σ55
  refine lv_aload_n hx hb h_K_execute_45 rfl (lv_at hl 0 rfl) ?_
  refine lv_iconst (v := 1) hx hb h_K_execute_46 (by decide) ?_
  obtain ⟨g56, hw⟩ := hw
  refine C_puti C h 2 4 g56 (Cn := R_K) (T := T_K) (N := 14) rfl (by decide) rfl uw_K tok_K nm_K (by decide) rfl u_321 (fun _ q => q) (Or.inl rfl) (by decide +kernel) h_K_execute_47 (fun H locs h => ?_)
  obtain ⟨σ57, e_σ57⟩ : ∃ z : CST, z = sI σ55 a0 4 (1 : Int32) := ⟨_, rfl⟩
  rw [← e_σ57] at h
  replace hw := hw σ57 e_σ57
  refine lv_aload_n hx hb h_K_execute_50 rfl (lv_at hl 0 rfl) ?_
  obtain ⟨g58, hw⟩ := hw
  refine C_get C h 2 2 (v := va_rf (σ57.2.2.2.1 a0 2)) g58 rfl (Cn := R_K) (T := T_K) (N := 14) rfl (by decide) rfl uw_K (by decide) u_203 (fun _ q => q) h_K_execute_51 ?_
  refine lv_topq (fun b59 e_b59 => ?_)
  replace hw := hw b59 e_b59
  refine lv_iconst (v := 0) hx hb h_K_execute_54 (by decide) ?_
  obtain ⟨r60, e_r60, hw⟩ := hw
  subst e_r60
  have hl : lv_has ls 8 [(0, .ref a0), (1, .ref a1), (2, .ref a2), (3, .long x3), (5, .long x5), (7, .int x7)] := hl
  refine W.eq (g2 := F0 m 55 ls [.int 0, .ref r60]) rfl ?_
  obtain ⟨n62, g61, hw⟩ := hw
  obtain ⟨g63, hw⟩ := hw
  refine C_aald C h 26 5 rfl (by decide) g61 g63 h_K_execute_55 ?_
  refine lv_topq (fun b64 e_b64 => ?_)
  replace hw := hw b64 e_b64
  refine lv_aload_n hx hb h_K_execute_56 rfl (lv_at hl 2 rfl) ?_
  obtain ⟨r65, e_r65, hw⟩ := hw
  subst e_r65
  have hl : lv_has ls 8 [(0, .ref a0), (1, .ref a1), (2, .ref a2), (3, .long x3), (5, .long x5), (7, .int x7)] := hl
  refine W.eq (g2 := F0 m 57 ls [.ref a2, .ref r65]) rfl ?_
  obtain ⟨g66, hw⟩ := hw
  refine C_callVv (As := [.ref a2]) (rest := []) C h (ci := 0) (Cn := R_C) (T := T_C) (N := 5) g66 rfl (by decide) (X_C_start l dC dI ca H σ57 r65 a2 hw) (cwV 1 hts (gV hsub u_345 u_346 u_347 u_12 u_348) rfl rfl rfl (by decide +kernel) ⟨(Nat.le_of_ble_eq_true rfl), (Nat.le_of_ble_eq_true rfl)⟩) rfl hl.1 (Nat.le_of_ble_eq_true rfl) h_K_execute_57 (fun σ67 H locs cells slots hw9 h9 => ?_)
  clear hw h; have hw := hw9; have h := h9; clear hw9 h9
  refine W.eq (g2 := F0 m 60 ls []) rfl ?_
  refine lv_aload_n hx hb h_K_execute_60 rfl (lv_at hl 0 rfl) ?_
  obtain ⟨g69, hw⟩ := hw
  refine C_get C h 2 2 (v := va_rf (σ67.2.2.2.1 a0 2)) g69 rfl (Cn := R_K) (T := T_K) (N := 14) rfl (by decide) rfl uw_K (by decide) u_203 (fun _ q => q) h_K_execute_61 ?_
  refine lv_topq (fun b70 e_b70 => ?_)
  replace hw := hw b70 e_b70
  refine lv_iconst (v := 0) hx hb h_K_execute_64 (by decide) ?_
  obtain ⟨r71, e_r71, hw⟩ := hw
  subst e_r71
  have hl : lv_has ls 8 [(0, .ref a0), (1, .ref a1), (2, .ref a2), (3, .long x3), (5, .long x5), (7, .int x7)] := hl
  refine W.eq (g2 := F0 m 65 ls [.int 0, .ref r71]) rfl ?_
  obtain ⟨n73, g72, hw⟩ := hw
  obtain ⟨g74, hw⟩ := hw
  refine C_aald C h 26 5 rfl (by decide) g72 g74 h_K_execute_65 ?_
  refine lv_topq (fun b75 e_b75 => ?_)
  replace hw := hw b75 e_b75
  refine lv_lload_n hx hb h_K_execute_66 rfl (lv_at hl 3 rfl) ?_
  refine lv_lload hx hb h_K_execute_67 (lv_at hl 4 rfl) ?_
  obtain ⟨r76, e_r76, hw⟩ := hw
  subst e_r76
  have hl : lv_has ls 8 [(0, .ref a0), (1, .ref a1), (2, .ref a2), (3, .long x3), (5, .long x5), (7, .int x7)] := hl
  refine W.eq (g2 := F0 m 69 ls [.long x5, .long x3, .ref r76]) rfl ?_
  refine C_callSv (As := [.ref r76, .long x3, .long x5]) (rest := []) C h (X_K_setArguments l dC dI ca H σ67 r76 x3 x5 hw) (va_cwS 3 hts (gS hsub u_463 u_464 u_260 u_465) rfl rfl rfl (by decide +kernel) ⟨(Nat.le_of_ble_eq_true rfl), (Nat.le_of_ble_eq_true rfl)⟩) rfl hl.1 (Nat.le_of_ble_eq_true rfl) h_K_execute_69 (fun σ77 H locs cells slots hw9 h9 => ?_)
  clear hw h; have hw := hw9; have h := h9; clear hw9 h9
  refine W.eq (g2 := F0 m 72 ls []) rfl ?_
  refine lv_aload_n hx hb h_K_execute_72 rfl (lv_at hl 0 rfl) ?_
  refine lv_iconst (v := 0) hx hb h_K_execute_73 (by decide) ?_
  obtain ⟨g79, hw⟩ := hw
  refine C_puti C h 2 12 g79 (Cn := R_K) (T := T_K) (N := 14) rfl (by decide) rfl uw_K tok_K nm_K (by decide) rfl u_449 (fun _ q => q) (Or.inl rfl) (by decide +kernel) h_K_execute_74 (fun H locs h => ?_)
  obtain ⟨σ80, e_σ80⟩ : ∃ z : CST, z = sI σ77 a0 12 (0 : Int32) := ⟨_, rfl⟩
  rw [← e_σ80] at h
  replace hw := hw σ80 e_σ80
  obtain ⟨n9, hw⟩ := hw
  exact K_77 n9 x7 σ80 _ _ _ _ _ hw h (lv_sub hl [0, 5] rfl)
abbrev g_K_answer : MethodName := ⟨"MapFramer$Machine", "answer", "()J"⟩
theorem u_466 : (Cond.methodLink "MapFramer$Machine" 109 ⟨"MapFramer$World", "isReference", "(I)Z"⟩ : Cond) ∈ bigW := inB_8 52 (by decide +kernel) rfl
theorem u_467 : (Cond.methodLink "MapFramer$Machine" 118 ⟨"MapFramer$World", "isObject", "(I)Z"⟩ : Cond) ∈ bigW := inB_8 53 (by decide +kernel) rfl
theorem u_468 : (Cond.constantLong "MapFramer$Machine" 121 32 : Cond) ∈ bigW := inB_8 54 (by decide +kernel) rfl
theorem h_K_answer_0 : decode prog_6_method_4_code 0 = .ok (.aload_n 0, 1) := by decide +kernel
theorem h_K_answer_1 : decode prog_6_method_4_code 1 = .ok (.getfield 56, 3) := by decide +kernel
theorem h_K_answer_4 : decode prog_6_method_4_code 4 = .ok (.invokestatic 109, 3) := by decide +kernel
theorem h_K_answer_7 : decode prog_6_method_4_code 7 = .ok (.ifCond .ne 8, 3) := by decide +kernel
theorem h_K_answer_10 : decode prog_6_method_4_code 10 = .ok (.aload_n 0, 1) := by decide +kernel
theorem h_K_answer_11 : decode prog_6_method_4_code 11 = .ok (.getfield 59, 3) := by decide +kernel
theorem h_K_answer_14 : decode prog_6_method_4_code 14 = .ok (.lreturn, 1) := by decide +kernel
theorem h_K_answer_15 : decode prog_6_method_4_code 15 = .ok (.aload_n 0, 1) := by decide +kernel
theorem h_K_answer_16 : decode prog_6_method_4_code 16 = .ok (.getfield 12, 3) := by decide +kernel
theorem h_K_answer_19 : decode prog_6_method_4_code 19 = .ok (.aload_n 0, 1) := by decide +kernel
theorem h_K_answer_20 : decode prog_6_method_4_code 20 = .ok (.getfield 59, 3) := by decide +kernel
theorem h_K_answer_23 : decode prog_6_method_4_code 23 = .ok (.l2i, 1) := by decide +kernel
theorem h_K_answer_24 : decode prog_6_method_4_code 24 = .ok (.invokevirtual 113, 3) := by decide +kernel
theorem h_K_answer_27 : decode prog_6_method_4_code 27 = .ok (.istore_n 1, 1) := by decide +kernel
theorem h_K_answer_28 : decode prog_6_method_4_code 28 = .ok (.iload_n 1, 1) := by decide +kernel
theorem h_K_answer_29 : decode prog_6_method_4_code 29 = .ok (.iconst 5, 1) := by decide +kernel
theorem h_K_answer_30 : decode prog_6_method_4_code 30 = .ok (.if_icmp .ne 7, 3) := by decide +kernel
theorem h_K_answer_33 : decode prog_6_method_4_code 33 = .ok (.ldc2_w 116, 3) := by decide +kernel
theorem h_K_answer_36 : decode prog_6_method_4_code 36 = .ok (.lreturn, 1) := by decide +kernel
theorem h_K_answer_37 : decode prog_6_method_4_code 37 = .ok (.iload_n 1, 1) := by decide +kernel
theorem h_K_answer_38 : decode prog_6_method_4_code 38 = .ok (.invokestatic 118, 3) := by decide +kernel
theorem h_K_answer_41 : decode prog_6_method_4_code 41 = .ok (.ifCond .eq 11, 3) := by decide +kernel
theorem h_K_answer_44 : decode prog_6_method_4_code 44 = .ok (.iload_n 1, 1) := by decide +kernel
theorem h_K_answer_45 : decode prog_6_method_4_code 45 = .ok (.bipush 32, 2) := by decide +kernel
theorem h_K_answer_47 : decode prog_6_method_4_code 47 = .ok (.isub, 1) := by decide +kernel
theorem h_K_answer_48 : decode prog_6_method_4_code 48 = .ok (.i2l, 1) := by decide +kernel
theorem h_K_answer_49 : decode prog_6_method_4_code 49 = .ok (.goto 6, 3) := by decide +kernel
theorem h_K_answer_52 : decode prog_6_method_4_code 52 = .ok (.ldc2_w 121, 3) := by decide +kernel
theorem h_K_answer_55 : decode prog_6_method_4_code 55 = .ok (.lreturn, 1) := by decide +kernel
def x_K_answer (a0 : Nat) (σ0 : CST) (P : Int64 → CST → Prop) : Prop := σ0.1 a0 = some (2, 0) ∧ (x_W_isReference (σ0.2.1 a0 9) σ0 (fun r3 σ2 => ((r3 = 0 → σ2.1 a0 = some (2, 0) ∧ (P (σ2.2.2.1 a0 10) σ2)) ∧ (¬ r3 = 0 → σ2.1 a0 = some (2, 0) ∧ (∀ b6 : Option Nat, b6 = (σ2.2.2.2.1 a0 0) → (∃ r7 : Nat, b6 = some r7 ∧ (σ2.1 r7 = some (1, 0) ∧ (x_H_typeOf r7 (((σ2.2.2.1 a0 10) : Int64).toInt32) σ2 (fun r10 σ9 => ((r10 = 5 → P (-1) σ9) ∧ (¬ r10 = 5 → x_W_isObject r10 σ9 (fun r13 σ12 => ((r13 = 0 → P 32 σ12) ∧ (¬ r13 = 0 → P (((r10 - 32) : Int32).toInt64) σ12))))))))))))))
set_option maxHeartbeats 4000000 in
set_option maxRecDepth 100000 in
theorem X_K_answer (l : Launch) (dC : Nat → ClassId) (dI : Nat → Nat → Nat) (ca : Nat → ClassId) (H0 : Heap) (σ0 : CST) (a0 : Nat) {P : Int64 → CST → Prop} (hw : x_K_answer a0 σ0 P) : Met l g_K_answer (mW g_K_answer prog_6_method_4_code 2 (some .long)) ({ frames := 1, cells := σ0.2.2.2.2.1, slots := σ0.2.2.2.2.2.1, locals := 21 } : Room) (va_Pc [.ref a0] (CPre (dC, dI) ca σ0 H0)) (va_Ql P (CB (dC, dI) ca σ0 H0) (cA σ0 H0.size)) σ0.2.2.2.2.1 σ0.2.2.2.2.2.1 (cA σ0 H0.size) := by
  refine C_ofl (by decide +kernel) rfl rfl rfl (Nat.le_of_ble_eq_true rfl) ?_
  intro p e s m below meth cx Q A ls C hnm hend hH0 h hl
  subst hH0
  have C0 := C
  obtain ⟨⟨hx, hb, hml, hown, hts⟩, hsub⟩ := C0
  obtain ⟨cells, e_cells⟩ : ∃ z : Nat, z = 0 := ⟨_, rfl⟩
  obtain ⟨slots, e_slots⟩ : ∃ z : Nat, z = 0 := ⟨_, rfl⟩
  have h : CH (dC, dI) A ca ({ frames := 1, cells := σ0.2.2.2.2.1, slots := σ0.2.2.2.2.2.1, locals := 21 } : Room) σ0.2.2.2.2.2.2 σ0 s s.heap [] cells slots := by rw [e_cells, e_slots]; exact h
  show W p l e ({ frames := 1, cells := σ0.2.2.2.2.1, slots := σ0.2.2.2.2.2.1, locals := 21 } : Room) s m ([.ref a0] : List Value).toArray below meth cx s.heap [] 0 0 Q (F0 m 0 ls [])
  rw [show W p l e ({ frames := 1, cells := σ0.2.2.2.2.1, slots := σ0.2.2.2.2.2.1, locals := 21 } : Room) s m ([.ref a0] : List Value).toArray below meth cx s.heap [] 0 0 Q (F0 m 0 ls []) = W p l e ({ frames := 1, cells := σ0.2.2.2.2.1, slots := σ0.2.2.2.2.2.1, locals := 21 } : Room) s m ([.ref a0] : List Value).toArray below meth cx s.heap [] cells slots Q (F0 m 0 ls []) by rw [e_cells, e_slots]]
  have hl : lv_has ls 2 [(0, .ref a0)] := hl
  unfold x_K_answer at hw
  refine lv_aload_n hx hb h_K_answer_0 rfl (lv_at hl 0 rfl) ?_
  obtain ⟨g1, hw⟩ := hw
  refine C_get C h 2 9 (v := .int (σ0.2.1 a0 9)) g1 rfl (Cn := R_K) (T := T_K) (N := 14) rfl (by decide) rfl uw_K (by decide) u_462 (fun _ q => q) h_K_answer_1 ?_
  refine C_callSi (As := [.int (σ0.2.1 a0 9)]) (rest := []) C h (X_W_isReference l dC dI ca s.heap σ0 (σ0.2.1 a0 9) hw) (va_cwS 1 hts (gS hsub u_466 u_279 u_51 u_280) rfl rfl rfl (by decide +kernel) ⟨(Nat.le_of_ble_eq_true rfl), (Nat.le_of_ble_eq_true rfl)⟩) rfl hl.1 (Nat.le_of_ble_eq_true rfl) h_K_answer_4 (fun r3 σ2 H locs cells slots hw9 h9 => ?_)
  clear hw h; have hw := hw9; have h := h9; clear hw9 h9
  refine W.eq (g2 := F0 m 7 ls [.int r3]) rfl ?_
  refine lv_if_ne (tgt := 15) hx hb h_K_answer_7 (by decide) (fun c4 => ?_) (fun c4 => ?_)
  · skip
    replace hw := hw.2 c4
    refine lv_aload_n hx hb h_K_answer_15 rfl (lv_at hl 0 rfl) ?_
    obtain ⟨g5, hw⟩ := hw
    refine C_get C h 2 0 (v := va_rf (σ2.2.2.2.1 a0 0)) g5 rfl (Cn := R_K) (T := T_K) (N := 14) rfl (by decide) rfl uw_K (by decide) u_213 (fun _ q => q) h_K_answer_16 ?_
    refine lv_topq (fun b6 e_b6 => ?_)
    replace hw := hw b6 e_b6
    refine lv_aload_n hx hb h_K_answer_19 rfl (lv_at hl 0 rfl) ?_
    refine C_get C h 2 10 (v := .long (σ2.2.2.1 a0 10)) g5 rfl (Cn := R_K) (T := T_K) (N := 14) rfl (by decide) rfl uw_K (by decide) u_329 (fun _ q => q) h_K_answer_20 ?_
    refine lv_l2i (v := ((σ2.2.2.1 a0 10) : Int64).toInt32) hx hb h_K_answer_23 rfl ?_
    obtain ⟨r7, e_r7, hw⟩ := hw
    subst e_r7
    have hl : lv_has ls 2 [(0, .ref a0)] := hl
    refine W.eq (g2 := F0 m 24 ls [.int (((σ2.2.2.1 a0 10) : Int64).toInt32), .ref r7]) rfl ?_
    obtain ⟨g8, hw⟩ := hw
    refine C_callVi (As := [.int (((σ2.2.2.1 a0 10) : Int64).toInt32)]) (rest := []) C h (ci := 1) (Cn := R_H) (T := T_H) (N := 4) g8 rfl (by decide) (X_H_typeOf l dC dI ca H σ2 r7 (((σ2.2.2.1 a0 10) : Int64).toInt32) hw) (cwV 1 hts (gV hsub u_283 u_284 u_285 u_197 u_286) rfl rfl rfl (by decide +kernel) ⟨(Nat.le_of_ble_eq_true rfl), (Nat.le_of_ble_eq_true rfl)⟩) rfl hl.1 (Nat.le_of_ble_eq_true rfl) h_K_answer_24 (fun r10 σ9 H locs cells slots hw9 h9 => ?_)
    clear hw h; have hw := hw9; have h := h9; clear hw9 h9
    refine W.eq (g2 := F0 m 27 ls [.int r10]) rfl ?_
    refine lv_istore_n (i := 1) (lv' := [(1, .int r10), (0, .ref a0)]) hx hb h_K_answer_27 rfl hl (by decide) rfl (fun ls hl => ?_)
    refine lv_iload_n hx hb h_K_answer_28 rfl (lv_at hl 0 rfl) ?_
    refine lv_iconst (v := 5) hx hb h_K_answer_29 (by decide) ?_
    refine lv_icmp_ne (tgt := 37) hx hb h_K_answer_30 (by decide) (fun c11 => ?_) (fun c11 => ?_)
    · skip
      replace hw := hw.2 c11
      refine lv_iload_n hx hb h_K_answer_37 rfl (lv_at hl 0 rfl) ?_
      refine C_callSi (As := [.int r10]) (rest := []) C h (X_W_isObject l dC dI ca H σ9 r10 hw) (va_cwS 1 hts (gS hsub u_467 u_70 u_51 u_71) rfl rfl rfl (by decide +kernel) ⟨(Nat.le_of_ble_eq_true rfl), (Nat.le_of_ble_eq_true rfl)⟩) rfl hl.1 (Nat.le_of_ble_eq_true rfl) h_K_answer_38 (fun r13 σ12 H locs cells slots hw9 h9 => ?_)
      clear hw h; have hw := hw9; have h := h9; clear hw9 h9
      refine W.eq (g2 := F0 m 41 ls [.int r13]) rfl ?_
      refine lv_if_eq (tgt := 52) hx hb h_K_answer_41 (by decide) (fun c14 => ?_) (fun c14 => ?_)
      · skip
        replace hw := hw.1 c14
        refine lv_ldc2 (v := 32) hx hb hown (hts _ (hsub _ u_468)) h_K_answer_52 ?_
        exact hend 32 σ12 _ _ _ _ _ _ hw h h_K_answer_55
      · skip
        replace hw := hw.2 c14
        refine lv_iload_n hx hb h_K_answer_44 rfl (lv_at hl 0 rfl) ?_
        refine lv_bipush (v := 32) hx hb h_K_answer_45 (by decide) ?_
        refine lv_isub hx hb h_K_answer_47 ?_
        refine lv_i2l (v := ((r10 - 32) : Int32).toInt64) hx hb h_K_answer_48 rfl ?_
        refine lv_goto (tgt := 55) hx hb h_K_answer_49 (by decide) ?_
        exact hend (((r10 - 32) : Int32).toInt64) σ12 _ _ _ _ _ _ hw h h_K_answer_55
    · skip
      replace hw := hw.1 c11
      refine lv_ldc2 (v := (-1)) hx hb hown (hts _ (hsub _ u_307)) h_K_answer_33 ?_
      exact hend (-1) σ9 _ _ _ _ _ _ hw h h_K_answer_36
  · skip
    replace hw := hw.1 c4
    refine lv_aload_n hx hb h_K_answer_10 rfl (lv_at hl 0 rfl) ?_
    obtain ⟨g15, hw⟩ := hw
    refine C_get C h 2 10 (v := .long (σ2.2.2.1 a0 10)) g15 rfl (Cn := R_K) (T := T_K) (N := 14) rfl (by decide) rfl uw_K (by decide) u_329 (fun _ q => q) h_K_answer_11 ?_
    exact hend (σ2.2.2.1 a0 10) σ2 _ _ _ _ _ _ hw h h_K_answer_14
abbrev g_AbC_init : MethodName := ⟨"java/util/AbstractCollection", "<init>", "()V"⟩
theorem u_469 : (Cond.methodLink "java/util/AbstractCollection" 1 ⟨"java/lang/Object", "<init>", "()V"⟩ : Cond) ∈ bigW := inB_2 139 (by decide +kernel) rfl
theorem h_AbC_init_0 : decode prog_34_method_1_code 0 = .ok (.aload_n 0, 1) := by decide +kernel
theorem h_AbC_init_1 : decode prog_34_method_1_code 1 = .ok (.invokespecial 1, 3) := by decide +kernel
theorem h_AbC_init_4 : decode prog_34_method_1_code 4 = .ok (.return_, 1) := by decide +kernel
def x_AbC_init (a0 : Nat) (σ0 : CST) (P : CST → Prop) : Prop := P σ0
set_option maxHeartbeats 4000000 in
set_option maxRecDepth 100000 in
theorem X_AbC_init (l : Launch) (dC : Nat → ClassId) (dI : Nat → Nat → Nat) (ca : Nat → ClassId) (H0 : Heap) (σ0 : CST) (a0 : Nat) {P : CST → Prop} (hw : x_AbC_init a0 σ0 P) : Met l g_AbC_init (mW g_AbC_init prog_34_method_1_code 1 none) ({ frames := 1, cells := σ0.2.2.2.2.1, slots := σ0.2.2.2.2.2.1, locals := 12 } : Room) (va_Pc [.ref a0] (CPre (dC, dI) ca σ0 H0)) (va_Qv P (CB (dC, dI) ca σ0 H0) (cA σ0 H0.size)) σ0.2.2.2.2.1 σ0.2.2.2.2.2.1 (cA σ0 H0.size) := by
  refine C_ofv (by decide +kernel) rfl rfl rfl (Nat.le_of_ble_eq_true rfl) ?_
  intro p e s m below meth cx Q A ls C hnm hend hH0 h hl
  subst hH0
  have C0 := C
  obtain ⟨⟨hx, hb, hml, hown, hts⟩, hsub⟩ := C0
  obtain ⟨cells, e_cells⟩ : ∃ z : Nat, z = 0 := ⟨_, rfl⟩
  obtain ⟨slots, e_slots⟩ : ∃ z : Nat, z = 0 := ⟨_, rfl⟩
  have h : CH (dC, dI) A ca ({ frames := 1, cells := σ0.2.2.2.2.1, slots := σ0.2.2.2.2.2.1, locals := 12 } : Room) σ0.2.2.2.2.2.2 σ0 s s.heap [] cells slots := by rw [e_cells, e_slots]; exact h
  show W p l e ({ frames := 1, cells := σ0.2.2.2.2.1, slots := σ0.2.2.2.2.2.1, locals := 12 } : Room) s m ([.ref a0] : List Value).toArray below meth cx s.heap [] 0 0 Q (F0 m 0 ls [])
  rw [show W p l e ({ frames := 1, cells := σ0.2.2.2.2.1, slots := σ0.2.2.2.2.2.1, locals := 12 } : Room) s m ([.ref a0] : List Value).toArray below meth cx s.heap [] 0 0 Q (F0 m 0 ls []) = W p l e ({ frames := 1, cells := σ0.2.2.2.2.1, slots := σ0.2.2.2.2.2.1, locals := 12 } : Room) s m ([.ref a0] : List Value).toArray below meth cx s.heap [] cells slots Q (F0 m 0 ls []) by rw [e_cells, e_slots]]
  have hl : lv_has ls 1 [(0, .ref a0)] := hl
  unfold x_AbC_init at hw
  refine lv_aload_n hx hb h_AbC_init_0 rfl (lv_at hl 0 rfl) ?_
  refine W.objInit hx hb hown (hts _ (hsub _ u_469)) (hts _ (hsub _ u_1)) (hts _ (hsub _ u_2)) rfl (by rw [hml]; exact hl.1) rfl h_AbC_init_1 (Nat.le_of_ble_eq_true rfl) (Nat.le_of_ble_eq_true rfl) ?_
  refine W.eq (g2 := F0 m 4 ls []) rfl ?_
  exact hend σ0 _ _ _ _ _ _ hw h h_AbC_init_4
abbrev g_AbL_init : MethodName := ⟨"java/util/AbstractList", "<init>", "()V"⟩
theorem u_470 : (Cond.code ⟨"java/util/AbstractCollection", "<init>", "()V"⟩ prog_34_method_1_code 1 none : Cond) ∈ bigW := inB_2 138 rfl rfl
theorem u_471 : (Cond.initialized "java/util/AbstractCollection" : Cond) ∈ bigW := inB_1 13 (by decide +kernel) rfl
theorem u_472 : (Cond.methodLink "java/util/AbstractList" 1 ⟨"java/util/AbstractCollection", "<init>", "()V"⟩ : Cond) ∈ bigW := inB_2 136 (by decide +kernel) rfl
theorem u_473 : (Cond.instanceMethod ⟨"java/util/AbstractCollection", "<init>", "()V"⟩ : Cond) ∈ bigW := inB_2 137 (by decide +kernel) rfl
theorem u_474 : (Cond.fieldLink "java/util/AbstractList" 7 "java/util/AbstractList" "modCount" "I" : Cond) ∈ bigW := inB_2 144 (by decide +kernel) rfl
theorem h_AbL_init_0 : decode prog_35_method_1_code 0 = .ok (.aload_n 0, 1) := by decide +kernel
theorem h_AbL_init_1 : decode prog_35_method_1_code 1 = .ok (.invokespecial 1, 3) := by decide +kernel
theorem h_AbL_init_4 : decode prog_35_method_1_code 4 = .ok (.aload_n 0, 1) := by decide +kernel
theorem h_AbL_init_5 : decode prog_35_method_1_code 5 = .ok (.iconst 0, 1) := by decide +kernel
theorem h_AbL_init_6 : decode prog_35_method_1_code 6 = .ok (.putfield 7, 3) := by decide +kernel
theorem h_AbL_init_9 : decode prog_35_method_1_code 9 = .ok (.return_, 1) := by decide +kernel
def x_AbL_init (a0 : Nat) (σ0 : CST) (P : CST → Prop) : Prop := x_AbC_init a0 σ0 (fun σ1 => σ1.1 a0 = some (6, 0) ∧ (∀ σ4 : CST, σ4 = sI σ1 a0 0 (0 : Int32) → P σ4))
set_option maxHeartbeats 4000000 in
set_option maxRecDepth 100000 in
theorem X_AbL_init (l : Launch) (dC : Nat → ClassId) (dI : Nat → Nat → Nat) (ca : Nat → ClassId) (H0 : Heap) (σ0 : CST) (a0 : Nat) {P : CST → Prop} (hw : x_AbL_init a0 σ0 P) : Met l g_AbL_init (mW g_AbL_init prog_35_method_1_code 1 none) ({ frames := 2, cells := σ0.2.2.2.2.1, slots := σ0.2.2.2.2.2.1, locals := 32 } : Room) (va_Pc [.ref a0] (CPre (dC, dI) ca σ0 H0)) (va_Qv P (CB (dC, dI) ca σ0 H0) (cA σ0 H0.size)) σ0.2.2.2.2.1 σ0.2.2.2.2.2.1 (cA σ0 H0.size) := by
  refine C_ofv (by decide +kernel) rfl rfl rfl (Nat.le_of_ble_eq_true rfl) ?_
  intro p e s m below meth cx Q A ls C hnm hend hH0 h hl
  subst hH0
  have C0 := C
  obtain ⟨⟨hx, hb, hml, hown, hts⟩, hsub⟩ := C0
  obtain ⟨cells, e_cells⟩ : ∃ z : Nat, z = 0 := ⟨_, rfl⟩
  obtain ⟨slots, e_slots⟩ : ∃ z : Nat, z = 0 := ⟨_, rfl⟩
  have h : CH (dC, dI) A ca ({ frames := 2, cells := σ0.2.2.2.2.1, slots := σ0.2.2.2.2.2.1, locals := 32 } : Room) σ0.2.2.2.2.2.2 σ0 s s.heap [] cells slots := by rw [e_cells, e_slots]; exact h
  show W p l e ({ frames := 2, cells := σ0.2.2.2.2.1, slots := σ0.2.2.2.2.2.1, locals := 32 } : Room) s m ([.ref a0] : List Value).toArray below meth cx s.heap [] 0 0 Q (F0 m 0 ls [])
  rw [show W p l e ({ frames := 2, cells := σ0.2.2.2.2.1, slots := σ0.2.2.2.2.2.1, locals := 32 } : Room) s m ([.ref a0] : List Value).toArray below meth cx s.heap [] 0 0 Q (F0 m 0 ls []) = W p l e ({ frames := 2, cells := σ0.2.2.2.2.1, slots := σ0.2.2.2.2.2.1, locals := 32 } : Room) s m ([.ref a0] : List Value).toArray below meth cx s.heap [] cells slots Q (F0 m 0 ls []) by rw [e_cells, e_slots]]
  have hl : lv_has ls 1 [(0, .ref a0)] := hl
  unfold x_AbL_init at hw
  refine lv_aload_n hx hb h_AbL_init_0 rfl (lv_at hl 0 rfl) ?_
  refine C_callIv (As := []) (rest := []) C h (X_AbC_init l dC dI ca s.heap σ0 a0 hw) (cwI 0 hts (gC hsub u_470) rfl rfl rfl (hts _ (hsub _ u_471)) (hts _ (hsub _ u_472)) (hts _ (hsub _ u_473)) rfl (by decide +kernel) ⟨(Nat.le_of_ble_eq_true rfl), (Nat.le_of_ble_eq_true rfl)⟩) rfl hl.1 (Nat.le_of_ble_eq_true rfl) h_AbL_init_1 (fun σ1 H locs cells slots hw9 h9 => ?_)
  clear hw h; have hw := hw9; have h := h9; clear hw9 h9
  refine W.eq (g2 := F0 m 4 ls []) rfl ?_
  refine lv_aload_n hx hb h_AbL_init_4 rfl (lv_at hl 0 rfl) ?_
  refine lv_iconst (v := 0) hx hb h_AbL_init_5 (by decide) ?_
  obtain ⟨g3, hw⟩ := hw
  refine C_puti C h 6 0 g3 (Cn := R_A) (T := T_A) (N := 3) rfl (by decide) rfl uw_A tok_A nm_A (by decide) rfl u_474 (fun _ q => q) (Or.inl rfl) (by decide +kernel) h_AbL_init_6 (fun H locs h => ?_)
  obtain ⟨σ4, e_σ4⟩ : ∃ z : CST, z = sI σ1 a0 0 (0 : Int32) := ⟨_, rfl⟩
  rw [← e_σ4] at h
  replace hw := hw σ4 e_σ4
  exact hend σ4 _ _ _ _ _ _ hw h h_AbL_init_9
abbrev g_AL_init : MethodName := ⟨"java/util/ArrayList", "<init>", "()V"⟩
theorem u_475 : (Cond.code ⟨"java/util/AbstractList", "<init>", "()V"⟩ prog_35_method_1_code 1 none : Cond) ∈ bigW := inB_2 135 rfl rfl
theorem u_476 : (Cond.initialized "java/util/AbstractList" : Cond) ∈ bigW := inB_1 14 (by decide +kernel) rfl
theorem u_477 : (Cond.methodLink "java/util/ArrayList" 1 ⟨"java/util/AbstractList", "<init>", "()V"⟩ : Cond) ∈ bigW := inB_2 133 (by decide +kernel) rfl
theorem u_478 : (Cond.instanceMethod ⟨"java/util/AbstractList", "<init>", "()V"⟩ : Cond) ∈ bigW := inB_2 134 (by decide +kernel) rfl
theorem h_AL_init_0 : decode prog_36_method_2_code 0 = .ok (.aload_n 0, 1) := by decide +kernel
theorem h_AL_init_1 : decode prog_36_method_2_code 1 = .ok (.invokespecial 1, 3) := by decide +kernel
theorem h_AL_init_4 : decode prog_36_method_2_code 4 = .ok (.aload_n 0, 1) := by decide +kernel
theorem h_AL_init_5 : decode prog_36_method_2_code 5 = .ok (.getstatic 39, 3) := by decide +kernel
theorem h_AL_init_8 : decode prog_36_method_2_code 8 = .ok (.putfield 9, 3) := by decide +kernel
theorem h_AL_init_11 : decode prog_36_method_2_code 11 = .ok (.return_, 1) := by decide +kernel
def x_AL_init (a0 : Nat) (σ0 : CST) (P : CST → Prop) : Prop := x_AbL_init a0 σ0 (fun σ1 => σ1.1 a0 = some (6, 0) ∧ (∀ σ4 : CST, σ4 = sR σ1 a0 1 (some σ1.2.2.2.2.2.2.1) → P σ4))
set_option maxHeartbeats 4000000 in
set_option maxRecDepth 100000 in
theorem X_AL_init (l : Launch) (dC : Nat → ClassId) (dI : Nat → Nat → Nat) (ca : Nat → ClassId) (H0 : Heap) (σ0 : CST) (a0 : Nat) {P : CST → Prop} (hw : x_AL_init a0 σ0 P) : Met l g_AL_init (mW g_AL_init prog_36_method_2_code 1 none) ({ frames := 3, cells := σ0.2.2.2.2.1, slots := σ0.2.2.2.2.2.1, locals := 52 } : Room) (va_Pc [.ref a0] (CPre (dC, dI) ca σ0 H0)) (va_Qv P (CB (dC, dI) ca σ0 H0) (cA σ0 H0.size)) σ0.2.2.2.2.1 σ0.2.2.2.2.2.1 (cA σ0 H0.size) := by
  refine C_ofv (by decide +kernel) rfl rfl rfl (Nat.le_of_ble_eq_true rfl) ?_
  intro p e s m below meth cx Q A ls C hnm hend hH0 h hl
  subst hH0
  have C0 := C
  obtain ⟨⟨hx, hb, hml, hown, hts⟩, hsub⟩ := C0
  obtain ⟨cells, e_cells⟩ : ∃ z : Nat, z = 0 := ⟨_, rfl⟩
  obtain ⟨slots, e_slots⟩ : ∃ z : Nat, z = 0 := ⟨_, rfl⟩
  have h : CH (dC, dI) A ca ({ frames := 3, cells := σ0.2.2.2.2.1, slots := σ0.2.2.2.2.2.1, locals := 52 } : Room) σ0.2.2.2.2.2.2 σ0 s s.heap [] cells slots := by rw [e_cells, e_slots]; exact h
  show W p l e ({ frames := 3, cells := σ0.2.2.2.2.1, slots := σ0.2.2.2.2.2.1, locals := 52 } : Room) s m ([.ref a0] : List Value).toArray below meth cx s.heap [] 0 0 Q (F0 m 0 ls [])
  rw [show W p l e ({ frames := 3, cells := σ0.2.2.2.2.1, slots := σ0.2.2.2.2.2.1, locals := 52 } : Room) s m ([.ref a0] : List Value).toArray below meth cx s.heap [] 0 0 Q (F0 m 0 ls []) = W p l e ({ frames := 3, cells := σ0.2.2.2.2.1, slots := σ0.2.2.2.2.2.1, locals := 52 } : Room) s m ([.ref a0] : List Value).toArray below meth cx s.heap [] cells slots Q (F0 m 0 ls []) by rw [e_cells, e_slots]]
  have hl : lv_has ls 1 [(0, .ref a0)] := hl
  unfold x_AL_init at hw
  refine lv_aload_n hx hb h_AL_init_0 rfl (lv_at hl 0 rfl) ?_
  refine C_callIv (As := []) (rest := []) C h (X_AbL_init l dC dI ca s.heap σ0 a0 hw) (cwI 0 hts (gC hsub u_475) rfl rfl rfl (hts _ (hsub _ u_476)) (hts _ (hsub _ u_477)) (hts _ (hsub _ u_478)) rfl (by decide +kernel) ⟨(Nat.le_of_ble_eq_true rfl), (Nat.le_of_ble_eq_true rfl)⟩) rfl hl.1 (Nat.le_of_ble_eq_true rfl) h_AL_init_1 (fun σ1 H locs cells slots hw9 h9 => ?_)
  clear hw h; have hw := hw9; have h := h9; clear hw9 h9
  refine W.eq (g2 := F0 m 4 ls []) rfl ?_
  refine lv_aload_n hx hb h_AL_init_4 rfl (lv_at hl 0 rfl) ?_
  refine C_getza C h u_146 h_AL_init_5 ?_
  obtain ⟨g3, hw⟩ := hw
  refine C_putr C h 6 1 (v := (some σ1.2.2.2.2.2.2.1)) (ty := (.array (.object "java/lang/Object"))) g3 (Cn := R_A) (T := T_A) (N := 3) rfl (by decide) rfl uw_A tok_A nm_A (by decide) rfl u_109 (fun _ q => q) (Or.inl rfl) (by decide +kernel) ck_a h_AL_init_8 (fun H locs h => ?_)
  obtain ⟨σ4, e_σ4⟩ : ∃ z : CST, z = sR σ1 a0 1 (some σ1.2.2.2.2.2.2.1) := ⟨_, rfl⟩
  rw [← e_σ4] at h
  replace hw := hw σ4 e_σ4
  exact hend σ4 _ _ _ _ _ _ hw h h_AL_init_11
abbrev g_E_init : MethodName := ⟨"MapFramer$Method", "<init>", "([II)V"⟩
theorem u_479 : (Cond.methodLink "MapFramer$Method" 3 ⟨"java/lang/Object", "<init>", "()V"⟩ : Cond) ∈ bigW := inB_2 127 (by decide +kernel) rfl
theorem u_480 : (Cond.classLink "MapFramer$Method" 15 "java/util/ArrayList" : Cond) ∈ bigW := inB_2 128 (by decide +kernel) rfl
theorem u_481 : (Cond.instantiable "java/util/ArrayList" 3 : Cond) ∈ bigW := inB_2 129 (by decide +kernel) rfl
theorem u_482 : (Cond.code ⟨"java/util/ArrayList", "<init>", "()V"⟩ prog_36_method_2_code 1 none : Cond) ∈ bigW := inB_2 132 rfl rfl
theorem u_483 : (Cond.methodLink "MapFramer$Method" 17 ⟨"java/util/ArrayList", "<init>", "()V"⟩ : Cond) ∈ bigW := inB_2 130 (by decide +kernel) rfl
theorem u_484 : (Cond.instanceMethod ⟨"java/util/ArrayList", "<init>", "()V"⟩ : Cond) ∈ bigW := inB_2 131 (by decide +kernel) rfl
theorem u_485 : (Cond.fieldLink "MapFramer$Method" 18 "MapFramer$Method" "handlers" "Ljava/util/ArrayList;" : Cond) ∈ bigW := inB_2 172 (by decide +kernel) rfl
theorem u_486 : (Cond.fieldLink "MapFramer$Method" 22 "MapFramer$Method" "faultAt" "I" : Cond) ∈ bigW := inB_2 181 (by decide +kernel) rfl
theorem u_487 : (Cond.classLink "MapFramer$Method" 26 "MapFramer$State" : Cond) ∈ bigW := inB_2 154 (by decide +kernel) rfl
theorem u_488 : (Cond.fieldLink "MapFramer$Method" 28 "MapFramer$Method" "states" "[LMapFramer$State;" : Cond) ∈ bigW := inB_2 183 (by decide +kernel) rfl
theorem u_489 : (Cond.fieldLink "MapFramer$Method" 32 "MapFramer$Method" "frames" "[I" : Cond) ∈ bigW := inB_2 185 (by decide +kernel) rfl
theorem u_490 : (Cond.fieldLink "MapFramer$Method" 38 "MapFramer$Method" "result" "I" : Cond) ∈ bigW := inB_2 161 (by decide +kernel) rfl
theorem h_E_init_0 : decode prog_7_method_1_code 0 = .ok (.aload_n 0, 1) := by decide +kernel
theorem h_E_init_1 : decode prog_7_method_1_code 1 = .ok (.invokespecial 3, 3) := by decide +kernel
theorem h_E_init_4 : decode prog_7_method_1_code 4 = .ok (.aload_n 0, 1) := by decide +kernel
theorem h_E_init_5 : decode prog_7_method_1_code 5 = .ok (.iconst 0, 1) := by decide +kernel
theorem h_E_init_6 : decode prog_7_method_1_code 6 = .ok (.newarray .int, 2) := by decide +kernel
theorem h_E_init_8 : decode prog_7_method_1_code 8 = .ok (.putfield 9, 3) := by decide +kernel
theorem h_E_init_11 : decode prog_7_method_1_code 11 = .ok (.aload_n 0, 1) := by decide +kernel
theorem h_E_init_12 : decode prog_7_method_1_code 12 = .ok (.new 15, 3) := by decide +kernel
theorem h_E_init_15 : decode prog_7_method_1_code 15 = .ok (.dup, 1) := by decide +kernel
theorem h_E_init_16 : decode prog_7_method_1_code 16 = .ok (.invokespecial 17, 3) := by decide +kernel
theorem h_E_init_19 : decode prog_7_method_1_code 19 = .ok (.putfield 18, 3) := by decide +kernel
theorem h_E_init_22 : decode prog_7_method_1_code 22 = .ok (.aload_n 0, 1) := by decide +kernel
theorem h_E_init_23 : decode prog_7_method_1_code 23 = .ok (.iconst (-1), 1) := by decide +kernel
theorem h_E_init_24 : decode prog_7_method_1_code 24 = .ok (.putfield 22, 3) := by decide +kernel
theorem h_E_init_27 : decode prog_7_method_1_code 27 = .ok (.aload_n 0, 1) := by decide +kernel
theorem h_E_init_28 : decode prog_7_method_1_code 28 = .ok (.iconst 0, 1) := by decide +kernel
theorem h_E_init_29 : decode prog_7_method_1_code 29 = .ok (.anewarray 26, 3) := by decide +kernel
theorem h_E_init_32 : decode prog_7_method_1_code 32 = .ok (.putfield 28, 3) := by decide +kernel
theorem h_E_init_35 : decode prog_7_method_1_code 35 = .ok (.aload_n 0, 1) := by decide +kernel
theorem h_E_init_36 : decode prog_7_method_1_code 36 = .ok (.iconst 0, 1) := by decide +kernel
theorem h_E_init_37 : decode prog_7_method_1_code 37 = .ok (.newarray .int, 2) := by decide +kernel
theorem h_E_init_39 : decode prog_7_method_1_code 39 = .ok (.putfield 32, 3) := by decide +kernel
theorem h_E_init_42 : decode prog_7_method_1_code 42 = .ok (.aload_n 0, 1) := by decide +kernel
theorem h_E_init_43 : decode prog_7_method_1_code 43 = .ok (.aload_n 1, 1) := by decide +kernel
theorem h_E_init_44 : decode prog_7_method_1_code 44 = .ok (.putfield 35, 3) := by decide +kernel
theorem h_E_init_47 : decode prog_7_method_1_code 47 = .ok (.aload_n 0, 1) := by decide +kernel
theorem h_E_init_48 : decode prog_7_method_1_code 48 = .ok (.iload_n 2, 1) := by decide +kernel
theorem h_E_init_49 : decode prog_7_method_1_code 49 = .ok (.putfield 38, 3) := by decide +kernel
theorem h_E_init_52 : decode prog_7_method_1_code 52 = .ok (.return_, 1) := by decide +kernel
def x_E_init (a0 : Nat) (a1 : Nat) (x2 : Int32) (σ0 : CST) (P : CST → Prop) : Prop := (¬ (0 : Int32) < 0 ∧ (0 : Int32).toNatClampNeg ≤ 60000000 ∧ 1 ≤ σ0.2.2.2.2.1 ∧ (0 : Int32).toNatClampNeg ≤ σ0.2.2.2.2.2.1 ∧ ∀ q1 : Nat, σ0.1 q1 = none → q1 ≠ σ0.2.2.2.2.2.2.1 → ∀ σ7 : CST, σ7 = nw σ0 q1 20 (0 : Int32).toNatClampNeg (0 : Int32).toNatClampNeg → σ7.1 a0 = some (5, 0) ∧ (∀ σ9 : CST, σ9 = sR σ7 a0 2 (some q1) → (1 ≤ σ9.2.2.2.2.1 ∧ 3 ≤ σ9.2.2.2.2.2.1 ∧ ∀ q10 : Nat, σ9.1 q10 = none → q10 ≠ σ9.2.2.2.2.2.2.1 → ∀ σ14 : CST, σ14 = nw σ9 q10 6 0 3 → x_AL_init q10 σ14 (fun σ15 => σ15.1 a0 = some (5, 0) ∧ (∀ σ18 : CST, σ18 = sR σ15 a0 5 (some q10) → σ18.1 a0 = some (5, 0) ∧ (∀ σ20 : CST, σ20 = sI σ18 a0 8 ((-1) : Int32) → (¬ (0 : Int32) < 0 ∧ (0 : Int32).toNatClampNeg ≤ 60000000 ∧ 1 ≤ σ20.2.2.2.2.1 ∧ (0 : Int32).toNatClampNeg ≤ σ20.2.2.2.2.2.1 ∧ ∀ q21 : Nat, σ20.1 q21 = none → q21 ≠ σ20.2.2.2.2.2.2.1 → ∀ σ27 : CST, σ27 = nw σ20 q21 25 (0 : Int32).toNatClampNeg (0 : Int32).toNatClampNeg → σ27.1 a0 = some (5, 0) ∧ (∀ σ29 : CST, σ29 = sR σ27 a0 9 (some q21) → (¬ (0 : Int32) < 0 ∧ (0 : Int32).toNatClampNeg ≤ 60000000 ∧ 1 ≤ σ29.2.2.2.2.1 ∧ (0 : Int32).toNatClampNeg ≤ σ29.2.2.2.2.2.1 ∧ ∀ q30 : Nat, σ29.1 q30 = none → q30 ≠ σ29.2.2.2.2.2.2.1 → ∀ σ36 : CST, σ36 = nw σ29 q30 20 (0 : Int32).toNatClampNeg (0 : Int32).toNatClampNeg → σ36.1 a0 = some (5, 0) ∧ (∀ σ38 : CST, σ38 = sR σ36 a0 10 (some q30) → σ38.1 a0 = some (5, 0) ∧ (∀ σ40 : CST, σ40 = sR σ38 a0 0 (some a1) → σ40.1 a0 = some (5, 0) ∧ (∀ σ42 : CST, σ42 = sI σ40 a0 1 x2 → P σ42))))))))))))
set_option maxHeartbeats 4000000 in
set_option maxRecDepth 100000 in
theorem X_E_init (l : Launch) (dC : Nat → ClassId) (dI : Nat → Nat → Nat) (ca : Nat → ClassId) (H0 : Heap) (σ0 : CST) (a0 : Nat) (a1 : Nat) (x2 : Int32) {P : CST → Prop} (hw : x_E_init a0 a1 x2 σ0 P) : Met l g_E_init (mW g_E_init prog_7_method_1_code 3 none) ({ frames := 4, cells := σ0.2.2.2.2.1, slots := σ0.2.2.2.2.2.1, locals := 72 } : Room) (va_Pc [.ref a0, .ref a1, .int x2] (CPre (dC, dI) ca σ0 H0)) (va_Qv P (CB (dC, dI) ca σ0 H0) (cA σ0 H0.size)) σ0.2.2.2.2.1 σ0.2.2.2.2.2.1 (cA σ0 H0.size) := by
  refine C_ofv (by decide +kernel) rfl rfl rfl (Nat.le_of_ble_eq_true rfl) ?_
  intro p e s m below meth cx Q A ls C hnm hend hH0 h hl
  subst hH0
  have C0 := C
  obtain ⟨⟨hx, hb, hml, hown, hts⟩, hsub⟩ := C0
  obtain ⟨cells, e_cells⟩ : ∃ z : Nat, z = 0 := ⟨_, rfl⟩
  obtain ⟨slots, e_slots⟩ : ∃ z : Nat, z = 0 := ⟨_, rfl⟩
  have h : CH (dC, dI) A ca ({ frames := 4, cells := σ0.2.2.2.2.1, slots := σ0.2.2.2.2.2.1, locals := 72 } : Room) σ0.2.2.2.2.2.2 σ0 s s.heap [] cells slots := by rw [e_cells, e_slots]; exact h
  show W p l e ({ frames := 4, cells := σ0.2.2.2.2.1, slots := σ0.2.2.2.2.2.1, locals := 72 } : Room) s m ([.ref a0, .ref a1, .int x2] : List Value).toArray below meth cx s.heap [] 0 0 Q (F0 m 0 ls [])
  rw [show W p l e ({ frames := 4, cells := σ0.2.2.2.2.1, slots := σ0.2.2.2.2.2.1, locals := 72 } : Room) s m ([.ref a0, .ref a1, .int x2] : List Value).toArray below meth cx s.heap [] 0 0 Q (F0 m 0 ls []) = W p l e ({ frames := 4, cells := σ0.2.2.2.2.1, slots := σ0.2.2.2.2.2.1, locals := 72 } : Room) s m ([.ref a0, .ref a1, .int x2] : List Value).toArray below meth cx s.heap [] cells slots Q (F0 m 0 ls []) by rw [e_cells, e_slots]]
  have hl : lv_has ls 3 [(0, .ref a0), (1, .ref a1), (2, .int x2)] := hl
  unfold x_E_init at hw
  refine lv_aload_n hx hb h_E_init_0 rfl (lv_at hl 0 rfl) ?_
  refine W.objInit hx hb hown (hts _ (hsub _ u_479)) (hts _ (hsub _ u_1)) (hts _ (hsub _ u_2)) rfl (by rw [hml]; exact hl.1) rfl h_E_init_1 (Nat.le_of_ble_eq_true rfl) (Nat.le_of_ble_eq_true rfl) ?_
  refine W.eq (g2 := F0 m 4 ls []) rfl ?_
  refine lv_aload_n hx hb h_E_init_4 rfl (lv_at hl 0 rfl) ?_
  refine lv_iconst (v := 0) hx hb h_E_init_5 (by decide) ?_
  obtain ⟨g5, g6, g2, g3, hw⟩ := hw
  refine C_newai C h u_19 g5 rfl g6 g2 g3 h_E_init_6 (fun q1 H g4 hz9 h => ?_)
  replace hw := hw q1 g4 hz9
  obtain ⟨σ7, e_σ7⟩ : ∃ z : CST, z = nw σ0 q1 20 (0 : Int32).toNatClampNeg (0 : Int32).toNatClampNeg := ⟨_, rfl⟩
  rw [← e_σ7] at h
  replace hw := hw σ7 e_σ7
  generalize cells + 1 = cells at h ⊢
  generalize slots + (0 : Int32).toNatClampNeg = slots at h ⊢
  obtain ⟨g8, hw⟩ := hw
  refine C_putr C h 5 2 (v := (some q1)) (ty := (.array .int)) g8 (Cn := R_E) (T := T_E) (N := 13) rfl (by decide) rfl uw_E tok_E nm_E (by decide) rfl u_224 (fun _ q => q) (Or.inl rfl) (by decide +kernel) ck_a h_E_init_8 (fun H locs h => ?_)
  obtain ⟨σ9, e_σ9⟩ : ∃ z : CST, z = sR σ7 a0 2 (some q1) := ⟨_, rfl⟩
  rw [← e_σ9] at h
  replace hw := hw σ9 e_σ9
  refine lv_aload_n hx hb h_E_init_11 rfl (lv_at hl 0 rfl) ?_
  obtain ⟨g11, g12, hw⟩ := hw
  refine C_new C h 6 (Cn := R_A) (T := T_A) (N := 3) rfl (by decide) uw_A tok_A (cdf_A rfl rfl rfl) u_480 u_481 u_117 g11 g12 h_E_init_12 (fun q10 H g13 hz9 h => ?_)
  replace hw := hw q10 g13 hz9
  obtain ⟨σ14, e_σ14⟩ : ∃ z : CST, z = nw σ9 q10 6 0 3 := ⟨_, rfl⟩
  rw [← e_σ14] at h
  replace hw := hw σ14 e_σ14
  generalize cells + 1 = cells at h ⊢
  generalize slots + 3 = slots at h ⊢
  refine lv_dup hx hb h_E_init_15 rfl ?_
  refine C_callIv (As := []) (rest := [.ref q10, .ref a0]) C h (X_AL_init l dC dI ca H σ14 q10 hw) (cwI 0 hts (gC hsub u_482) rfl rfl rfl (hts _ (hsub _ u_117)) (hts _ (hsub _ u_483)) (hts _ (hsub _ u_484)) rfl (by decide +kernel) ⟨(Nat.le_of_ble_eq_true rfl), (Nat.le_of_ble_eq_true rfl)⟩) rfl hl.1 (Nat.le_of_ble_eq_true rfl) h_E_init_16 (fun σ15 H locs cells slots hw9 h9 => ?_)
  clear hw h; have hw := hw9; have h := h9; clear hw9 h9
  refine W.eq (g2 := F0 m 19 ls [.ref q10, .ref a0]) rfl ?_
  obtain ⟨g17, hw⟩ := hw
  refine C_putr C h 5 5 (v := (some q10)) (ty := (.object "java/util/ArrayList")) g17 (Cn := R_E) (T := T_E) (N := 13) rfl (by decide) rfl uw_E tok_E nm_E (by decide) rfl u_485 (fun _ q => q) (Or.inl rfl) (by decide +kernel) ck_o h_E_init_19 (fun H locs h => ?_)
  obtain ⟨σ18, e_σ18⟩ : ∃ z : CST, z = sR σ15 a0 5 (some q10) := ⟨_, rfl⟩
  rw [← e_σ18] at h
  replace hw := hw σ18 e_σ18
  refine lv_aload_n hx hb h_E_init_22 rfl (lv_at hl 0 rfl) ?_
  refine lv_iconst (v := (-1)) hx hb h_E_init_23 (by decide) ?_
  obtain ⟨g19, hw⟩ := hw
  refine C_puti C h 5 8 g19 (Cn := R_E) (T := T_E) (N := 13) rfl (by decide) rfl uw_E tok_E nm_E (by decide) rfl u_486 (fun _ q => q) (Or.inl rfl) (by decide +kernel) h_E_init_24 (fun H locs h => ?_)
  obtain ⟨σ20, e_σ20⟩ : ∃ z : CST, z = sI σ18 a0 8 ((-1) : Int32) := ⟨_, rfl⟩
  rw [← e_σ20] at h
  replace hw := hw σ20 e_σ20
  refine lv_aload_n hx hb h_E_init_27 rfl (lv_at hl 0 rfl) ?_
  refine lv_iconst (v := 0) hx hb h_E_init_28 (by decide) ?_
  obtain ⟨g25, g26, g22, g23, hw⟩ := hw
  refine C_anew C h 25 4 rfl (by decide) u_487 h.2.2.2.2.1.2.1.2.2.2.2.2.1.2.2.2.2 g25 rfl g26 g22 g23 h_E_init_29 (fun q21 H g24 hz9 h => ?_)
  replace hw := hw q21 g24 hz9
  obtain ⟨σ27, e_σ27⟩ : ∃ z : CST, z = nw σ20 q21 25 (0 : Int32).toNatClampNeg (0 : Int32).toNatClampNeg := ⟨_, rfl⟩
  rw [← e_σ27] at h
  replace hw := hw σ27 e_σ27
  generalize cells + 1 = cells at h ⊢
  generalize slots + (0 : Int32).toNatClampNeg = slots at h ⊢
  obtain ⟨g28, hw⟩ := hw
  refine C_putr C h 5 9 (v := (some q21)) (ty := (.array (.object "MapFramer$State"))) g28 (Cn := R_E) (T := T_E) (N := 13) rfl (by decide) rfl uw_E tok_E nm_E (by decide) rfl u_488 (fun _ q => q) (Or.inl rfl) (by decide +kernel) ck_a h_E_init_32 (fun H locs h => ?_)
  obtain ⟨σ29, e_σ29⟩ : ∃ z : CST, z = sR σ27 a0 9 (some q21) := ⟨_, rfl⟩
  rw [← e_σ29] at h
  replace hw := hw σ29 e_σ29
  refine lv_aload_n hx hb h_E_init_35 rfl (lv_at hl 0 rfl) ?_
  refine lv_iconst (v := 0) hx hb h_E_init_36 (by decide) ?_
  obtain ⟨g34, g35, g31, g32, hw⟩ := hw
  refine C_newai C h u_19 g34 rfl g35 g31 g32 h_E_init_37 (fun q30 H g33 hz9 h => ?_)
  replace hw := hw q30 g33 hz9
  obtain ⟨σ36, e_σ36⟩ : ∃ z : CST, z = nw σ29 q30 20 (0 : Int32).toNatClampNeg (0 : Int32).toNatClampNeg := ⟨_, rfl⟩
  rw [← e_σ36] at h
  replace hw := hw σ36 e_σ36
  generalize cells + 1 = cells at h ⊢
  generalize slots + (0 : Int32).toNatClampNeg = slots at h ⊢
  obtain ⟨g37, hw⟩ := hw
  refine C_putr C h 5 10 (v := (some q30)) (ty := (.array .int)) g37 (Cn := R_E) (T := T_E) (N := 13) rfl (by decide) rfl uw_E tok_E nm_E (by decide) rfl u_489 (fun _ q => q) (Or.inl rfl) (by decide +kernel) ck_a h_E_init_39 (fun H locs h => ?_)
  obtain ⟨σ38, e_σ38⟩ : ∃ z : CST, z = sR σ36 a0 10 (some q30) := ⟨_, rfl⟩
  rw [← e_σ38] at h
  replace hw := hw σ38 e_σ38
  refine lv_aload_n hx hb h_E_init_42 rfl (lv_at hl 0 rfl) ?_
  refine lv_aload_n hx hb h_E_init_43 rfl (lv_at hl 1 rfl) ?_
  obtain ⟨g39, hw⟩ := hw
  refine C_putr C h 5 0 (v := (some a1)) (ty := (.array .int)) g39 (Cn := R_E) (T := T_E) (N := 13) rfl (by decide) rfl uw_E tok_E nm_E (by decide) rfl u_340 (fun _ q => q) (Or.inr ⟨rfl, hnm, rfl⟩) (by decide +kernel) ck_a h_E_init_44 (fun H locs h => ?_)
  obtain ⟨σ40, e_σ40⟩ : ∃ z : CST, z = sR σ38 a0 0 (some a1) := ⟨_, rfl⟩
  rw [← e_σ40] at h
  replace hw := hw σ40 e_σ40
  refine lv_aload_n hx hb h_E_init_47 rfl (lv_at hl 0 rfl) ?_
  refine lv_iload_n hx hb h_E_init_48 rfl (lv_at hl 2 rfl) ?_
  obtain ⟨g41, hw⟩ := hw
  refine C_puti C h 5 1 g41 (Cn := R_E) (T := T_E) (N := 13) rfl (by decide) rfl uw_E tok_E nm_E (by decide) rfl u_490 (fun _ q => q) (Or.inr ⟨rfl, hnm, rfl⟩) (by decide +kernel) h_E_init_49 (fun H locs h => ?_)
  obtain ⟨σ42, e_σ42⟩ : ∃ z : CST, z = sI σ40 a0 1 x2 := ⟨_, rfl⟩
  rw [← e_σ42] at h
  replace hw := hw σ42 e_σ42
  exact hend σ42 _ _ _ _ _ _ hw h h_E_init_52
