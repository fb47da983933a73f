abbrev y_H_init : MethodName := ⟨"MapFramer$Heap", "<init>", "()V"⟩
abbrev y_C_init : MethodName := ⟨"MapFramer$Call", "<init>", "()V"⟩
abbrev y_K_init : MethodName := ⟨"MapFramer$Machine", "<init>", "()V"⟩
abbrev y_W_init : MethodName := ⟨"MapFramer$World", "<init>", "()V"⟩
abbrev y_F_init : MethodName := ⟨"MapFramer", "<init>", "()V"⟩
theorem w_220 : (Cond.methodLink "MapFramer$Heap" 1 ⟨"java/lang/Object", "<init>", "()V"⟩ : Cond) ∈ bigW := inB_1 100 (by decide +kernel) rfl
theorem w_221 : (Cond.fieldLink "MapFramer$Heap" 9 "MapFramer$Heap" "types" "[I" : Cond) ∈ bigW := inB_1 101 (by decide +kernel) rfl
theorem w_222 : (Cond.fieldLink "MapFramer$Heap" 13 "MapFramer$Heap" "lengths" "[I" : Cond) ∈ bigW := inB_1 102 (by decide +kernel) rfl
theorem w_223 : (Cond.arrayClass .long : Cond) ∈ bigW := inB_1 116 (by decide +kernel) rfl
theorem w_224 : (Cond.fieldLink "MapFramer$Heap" 16 "MapFramer$Heap" "values" "[J" : Cond) ∈ bigW := inB_1 103 (by decide +kernel) rfl
theorem w_225 : (Cond.methodLink "MapFramer$Call" 3 ⟨"java/lang/Object", "<init>", "()V"⟩ : Cond) ∈ bigW := inB_1 123 (by decide +kernel) rfl
theorem w_226 : (Cond.fieldLink "MapFramer$Call" 9 "MapFramer$Call" "locals" "[J" : Cond) ∈ bigW := inB_1 128 (by decide +kernel) rfl
theorem w_227 : (Cond.fieldLink "MapFramer$Call" 15 "MapFramer$Call" "stack" "[J" : Cond) ∈ bigW := inB_1 129 (by decide +kernel) rfl
theorem w_228 : (Cond.methodLink "MapFramer$Machine" 3 ⟨"java/lang/Object", "<init>", "()V"⟩ : Cond) ∈ bigW := inB_1 94 (by decide +kernel) rfl
theorem w_229 : (Cond.classLink "MapFramer$Machine" 9 "MapFramer$Heap" : Cond) ∈ bigW := inB_1 95 (by decide +kernel) rfl
theorem w_230 : (Cond.instantiable "MapFramer$Heap" 4 : Cond) ∈ bigW := inB_1 96 (by decide +kernel) rfl
theorem w_231 : (Cond.initialized "MapFramer$Heap" : Cond) ∈ bigW := inB_1 4 (by decide +kernel) rfl
theorem w_232 : (Cond.code ⟨"MapFramer$Heap", "<init>", "()V"⟩ prog_5_method_1_code 1 none : Cond) ∈ bigW := inB_1 99 rfl rfl
theorem w_233 : (Cond.instanceMethod ⟨"MapFramer$Heap", "<init>", "()V"⟩ : Cond) ∈ bigW := inB_1 98 (by decide +kernel) rfl
theorem w_234 : (Cond.fieldLink "MapFramer$Machine" 12 "MapFramer$Machine" "heap" "LMapFramer$Heap;" : Cond) ∈ bigW := inB_1 143 (by decide +kernel) rfl
theorem w_235 : (Cond.fieldLink "MapFramer$Machine" 20 "MapFramer$Machine" "statics" "[J" : Cond) ∈ bigW := inB_1 145 (by decide +kernel) rfl
theorem w_236 : (Cond.classLink "MapFramer$Machine" 24 "MapFramer$Call" : Cond) ∈ bigW := inB_1 117 (by decide +kernel) rfl
theorem w_237 : (Cond.fieldLink "MapFramer$Machine" 26 "MapFramer$Machine" "calls" "[LMapFramer$Call;" : Cond) ∈ bigW := inB_1 146 (by decide +kernel) rfl
theorem w_238 : (Cond.fieldLink "MapFramer$Machine" 30 "MapFramer$Machine" "outcome" "I" : Cond) ∈ bigW := inB_1 155 (by decide +kernel) rfl
theorem w_239 : (Cond.fieldLink "MapFramer$Machine" 34 "MapFramer$Machine" "thrownClass" "I" : Cond) ∈ bigW := inB_1 159 (by decide +kernel) rfl
theorem w_240 : (Cond.instantiable "MapFramer$Call" 5 : Cond) ∈ bigW := inB_1 119 (by decide +kernel) rfl
theorem w_241 : (Cond.initialized "MapFramer$Call" : Cond) ∈ bigW := inB_1 5 (by decide +kernel) rfl
theorem w_242 : (Cond.code ⟨"MapFramer$Call", "<init>", "()V"⟩ prog_2_method_1_code 1 none : Cond) ∈ bigW := inB_1 122 rfl rfl
theorem w_243 : (Cond.instanceMethod ⟨"MapFramer$Call", "<init>", "()V"⟩ : Cond) ∈ bigW := inB_1 121 (by decide +kernel) rfl
theorem w_244 : (Cond.methodLink "MapFramer$World" 3 ⟨"java/lang/Object", "<init>", "()V"⟩ : Cond) ∈ bigW := inB_1 50 (by decide +kernel) rfl
theorem w_245 : (Cond.arrayClass .boolean : Cond) ∈ bigW := inB_1 88 (by decide +kernel) rfl
theorem w_246 : (Cond.methodLink "MapFramer" 1 ⟨"java/lang/Object", "<init>", "()V"⟩ : Cond) ∈ bigW := inB_1 42 (by decide +kernel) rfl
theorem w_247 : (Cond.classLink "MapFramer" 7 "MapFramer$World" : Cond) ∈ bigW := inB_1 45 (by decide +kernel) rfl
theorem w_248 : (Cond.instantiable "MapFramer$World" 10 : Cond) ∈ bigW := inB_1 46 (by decide +kernel) rfl
theorem w_249 : (Cond.methodLink "MapFramer" 9 ⟨"MapFramer$World", "<init>", "()V"⟩ : Cond) ∈ bigW := inB_1 47 (by decide +kernel) rfl
theorem w_250 : (Cond.code ⟨"MapFramer$World", "<init>", "()V"⟩ prog_12_method_1_code 1 none : Cond) ∈ bigW := inB_1 49 rfl rfl
theorem w_251 : (Cond.instanceMethod ⟨"MapFramer$World", "<init>", "()V"⟩ : Cond) ∈ bigW := inB_1 48 (by decide +kernel) rfl
theorem w_252 : (Cond.classLink "MapFramer" 16 "MapFramer$Machine" : Cond) ∈ bigW := inB_1 89 (by decide +kernel) rfl
theorem w_253 : (Cond.instantiable "MapFramer$Machine" 14 : Cond) ∈ bigW := inB_1 90 (by decide +kernel) rfl
theorem w_254 : (Cond.initialized "MapFramer$Machine" : Cond) ∈ bigW := inB_1 3 (by decide +kernel) rfl
theorem w_255 : (Cond.methodLink "MapFramer" 18 ⟨"MapFramer$Machine", "<init>", "()V"⟩ : Cond) ∈ bigW := inB_1 91 (by decide +kernel) rfl
theorem w_256 : (Cond.code ⟨"MapFramer$Machine", "<init>", "()V"⟩ prog_6_method_1_code 2 none : Cond) ∈ bigW := inB_1 93 rfl rfl
theorem w_257 : (Cond.instanceMethod ⟨"MapFramer$Machine", "<init>", "()V"⟩ : Cond) ∈ bigW := inB_1 92 (by decide +kernel) rfl
theorem d_H_init_0 : decode prog_5_method_1_code 0 = .ok (.aload_n 0, 1) := by decide +kernel
theorem d_H_init_1 : decode prog_5_method_1_code 1 = .ok (.invokespecial 1, 3) := by decide +kernel
theorem d_H_init_4 : decode prog_5_method_1_code 4 = .ok (.aload_n 0, 1) := by decide +kernel
theorem d_H_init_5 : decode prog_5_method_1_code 5 = .ok (.sipush 150, 3) := by decide +kernel
theorem d_H_init_8 : decode prog_5_method_1_code 8 = .ok (.newarray .int, 2) := by decide +kernel
theorem d_H_init_10 : decode prog_5_method_1_code 10 = .ok (.putfield 9, 3) := by decide +kernel
theorem d_H_init_13 : decode prog_5_method_1_code 13 = .ok (.aload_n 0, 1) := by decide +kernel
theorem d_H_init_14 : decode prog_5_method_1_code 14 = .ok (.sipush 150, 3) := by decide +kernel
theorem d_H_init_17 : decode prog_5_method_1_code 17 = .ok (.newarray .int, 2) := by decide +kernel
theorem d_H_init_19 : decode prog_5_method_1_code 19 = .ok (.putfield 13, 3) := by decide +kernel
theorem d_H_init_22 : decode prog_5_method_1_code 22 = .ok (.aload_n 0, 1) := by decide +kernel
theorem d_H_init_23 : decode prog_5_method_1_code 23 = .ok (.sipush 3600, 3) := by decide +kernel
theorem d_H_init_26 : decode prog_5_method_1_code 26 = .ok (.newarray .long, 2) := by decide +kernel
theorem d_H_init_28 : decode prog_5_method_1_code 28 = .ok (.putfield 16, 3) := by decide +kernel
theorem d_H_init_31 : decode prog_5_method_1_code 31 = .ok (.return_, 1) := by decide +kernel
theorem d_C_init_0 : decode prog_2_method_1_code 0 = .ok (.aload_n 0, 1) := by decide +kernel
theorem d_C_init_1 : decode prog_2_method_1_code 1 = .ok (.invokespecial 3, 3) := by decide +kernel
theorem d_C_init_4 : decode prog_2_method_1_code 4 = .ok (.aload_n 0, 1) := by decide +kernel
theorem d_C_init_5 : decode prog_2_method_1_code 5 = .ok (.bipush 12, 2) := by decide +kernel
theorem d_C_init_7 : decode prog_2_method_1_code 7 = .ok (.newarray .long, 2) := by decide +kernel
theorem d_C_init_9 : decode prog_2_method_1_code 9 = .ok (.putfield 9, 3) := by decide +kernel
theorem d_C_init_12 : decode prog_2_method_1_code 12 = .ok (.aload_n 0, 1) := by decide +kernel
theorem d_C_init_13 : decode prog_2_method_1_code 13 = .ok (.bipush 12, 2) := by decide +kernel
theorem d_C_init_15 : decode prog_2_method_1_code 15 = .ok (.newarray .long, 2) := by decide +kernel
theorem d_C_init_17 : decode prog_2_method_1_code 17 = .ok (.putfield 15, 3) := by decide +kernel
theorem d_C_init_20 : decode prog_2_method_1_code 20 = .ok (.return_, 1) := by decide +kernel
theorem d_K_init_0 : decode prog_6_method_1_code 0 = .ok (.aload_n 0, 1) := by decide +kernel
theorem d_K_init_1 : decode prog_6_method_1_code 1 = .ok (.invokespecial 3, 3) := by decide +kernel
theorem d_K_init_4 : decode prog_6_method_1_code 4 = .ok (.aload_n 0, 1) := by decide +kernel
theorem d_K_init_5 : decode prog_6_method_1_code 5 = .ok (.new 9, 3) := by decide +kernel
theorem d_K_init_8 : decode prog_6_method_1_code 8 = .ok (.dup, 1) := by decide +kernel
theorem d_K_init_9 : decode prog_6_method_1_code 9 = .ok (.invokespecial 11, 3) := by decide +kernel
theorem d_K_init_12 : decode prog_6_method_1_code 12 = .ok (.putfield 12, 3) := by decide +kernel
theorem d_K_init_15 : decode prog_6_method_1_code 15 = .ok (.aload_n 0, 1) := by decide +kernel
theorem d_K_init_16 : decode prog_6_method_1_code 16 = .ok (.bipush 16, 2) := by decide +kernel
theorem d_K_init_18 : decode prog_6_method_1_code 18 = .ok (.newarray .long, 2) := by decide +kernel
theorem d_K_init_20 : decode prog_6_method_1_code 20 = .ok (.putfield 20, 3) := by decide +kernel
theorem d_K_init_23 : decode prog_6_method_1_code 23 = .ok (.aload_n 0, 1) := by decide +kernel
theorem d_K_init_24 : decode prog_6_method_1_code 24 = .ok (.bipush 24, 2) := by decide +kernel
theorem d_K_init_26 : decode prog_6_method_1_code 26 = .ok (.anewarray 24, 3) := by decide +kernel
theorem d_K_init_29 : decode prog_6_method_1_code 29 = .ok (.putfield 26, 3) := by decide +kernel
theorem d_K_init_32 : decode prog_6_method_1_code 32 = .ok (.aload_n 0, 1) := by decide +kernel
theorem d_K_init_33 : decode prog_6_method_1_code 33 = .ok (.iconst (-1), 1) := by decide +kernel
theorem d_K_init_34 : decode prog_6_method_1_code 34 = .ok (.putfield 30, 3) := by decide +kernel
theorem d_K_init_37 : decode prog_6_method_1_code 37 = .ok (.aload_n 0, 1) := by decide +kernel
theorem d_K_init_38 : decode prog_6_method_1_code 38 = .ok (.iconst (-1), 1) := by decide +kernel
theorem d_K_init_39 : decode prog_6_method_1_code 39 = .ok (.putfield 34, 3) := by decide +kernel
theorem d_K_init_42 : decode prog_6_method_1_code 42 = .ok (.iconst 0, 1) := by decide +kernel
theorem d_K_init_43 : decode prog_6_method_1_code 43 = .ok (.istore_n 1, 1) := by decide +kernel
theorem d_K_init_44 : decode prog_6_method_1_code 44 = .ok (.iload_n 1, 1) := by decide +kernel
theorem d_K_init_45 : decode prog_6_method_1_code 45 = .ok (.bipush 24, 2) := by decide +kernel
theorem d_K_init_47 : decode prog_6_method_1_code 47 = .ok (.if_icmp .ge 22, 3) := by decide +kernel
theorem d_K_init_50 : decode prog_6_method_1_code 50 = .ok (.aload_n 0, 1) := by decide +kernel
theorem d_K_init_51 : decode prog_6_method_1_code 51 = .ok (.getfield 26, 3) := by decide +kernel
theorem d_K_init_54 : decode prog_6_method_1_code 54 = .ok (.iload_n 1, 1) := by decide +kernel
theorem d_K_init_55 : decode prog_6_method_1_code 55 = .ok (.new 24, 3) := by decide +kernel
theorem d_K_init_58 : decode prog_6_method_1_code 58 = .ok (.dup, 1) := by decide +kernel
theorem d_K_init_59 : decode prog_6_method_1_code 59 = .ok (.invokespecial 37, 3) := by decide +kernel
theorem d_K_init_62 : decode prog_6_method_1_code 62 = .ok (.aastore, 1) := by decide +kernel
theorem d_K_init_63 : decode prog_6_method_1_code 63 = .ok (.iinc 1 1, 3) := by decide +kernel
theorem d_K_init_66 : decode prog_6_method_1_code 66 = .ok (.goto (-22), 3) := by decide +kernel
theorem d_K_init_69 : decode prog_6_method_1_code 69 = .ok (.return_, 1) := by decide +kernel
theorem d_W_init_0 : decode prog_12_method_1_code 0 = .ok (.aload_n 0, 1) := by decide +kernel
theorem d_W_init_1 : decode prog_12_method_1_code 1 = .ok (.invokespecial 3, 3) := by decide +kernel
theorem d_W_init_4 : decode prog_12_method_1_code 4 = .ok (.aload_n 0, 1) := by decide +kernel
theorem d_W_init_5 : decode prog_12_method_1_code 5 = .ok (.bipush 16, 2) := by decide +kernel
theorem d_W_init_7 : decode prog_12_method_1_code 7 = .ok (.newarray .int, 2) := by decide +kernel
theorem d_W_init_9 : decode prog_12_method_1_code 9 = .ok (.putfield 11, 3) := by decide +kernel
theorem d_W_init_12 : decode prog_12_method_1_code 12 = .ok (.aload_n 0, 1) := by decide +kernel
theorem d_W_init_13 : decode prog_12_method_1_code 13 = .ok (.bipush 16, 2) := by decide +kernel
theorem d_W_init_15 : decode prog_12_method_1_code 15 = .ok (.newarray .int, 2) := by decide +kernel
theorem d_W_init_17 : decode prog_12_method_1_code 17 = .ok (.putfield 15, 3) := by decide +kernel
theorem d_W_init_20 : decode prog_12_method_1_code 20 = .ok (.aload_n 0, 1) := by decide +kernel
theorem d_W_init_21 : decode prog_12_method_1_code 21 = .ok (.bipush 16, 2) := by decide +kernel
theorem d_W_init_23 : decode prog_12_method_1_code 23 = .ok (.newarray .boolean, 2) := by decide +kernel
theorem d_W_init_25 : decode prog_12_method_1_code 25 = .ok (.putfield 18, 3) := by decide +kernel
theorem d_W_init_28 : decode prog_12_method_1_code 28 = .ok (.aload_n 0, 1) := by decide +kernel
theorem d_W_init_29 : decode prog_12_method_1_code 29 = .ok (.bipush 16, 2) := by decide +kernel
theorem d_W_init_31 : decode prog_12_method_1_code 31 = .ok (.newarray .int, 2) := by decide +kernel
theorem d_W_init_33 : decode prog_12_method_1_code 33 = .ok (.putfield 22, 3) := by decide +kernel
theorem d_W_init_36 : decode prog_12_method_1_code 36 = .ok (.aload_n 0, 1) := by decide +kernel
theorem d_W_init_37 : decode prog_12_method_1_code 37 = .ok (.bipush 16, 2) := by decide +kernel
theorem d_W_init_39 : decode prog_12_method_1_code 39 = .ok (.newarray .int, 2) := by decide +kernel
theorem d_W_init_41 : decode prog_12_method_1_code 41 = .ok (.putfield 25, 3) := by decide +kernel
theorem d_W_init_44 : decode prog_12_method_1_code 44 = .ok (.aload_n 0, 1) := by decide +kernel
theorem d_W_init_45 : decode prog_12_method_1_code 45 = .ok (.bipush 16, 2) := by decide +kernel
theorem d_W_init_47 : decode prog_12_method_1_code 47 = .ok (.newarray .boolean, 2) := by decide +kernel
theorem d_W_init_49 : decode prog_12_method_1_code 49 = .ok (.putfield 28, 3) := by decide +kernel
theorem d_W_init_52 : decode prog_12_method_1_code 52 = .ok (.aload_n 0, 1) := by decide +kernel
theorem d_W_init_53 : decode prog_12_method_1_code 53 = .ok (.bipush 8, 2) := by decide +kernel
theorem d_W_init_55 : decode prog_12_method_1_code 55 = .ok (.anewarray 31, 3) := by decide +kernel
theorem d_W_init_58 : decode prog_12_method_1_code 58 = .ok (.putfield 33, 3) := by decide +kernel
theorem d_W_init_61 : decode prog_12_method_1_code 61 = .ok (.aload_n 0, 1) := by decide +kernel
theorem d_W_init_62 : decode prog_12_method_1_code 62 = .ok (.getfield 11, 3) := by decide +kernel
theorem d_W_init_65 : decode prog_12_method_1_code 65 = .ok (.iconst 0, 1) := by decide +kernel
theorem d_W_init_66 : decode prog_12_method_1_code 66 = .ok (.iconst (-1), 1) := by decide +kernel
theorem d_W_init_67 : decode prog_12_method_1_code 67 = .ok (.iastore, 1) := by decide +kernel
theorem d_W_init_68 : decode prog_12_method_1_code 68 = .ok (.aload_n 0, 1) := by decide +kernel
theorem d_W_init_69 : decode prog_12_method_1_code 69 = .ok (.getfield 15, 3) := by decide +kernel
theorem d_W_init_72 : decode prog_12_method_1_code 72 = .ok (.iconst 0, 1) := by decide +kernel
theorem d_W_init_73 : decode prog_12_method_1_code 73 = .ok (.iconst 1, 1) := by decide +kernel
theorem d_W_init_74 : decode prog_12_method_1_code 74 = .ok (.iastore, 1) := by decide +kernel
theorem d_W_init_75 : decode prog_12_method_1_code 75 = .ok (.aload_n 0, 1) := by decide +kernel
theorem d_W_init_76 : decode prog_12_method_1_code 76 = .ok (.getfield 11, 3) := by decide +kernel
theorem d_W_init_79 : decode prog_12_method_1_code 79 = .ok (.iconst 1, 1) := by decide +kernel
theorem d_W_init_80 : decode prog_12_method_1_code 80 = .ok (.iconst 0, 1) := by decide +kernel
theorem d_W_init_81 : decode prog_12_method_1_code 81 = .ok (.iastore, 1) := by decide +kernel
theorem d_W_init_82 : decode prog_12_method_1_code 82 = .ok (.aload_n 0, 1) := by decide +kernel
theorem d_W_init_83 : decode prog_12_method_1_code 83 = .ok (.getfield 15, 3) := by decide +kernel
theorem d_W_init_86 : decode prog_12_method_1_code 86 = .ok (.iconst 1, 1) := by decide +kernel
theorem d_W_init_87 : decode prog_12_method_1_code 87 = .ok (.iconst 3, 1) := by decide +kernel
theorem d_W_init_88 : decode prog_12_method_1_code 88 = .ok (.iastore, 1) := by decide +kernel
theorem d_W_init_89 : decode prog_12_method_1_code 89 = .ok (.aload_n 0, 1) := by decide +kernel
theorem d_W_init_90 : decode prog_12_method_1_code 90 = .ok (.iconst 2, 1) := by decide +kernel
theorem d_W_init_91 : decode prog_12_method_1_code 91 = .ok (.putfield 37, 3) := by decide +kernel
theorem d_W_init_94 : decode prog_12_method_1_code 94 = .ok (.return_, 1) := by decide +kernel
theorem d_F_init_0 : decode prog_1_method_1_code 0 = .ok (.aload_n 0, 1) := by decide +kernel
theorem d_F_init_1 : decode prog_1_method_1_code 1 = .ok (.invokespecial 1, 3) := by decide +kernel
theorem d_F_init_4 : decode prog_1_method_1_code 4 = .ok (.aload_n 0, 1) := by decide +kernel
theorem d_F_init_5 : decode prog_1_method_1_code 5 = .ok (.new 7, 3) := by decide +kernel
theorem d_F_init_8 : decode prog_1_method_1_code 8 = .ok (.dup, 1) := by decide +kernel
theorem d_F_init_9 : decode prog_1_method_1_code 9 = .ok (.invokespecial 9, 3) := by decide +kernel
theorem d_F_init_12 : decode prog_1_method_1_code 12 = .ok (.putfield 10, 3) := by decide +kernel
theorem d_F_init_15 : decode prog_1_method_1_code 15 = .ok (.aload_n 0, 1) := by decide +kernel
theorem d_F_init_16 : decode prog_1_method_1_code 16 = .ok (.new 16, 3) := by decide +kernel
theorem d_F_init_19 : decode prog_1_method_1_code 19 = .ok (.dup, 1) := by decide +kernel
theorem d_F_init_20 : decode prog_1_method_1_code 20 = .ok (.invokespecial 18, 3) := by decide +kernel
theorem d_F_init_23 : decode prog_1_method_1_code 23 = .ok (.putfield 19, 3) := by decide +kernel
theorem d_F_init_26 : decode prog_1_method_1_code 26 = .ok (.aload_n 0, 1) := by decide +kernel
theorem d_F_init_27 : decode prog_1_method_1_code 27 = .ok (.sipush 400, 3) := by decide +kernel
theorem d_F_init_30 : decode prog_1_method_1_code 30 = .ok (.newarray .int, 2) := by decide +kernel
theorem d_F_init_32 : decode prog_1_method_1_code 32 = .ok (.putfield 23, 3) := by decide +kernel
theorem d_F_init_35 : decode prog_1_method_1_code 35 = .ok (.aload_n 0, 1) := by decide +kernel
theorem d_F_init_36 : decode prog_1_method_1_code 36 = .ok (.iconst 0, 1) := by decide +kernel
theorem d_F_init_37 : decode prog_1_method_1_code 37 = .ok (.putfield 27, 3) := by decide +kernel
theorem d_F_init_40 : decode prog_1_method_1_code 40 = .ok (.return_, 1) := by decide +kernel

abbrev ws_k_H_init (q : Nat) : va_W := [(q, .inr (1, [.null, .null, .null, .int 0]))]
set_option maxHeartbeats 4000000 in
set_option maxRecDepth 100000 in
theorem k_H_init (l : Launch) (dC : Nat → ClassId) (dI : Nat → Nat → Nat) (q : Nat) (sz : Nat) : Met l y_H_init (Cond.code y_H_init prog_5_method_1_code 1 none :: bigW) ({ frames := 1, cells := 3, slots := 3900, locals := 12 } : Room) (va_Pc [.ref q] (fun U => U.heap.size = sz ∧ va_P (dC, dI) vwCl (ws_k_H_init q) U.heap ∧ va_K (dC, dI) vwCl [] U ∧ va_D (fun _ => True) (ws_k_H_init q))) (va_Qv (fun (u : Unit) => True) (fun _ _ => True) (va_A (ws_k_H_init q) sz)) 3 3900 (va_A (ws_k_H_init q) sz) := by
  refine Met.ofW (cc := prog_5_method_1_code) (maxL := 1) (ret := none) (by decide) rfl ?_
  intro p e s m args below meth cx s₁ B hml hv
  obtain ⟨rfl, hsz, hP, hK, hD0⟩ := hv
  have hx := B.exec
  have hb := B.bytes
  have hr := B.returns
  have hts := atoms_spec (ws := (Cond.code y_H_init prog_5_method_1_code 1 none :: bigW)) B.pre
  have hsub : ∀ w ∈ bigW, w ∈ (Cond.code y_H_init prog_5_method_1_code 1 none :: bigW) := fun w h => List.mem_cons_of_mem _ h
  have hown : s.vm.findClass "MapFramer$Heap" = some m.cls := findClass_of_methodNamed B.named
  have hlocks := B.notSynchronized
  have hin : meth.name = "<init>" := (name_of_methodNamed B.named B.method).1
  subst hsz
  have hD := hD0.self (sz := s.heap.size)
  generalize hAe : va_A (ws_k_H_init q) s.heap.size = A at hD ⊢
  have hA : ∀ q : Nat, s.heap.size ≤ q → A q := fun q h => by rw [← hAe]; exact Or.inr h
  have hS : va_S A s.heap s.heap [] := va_S.rf
  have hP : va_P (dC, dI) vwCl [(q, .inr (1, [.null, .null, .null, .int 0]))] s.heap := hP
  have hD : va_D A [(q, .inr (1, [.null, .null, .null, .int 0]))] := hD
  have hl := lv_entry ([.ref q]) (n := 1) (Nat.le_of_ble_eq_true rfl)
  rw [lg_entry_eq]
  generalize (lg_sl ([.ref q]) ++ List.replicate (1 - (lg_sl ([.ref q])).length) Slot.unset).toArray = ls at hl ⊢
  have hl : lv_has ls 1 [(0, .ref q)] := hl
  refine lv_aload_n hx hb d_H_init_0 rfl (lv_at hl 0 rfl) ?_
  refine W.objInit hx hb hown (hts _ (hsub _ w_220)) (hts _ (hsub _ w_142)) (hts _ (hsub _ w_143)) rfl (by rw [hml]; exact hl.1) rfl d_H_init_1 (Nat.le_of_ble_eq_true rfl) (Nat.le_of_ble_eq_true rfl) ?_
  refine W.eq (g2 := F0 m 4 ls []) rfl ?_
  refine lv_aload_n hx hb d_H_init_4 rfl (lv_at hl 0 rfl) ?_
  refine lv_sipush (v := 150) hx hb d_H_init_5 (by decide) ?_
  refine va_newa (atype := .int) (ty := .int) (N' := 150) (a0 := (150, .inl (fun _ => 0))) hx hb (hts _ (hsub _ w_156)) rfl hK hP hD hS hA (fun _ => vz_i _ _) (by decide) (by decide) (Nat.le_of_ble_eq_true rfl) (Nat.le_of_ble_eq_true rfl) (Nat.le_of_ble_eq_true rfl) d_H_init_8 (fun q_1 k_2 H hK hP hD hS => ?_)
  have hK : va_K (dC, dI) vwCl [(k_2, .int)] s := hK
  have hP : va_P (dC, dI) vwCl [(q, .inr (1, [.null, .null, .null, .int 0])), (q_1, .inl (k_2, 150, .inl (fun _ => 0)))] H := hP
  have hD : va_D A [(q, .inr (1, [.null, .null, .null, .int 0])), (q_1, .inl (k_2, 150, .inl (fun _ => 0)))] := hD
  refine W.widen (k := 1) (n := 150) (Nat.le_of_ble_eq_true rfl) (Nat.le_of_ble_eq_true rfl) ?_
  refine va_putF (D := (dC, dI)) (ci := 1) (v := .ref q_1) (ty := (.array .int)) (C := R_H) (T := T_H) (N := 4) hx hb hts (fun w h => hsub w (uw_H w h)) ty_H tok_H nm_H hown hK hP hD hS 0 rfl rfl 0 (by decide) (hts _ (hsub _ w_221)) (fun _ h9 => h9) rfl hin rfl (by decide +kernel) rfl rfl (Nat.le_of_ble_eq_true rfl) d_H_init_10 (fun H locs hP hD hS => ?_)
  have hP : va_P (dC, dI) vwCl [(q, .inr (1, [.ref q_1, .null, .null, .int 0])), (q_1, .inl (k_2, 150, .inl (fun _ => 0)))] H := hP
  have hD : va_D A [(q, .inr (1, [.ref q_1, .null, .null, .int 0])), (q_1, .inl (k_2, 150, .inl (fun _ => 0)))] := hD
  refine lv_aload_n hx hb d_H_init_13 rfl (lv_at hl 0 rfl) ?_
  refine lv_sipush (v := 150) hx hb d_H_init_14 (by decide) ?_
  refine va_newa (atype := .int) (ty := .int) (N' := 150) (a0 := (150, .inl (fun _ => 0))) hx hb (hts _ (hsub _ w_156)) rfl hK hP hD hS hA (fun _ => vz_i _ _) (by decide) (by decide) (Nat.le_of_ble_eq_true rfl) (Nat.le_of_ble_eq_true rfl) (Nat.le_of_ble_eq_true rfl) d_H_init_17 (fun q_3 k_4 H hK hP hD hS => ?_)
  have hK : va_K (dC, dI) vwCl [(k_2, .int), (k_4, .int)] s := hK
  have hP : va_P (dC, dI) vwCl [(q, .inr (1, [.ref q_1, .null, .null, .int 0])), (q_1, .inl (k_2, 150, .inl (fun _ => 0))), (q_3, .inl (k_4, 150, .inl (fun _ => 0)))] H := hP
  have hD : va_D A [(q, .inr (1, [.ref q_1, .null, .null, .int 0])), (q_1, .inl (k_2, 150, .inl (fun _ => 0))), (q_3, .inl (k_4, 150, .inl (fun _ => 0)))] := hD
  refine W.widen (k := 2) (n := 300) (Nat.le_of_ble_eq_true rfl) (Nat.le_of_ble_eq_true rfl) ?_
  refine va_putF (D := (dC, dI)) (ci := 1) (v := .ref q_3) (ty := (.array .int)) (C := R_H) (T := T_H) (N := 4) hx hb hts (fun w h => hsub w (uw_H w h)) ty_H tok_H nm_H hown hK hP hD hS 0 rfl rfl 1 (by decide) (hts _ (hsub _ w_222)) (fun _ h9 => h9) rfl hin rfl (by decide +kernel) rfl rfl (Nat.le_of_ble_eq_true rfl) d_H_init_19 (fun H locs hP hD hS => ?_)
  have hP : va_P (dC, dI) vwCl [(q, .inr (1, [.ref q_1, .ref q_3, .null, .int 0])), (q_1, .inl (k_2, 150, .inl (fun _ => 0))), (q_3, .inl (k_4, 150, .inl (fun _ => 0)))] H := hP
  have hD : va_D A [(q, .inr (1, [.ref q_1, .ref q_3, .null, .int 0])), (q_1, .inl (k_2, 150, .inl (fun _ => 0))), (q_3, .inl (k_4, 150, .inl (fun _ => 0)))] := hD
  refine lv_aload_n hx hb d_H_init_22 rfl (lv_at hl 0 rfl) ?_
  refine lv_sipush (v := 3600) hx hb d_H_init_23 (by decide) ?_
  refine va_newa (atype := .long) (ty := .long) (N' := 3600) (a0 := (3600, .inr (.inl (fun _ => 0)))) hx hb (hts _ (hsub _ w_223)) rfl hK hP hD hS hA (fun _ => vz_l _ _) (by decide) (by decide) (Nat.le_of_ble_eq_true rfl) (Nat.le_of_ble_eq_true rfl) (Nat.le_of_ble_eq_true rfl) d_H_init_26 (fun q_5 k_6 H hK hP hD hS => ?_)
  have hK : va_K (dC, dI) vwCl [(k_2, .int), (k_4, .int), (k_6, .long)] s := hK
  have hP : va_P (dC, dI) vwCl [(q, .inr (1, [.ref q_1, .ref q_3, .null, .int 0])), (q_1, .inl (k_2, 150, .inl (fun _ => 0))), (q_3, .inl (k_4, 150, .inl (fun _ => 0))), (q_5, .inl (k_6, 3600, .inr (.inl (fun _ => 0))))] H := hP
  have hD : va_D A [(q, .inr (1, [.ref q_1, .ref q_3, .null, .int 0])), (q_1, .inl (k_2, 150, .inl (fun _ => 0))), (q_3, .inl (k_4, 150, .inl (fun _ => 0))), (q_5, .inl (k_6, 3600, .inr (.inl (fun _ => 0))))] := hD
  refine W.widen (k := 3) (n := 3900) (Nat.le_of_ble_eq_true rfl) (Nat.le_of_ble_eq_true rfl) ?_
  refine va_putF (D := (dC, dI)) (ci := 1) (v := .ref q_5) (ty := (.array .long)) (C := R_H) (T := T_H) (N := 4) hx hb hts (fun w h => hsub w (uw_H w h)) ty_H tok_H nm_H hown hK hP hD hS 0 rfl rfl 2 (by decide) (hts _ (hsub _ w_224)) (fun _ h9 => h9) rfl hin rfl (by decide +kernel) rfl rfl (Nat.le_of_ble_eq_true rfl) d_H_init_28 (fun H locs hP hD hS => ?_)
  have hP : va_P (dC, dI) vwCl [(q, .inr (1, [.ref q_1, .ref q_3, .ref q_5, .int 0])), (q_1, .inl (k_2, 150, .inl (fun _ => 0))), (q_3, .inl (k_4, 150, .inl (fun _ => 0))), (q_5, .inl (k_6, 3600, .inr (.inl (fun _ => 0))))] H := hP
  have hD : va_D A [(q, .inr (1, [.ref q_1, .ref q_3, .ref q_5, .int 0])), (q_1, .inl (k_2, 150, .inl (fun _ => 0))), (q_3, .inl (k_4, 150, .inl (fun _ => 0))), (q_5, .inl (k_6, 3600, .inr (.inl (fun _ => 0))))] := hD
  refine W.widen (k := 3) (n := 3900) (Nat.le_of_ble_eq_true rfl) (Nat.le_of_ble_eq_true rfl) ?_
  exact W.vret hx hb hr (fun t ht hW => ⟨⟨(), rfl, trivial, trivial⟩, hS.F ht⟩) hS.2.2 d_H_init_31

abbrev ws_k_C_init (q : Nat) : va_W := [(q, .inr (0, [.null, .int 0, .null, .null, .int 0]))]
set_option maxHeartbeats 4000000 in
set_option maxRecDepth 100000 in
theorem k_C_init (l : Launch) (dC : Nat → ClassId) (dI : Nat → Nat → Nat) (q : Nat) (sz : Nat) : Met l y_C_init (Cond.code y_C_init prog_2_method_1_code 1 none :: bigW) ({ frames := 1, cells := 2, slots := 24, locals := 12 } : Room) (va_Pc [.ref q] (fun U => U.heap.size = sz ∧ va_P (dC, dI) vwCl (ws_k_C_init q) U.heap ∧ va_K (dC, dI) vwCl [] U ∧ va_D (fun _ => True) (ws_k_C_init q))) (va_Qv (fun (u : Unit) => True) (fun _ t => ∃ (q1 q2 : Nat), va_P (dC, dI) vwCl [(q, .inr (0, [.null, .int 0, .ref q1, .ref q2, .int 0]))] t.heap ∧ va_K (dC, dI) vwCl [] t ∧ va_D (va_A (ws_k_C_init q) sz) [(q, .inr (0, [.null, .int 0, .ref q1, .ref q2, .int 0]))]) (va_A (ws_k_C_init q) sz)) 2 24 (va_A (ws_k_C_init q) sz) := by
  refine Met.ofW (cc := prog_2_method_1_code) (maxL := 1) (ret := none) (by decide) rfl ?_
  intro p e s m args below meth cx s₁ B hml hv
  obtain ⟨rfl, hsz, hP, hK, hD0⟩ := hv
  have hx := B.exec
  have hb := B.bytes
  have hr := B.returns
  have hts := atoms_spec (ws := (Cond.code y_C_init prog_2_method_1_code 1 none :: bigW)) B.pre
  have hsub : ∀ w ∈ bigW, w ∈ (Cond.code y_C_init prog_2_method_1_code 1 none :: bigW) := fun w h => List.mem_cons_of_mem _ h
  have hown : s.vm.findClass "MapFramer$Call" = some m.cls := findClass_of_methodNamed B.named
  have hlocks := B.notSynchronized
  have hin : meth.name = "<init>" := (name_of_methodNamed B.named B.method).1
  subst hsz
  have hD := hD0.self (sz := s.heap.size)
  generalize hAe : va_A (ws_k_C_init q) s.heap.size = A at hD ⊢
  have hA : ∀ q : Nat, s.heap.size ≤ q → A q := fun q h => by rw [← hAe]; exact Or.inr h
  have hS : va_S A s.heap s.heap [] := va_S.rf
  have hP : va_P (dC, dI) vwCl [(q, .inr (0, [.null, .int 0, .null, .null, .int 0]))] s.heap := hP
  have hD : va_D A [(q, .inr (0, [.null, .int 0, .null, .null, .int 0]))] := hD
  have hl := lv_entry ([.ref q]) (n := 1) (Nat.le_of_ble_eq_true rfl)
  rw [lg_entry_eq]
  generalize (lg_sl ([.ref q]) ++ List.replicate (1 - (lg_sl ([.ref q])).length) Slot.unset).toArray = ls at hl ⊢
  have hl : lv_has ls 1 [(0, .ref q)] := hl
  refine lv_aload_n hx hb d_C_init_0 rfl (lv_at hl 0 rfl) ?_
  refine W.objInit hx hb hown (hts _ (hsub _ w_225)) (hts _ (hsub _ w_142)) (hts _ (hsub _ w_143)) rfl (by rw [hml]; exact hl.1) rfl d_C_init_1 (Nat.le_of_ble_eq_true rfl) (Nat.le_of_ble_eq_true rfl) ?_
  refine W.eq (g2 := F0 m 4 ls []) rfl ?_
  refine lv_aload_n hx hb d_C_init_4 rfl (lv_at hl 0 rfl) ?_
  refine lv_bipush (v := 12) hx hb d_C_init_5 (by decide) ?_
  refine va_newa (atype := .long) (ty := .long) (N' := 12) (a0 := (12, .inr (.inl (fun _ => 0)))) hx hb (hts _ (hsub _ w_223)) rfl hK hP hD hS hA (fun _ => vz_l _ _) (by decide) (by decide) (Nat.le_of_ble_eq_true rfl) (Nat.le_of_ble_eq_true rfl) (Nat.le_of_ble_eq_true rfl) d_C_init_7 (fun q_1 k_2 H hK hP hD hS => ?_)
  have hK : va_K (dC, dI) vwCl [(k_2, .long)] s := hK
  have hP : va_P (dC, dI) vwCl [(q, .inr (0, [.null, .int 0, .null, .null, .int 0])), (q_1, .inl (k_2, 12, .inr (.inl (fun _ => 0))))] H := hP
  have hD : va_D A [(q, .inr (0, [.null, .int 0, .null, .null, .int 0])), (q_1, .inl (k_2, 12, .inr (.inl (fun _ => 0))))] := hD
  refine W.widen (k := 1) (n := 12) (Nat.le_of_ble_eq_true rfl) (Nat.le_of_ble_eq_true rfl) ?_
  refine va_putF (D := (dC, dI)) (ci := 0) (v := .ref q_1) (ty := (.array .long)) (C := R_C) (T := T_C) (N := 5) hx hb hts (fun w h => hsub w (uw_C w h)) ty_C tok_C nm_C hown hK hP hD hS 0 rfl rfl 2 (by decide) (hts _ (hsub _ w_226)) (fun _ h9 => h9) rfl hin rfl (by decide +kernel) rfl rfl (Nat.le_of_ble_eq_true rfl) d_C_init_9 (fun H locs hP hD hS => ?_)
  have hP : va_P (dC, dI) vwCl [(q, .inr (0, [.null, .int 0, .ref q_1, .null, .int 0])), (q_1, .inl (k_2, 12, .inr (.inl (fun _ => 0))))] H := hP
  have hD : va_D A [(q, .inr (0, [.null, .int 0, .ref q_1, .null, .int 0])), (q_1, .inl (k_2, 12, .inr (.inl (fun _ => 0))))] := hD
  refine lv_aload_n hx hb d_C_init_12 rfl (lv_at hl 0 rfl) ?_
  refine lv_bipush (v := 12) hx hb d_C_init_13 (by decide) ?_
  refine va_newa (atype := .long) (ty := .long) (N' := 12) (a0 := (12, .inr (.inl (fun _ => 0)))) hx hb (hts _ (hsub _ w_223)) rfl hK hP hD hS hA (fun _ => vz_l _ _) (by decide) (by decide) (Nat.le_of_ble_eq_true rfl) (Nat.le_of_ble_eq_true rfl) (Nat.le_of_ble_eq_true rfl) d_C_init_15 (fun q_3 k_4 H hK hP hD hS => ?_)
  have hK : va_K (dC, dI) vwCl [(k_2, .long), (k_4, .long)] s := hK
  have hP : va_P (dC, dI) vwCl [(q, .inr (0, [.null, .int 0, .ref q_1, .null, .int 0])), (q_1, .inl (k_2, 12, .inr (.inl (fun _ => 0)))), (q_3, .inl (k_4, 12, .inr (.inl (fun _ => 0))))] H := hP
  have hD : va_D A [(q, .inr (0, [.null, .int 0, .ref q_1, .null, .int 0])), (q_1, .inl (k_2, 12, .inr (.inl (fun _ => 0)))), (q_3, .inl (k_4, 12, .inr (.inl (fun _ => 0))))] := hD
  refine W.widen (k := 2) (n := 24) (Nat.le_of_ble_eq_true rfl) (Nat.le_of_ble_eq_true rfl) ?_
  refine va_putF (D := (dC, dI)) (ci := 0) (v := .ref q_3) (ty := (.array .long)) (C := R_C) (T := T_C) (N := 5) hx hb hts (fun w h => hsub w (uw_C w h)) ty_C tok_C nm_C hown hK hP hD hS 0 rfl rfl 3 (by decide) (hts _ (hsub _ w_227)) (fun _ h9 => h9) rfl hin rfl (by decide +kernel) rfl rfl (Nat.le_of_ble_eq_true rfl) d_C_init_17 (fun H locs hP hD hS => ?_)
  have hP : va_P (dC, dI) vwCl [(q, .inr (0, [.null, .int 0, .ref q_1, .ref q_3, .int 0])), (q_1, .inl (k_2, 12, .inr (.inl (fun _ => 0)))), (q_3, .inl (k_4, 12, .inr (.inl (fun _ => 0))))] H := hP
  have hD : va_D A [(q, .inr (0, [.null, .int 0, .ref q_1, .ref q_3, .int 0])), (q_1, .inl (k_2, 12, .inr (.inl (fun _ => 0)))), (q_3, .inl (k_4, 12, .inr (.inl (fun _ => 0))))] := hD
  refine W.widen (k := 2) (n := 24) (Nat.le_of_ble_eq_true rfl) (Nat.le_of_ble_eq_true rfl) ?_
  exact W.vret hx hb hr (fun t ht hW => ⟨⟨(), rfl, trivial, q_1, q_3, by rw [ht]; exact hP.sub [0] rfl, va_K.moved hW.alike (hK.sub (tys' := []) [] rfl), hD.sub [0] (by decide) rfl⟩, hS.F ht⟩) hS.2.2 d_C_init_20

abbrev ws_k_K_init (k : Nat) : va_W := [(k, .inr (2, [.null, .null, .null, .null, .int 0, .null, .int 0, .int 0, .int 0, .int 0, .long 0, .int 0, .int 0, .int 0]))]
set_option maxHeartbeats 4000000 in
set_option maxRecDepth 100000 in
theorem k_K_init (l : Launch) (dC : Nat → ClassId) (dI : Nat → Nat → Nat) (k : Nat) (sz : Nat) : Met l y_K_init (Cond.code y_K_init prog_6_method_1_code 2 none :: bigW) ({ frames := 2, cells := 78, slots := 4640, locals := 32 } : Room) (va_Pc [.ref k] (fun U => U.heap.size = sz ∧ va_P (dC, dI) vwCl (ws_k_K_init k) U.heap ∧ va_K (dC, dI) vwCl [] U ∧ va_D (fun _ => True) (ws_k_K_init k) ∧ exP (va_A (ws_k_K_init k) sz) U)) (va_Qv (fun (u : Unit) => True) (fun _ t => ∃ (kh ks kc9 : Nat), va_P (dC, dI) vwCl [(k, .inr (2, [.ref kh, .ref ks, .ref kc9, .null, .int 0, .null, .int 0, .int 0, .int 0, .int 0, .long 0, .int (-1), .int 0, .int (-1)]))] t.heap ∧ va_K (dC, dI) vwCl [] t ∧ va_D (va_A (ws_k_K_init k) sz) [(k, .inr (2, [.ref kh, .ref ks, .ref kc9, .null, .int 0, .null, .int 0, .int 0, .int 0, .int 0, .long 0, .int (-1), .int 0, .int (-1)]))]) (va_A (ws_k_K_init k) sz)) 78 4640 (va_A (ws_k_K_init k) sz) := by
  refine Met.ofW (cc := prog_6_method_1_code) (maxL := 2) (ret := none) (by decide) rfl ?_
  intro p e s m args below meth cx s₁ B hml hv
  obtain ⟨rfl, hsz, hP, hK, hD0, hex⟩ := hv
  have hx := B.exec
  have hb := B.bytes
  have hr := B.returns
  have hts := atoms_spec (ws := (Cond.code y_K_init prog_6_method_1_code 2 none :: bigW)) B.pre
  have hsub : ∀ w ∈ bigW, w ∈ (Cond.code y_K_init prog_6_method_1_code 2 none :: bigW) := fun w h => List.mem_cons_of_mem _ h
  have hown : s.vm.findClass "MapFramer$Machine" = some m.cls := findClass_of_methodNamed B.named
  have hlocks := B.notSynchronized
  have hin : meth.name = "<init>" := (name_of_methodNamed B.named B.method).1
  subst hsz
  have hD := hD0.self (sz := s.heap.size)
  generalize hAe : va_A (ws_k_K_init k) s.heap.size = A at hD hex ⊢
  have hA : ∀ q : Nat, s.heap.size ≤ q → A q := fun q h => by rw [← hAe]; exact Or.inr h
  have hS : va_S A s.heap s.heap [] := va_S.rf
  have hP : va_P (dC, dI) vwCl [(k, .inr (2, [.null, .null, .null, .null, .int 0, .null, .int 0, .int 0, .int 0, .int 0, .long 0, .int 0, .int 0, .int 0]))] s.heap := hP
  have hD : va_D A [(k, .inr (2, [.null, .null, .null, .null, .int 0, .null, .int 0, .int 0, .int 0, .int 0, .long 0, .int 0, .int 0, .int 0]))] := hD
  have hl := lv_entry ([.ref k]) (n := 2) (Nat.le_of_ble_eq_true rfl)
  rw [lg_entry_eq]
  generalize (lg_sl ([.ref k]) ++ List.replicate (2 - (lg_sl ([.ref k])).length) Slot.unset).toArray = ls at hl ⊢
  have hl : lv_has ls 2 [(0, .ref k)] := hl
  have htb := hex.2.2.2.2.2.1
  refine lv_aload_n hx hb d_K_init_0 rfl (lv_at hl 0 rfl) ?_
  refine W.objInit hx hb hown (hts _ (hsub _ w_228)) (hts _ (hsub _ w_142)) (hts _ (hsub _ w_143)) rfl (by rw [hml]; exact hl.1) rfl d_K_init_1 (Nat.le_of_ble_eq_true rfl) (Nat.le_of_ble_eq_true rfl) ?_
  refine W.eq (g2 := F0 m 4 ls []) rfl ?_
  refine lv_aload_n hx hb d_K_init_4 rfl (lv_at hl 0 rfl) ?_
  refine va_new (ci := 1) (fs := [.null, .null, .null, .int 0]) (C := R_H) (T := T_H) (N := 4) hx hb hts (fun w h => hsub w (uw_H w h)) ty_H tok_H hown (hts _ (hsub _ w_229)) (hts _ (hsub _ w_230)) (hts _ (hsub _ w_231)) hK hP hD hS hA rfl (fun j hj => df_H j hj) (Nat.le_of_ble_eq_true rfl) (Nat.le_of_ble_eq_true rfl) d_K_init_5 (fun q_1 H hP hD hS => ?_)
  have hP : va_P (dC, dI) vwCl [(k, .inr (2, [.null, .null, .null, .null, .int 0, .null, .int 0, .int 0, .int 0, .int 0, .long 0, .int 0, .int 0, .int 0])), (q_1, .inr (1, [.null, .null, .null, .int 0]))] H := hP
  have hD : va_D A [(k, .inr (2, [.null, .null, .null, .null, .int 0, .null, .int 0, .int 0, .int 0, .int 0, .long 0, .int 0, .int 0, .int 0])), (q_1, .inr (1, [.null, .null, .null, .int 0]))] := hD
  refine W.widen (k := 1) (n := 4) (Nat.le_of_ble_eq_true rfl) (Nat.le_of_ble_eq_true rfl) ?_
  refine lv_dup hx hb d_K_init_8 rfl ?_
  have hPc := hP.sub (ws' := [(q_1, .inr (1, [.null, .null, .null, .int 0]))]) [1] rfl
  have hKc := hK.sub (tys' := []) [] rfl
  have hDc := hD.sub (ws' := [(q_1, .inr (1, [.null, .null, .null, .int 0]))]) [1] (by decide) rfl
  have hFc := va_free (wc := [(q_1, .inr (1, [.null, .null, .null, .int 0]))]) hD hS hA [1] rfl
  refine va_callv (va_runIN (As := []) (rest := [.ref q_1, .ref k]) ⟨hx, hb, hml, hown, hts⟩ (k_H_init l dC dI q_1 H.size) ⟨va_cnB 0 hts (gC hsub w_232) rfl rfl rfl htb.1 (hts _ (hsub _ w_231)) (by decide +kernel) ⟨Nat.le_of_ble_eq_true rfl, Nat.le_of_ble_eq_true rfl⟩, rfl, (hts _ (hsub _ w_233))⟩ ⟨bl_1000, fun U hU hW => ⟨rfl, by rw [hU], by rw [hU]; exact hPc, va_K.moved hW.alike hKc, hDc.weaken (fun _ _ _ _ => trivial)⟩⟩ rfl rfl hl.1 rfl (lv_room (Nat.le_of_ble_eq_true rfl)) d_K_init_9 ⟨Nat.le_of_ble_eq_true rfl, Nat.le_of_ble_eq_true rfl⟩) hS (fun q _ h => hFc q h) hFc (fun u_4 t H1 locs ht hvm hw hB hz1 hk1 hS => ?_)
  have hP1 : va_P (dC, dI) vwCl [] H1 := nil_P
  have hD1 : va_D (va_A [(q_1, .inr (1, [.null, .null, .null, .int 0]))] H.size) [] := nil_D
  have hK1 : va_K (dC, dI) vwCl [] s := hK.sub (tys' := []) [] rfl
  obtain ⟨hP, hD⟩ := va_join (wr := [(k, .inr (2, [.null, .null, .null, .null, .int 0, .null, .int 0, .int 0, .int 0, .int 0, .long 0, .int 0, .int 0, .int 0]))]) (w1 := []) hP hD [1] [0] rfl rfl (by decide) (by decide) hk1 hFc hP1 hD1
  have hK := (hK.sub (tys' := []) [] rfl).app hK1
  generalize H1 = H at hP hS ⊢
  have hP : va_P (dC, dI) vwCl [(k, .inr (2, [.null, .null, .null, .null, .int 0, .null, .int 0, .int 0, .int 0, .int 0, .long 0, .int 0, .int 0, .int 0]))] H := hP
  have hD : va_D A [(k, .inr (2, [.null, .null, .null, .null, .int 0, .null, .int 0, .int 0, .int 0, .int 0, .long 0, .int 0, .int 0, .int 0]))] := hD
  have hK : va_K (dC, dI) vwCl [] s := hK
  refine W.widen (k := 4) (n := 3904) (Nat.le_of_ble_eq_true rfl) (Nat.le_of_ble_eq_true rfl) ?_
  refine va_putF (D := (dC, dI)) (ci := 2) (v := .ref q_1) (ty := (.object "MapFramer$Heap")) (C := R_K) (T := T_K) (N := 14) hx hb hts (fun w h => hsub w (uw_K w h)) ty_K tok_K nm_K hown hK hP hD hS 0 rfl rfl 0 (by decide) (hts _ (hsub _ w_234)) (fun _ h9 => h9) rfl hin rfl (by decide +kernel) rfl rfl (Nat.le_of_ble_eq_true rfl) d_K_init_12 (fun H locs hP hD hS => ?_)
  have hP : va_P (dC, dI) vwCl [(k, .inr (2, [.ref q_1, .null, .null, .null, .int 0, .null, .int 0, .int 0, .int 0, .int 0, .long 0, .int 0, .int 0, .int 0]))] H := hP
  have hD : va_D A [(k, .inr (2, [.ref q_1, .null, .null, .null, .int 0, .null, .int 0, .int 0, .int 0, .int 0, .long 0, .int 0, .int 0, .int 0]))] := hD
  refine lv_aload_n hx hb d_K_init_15 rfl (lv_at hl 0 rfl) ?_
  refine lv_bipush (v := 16) hx hb d_K_init_16 (by decide) ?_
  refine va_newa (atype := .long) (ty := .long) (N' := 16) (a0 := (16, .inr (.inl (fun _ => 0)))) hx hb (hts _ (hsub _ w_223)) rfl hK hP hD hS hA (fun _ => vz_l _ _) (by decide) (by decide) (Nat.le_of_ble_eq_true rfl) (Nat.le_of_ble_eq_true rfl) (Nat.le_of_ble_eq_true rfl) d_K_init_18 (fun q_5 k_6 H hK hP hD hS => ?_)
  have hK : va_K (dC, dI) vwCl [(k_6, .long)] s := hK
  have hP : va_P (dC, dI) vwCl [(k, .inr (2, [.ref q_1, .null, .null, .null, .int 0, .null, .int 0, .int 0, .int 0, .int 0, .long 0, .int 0, .int 0, .int 0])), (q_5, .inl (k_6, 16, .inr (.inl (fun _ => 0))))] H := hP
  have hD : va_D A [(k, .inr (2, [.ref q_1, .null, .null, .null, .int 0, .null, .int 0, .int 0, .int 0, .int 0, .long 0, .int 0, .int 0, .int 0])), (q_5, .inl (k_6, 16, .inr (.inl (fun _ => 0))))] := hD
  refine W.widen (k := 5) (n := 3920) (Nat.le_of_ble_eq_true rfl) (Nat.le_of_ble_eq_true rfl) ?_
  refine va_putF (D := (dC, dI)) (ci := 2) (v := .ref q_5) (ty := (.array .long)) (C := R_K) (T := T_K) (N := 14) hx hb hts (fun w h => hsub w (uw_K w h)) ty_K tok_K nm_K hown hK hP hD hS 0 rfl rfl 1 (by decide) (hts _ (hsub _ w_235)) (fun _ h9 => h9) rfl hin rfl (by decide +kernel) rfl rfl (Nat.le_of_ble_eq_true rfl) d_K_init_20 (fun H locs hP hD hS => ?_)
  have hP : va_P (dC, dI) vwCl [(k, .inr (2, [.ref q_1, .ref q_5, .null, .null, .int 0, .null, .int 0, .int 0, .int 0, .int 0, .long 0, .int 0, .int 0, .int 0])), (q_5, .inl (k_6, 16, .inr (.inl (fun _ => 0))))] H := hP
  have hD : va_D A [(k, .inr (2, [.ref q_1, .ref q_5, .null, .null, .int 0, .null, .int 0, .int 0, .int 0, .int 0, .long 0, .int 0, .int 0, .int 0])), (q_5, .inl (k_6, 16, .inr (.inl (fun _ => 0))))] := hD
  refine lv_aload_n hx hb d_K_init_23 rfl (lv_at hl 0 rfl) ?_
  refine lv_bipush (v := 24) hx hb d_K_init_24 (by decide) ?_
  refine va_newq (N' := 24) hx hb hown (hts _ (hsub _ w_236)) htb.2.2.2.1 hK hP hD hS hA (by decide) (by decide) (Nat.le_of_ble_eq_true rfl) (Nat.le_of_ble_eq_true rfl) (Nat.le_of_ble_eq_true rfl) d_K_init_26 (fun q_7 k_8 H hK hP hD hS => ?_)
  have hK : va_K (dC, dI) vwCl [(k_6, .long), (k_8, .object "MapFramer$Call")] s := hK
  have hP : va_P (dC, dI) vwCl [(k, .inr (2, [.ref q_1, .ref q_5, .null, .null, .int 0, .null, .int 0, .int 0, .int 0, .int 0, .long 0, .int 0, .int 0, .int 0])), (q_5, .inl (k_6, 16, .inr (.inl (fun _ => 0)))), (q_7, .inl (k_8, 24, .inr (.inr (.inr (.inr (fun _ => none))))))] H := hP
  have hD : va_D A [(k, .inr (2, [.ref q_1, .ref q_5, .null, .null, .int 0, .null, .int 0, .int 0, .int 0, .int 0, .long 0, .int 0, .int 0, .int 0])), (q_5, .inl (k_6, 16, .inr (.inl (fun _ => 0)))), (q_7, .inl (k_8, 24, .inr (.inr (.inr (.inr (fun _ => none))))))] := hD
  refine W.widen (k := 6) (n := 3944) (Nat.le_of_ble_eq_true rfl) (Nat.le_of_ble_eq_true rfl) ?_
  refine va_putF (D := (dC, dI)) (ci := 2) (v := .ref q_7) (ty := (.array (.object "MapFramer$Call"))) (C := R_K) (T := T_K) (N := 14) hx hb hts (fun w h => hsub w (uw_K w h)) ty_K tok_K nm_K hown hK hP hD hS 0 rfl rfl 2 (by decide) (hts _ (hsub _ w_237)) (fun _ h9 => h9) rfl hin rfl (by decide +kernel) rfl rfl (Nat.le_of_ble_eq_true rfl) d_K_init_29 (fun H locs hP hD hS => ?_)
  have hP : va_P (dC, dI) vwCl [(k, .inr (2, [.ref q_1, .ref q_5, .ref q_7, .null, .int 0, .null, .int 0, .int 0, .int 0, .int 0, .long 0, .int 0, .int 0, .int 0])), (q_5, .inl (k_6, 16, .inr (.inl (fun _ => 0)))), (q_7, .inl (k_8, 24, .inr (.inr (.inr (.inr (fun _ => none))))))] H := hP
  have hD : va_D A [(k, .inr (2, [.ref q_1, .ref q_5, .ref q_7, .null, .int 0, .null, .int 0, .int 0, .int 0, .int 0, .long 0, .int 0, .int 0, .int 0])), (q_5, .inl (k_6, 16, .inr (.inl (fun _ => 0)))), (q_7, .inl (k_8, 24, .inr (.inr (.inr (.inr (fun _ => none))))))] := hD
  refine lv_aload_n hx hb d_K_init_32 rfl (lv_at hl 0 rfl) ?_
  refine lv_iconst (v := (-1)) hx hb d_K_init_33 (by decide) ?_
  refine va_put (D := (dC, dI)) (ci := 2) (v := .int (-1)) (ty := .int) (C := R_K) (T := T_K) (N := 14) hx hb hts (fun w h => hsub w (uw_K w h)) ty_K tok_K nm_K hown hK hP hD hS 0 rfl rfl 11 (by decide) (hts _ (hsub _ w_238)) (fun _ h9 => h9) rfl (by decide +kernel) rfl rfl (Nat.le_of_ble_eq_true rfl) d_K_init_34 (fun H locs hP hD hS => ?_)
  have hP : va_P (dC, dI) vwCl [(k, .inr (2, [.ref q_1, .ref q_5, .ref q_7, .null, .int 0, .null, .int 0, .int 0, .int 0, .int 0, .long 0, .int (-1), .int 0, .int 0])), (q_5, .inl (k_6, 16, .inr (.inl (fun _ => 0)))), (q_7, .inl (k_8, 24, .inr (.inr (.inr (.inr (fun _ => none))))))] H := hP
  have hD : va_D A [(k, .inr (2, [.ref q_1, .ref q_5, .ref q_7, .null, .int 0, .null, .int 0, .int 0, .int 0, .int 0, .long 0, .int (-1), .int 0, .int 0])), (q_5, .inl (k_6, 16, .inr (.inl (fun _ => 0)))), (q_7, .inl (k_8, 24, .inr (.inr (.inr (.inr (fun _ => none))))))] := hD
  refine lv_aload_n hx hb d_K_init_37 rfl (lv_at hl 0 rfl) ?_
  refine lv_iconst (v := (-1)) hx hb d_K_init_38 (by decide) ?_
  refine va_put (D := (dC, dI)) (ci := 2) (v := .int (-1)) (ty := .int) (C := R_K) (T := T_K) (N := 14) hx hb hts (fun w h => hsub w (uw_K w h)) ty_K tok_K nm_K hown hK hP hD hS 0 rfl rfl 13 (by decide) (hts _ (hsub _ w_239)) (fun _ h9 => h9) rfl (by decide +kernel) rfl rfl (Nat.le_of_ble_eq_true rfl) d_K_init_39 (fun H locs hP hD hS => ?_)
  have hP : va_P (dC, dI) vwCl [(k, .inr (2, [.ref q_1, .ref q_5, .ref q_7, .null, .int 0, .null, .int 0, .int 0, .int 0, .int 0, .long 0, .int (-1), .int 0, .int (-1)])), (q_5, .inl (k_6, 16, .inr (.inl (fun _ => 0)))), (q_7, .inl (k_8, 24, .inr (.inr (.inr (.inr (fun _ => none))))))] H := hP
  have hD : va_D A [(k, .inr (2, [.ref q_1, .ref q_5, .ref q_7, .null, .int 0, .null, .int 0, .int 0, .int 0, .int 0, .long 0, .int (-1), .int 0, .int (-1)])), (q_5, .inl (k_6, 16, .inr (.inl (fun _ => 0)))), (q_7, .inl (k_8, 24, .inr (.inr (.inr (.inr (fun _ => none))))))] := hD
  refine lv_iconst (v := 0) hx hb d_K_init_42 (by decide) ?_
  refine lv_istore_n (lv' := [(1, .int 0), (0, .ref k)]) hx hb d_K_init_43 rfl hl (by decide) rfl (fun ls hl => ?_)
  have hP := hP.sub (ws' := [(k, .inr (2, [.ref q_1, .ref q_5, .ref q_7, .null, .int 0, .null, .int 0, .int 0, .int 0, .int 0, .long 0, .int (-1), .int 0, .int (-1)])), (q_7, .inl (k_8, 24, .inr (.inr (.inr (.inr (fun _ => none))))))]) [0, 2] rfl
  have hD := hD.sub (ws' := [(k, .inr (2, [.ref q_1, .ref q_5, .ref q_7, .null, .int 0, .null, .int 0, .int 0, .int 0, .int 0, .long 0, .int (-1), .int 0, .int (-1)])), (q_7, .inl (k_8, 24, .inr (.inr (.inr (.inr (fun _ => none))))))]) [0, 2] (by decide) rfl
  have hK := hK.sub (tys' := [(k_8, .object "MapFramer$Call")]) [1] rfl
  refine lv_iload_n hx hb d_K_init_44 rfl (lv_at hl 0 rfl) ?_
  refine lv_bipush (v := 24) hx hb d_K_init_45 (by decide) ?_
  refine lv_icmp_ge (tgt := 69) hx hb d_K_init_47 (by decide) (fun c_9 => ?_) (fun c_9 => ?_)
  · skip
    first | exact absurd c_9 (by decide) | exact absurd (by decide) c_9
  · skip
    refine lv_aload_n hx hb d_K_init_50 rfl (lv_at hl 1 rfl) ?_
    refine va_get (D := (dC, dI)) (ci := 2) (v := .ref q_7) (C := R_K) (T := T_K) (N := 14) hx hb hts (fun w h => hsub w (uw_K w h)) hown hK hP 0 rfl rfl 2 (by decide) (hts _ (hsub _ w_237)) (fun _ h9 => h9) rfl d_K_init_51 ?_
    refine lv_iload_n hx hb d_K_init_54 rfl (lv_at hl 0 rfl) ?_
    refine va_new (ci := 0) (fs := [.null, .int 0, .null, .null, .int 0]) (C := R_C) (T := T_C) (N := 5) hx hb hts (fun w h => hsub w (uw_C w h)) ty_C tok_C hown (hts _ (hsub _ w_236)) (hts _ (hsub _ w_240)) (hts _ (hsub _ w_241)) hK hP hD hS hA rfl (fun j hj => df_C j hj) (Nat.le_of_ble_eq_true rfl) (Nat.le_of_ble_eq_true rfl) d_K_init_55 (fun q_10 H hP hD hS => ?_)
    have hP : va_P (dC, dI) vwCl [(k, .inr (2, [.ref q_1, .ref q_5, .ref q_7, .null, .int 0, .null, .int 0, .int 0, .int 0, .int 0, .long 0, .int (-1), .int 0, .int (-1)])), (q_7, .inl (k_8, 24, .inr (.inr (.inr (.inr (fun _ => none)))))), (q_10, .inr (0, [.null, .int 0, .null, .null, .int 0]))] H := hP
    have hD : va_D A [(k, .inr (2, [.ref q_1, .ref q_5, .ref q_7, .null, .int 0, .null, .int 0, .int 0, .int 0, .int 0, .long 0, .int (-1), .int 0, .int (-1)])), (q_7, .inl (k_8, 24, .inr (.inr (.inr (.inr (fun _ => none)))))), (q_10, .inr (0, [.null, .int 0, .null, .null, .int 0]))] := hD
    refine W.widen (k := 7) (n := 3949) (Nat.le_of_ble_eq_true rfl) (Nat.le_of_ble_eq_true rfl) ?_
    refine lv_dup hx hb d_K_init_58 rfl ?_
    have hPc := hP.sub (ws' := [(q_10, .inr (0, [.null, .int 0, .null, .null, .int 0]))]) [2] rfl
    have hKc := hK.sub (tys' := []) [] rfl
    have hDc := hD.sub (ws' := [(q_10, .inr (0, [.null, .int 0, .null, .null, .int 0]))]) [2] (by decide) rfl
    have hFc := va_free (wc := [(q_10, .inr (0, [.null, .int 0, .null, .null, .int 0]))]) hD hS hA [2] rfl
    refine va_callv (va_runIN (As := []) (rest := [.ref q_10, .int 0, .ref q_7]) ⟨hx, hb, hml, hown, hts⟩ (k_C_init l dC dI q_10 H.size) ⟨va_cnB 0 hts (gC hsub w_242) rfl rfl rfl htb.2.1 (hts _ (hsub _ w_241)) (by decide +kernel) ⟨Nat.le_of_ble_eq_true rfl, Nat.le_of_ble_eq_true rfl⟩, rfl, (hts _ (hsub _ w_243))⟩ ⟨bl_1000, fun U hU hW => ⟨rfl, by rw [hU], by rw [hU]; exact hPc, va_K.moved hW.alike hKc, hDc.weaken (fun _ _ _ _ => trivial)⟩⟩ rfl rfl hl.1 rfl (lv_room (Nat.le_of_ble_eq_true rfl)) d_K_init_59 ⟨Nat.le_of_ble_eq_true rfl, Nat.le_of_ble_eq_true rfl⟩) hS (fun q _ h => hFc q h) hFc (fun u_13 t H1 locs ht hvm hw hB hz1 hk1 hS => ?_)
    obtain ⟨q_14, q_15, hP1, hK1, hD1⟩ := hB
    rw [ht] at hP1
    have hK1 := va_K.moved hvm.symm hK1
    obtain ⟨hP, hD⟩ := va_join (wr := [(k, .inr (2, [.ref q_1, .ref q_5, .ref q_7, .null, .int 0, .null, .int 0, .int 0, .int 0, .int 0, .long 0, .int (-1), .int 0, .int (-1)])), (q_7, .inl (k_8, 24, .inr (.inr (.inr (.inr (fun _ => none))))))]) (w1 := [(q_10, .inr (0, [.null, .int 0, .ref q_14, .ref q_15, .int 0]))]) hP hD [2] [0, 1] rfl rfl (by decide) (by decide) hk1 hFc hP1 hD1
    have hK := (hK.sub (tys' := [(k_8, .object "MapFramer$Call")]) [0] rfl).app hK1
    generalize H1 = H at hP hS ⊢
    have hP : va_P (dC, dI) vwCl [(k, .inr (2, [.ref q_1, .ref q_5, .ref q_7, .null, .int 0, .null, .int 0, .int 0, .int 0, .int 0, .long 0, .int (-1), .int 0, .int (-1)])), (q_7, .inl (k_8, 24, .inr (.inr (.inr (.inr (fun _ => none)))))), (q_10, .inr (0, [.null, .int 0, .ref q_14, .ref q_15, .int 0]))] H := hP
    have hD : va_D A [(k, .inr (2, [.ref q_1, .ref q_5, .ref q_7, .null, .int 0, .null, .int 0, .int 0, .int 0, .int 0, .long 0, .int (-1), .int 0, .int (-1)])), (q_7, .inl (k_8, 24, .inr (.inr (.inr (.inr (fun _ => none)))))), (q_10, .inr (0, [.null, .int 0, .ref q_14, .ref q_15, .int 0]))] := hD
    have hK : va_K (dC, dI) vwCl [(k_8, .object "MapFramer$Call")] s := hK
    refine W.widen (k := 9) (n := 3973) (Nat.le_of_ble_eq_true rfl) (Nat.le_of_ble_eq_true rfl) ?_
    refine va_astq (r := (R_C, T_C, 5)) hx hb hK hP hD hS 1 0 2 0 rfl rfl rfl rfl (vp_in_iff.mpr (by decide)) d_K_init_62 (fun H locs hP hD hS => ?_)
    obtain ⟨fq_16, hfq⟩ : ∃ z : Nat → Option Nat, z = (va_up (fun _ => none) (0 : Int32).toNatClampNeg (some q_10)) := ⟨_, rfl⟩
    have hP : va_P (dC, dI) vwCl [(k, .inr (2, [.ref q_1, .ref q_5, .ref q_7, .null, .int 0, .null, .int 0, .int 0, .int 0, .int 0, .long 0, .int (-1), .int 0, .int (-1)])), (q_7, .inl (k_8, 24, .inr (.inr (.inr (.inr (va_up (fun _ => none) (0 : Int32).toNatClampNeg (some q_10))))))), (q_10, .inr (0, [.null, .int 0, .ref q_14, .ref q_15, .int 0]))] H := hP
    have hD : va_D A [(k, .inr (2, [.ref q_1, .ref q_5, .ref q_7, .null, .int 0, .null, .int 0, .int 0, .int 0, .int 0, .long 0, .int (-1), .int 0, .int (-1)])), (q_7, .inl (k_8, 24, .inr (.inr (.inr (.inr (va_up (fun _ => none) (0 : Int32).toNatClampNeg (some q_10))))))), (q_10, .inr (0, [.null, .int 0, .ref q_14, .ref q_15, .int 0]))] := hD
    rw [← hfq] at hP hD
    have hP : va_P (dC, dI) vwCl [(k, .inr (2, [.ref q_1, .ref q_5, .ref q_7, .null, .int 0, .null, .int 0, .int 0, .int 0, .int 0, .long 0, .int (-1), .int 0, .int (-1)])), (q_7, .inl (k_8, 24, .inr (.inr (.inr (.inr fq_16))))), (q_10, .inr (0, [.null, .int 0, .ref q_14, .ref q_15, .int 0]))] H := hP
    have hD : va_D A [(k, .inr (2, [.ref q_1, .ref q_5, .ref q_7, .null, .int 0, .null, .int 0, .int 0, .int 0, .int 0, .long 0, .int (-1), .int 0, .int (-1)])), (q_7, .inl (k_8, 24, .inr (.inr (.inr (.inr fq_16))))), (q_10, .inr (0, [.null, .int 0, .ref q_14, .ref q_15, .int 0]))] := hD
    refine lv_iinc (v := 1) (lv' := [(1, .int 1), (0, .ref k)]) hx hb d_K_init_63 hl (k := 0) rfl (by decide) (by decide) rfl (fun ls hl => ?_)
    refine lv_goto (tgt := 44) hx hb d_K_init_66 (by decide) ?_
    have hP := hP.sub (ws' := [(k, .inr (2, [.ref q_1, .ref q_5, .ref q_7, .null, .int 0, .null, .int 0, .int 0, .int 0, .int 0, .long 0, .int (-1), .int 0, .int (-1)])), (q_7, .inl (k_8, 24, .inr (.inr (.inr (.inr fq_16)))))]) [0, 1] rfl
    have hD := hD.sub (ws' := [(k, .inr (2, [.ref q_1, .ref q_5, .ref q_7, .null, .int 0, .null, .int 0, .int 0, .int 0, .int 0, .long 0, .int (-1), .int 0, .int (-1)])), (q_7, .inl (k_8, 24, .inr (.inr (.inr (.inr fq_16)))))]) [0, 1] (by decide) rfl
    have hK := hK.sub (tys' := [(k_8, .object "MapFramer$Call")]) [0] rfl
    refine lv_iload_n hx hb d_K_init_44 rfl (lv_at hl 0 rfl) ?_
    refine lv_bipush (v := 24) hx hb d_K_init_45 (by decide) ?_
    refine lv_icmp_ge (tgt := 69) hx hb d_K_init_47 (by decide) (fun c_17 => ?_) (fun c_17 => ?_)
    · skip
      first | exact absurd c_17 (by decide) | exact absurd (by decide) c_17
    · skip
      refine lv_aload_n hx hb d_K_init_50 rfl (lv_at hl 1 rfl) ?_
      refine va_get (D := (dC, dI)) (ci := 2) (v := .ref q_7) (C := R_K) (T := T_K) (N := 14) hx hb hts (fun w h => hsub w (uw_K w h)) hown hK hP 0 rfl rfl 2 (by decide) (hts _ (hsub _ w_237)) (fun _ h9 => h9) rfl d_K_init_51 ?_
      refine lv_iload_n hx hb d_K_init_54 rfl (lv_at hl 0 rfl) ?_
      refine va_new (ci := 0) (fs := [.null, .int 0, .null, .null, .int 0]) (C := R_C) (T := T_C) (N := 5) hx hb hts (fun w h => hsub w (uw_C w h)) ty_C tok_C hown (hts _ (hsub _ w_236)) (hts _ (hsub _ w_240)) (hts _ (hsub _ w_241)) hK hP hD hS hA rfl (fun j hj => df_C j hj) (Nat.le_of_ble_eq_true rfl) (Nat.le_of_ble_eq_true rfl) d_K_init_55 (fun q_18 H hP hD hS => ?_)
      have hP : va_P (dC, dI) vwCl [(k, .inr (2, [.ref q_1, .ref q_5, .ref q_7, .null, .int 0, .null, .int 0, .int 0, .int 0, .int 0, .long 0, .int (-1), .int 0, .int (-1)])), (q_7, .inl (k_8, 24, .inr (.inr (.inr (.inr fq_16))))), (q_18, .inr (0, [.null, .int 0, .null, .null, .int 0]))] H := hP
      have hD : va_D A [(k, .inr (2, [.ref q_1, .ref q_5, .ref q_7, .null, .int 0, .null, .int 0, .int 0, .int 0, .int 0, .long 0, .int (-1), .int 0, .int (-1)])), (q_7, .inl (k_8, 24, .inr (.inr (.inr (.inr fq_16))))), (q_18, .inr (0, [.null, .int 0, .null, .null, .int 0]))] := hD
      refine W.widen (k := 10) (n := 3978) (Nat.le_of_ble_eq_true rfl) (Nat.le_of_ble_eq_true rfl) ?_
      refine lv_dup hx hb d_K_init_58 rfl ?_
      have hPc := hP.sub (ws' := [(q_18, .inr (0, [.null, .int 0, .null, .null, .int 0]))]) [2] rfl
      have hKc := hK.sub (tys' := []) [] rfl
      have hDc := hD.sub (ws' := [(q_18, .inr (0, [.null, .int 0, .null, .null, .int 0]))]) [2] (by decide) rfl
      have hFc := va_free (wc := [(q_18, .inr (0, [.null, .int 0, .null, .null, .int 0]))]) hD hS hA [2] rfl
      refine va_callv (va_runIN (As := []) (rest := [.ref q_18, .int 1, .ref q_7]) ⟨hx, hb, hml, hown, hts⟩ (k_C_init l dC dI q_18 H.size) ⟨va_cnB 0 hts (gC hsub w_242) rfl rfl rfl htb.2.1 (hts _ (hsub _ w_241)) (by decide +kernel) ⟨Nat.le_of_ble_eq_true rfl, Nat.le_of_ble_eq_true rfl⟩, rfl, (hts _ (hsub _ w_243))⟩ ⟨bl_1000, fun U hU hW => ⟨rfl, by rw [hU], by rw [hU]; exact hPc, va_K.moved hW.alike hKc, hDc.weaken (fun _ _ _ _ => trivial)⟩⟩ rfl rfl hl.1 rfl (lv_room (Nat.le_of_ble_eq_true rfl)) d_K_init_59 ⟨Nat.le_of_ble_eq_true rfl, Nat.le_of_ble_eq_true rfl⟩) hS (fun q _ h => hFc q h) hFc (fun u_21 t H1 locs ht hvm hw hB hz1 hk1 hS => ?_)
      obtain ⟨q_22, q_23, hP1, hK1, hD1⟩ := hB
      rw [ht] at hP1
      have hK1 := va_K.moved hvm.symm hK1
      obtain ⟨hP, hD⟩ := va_join (wr := [(k, .inr (2, [.ref q_1, .ref q_5, .ref q_7, .null, .int 0, .null, .int 0, .int 0, .int 0, .int 0, .long 0, .int (-1), .int 0, .int (-1)])), (q_7, .inl (k_8, 24, .inr (.inr (.inr (.inr fq_16)))))]) (w1 := [(q_18, .inr (0, [.null, .int 0, .ref q_22, .ref q_23, .int 0]))]) hP hD [2] [0, 1] rfl rfl (by decide) (by decide) hk1 hFc hP1 hD1
      have hK := (hK.sub (tys' := [(k_8, .object "MapFramer$Call")]) [0] rfl).app hK1
      generalize H1 = H at hP hS ⊢
      have hP : va_P (dC, dI) vwCl [(k, .inr (2, [.ref q_1, .ref q_5, .ref q_7, .null, .int 0, .null, .int 0, .int 0, .int 0, .int 0, .long 0, .int (-1), .int 0, .int (-1)])), (q_7, .inl (k_8, 24, .inr (.inr (.inr (.inr fq_16))))), (q_18, .inr (0, [.null, .int 0, .ref q_22, .ref q_23, .int 0]))] H := hP
      have hD : va_D A [(k, .inr (2, [.ref q_1, .ref q_5, .ref q_7, .null, .int 0, .null, .int 0, .int 0, .int 0, .int 0, .long 0, .int (-1), .int 0, .int (-1)])), (q_7, .inl (k_8, 24, .inr (.inr (.inr (.inr fq_16))))), (q_18, .inr (0, [.null, .int 0, .ref q_22, .ref q_23, .int 0]))] := hD
      have hK : va_K (dC, dI) vwCl [(k_8, .object "MapFramer$Call")] s := hK
      refine W.widen (k := 12) (n := 4002) (Nat.le_of_ble_eq_true rfl) (Nat.le_of_ble_eq_true rfl) ?_
      refine va_astq (r := (R_C, T_C, 5)) hx hb hK hP hD hS 1 0 2 0 rfl rfl rfl rfl (vp_in_iff.mpr (by decide)) d_K_init_62 (fun H locs hP hD hS => ?_)
      obtain ⟨fq_24, hfq⟩ : ∃ z : Nat → Option Nat, z = (va_up fq_16 (1 : Int32).toNatClampNeg (some q_18)) := ⟨_, rfl⟩
      have hP : va_P (dC, dI) vwCl [(k, .inr (2, [.ref q_1, .ref q_5, .ref q_7, .null, .int 0, .null, .int 0, .int 0, .int 0, .int 0, .long 0, .int (-1), .int 0, .int (-1)])), (q_7, .inl (k_8, 24, .inr (.inr (.inr (.inr (va_up fq_16 (1 : Int32).toNatClampNeg (some q_18))))))), (q_18, .inr (0, [.null, .int 0, .ref q_22, .ref q_23, .int 0]))] H := hP
      have hD : va_D A [(k, .inr (2, [.ref q_1, .ref q_5, .ref q_7, .null, .int 0, .null, .int 0, .int 0, .int 0, .int 0, .long 0, .int (-1), .int 0, .int (-1)])), (q_7, .inl (k_8, 24, .inr (.inr (.inr (.inr (va_up fq_16 (1 : Int32).toNatClampNeg (some q_18))))))), (q_18, .inr (0, [.null, .int 0, .ref q_22, .ref q_23, .int 0]))] := hD
      rw [← hfq] at hP hD
      have hP : va_P (dC, dI) vwCl [(k, .inr (2, [.ref q_1, .ref q_5, .ref q_7, .null, .int 0, .null, .int 0, .int 0, .int 0, .int 0, .long 0, .int (-1), .int 0, .int (-1)])), (q_7, .inl (k_8, 24, .inr (.inr (.inr (.inr fq_24))))), (q_18, .inr (0, [.null, .int 0, .ref q_22, .ref q_23, .int 0]))] H := hP
      have hD : va_D A [(k, .inr (2, [.ref q_1, .ref q_5, .ref q_7, .null, .int 0, .null, .int 0, .int 0, .int 0, .int 0, .long 0, .int (-1), .int 0, .int (-1)])), (q_7, .inl (k_8, 24, .inr (.inr (.inr (.inr fq_24))))), (q_18, .inr (0, [.null, .int 0, .ref q_22, .ref q_23, .int 0]))] := hD
      refine lv_iinc (v := 2) (lv' := [(1, .int 2), (0, .ref k)]) hx hb d_K_init_63 hl (k := 0) rfl (by decide) (by decide) rfl (fun ls hl => ?_)
      refine lv_goto (tgt := 44) hx hb d_K_init_66 (by decide) ?_
      have hP := hP.sub (ws' := [(k, .inr (2, [.ref q_1, .ref q_5, .ref q_7, .null, .int 0, .null, .int 0, .int 0, .int 0, .int 0, .long 0, .int (-1), .int 0, .int (-1)])), (q_7, .inl (k_8, 24, .inr (.inr (.inr (.inr fq_24)))))]) [0, 1] rfl
      have hD := hD.sub (ws' := [(k, .inr (2, [.ref q_1, .ref q_5, .ref q_7, .null, .int 0, .null, .int 0, .int 0, .int 0, .int 0, .long 0, .int (-1), .int 0, .int (-1)])), (q_7, .inl (k_8, 24, .inr (.inr (.inr (.inr fq_24)))))]) [0, 1] (by decide) rfl
      have hK := hK.sub (tys' := [(k_8, .object "MapFramer$Call")]) [0] rfl
      refine lv_iload_n hx hb d_K_init_44 rfl (lv_at hl 0 rfl) ?_
      refine lv_bipush (v := 24) hx hb d_K_init_45 (by decide) ?_
      refine lv_icmp_ge (tgt := 69) hx hb d_K_init_47 (by decide) (fun c_25 => ?_) (fun c_25 => ?_)
      · skip
        first | exact absurd c_25 (by decide) | exact absurd (by decide) c_25
      · skip
        refine lv_aload_n hx hb d_K_init_50 rfl (lv_at hl 1 rfl) ?_
        refine va_get (D := (dC, dI)) (ci := 2) (v := .ref q_7) (C := R_K) (T := T_K) (N := 14) hx hb hts (fun w h => hsub w (uw_K w h)) hown hK hP 0 rfl rfl 2 (by decide) (hts _ (hsub _ w_237)) (fun _ h9 => h9) rfl d_K_init_51 ?_
        refine lv_iload_n hx hb d_K_init_54 rfl (lv_at hl 0 rfl) ?_
        refine va_new (ci := 0) (fs := [.null, .int 0, .null, .null, .int 0]) (C := R_C) (T := T_C) (N := 5) hx hb hts (fun w h => hsub w (uw_C w h)) ty_C tok_C hown (hts _ (hsub _ w_236)) (hts _ (hsub _ w_240)) (hts _ (hsub _ w_241)) hK hP hD hS hA rfl (fun j hj => df_C j hj) (Nat.le_of_ble_eq_true rfl) (Nat.le_of_ble_eq_true rfl) d_K_init_55 (fun q_26 H hP hD hS => ?_)
        have hP : va_P (dC, dI) vwCl [(k, .inr (2, [.ref q_1, .ref q_5, .ref q_7, .null, .int 0, .null, .int 0, .int 0, .int 0, .int 0, .long 0, .int (-1), .int 0, .int (-1)])), (q_7, .inl (k_8, 24, .inr (.inr (.inr (.inr fq_24))))), (q_26, .inr (0, [.null, .int 0, .null, .null, .int 0]))] H := hP
        have hD : va_D A [(k, .inr (2, [.ref q_1, .ref q_5, .ref q_7, .null, .int 0, .null, .int 0, .int 0, .int 0, .int 0, .long 0, .int (-1), .int 0, .int (-1)])), (q_7, .inl (k_8, 24, .inr (.inr (.inr (.inr fq_24))))), (q_26, .inr (0, [.null, .int 0, .null, .null, .int 0]))] := hD
        refine W.widen (k := 13) (n := 4007) (Nat.le_of_ble_eq_true rfl) (Nat.le_of_ble_eq_true rfl) ?_
        refine lv_dup hx hb d_K_init_58 rfl ?_
        have hPc := hP.sub (ws' := [(q_26, .inr (0, [.null, .int 0, .null, .null, .int 0]))]) [2] rfl
        have hKc := hK.sub (tys' := []) [] rfl
        have hDc := hD.sub (ws' := [(q_26, .inr (0, [.null, .int 0, .null, .null, .int 0]))]) [2] (by decide) rfl
        have hFc := va_free (wc := [(q_26, .inr (0, [.null, .int 0, .null, .null, .int 0]))]) hD hS hA [2] rfl
        refine va_callv (va_runIN (As := []) (rest := [.ref q_26, .int 2, .ref q_7]) ⟨hx, hb, hml, hown, hts⟩ (k_C_init l dC dI q_26 H.size) ⟨va_cnB 0 hts (gC hsub w_242) rfl rfl rfl htb.2.1 (hts _ (hsub _ w_241)) (by decide +kernel) ⟨Nat.le_of_ble_eq_true rfl, Nat.le_of_ble_eq_true rfl⟩, rfl, (hts _ (hsub _ w_243))⟩ ⟨bl_1000, fun U hU hW => ⟨rfl, by rw [hU], by rw [hU]; exact hPc, va_K.moved hW.alike hKc, hDc.weaken (fun _ _ _ _ => trivial)⟩⟩ rfl rfl hl.1 rfl (lv_room (Nat.le_of_ble_eq_true rfl)) d_K_init_59 ⟨Nat.le_of_ble_eq_true rfl, Nat.le_of_ble_eq_true rfl⟩) hS (fun q _ h => hFc q h) hFc (fun u_29 t H1 locs ht hvm hw hB hz1 hk1 hS => ?_)
        obtain ⟨q_30, q_31, hP1, hK1, hD1⟩ := hB
        rw [ht] at hP1
        have hK1 := va_K.moved hvm.symm hK1
        obtain ⟨hP, hD⟩ := va_join (wr := [(k, .inr (2, [.ref q_1, .ref q_5, .ref q_7, .null, .int 0, .null, .int 0, .int 0, .int 0, .int 0, .long 0, .int (-1), .int 0, .int (-1)])), (q_7, .inl (k_8, 24, .inr (.inr (.inr (.inr fq_24)))))]) (w1 := [(q_26, .inr (0, [.null, .int 0, .ref q_30, .ref q_31, .int 0]))]) hP hD [2] [0, 1] rfl rfl (by decide) (by decide) hk1 hFc hP1 hD1
        have hK := (hK.sub (tys' := [(k_8, .object "MapFramer$Call")]) [0] rfl).app hK1
        generalize H1 = H at hP hS ⊢
        have hP : va_P (dC, dI) vwCl [(k, .inr (2, [.ref q_1, .ref q_5, .ref q_7, .null, .int 0, .null, .int 0, .int 0, .int 0, .int 0, .long 0, .int (-1), .int 0, .int (-1)])), (q_7, .inl (k_8, 24, .inr (.inr (.inr (.inr fq_24))))), (q_26, .inr (0, [.null, .int 0, .ref q_30, .ref q_31, .int 0]))] H := hP
        have hD : va_D A [(k, .inr (2, [.ref q_1, .ref q_5, .ref q_7, .null, .int 0, .null, .int 0, .int 0, .int 0, .int 0, .long 0, .int (-1), .int 0, .int (-1)])), (q_7, .inl (k_8, 24, .inr (.inr (.inr (.inr fq_24))))), (q_26, .inr (0, [.null, .int 0, .ref q_30, .ref q_31, .int 0]))] := hD
        have hK : va_K (dC, dI) vwCl [(k_8, .object "MapFramer$Call")] s := hK
        refine W.widen (k := 15) (n := 4031) (Nat.le_of_ble_eq_true rfl) (Nat.le_of_ble_eq_true rfl) ?_
        refine va_astq (r := (R_C, T_C, 5)) hx hb hK hP hD hS 1 0 2 0 rfl rfl rfl rfl (vp_in_iff.mpr (by decide)) d_K_init_62 (fun H locs hP hD hS => ?_)
        obtain ⟨fq_32, hfq⟩ : ∃ z : Nat → Option Nat, z = (va_up fq_24 (2 : Int32).toNatClampNeg (some q_26)) := ⟨_, rfl⟩
        have hP : va_P (dC, dI) vwCl [(k, .inr (2, [.ref q_1, .ref q_5, .ref q_7, .null, .int 0, .null, .int 0, .int 0, .int 0, .int 0, .long 0, .int (-1), .int 0, .int (-1)])), (q_7, .inl (k_8, 24, .inr (.inr (.inr (.inr (va_up fq_24 (2 : Int32).toNatClampNeg (some q_26))))))), (q_26, .inr (0, [.null, .int 0, .ref q_30, .ref q_31, .int 0]))] H := hP
        have hD : va_D A [(k, .inr (2, [.ref q_1, .ref q_5, .ref q_7, .null, .int 0, .null, .int 0, .int 0, .int 0, .int 0, .long 0, .int (-1), .int 0, .int (-1)])), (q_7, .inl (k_8, 24, .inr (.inr (.inr (.inr (va_up fq_24 (2 : Int32).toNatClampNeg (some q_26))))))), (q_26, .inr (0, [.null, .int 0, .ref q_30, .ref q_31, .int 0]))] := hD
        rw [← hfq] at hP hD
        have hP : va_P (dC, dI) vwCl [(k, .inr (2, [.ref q_1, .ref q_5, .ref q_7, .null, .int 0, .null, .int 0, .int 0, .int 0, .int 0, .long 0, .int (-1), .int 0, .int (-1)])), (q_7, .inl (k_8, 24, .inr (.inr (.inr (.inr fq_32))))), (q_26, .inr (0, [.null, .int 0, .ref q_30, .ref q_31, .int 0]))] H := hP
        have hD : va_D A [(k, .inr (2, [.ref q_1, .ref q_5, .ref q_7, .null, .int 0, .null, .int 0, .int 0, .int 0, .int 0, .long 0, .int (-1), .int 0, .int (-1)])), (q_7, .inl (k_8, 24, .inr (.inr (.inr (.inr fq_32))))), (q_26, .inr (0, [.null, .int 0, .ref q_30, .ref q_31, .int 0]))] := hD
        refine lv_iinc (v := 3) (lv' := [(1, .int 3), (0, .ref k)]) hx hb d_K_init_63 hl (k := 0) rfl (by decide) (by decide) rfl (fun ls hl => ?_)
        refine lv_goto (tgt := 44) hx hb d_K_init_66 (by decide) ?_
        have hP := hP.sub (ws' := [(k, .inr (2, [.ref q_1, .ref q_5, .ref q_7, .null, .int 0, .null, .int 0, .int 0, .int 0, .int 0, .long 0, .int (-1), .int 0, .int (-1)])), (q_7, .inl (k_8, 24, .inr (.inr (.inr (.inr fq_32)))))]) [0, 1] rfl
        have hD := hD.sub (ws' := [(k, .inr (2, [.ref q_1, .ref q_5, .ref q_7, .null, .int 0, .null, .int 0, .int 0, .int 0, .int 0, .long 0, .int (-1), .int 0, .int (-1)])), (q_7, .inl (k_8, 24, .inr (.inr (.inr (.inr fq_32)))))]) [0, 1] (by decide) rfl
        have hK := hK.sub (tys' := [(k_8, .object "MapFramer$Call")]) [0] rfl
        refine lv_iload_n hx hb d_K_init_44 rfl (lv_at hl 0 rfl) ?_
        refine lv_bipush (v := 24) hx hb d_K_init_45 (by decide) ?_
        refine lv_icmp_ge (tgt := 69) hx hb d_K_init_47 (by decide) (fun c_33 => ?_) (fun c_33 => ?_)
        · skip
          first | exact absurd c_33 (by decide) | exact absurd (by decide) c_33
        · skip
          refine lv_aload_n hx hb d_K_init_50 rfl (lv_at hl 1 rfl) ?_
          refine va_get (D := (dC, dI)) (ci := 2) (v := .ref q_7) (C := R_K) (T := T_K) (N := 14) hx hb hts (fun w h => hsub w (uw_K w h)) hown hK hP 0 rfl rfl 2 (by decide) (hts _ (hsub _ w_237)) (fun _ h9 => h9) rfl d_K_init_51 ?_
          refine lv_iload_n hx hb d_K_init_54 rfl (lv_at hl 0 rfl) ?_
          refine va_new (ci := 0) (fs := [.null, .int 0, .null, .null, .int 0]) (C := R_C) (T := T_C) (N := 5) hx hb hts (fun w h => hsub w (uw_C w h)) ty_C tok_C hown (hts _ (hsub _ w_236)) (hts _ (hsub _ w_240)) (hts _ (hsub _ w_241)) hK hP hD hS hA rfl (fun j hj => df_C j hj) (Nat.le_of_ble_eq_true rfl) (Nat.le_of_ble_eq_true rfl) d_K_init_55 (fun q_34 H hP hD hS => ?_)
          have hP : va_P (dC, dI) vwCl [(k, .inr (2, [.ref q_1, .ref q_5, .ref q_7, .null, .int 0, .null, .int 0, .int 0, .int 0, .int 0, .long 0, .int (-1), .int 0, .int (-1)])), (q_7, .inl (k_8, 24, .inr (.inr (.inr (.inr fq_32))))), (q_34, .inr (0, [.null, .int 0, .null, .null, .int 0]))] H := hP
          have hD : va_D A [(k, .inr (2, [.ref q_1, .ref q_5, .ref q_7, .null, .int 0, .null, .int 0, .int 0, .int 0, .int 0, .long 0, .int (-1), .int 0, .int (-1)])), (q_7, .inl (k_8, 24, .inr (.inr (.inr (.inr fq_32))))), (q_34, .inr (0, [.null, .int 0, .null, .null, .int 0]))] := hD
          refine W.widen (k := 16) (n := 4036) (Nat.le_of_ble_eq_true rfl) (Nat.le_of_ble_eq_true rfl) ?_
          refine lv_dup hx hb d_K_init_58 rfl ?_
          have hPc := hP.sub (ws' := [(q_34, .inr (0, [.null, .int 0, .null, .null, .int 0]))]) [2] rfl
          have hKc := hK.sub (tys' := []) [] rfl
          have hDc := hD.sub (ws' := [(q_34, .inr (0, [.null, .int 0, .null, .null, .int 0]))]) [2] (by decide) rfl
          have hFc := va_free (wc := [(q_34, .inr (0, [.null, .int 0, .null, .null, .int 0]))]) hD hS hA [2] rfl
          refine va_callv (va_runIN (As := []) (rest := [.ref q_34, .int 3, .ref q_7]) ⟨hx, hb, hml, hown, hts⟩ (k_C_init l dC dI q_34 H.size) ⟨va_cnB 0 hts (gC hsub w_242) rfl rfl rfl htb.2.1 (hts _ (hsub _ w_241)) (by decide +kernel) ⟨Nat.le_of_ble_eq_true rfl, Nat.le_of_ble_eq_true rfl⟩, rfl, (hts _ (hsub _ w_243))⟩ ⟨bl_1000, fun U hU hW => ⟨rfl, by rw [hU], by rw [hU]; exact hPc, va_K.moved hW.alike hKc, hDc.weaken (fun _ _ _ _ => trivial)⟩⟩ rfl rfl hl.1 rfl (lv_room (Nat.le_of_ble_eq_true rfl)) d_K_init_59 ⟨Nat.le_of_ble_eq_true rfl, Nat.le_of_ble_eq_true rfl⟩) hS (fun q _ h => hFc q h) hFc (fun u_37 t H1 locs ht hvm hw hB hz1 hk1 hS => ?_)
          obtain ⟨q_38, q_39, hP1, hK1, hD1⟩ := hB
          rw [ht] at hP1
          have hK1 := va_K.moved hvm.symm hK1
          obtain ⟨hP, hD⟩ := va_join (wr := [(k, .inr (2, [.ref q_1, .ref q_5, .ref q_7, .null, .int 0, .null, .int 0, .int 0, .int 0, .int 0, .long 0, .int (-1), .int 0, .int (-1)])), (q_7, .inl (k_8, 24, .inr (.inr (.inr (.inr fq_32)))))]) (w1 := [(q_34, .inr (0, [.null, .int 0, .ref q_38, .ref q_39, .int 0]))]) hP hD [2] [0, 1] rfl rfl (by decide) (by decide) hk1 hFc hP1 hD1
          have hK := (hK.sub (tys' := [(k_8, .object "MapFramer$Call")]) [0] rfl).app hK1
          generalize H1 = H at hP hS ⊢
          have hP : va_P (dC, dI) vwCl [(k, .inr (2, [.ref q_1, .ref q_5, .ref q_7, .null, .int 0, .null, .int 0, .int 0, .int 0, .int 0, .long 0, .int (-1), .int 0, .int (-1)])), (q_7, .inl (k_8, 24, .inr (.inr (.inr (.inr fq_32))))), (q_34, .inr (0, [.null, .int 0, .ref q_38, .ref q_39, .int 0]))] H := hP
          have hD : va_D A [(k, .inr (2, [.ref q_1, .ref q_5, .ref q_7, .null, .int 0, .null, .int 0, .int 0, .int 0, .int 0, .long 0, .int (-1), .int 0, .int (-1)])), (q_7, .inl (k_8, 24, .inr (.inr (.inr (.inr fq_32))))), (q_34, .inr (0, [.null, .int 0, .ref q_38, .ref q_39, .int 0]))] := hD
          have hK : va_K (dC, dI) vwCl [(k_8, .object "MapFramer$Call")] s := hK
          refine W.widen (k := 18) (n := 4060) (Nat.le_of_ble_eq_true rfl) (Nat.le_of_ble_eq_true rfl) ?_
          refine va_astq (r := (R_C, T_C, 5)) hx hb hK hP hD hS 1 0 2 0 rfl rfl rfl rfl (vp_in_iff.mpr (by decide)) d_K_init_62 (fun H locs hP hD hS => ?_)
          obtain ⟨fq_40, hfq⟩ : ∃ z : Nat → Option Nat, z = (va_up fq_32 (3 : Int32).toNatClampNeg (some q_34)) := ⟨_, rfl⟩
          have hP : va_P (dC, dI) vwCl [(k, .inr (2, [.ref q_1, .ref q_5, .ref q_7, .null, .int 0, .null, .int 0, .int 0, .int 0, .int 0, .long 0, .int (-1), .int 0, .int (-1)])), (q_7, .inl (k_8, 24, .inr (.inr (.inr (.inr (va_up fq_32 (3 : Int32).toNatClampNeg (some q_34))))))), (q_34, .inr (0, [.null, .int 0, .ref q_38, .ref q_39, .int 0]))] H := hP
          have hD : va_D A [(k, .inr (2, [.ref q_1, .ref q_5, .ref q_7, .null, .int 0, .null, .int 0, .int 0, .int 0, .int 0, .long 0, .int (-1), .int 0, .int (-1)])), (q_7, .inl (k_8, 24, .inr (.inr (.inr (.inr (va_up fq_32 (3 : Int32).toNatClampNeg (some q_34))))))), (q_34, .inr (0, [.null, .int 0, .ref q_38, .ref q_39, .int 0]))] := hD
          rw [← hfq] at hP hD
          have hP : va_P (dC, dI) vwCl [(k, .inr (2, [.ref q_1, .ref q_5, .ref q_7, .null, .int 0, .null, .int 0, .int 0, .int 0, .int 0, .long 0, .int (-1), .int 0, .int (-1)])), (q_7, .inl (k_8, 24, .inr (.inr (.inr (.inr fq_40))))), (q_34, .inr (0, [.null, .int 0, .ref q_38, .ref q_39, .int 0]))] H := hP
          have hD : va_D A [(k, .inr (2, [.ref q_1, .ref q_5, .ref q_7, .null, .int 0, .null, .int 0, .int 0, .int 0, .int 0, .long 0, .int (-1), .int 0, .int (-1)])), (q_7, .inl (k_8, 24, .inr (.inr (.inr (.inr fq_40))))), (q_34, .inr (0, [.null, .int 0, .ref q_38, .ref q_39, .int 0]))] := hD
          refine lv_iinc (v := 4) (lv' := [(1, .int 4), (0, .ref k)]) hx hb d_K_init_63 hl (k := 0) rfl (by decide) (by decide) rfl (fun ls hl => ?_)
          refine lv_goto (tgt := 44) hx hb d_K_init_66 (by decide) ?_
          have hP := hP.sub (ws' := [(k, .inr (2, [.ref q_1, .ref q_5, .ref q_7, .null, .int 0, .null, .int 0, .int 0, .int 0, .int 0, .long 0, .int (-1), .int 0, .int (-1)])), (q_7, .inl (k_8, 24, .inr (.inr (.inr (.inr fq_40)))))]) [0, 1] rfl
          have hD := hD.sub (ws' := [(k, .inr (2, [.ref q_1, .ref q_5, .ref q_7, .null, .int 0, .null, .int 0, .int 0, .int 0, .int 0, .long 0, .int (-1), .int 0, .int (-1)])), (q_7, .inl (k_8, 24, .inr (.inr (.inr (.inr fq_40)))))]) [0, 1] (by decide) rfl
          have hK := hK.sub (tys' := [(k_8, .object "MapFramer$Call")]) [0] rfl
          refine lv_iload_n hx hb d_K_init_44 rfl (lv_at hl 0 rfl) ?_
          refine lv_bipush (v := 24) hx hb d_K_init_45 (by decide) ?_
          refine lv_icmp_ge (tgt := 69) hx hb d_K_init_47 (by decide) (fun c_41 => ?_) (fun c_41 => ?_)
          · skip
            first | exact absurd c_41 (by decide) | exact absurd (by decide) c_41
          · skip
            refine lv_aload_n hx hb d_K_init_50 rfl (lv_at hl 1 rfl) ?_
            refine va_get (D := (dC, dI)) (ci := 2) (v := .ref q_7) (C := R_K) (T := T_K) (N := 14) hx hb hts (fun w h => hsub w (uw_K w h)) hown hK hP 0 rfl rfl 2 (by decide) (hts _ (hsub _ w_237)) (fun _ h9 => h9) rfl d_K_init_51 ?_
            refine lv_iload_n hx hb d_K_init_54 rfl (lv_at hl 0 rfl) ?_
            refine va_new (ci := 0) (fs := [.null, .int 0, .null, .null, .int 0]) (C := R_C) (T := T_C) (N := 5) hx hb hts (fun w h => hsub w (uw_C w h)) ty_C tok_C hown (hts _ (hsub _ w_236)) (hts _ (hsub _ w_240)) (hts _ (hsub _ w_241)) hK hP hD hS hA rfl (fun j hj => df_C j hj) (Nat.le_of_ble_eq_true rfl) (Nat.le_of_ble_eq_true rfl) d_K_init_55 (fun q_42 H hP hD hS => ?_)
            have hP : va_P (dC, dI) vwCl [(k, .inr (2, [.ref q_1, .ref q_5, .ref q_7, .null, .int 0, .null, .int 0, .int 0, .int 0, .int 0, .long 0, .int (-1), .int 0, .int (-1)])), (q_7, .inl (k_8, 24, .inr (.inr (.inr (.inr fq_40))))), (q_42, .inr (0, [.null, .int 0, .null, .null, .int 0]))] H := hP
            have hD : va_D A [(k, .inr (2, [.ref q_1, .ref q_5, .ref q_7, .null, .int 0, .null, .int 0, .int 0, .int 0, .int 0, .long 0, .int (-1), .int 0, .int (-1)])), (q_7, .inl (k_8, 24, .inr (.inr (.inr (.inr fq_40))))), (q_42, .inr (0, [.null, .int 0, .null, .null, .int 0]))] := hD
            refine W.widen (k := 19) (n := 4065) (Nat.le_of_ble_eq_true rfl) (Nat.le_of_ble_eq_true rfl) ?_
            refine lv_dup hx hb d_K_init_58 rfl ?_
            have hPc := hP.sub (ws' := [(q_42, .inr (0, [.null, .int 0, .null, .null, .int 0]))]) [2] rfl
            have hKc := hK.sub (tys' := []) [] rfl
            have hDc := hD.sub (ws' := [(q_42, .inr (0, [.null, .int 0, .null, .null, .int 0]))]) [2] (by decide) rfl
            have hFc := va_free (wc := [(q_42, .inr (0, [.null, .int 0, .null, .null, .int 0]))]) hD hS hA [2] rfl
            refine va_callv (va_runIN (As := []) (rest := [.ref q_42, .int 4, .ref q_7]) ⟨hx, hb, hml, hown, hts⟩ (k_C_init l dC dI q_42 H.size) ⟨va_cnB 0 hts (gC hsub w_242) rfl rfl rfl htb.2.1 (hts _ (hsub _ w_241)) (by decide +kernel) ⟨Nat.le_of_ble_eq_true rfl, Nat.le_of_ble_eq_true rfl⟩, rfl, (hts _ (hsub _ w_243))⟩ ⟨bl_1000, fun U hU hW => ⟨rfl, by rw [hU], by rw [hU]; exact hPc, va_K.moved hW.alike hKc, hDc.weaken (fun _ _ _ _ => trivial)⟩⟩ rfl rfl hl.1 rfl (lv_room (Nat.le_of_ble_eq_true rfl)) d_K_init_59 ⟨Nat.le_of_ble_eq_true rfl, Nat.le_of_ble_eq_true rfl⟩) hS (fun q _ h => hFc q h) hFc (fun u_45 t H1 locs ht hvm hw hB hz1 hk1 hS => ?_)
            obtain ⟨q_46, q_47, hP1, hK1, hD1⟩ := hB
            rw [ht] at hP1
            have hK1 := va_K.moved hvm.symm hK1
            obtain ⟨hP, hD⟩ := va_join (wr := [(k, .inr (2, [.ref q_1, .ref q_5, .ref q_7, .null, .int 0, .null, .int 0, .int 0, .int 0, .int 0, .long 0, .int (-1), .int 0, .int (-1)])), (q_7, .inl (k_8, 24, .inr (.inr (.inr (.inr fq_40)))))]) (w1 := [(q_42, .inr (0, [.null, .int 0, .ref q_46, .ref q_47, .int 0]))]) hP hD [2] [0, 1] rfl rfl (by decide) (by decide) hk1 hFc hP1 hD1
            have hK := (hK.sub (tys' := [(k_8, .object "MapFramer$Call")]) [0] rfl).app hK1
            generalize H1 = H at hP hS ⊢
            have hP : va_P (dC, dI) vwCl [(k, .inr (2, [.ref q_1, .ref q_5, .ref q_7, .null, .int 0, .null, .int 0, .int 0, .int 0, .int 0, .long 0, .int (-1), .int 0, .int (-1)])), (q_7, .inl (k_8, 24, .inr (.inr (.inr (.inr fq_40))))), (q_42, .inr (0, [.null, .int 0, .ref q_46, .ref q_47, .int 0]))] H := hP
            have hD : va_D A [(k, .inr (2, [.ref q_1, .ref q_5, .ref q_7, .null, .int 0, .null, .int 0, .int 0, .int 0, .int 0, .long 0, .int (-1), .int 0, .int (-1)])), (q_7, .inl (k_8, 24, .inr (.inr (.inr (.inr fq_40))))), (q_42, .inr (0, [.null, .int 0, .ref q_46, .ref q_47, .int 0]))] := hD
            have hK : va_K (dC, dI) vwCl [(k_8, .object "MapFramer$Call")] s := hK
            refine W.widen (k := 21) (n := 4089) (Nat.le_of_ble_eq_true rfl) (Nat.le_of_ble_eq_true rfl) ?_
            refine va_astq (r := (R_C, T_C, 5)) hx hb hK hP hD hS 1 0 2 0 rfl rfl rfl rfl (vp_in_iff.mpr (by decide)) d_K_init_62 (fun H locs hP hD hS => ?_)
            obtain ⟨fq_48, hfq⟩ : ∃ z : Nat → Option Nat, z = (va_up fq_40 (4 : Int32).toNatClampNeg (some q_42)) := ⟨_, rfl⟩
            have hP : va_P (dC, dI) vwCl [(k, .inr (2, [.ref q_1, .ref q_5, .ref q_7, .null, .int 0, .null, .int 0, .int 0, .int 0, .int 0, .long 0, .int (-1), .int 0, .int (-1)])), (q_7, .inl (k_8, 24, .inr (.inr (.inr (.inr (va_up fq_40 (4 : Int32).toNatClampNeg (some q_42))))))), (q_42, .inr (0, [.null, .int 0, .ref q_46, .ref q_47, .int 0]))] H := hP
            have hD : va_D A [(k, .inr (2, [.ref q_1, .ref q_5, .ref q_7, .null, .int 0, .null, .int 0, .int 0, .int 0, .int 0, .long 0, .int (-1), .int 0, .int (-1)])), (q_7, .inl (k_8, 24, .inr (.inr (.inr (.inr (va_up fq_40 (4 : Int32).toNatClampNeg (some q_42))))))), (q_42, .inr (0, [.null, .int 0, .ref q_46, .ref q_47, .int 0]))] := hD
            rw [← hfq] at hP hD
            have hP : va_P (dC, dI) vwCl [(k, .inr (2, [.ref q_1, .ref q_5, .ref q_7, .null, .int 0, .null, .int 0, .int 0, .int 0, .int 0, .long 0, .int (-1), .int 0, .int (-1)])), (q_7, .inl (k_8, 24, .inr (.inr (.inr (.inr fq_48))))), (q_42, .inr (0, [.null, .int 0, .ref q_46, .ref q_47, .int 0]))] H := hP
            have hD : va_D A [(k, .inr (2, [.ref q_1, .ref q_5, .ref q_7, .null, .int 0, .null, .int 0, .int 0, .int 0, .int 0, .long 0, .int (-1), .int 0, .int (-1)])), (q_7, .inl (k_8, 24, .inr (.inr (.inr (.inr fq_48))))), (q_42, .inr (0, [.null, .int 0, .ref q_46, .ref q_47, .int 0]))] := hD
            refine lv_iinc (v := 5) (lv' := [(1, .int 5), (0, .ref k)]) hx hb d_K_init_63 hl (k := 0) rfl (by decide) (by decide) rfl (fun ls hl => ?_)
            refine lv_goto (tgt := 44) hx hb d_K_init_66 (by decide) ?_
            have hP := hP.sub (ws' := [(k, .inr (2, [.ref q_1, .ref q_5, .ref q_7, .null, .int 0, .null, .int 0, .int 0, .int 0, .int 0, .long 0, .int (-1), .int 0, .int (-1)])), (q_7, .inl (k_8, 24, .inr (.inr (.inr (.inr fq_48)))))]) [0, 1] rfl
            have hD := hD.sub (ws' := [(k, .inr (2, [.ref q_1, .ref q_5, .ref q_7, .null, .int 0, .null, .int 0, .int 0, .int 0, .int 0, .long 0, .int (-1), .int 0, .int (-1)])), (q_7, .inl (k_8, 24, .inr (.inr (.inr (.inr fq_48)))))]) [0, 1] (by decide) rfl
            have hK := hK.sub (tys' := [(k_8, .object "MapFramer$Call")]) [0] rfl
            refine lv_iload_n hx hb d_K_init_44 rfl (lv_at hl 0 rfl) ?_
            refine lv_bipush (v := 24) hx hb d_K_init_45 (by decide) ?_
            refine lv_icmp_ge (tgt := 69) hx hb d_K_init_47 (by decide) (fun c_49 => ?_) (fun c_49 => ?_)
            · skip
              first | exact absurd c_49 (by decide) | exact absurd (by decide) c_49
            · skip
              refine lv_aload_n hx hb d_K_init_50 rfl (lv_at hl 1 rfl) ?_
              refine va_get (D := (dC, dI)) (ci := 2) (v := .ref q_7) (C := R_K) (T := T_K) (N := 14) hx hb hts (fun w h => hsub w (uw_K w h)) hown hK hP 0 rfl rfl 2 (by decide) (hts _ (hsub _ w_237)) (fun _ h9 => h9) rfl d_K_init_51 ?_
              refine lv_iload_n hx hb d_K_init_54 rfl (lv_at hl 0 rfl) ?_
              refine va_new (ci := 0) (fs := [.null, .int 0, .null, .null, .int 0]) (C := R_C) (T := T_C) (N := 5) hx hb hts (fun w h => hsub w (uw_C w h)) ty_C tok_C hown (hts _ (hsub _ w_236)) (hts _ (hsub _ w_240)) (hts _ (hsub _ w_241)) hK hP hD hS hA rfl (fun j hj => df_C j hj) (Nat.le_of_ble_eq_true rfl) (Nat.le_of_ble_eq_true rfl) d_K_init_55 (fun q_50 H hP hD hS => ?_)
              have hP : va_P (dC, dI) vwCl [(k, .inr (2, [.ref q_1, .ref q_5, .ref q_7, .null, .int 0, .null, .int 0, .int 0, .int 0, .int 0, .long 0, .int (-1), .int 0, .int (-1)])), (q_7, .inl (k_8, 24, .inr (.inr (.inr (.inr fq_48))))), (q_50, .inr (0, [.null, .int 0, .null, .null, .int 0]))] H := hP
              have hD : va_D A [(k, .inr (2, [.ref q_1, .ref q_5, .ref q_7, .null, .int 0, .null, .int 0, .int 0, .int 0, .int 0, .long 0, .int (-1), .int 0, .int (-1)])), (q_7, .inl (k_8, 24, .inr (.inr (.inr (.inr fq_48))))), (q_50, .inr (0, [.null, .int 0, .null, .null, .int 0]))] := hD
              refine W.widen (k := 22) (n := 4094) (Nat.le_of_ble_eq_true rfl) (Nat.le_of_ble_eq_true rfl) ?_
              refine lv_dup hx hb d_K_init_58 rfl ?_
              have hPc := hP.sub (ws' := [(q_50, .inr (0, [.null, .int 0, .null, .null, .int 0]))]) [2] rfl
              have hKc := hK.sub (tys' := []) [] rfl
              have hDc := hD.sub (ws' := [(q_50, .inr (0, [.null, .int 0, .null, .null, .int 0]))]) [2] (by decide) rfl
              have hFc := va_free (wc := [(q_50, .inr (0, [.null, .int 0, .null, .null, .int 0]))]) hD hS hA [2] rfl
              refine va_callv (va_runIN (As := []) (rest := [.ref q_50, .int 5, .ref q_7]) ⟨hx, hb, hml, hown, hts⟩ (k_C_init l dC dI q_50 H.size) ⟨va_cnB 0 hts (gC hsub w_242) rfl rfl rfl htb.2.1 (hts _ (hsub _ w_241)) (by decide +kernel) ⟨Nat.le_of_ble_eq_true rfl, Nat.le_of_ble_eq_true rfl⟩, rfl, (hts _ (hsub _ w_243))⟩ ⟨bl_1000, fun U hU hW => ⟨rfl, by rw [hU], by rw [hU]; exact hPc, va_K.moved hW.alike hKc, hDc.weaken (fun _ _ _ _ => trivial)⟩⟩ rfl rfl hl.1 rfl (lv_room (Nat.le_of_ble_eq_true rfl)) d_K_init_59 ⟨Nat.le_of_ble_eq_true rfl, Nat.le_of_ble_eq_true rfl⟩) hS (fun q _ h => hFc q h) hFc (fun u_53 t H1 locs ht hvm hw hB hz1 hk1 hS => ?_)
              obtain ⟨q_54, q_55, hP1, hK1, hD1⟩ := hB
              rw [ht] at hP1
              have hK1 := va_K.moved hvm.symm hK1
              obtain ⟨hP, hD⟩ := va_join (wr := [(k, .inr (2, [.ref q_1, .ref q_5, .ref q_7, .null, .int 0, .null, .int 0, .int 0, .int 0, .int 0, .long 0, .int (-1), .int 0, .int (-1)])), (q_7, .inl (k_8, 24, .inr (.inr (.inr (.inr fq_48)))))]) (w1 := [(q_50, .inr (0, [.null, .int 0, .ref q_54, .ref q_55, .int 0]))]) hP hD [2] [0, 1] rfl rfl (by decide) (by decide) hk1 hFc hP1 hD1
              have hK := (hK.sub (tys' := [(k_8, .object "MapFramer$Call")]) [0] rfl).app hK1
              generalize H1 = H at hP hS ⊢
              have hP : va_P (dC, dI) vwCl [(k, .inr (2, [.ref q_1, .ref q_5, .ref q_7, .null, .int 0, .null, .int 0, .int 0, .int 0, .int 0, .long 0, .int (-1), .int 0, .int (-1)])), (q_7, .inl (k_8, 24, .inr (.inr (.inr (.inr fq_48))))), (q_50, .inr (0, [.null, .int 0, .ref q_54, .ref q_55, .int 0]))] H := hP
              have hD : va_D A [(k, .inr (2, [.ref q_1, .ref q_5, .ref q_7, .null, .int 0, .null, .int 0, .int 0, .int 0, .int 0, .long 0, .int (-1), .int 0, .int (-1)])), (q_7, .inl (k_8, 24, .inr (.inr (.inr (.inr fq_48))))), (q_50, .inr (0, [.null, .int 0, .ref q_54, .ref q_55, .int 0]))] := hD
              have hK : va_K (dC, dI) vwCl [(k_8, .object "MapFramer$Call")] s := hK
              refine W.widen (k := 24) (n := 4118) (Nat.le_of_ble_eq_true rfl) (Nat.le_of_ble_eq_true rfl) ?_
              refine va_astq (r := (R_C, T_C, 5)) hx hb hK hP hD hS 1 0 2 0 rfl rfl rfl rfl (vp_in_iff.mpr (by decide)) d_K_init_62 (fun H locs hP hD hS => ?_)
              obtain ⟨fq_56, hfq⟩ : ∃ z : Nat → Option Nat, z = (va_up fq_48 (5 : Int32).toNatClampNeg (some q_50)) := ⟨_, rfl⟩
              have hP : va_P (dC, dI) vwCl [(k, .inr (2, [.ref q_1, .ref q_5, .ref q_7, .null, .int 0, .null, .int 0, .int 0, .int 0, .int 0, .long 0, .int (-1), .int 0, .int (-1)])), (q_7, .inl (k_8, 24, .inr (.inr (.inr (.inr (va_up fq_48 (5 : Int32).toNatClampNeg (some q_50))))))), (q_50, .inr (0, [.null, .int 0, .ref q_54, .ref q_55, .int 0]))] H := hP
              have hD : va_D A [(k, .inr (2, [.ref q_1, .ref q_5, .ref q_7, .null, .int 0, .null, .int 0, .int 0, .int 0, .int 0, .long 0, .int (-1), .int 0, .int (-1)])), (q_7, .inl (k_8, 24, .inr (.inr (.inr (.inr (va_up fq_48 (5 : Int32).toNatClampNeg (some q_50))))))), (q_50, .inr (0, [.null, .int 0, .ref q_54, .ref q_55, .int 0]))] := hD
              rw [← hfq] at hP hD
              have hP : va_P (dC, dI) vwCl [(k, .inr (2, [.ref q_1, .ref q_5, .ref q_7, .null, .int 0, .null, .int 0, .int 0, .int 0, .int 0, .long 0, .int (-1), .int 0, .int (-1)])), (q_7, .inl (k_8, 24, .inr (.inr (.inr (.inr fq_56))))), (q_50, .inr (0, [.null, .int 0, .ref q_54, .ref q_55, .int 0]))] H := hP
              have hD : va_D A [(k, .inr (2, [.ref q_1, .ref q_5, .ref q_7, .null, .int 0, .null, .int 0, .int 0, .int 0, .int 0, .long 0, .int (-1), .int 0, .int (-1)])), (q_7, .inl (k_8, 24, .inr (.inr (.inr (.inr fq_56))))), (q_50, .inr (0, [.null, .int 0, .ref q_54, .ref q_55, .int 0]))] := hD
              refine lv_iinc (v := 6) (lv' := [(1, .int 6), (0, .ref k)]) hx hb d_K_init_63 hl (k := 0) rfl (by decide) (by decide) rfl (fun ls hl => ?_)
              refine lv_goto (tgt := 44) hx hb d_K_init_66 (by decide) ?_
              have hP := hP.sub (ws' := [(k, .inr (2, [.ref q_1, .ref q_5, .ref q_7, .null, .int 0, .null, .int 0, .int 0, .int 0, .int 0, .long 0, .int (-1), .int 0, .int (-1)])), (q_7, .inl (k_8, 24, .inr (.inr (.inr (.inr fq_56)))))]) [0, 1] rfl
              have hD := hD.sub (ws' := [(k, .inr (2, [.ref q_1, .ref q_5, .ref q_7, .null, .int 0, .null, .int 0, .int 0, .int 0, .int 0, .long 0, .int (-1), .int 0, .int (-1)])), (q_7, .inl (k_8, 24, .inr (.inr (.inr (.inr fq_56)))))]) [0, 1] (by decide) rfl
              have hK := hK.sub (tys' := [(k_8, .object "MapFramer$Call")]) [0] rfl
              refine lv_iload_n hx hb d_K_init_44 rfl (lv_at hl 0 rfl) ?_
              refine lv_bipush (v := 24) hx hb d_K_init_45 (by decide) ?_
              refine lv_icmp_ge (tgt := 69) hx hb d_K_init_47 (by decide) (fun c_57 => ?_) (fun c_57 => ?_)
              · skip
                first | exact absurd c_57 (by decide) | exact absurd (by decide) c_57
              · skip
                refine lv_aload_n hx hb d_K_init_50 rfl (lv_at hl 1 rfl) ?_
                refine va_get (D := (dC, dI)) (ci := 2) (v := .ref q_7) (C := R_K) (T := T_K) (N := 14) hx hb hts (fun w h => hsub w (uw_K w h)) hown hK hP 0 rfl rfl 2 (by decide) (hts _ (hsub _ w_237)) (fun _ h9 => h9) rfl d_K_init_51 ?_
                refine lv_iload_n hx hb d_K_init_54 rfl (lv_at hl 0 rfl) ?_
                refine va_new (ci := 0) (fs := [.null, .int 0, .null, .null, .int 0]) (C := R_C) (T := T_C) (N := 5) hx hb hts (fun w h => hsub w (uw_C w h)) ty_C tok_C hown (hts _ (hsub _ w_236)) (hts _ (hsub _ w_240)) (hts _ (hsub _ w_241)) hK hP hD hS hA rfl (fun j hj => df_C j hj) (Nat.le_of_ble_eq_true rfl) (Nat.le_of_ble_eq_true rfl) d_K_init_55 (fun q_58 H hP hD hS => ?_)
                have hP : va_P (dC, dI) vwCl [(k, .inr (2, [.ref q_1, .ref q_5, .ref q_7, .null, .int 0, .null, .int 0, .int 0, .int 0, .int 0, .long 0, .int (-1), .int 0, .int (-1)])), (q_7, .inl (k_8, 24, .inr (.inr (.inr (.inr fq_56))))), (q_58, .inr (0, [.null, .int 0, .null, .null, .int 0]))] H := hP
                have hD : va_D A [(k, .inr (2, [.ref q_1, .ref q_5, .ref q_7, .null, .int 0, .null, .int 0, .int 0, .int 0, .int 0, .long 0, .int (-1), .int 0, .int (-1)])), (q_7, .inl (k_8, 24, .inr (.inr (.inr (.inr fq_56))))), (q_58, .inr (0, [.null, .int 0, .null, .null, .int 0]))] := hD
                refine W.widen (k := 25) (n := 4123) (Nat.le_of_ble_eq_true rfl) (Nat.le_of_ble_eq_true rfl) ?_
                refine lv_dup hx hb d_K_init_58 rfl ?_
                have hPc := hP.sub (ws' := [(q_58, .inr (0, [.null, .int 0, .null, .null, .int 0]))]) [2] rfl
                have hKc := hK.sub (tys' := []) [] rfl
                have hDc := hD.sub (ws' := [(q_58, .inr (0, [.null, .int 0, .null, .null, .int 0]))]) [2] (by decide) rfl
                have hFc := va_free (wc := [(q_58, .inr (0, [.null, .int 0, .null, .null, .int 0]))]) hD hS hA [2] rfl
                refine va_callv (va_runIN (As := []) (rest := [.ref q_58, .int 6, .ref q_7]) ⟨hx, hb, hml, hown, hts⟩ (k_C_init l dC dI q_58 H.size) ⟨va_cnB 0 hts (gC hsub w_242) rfl rfl rfl htb.2.1 (hts _ (hsub _ w_241)) (by decide +kernel) ⟨Nat.le_of_ble_eq_true rfl, Nat.le_of_ble_eq_true rfl⟩, rfl, (hts _ (hsub _ w_243))⟩ ⟨bl_1000, fun U hU hW => ⟨rfl, by rw [hU], by rw [hU]; exact hPc, va_K.moved hW.alike hKc, hDc.weaken (fun _ _ _ _ => trivial)⟩⟩ rfl rfl hl.1 rfl (lv_room (Nat.le_of_ble_eq_true rfl)) d_K_init_59 ⟨Nat.le_of_ble_eq_true rfl, Nat.le_of_ble_eq_true rfl⟩) hS (fun q _ h => hFc q h) hFc (fun u_61 t H1 locs ht hvm hw hB hz1 hk1 hS => ?_)
                obtain ⟨q_62, q_63, hP1, hK1, hD1⟩ := hB
                rw [ht] at hP1
                have hK1 := va_K.moved hvm.symm hK1
                obtain ⟨hP, hD⟩ := va_join (wr := [(k, .inr (2, [.ref q_1, .ref q_5, .ref q_7, .null, .int 0, .null, .int 0, .int 0, .int 0, .int 0, .long 0, .int (-1), .int 0, .int (-1)])), (q_7, .inl (k_8, 24, .inr (.inr (.inr (.inr fq_56)))))]) (w1 := [(q_58, .inr (0, [.null, .int 0, .ref q_62, .ref q_63, .int 0]))]) hP hD [2] [0, 1] rfl rfl (by decide) (by decide) hk1 hFc hP1 hD1
                have hK := (hK.sub (tys' := [(k_8, .object "MapFramer$Call")]) [0] rfl).app hK1
                generalize H1 = H at hP hS ⊢
                have hP : va_P (dC, dI) vwCl [(k, .inr (2, [.ref q_1, .ref q_5, .ref q_7, .null, .int 0, .null, .int 0, .int 0, .int 0, .int 0, .long 0, .int (-1), .int 0, .int (-1)])), (q_7, .inl (k_8, 24, .inr (.inr (.inr (.inr fq_56))))), (q_58, .inr (0, [.null, .int 0, .ref q_62, .ref q_63, .int 0]))] H := hP
                have hD : va_D A [(k, .inr (2, [.ref q_1, .ref q_5, .ref q_7, .null, .int 0, .null, .int 0, .int 0, .int 0, .int 0, .long 0, .int (-1), .int 0, .int (-1)])), (q_7, .inl (k_8, 24, .inr (.inr (.inr (.inr fq_56))))), (q_58, .inr (0, [.null, .int 0, .ref q_62, .ref q_63, .int 0]))] := hD
                have hK : va_K (dC, dI) vwCl [(k_8, .object "MapFramer$Call")] s := hK
                refine W.widen (k := 27) (n := 4147) (Nat.le_of_ble_eq_true rfl) (Nat.le_of_ble_eq_true rfl) ?_
                refine va_astq (r := (R_C, T_C, 5)) hx hb hK hP hD hS 1 0 2 0 rfl rfl rfl rfl (vp_in_iff.mpr (by decide)) d_K_init_62 (fun H locs hP hD hS => ?_)
                obtain ⟨fq_64, hfq⟩ : ∃ z : Nat → Option Nat, z = (va_up fq_56 (6 : Int32).toNatClampNeg (some q_58)) := ⟨_, rfl⟩
                have hP : va_P (dC, dI) vwCl [(k, .inr (2, [.ref q_1, .ref q_5, .ref q_7, .null, .int 0, .null, .int 0, .int 0, .int 0, .int 0, .long 0, .int (-1), .int 0, .int (-1)])), (q_7, .inl (k_8, 24, .inr (.inr (.inr (.inr (va_up fq_56 (6 : Int32).toNatClampNeg (some q_58))))))), (q_58, .inr (0, [.null, .int 0, .ref q_62, .ref q_63, .int 0]))] H := hP
                have hD : va_D A [(k, .inr (2, [.ref q_1, .ref q_5, .ref q_7, .null, .int 0, .null, .int 0, .int 0, .int 0, .int 0, .long 0, .int (-1), .int 0, .int (-1)])), (q_7, .inl (k_8, 24, .inr (.inr (.inr (.inr (va_up fq_56 (6 : Int32).toNatClampNeg (some q_58))))))), (q_58, .inr (0, [.null, .int 0, .ref q_62, .ref q_63, .int 0]))] := hD
                rw [← hfq] at hP hD
                have hP : va_P (dC, dI) vwCl [(k, .inr (2, [.ref q_1, .ref q_5, .ref q_7, .null, .int 0, .null, .int 0, .int 0, .int 0, .int 0, .long 0, .int (-1), .int 0, .int (-1)])), (q_7, .inl (k_8, 24, .inr (.inr (.inr (.inr fq_64))))), (q_58, .inr (0, [.null, .int 0, .ref q_62, .ref q_63, .int 0]))] H := hP
                have hD : va_D A [(k, .inr (2, [.ref q_1, .ref q_5, .ref q_7, .null, .int 0, .null, .int 0, .int 0, .int 0, .int 0, .long 0, .int (-1), .int 0, .int (-1)])), (q_7, .inl (k_8, 24, .inr (.inr (.inr (.inr fq_64))))), (q_58, .inr (0, [.null, .int 0, .ref q_62, .ref q_63, .int 0]))] := hD
                refine lv_iinc (v := 7) (lv' := [(1, .int 7), (0, .ref k)]) hx hb d_K_init_63 hl (k := 0) rfl (by decide) (by decide) rfl (fun ls hl => ?_)
                refine lv_goto (tgt := 44) hx hb d_K_init_66 (by decide) ?_
                have hP := hP.sub (ws' := [(k, .inr (2, [.ref q_1, .ref q_5, .ref q_7, .null, .int 0, .null, .int 0, .int 0, .int 0, .int 0, .long 0, .int (-1), .int 0, .int (-1)])), (q_7, .inl (k_8, 24, .inr (.inr (.inr (.inr fq_64)))))]) [0, 1] rfl
                have hD := hD.sub (ws' := [(k, .inr (2, [.ref q_1, .ref q_5, .ref q_7, .null, .int 0, .null, .int 0, .int 0, .int 0, .int 0, .long 0, .int (-1), .int 0, .int (-1)])), (q_7, .inl (k_8, 24, .inr (.inr (.inr (.inr fq_64)))))]) [0, 1] (by decide) rfl
                have hK := hK.sub (tys' := [(k_8, .object "MapFramer$Call")]) [0] rfl
                refine lv_iload_n hx hb d_K_init_44 rfl (lv_at hl 0 rfl) ?_
                refine lv_bipush (v := 24) hx hb d_K_init_45 (by decide) ?_
                refine lv_icmp_ge (tgt := 69) hx hb d_K_init_47 (by decide) (fun c_65 => ?_) (fun c_65 => ?_)
                · skip
                  first | exact absurd c_65 (by decide) | exact absurd (by decide) c_65
                · skip
                  refine lv_aload_n hx hb d_K_init_50 rfl (lv_at hl 1 rfl) ?_
                  refine va_get (D := (dC, dI)) (ci := 2) (v := .ref q_7) (C := R_K) (T := T_K) (N := 14) hx hb hts (fun w h => hsub w (uw_K w h)) hown hK hP 0 rfl rfl 2 (by decide) (hts _ (hsub _ w_237)) (fun _ h9 => h9) rfl d_K_init_51 ?_
                  refine lv_iload_n hx hb d_K_init_54 rfl (lv_at hl 0 rfl) ?_
                  refine va_new (ci := 0) (fs := [.null, .int 0, .null, .null, .int 0]) (C := R_C) (T := T_C) (N := 5) hx hb hts (fun w h => hsub w (uw_C w h)) ty_C tok_C hown (hts _ (hsub _ w_236)) (hts _ (hsub _ w_240)) (hts _ (hsub _ w_241)) hK hP hD hS hA rfl (fun j hj => df_C j hj) (Nat.le_of_ble_eq_true rfl) (Nat.le_of_ble_eq_true rfl) d_K_init_55 (fun q_66 H hP hD hS => ?_)
                  have hP : va_P (dC, dI) vwCl [(k, .inr (2, [.ref q_1, .ref q_5, .ref q_7, .null, .int 0, .null, .int 0, .int 0, .int 0, .int 0, .long 0, .int (-1), .int 0, .int (-1)])), (q_7, .inl (k_8, 24, .inr (.inr (.inr (.inr fq_64))))), (q_66, .inr (0, [.null, .int 0, .null, .null, .int 0]))] H := hP
                  have hD : va_D A [(k, .inr (2, [.ref q_1, .ref q_5, .ref q_7, .null, .int 0, .null, .int 0, .int 0, .int 0, .int 0, .long 0, .int (-1), .int 0, .int (-1)])), (q_7, .inl (k_8, 24, .inr (.inr (.inr (.inr fq_64))))), (q_66, .inr (0, [.null, .int 0, .null, .null, .int 0]))] := hD
                  refine W.widen (k := 28) (n := 4152) (Nat.le_of_ble_eq_true rfl) (Nat.le_of_ble_eq_true rfl) ?_
                  refine lv_dup hx hb d_K_init_58 rfl ?_
                  have hPc := hP.sub (ws' := [(q_66, .inr (0, [.null, .int 0, .null, .null, .int 0]))]) [2] rfl
                  have hKc := hK.sub (tys' := []) [] rfl
                  have hDc := hD.sub (ws' := [(q_66, .inr (0, [.null, .int 0, .null, .null, .int 0]))]) [2] (by decide) rfl
                  have hFc := va_free (wc := [(q_66, .inr (0, [.null, .int 0, .null, .null, .int 0]))]) hD hS hA [2] rfl
                  refine va_callv (va_runIN (As := []) (rest := [.ref q_66, .int 7, .ref q_7]) ⟨hx, hb, hml, hown, hts⟩ (k_C_init l dC dI q_66 H.size) ⟨va_cnB 0 hts (gC hsub w_242) rfl rfl rfl htb.2.1 (hts _ (hsub _ w_241)) (by decide +kernel) ⟨Nat.le_of_ble_eq_true rfl, Nat.le_of_ble_eq_true rfl⟩, rfl, (hts _ (hsub _ w_243))⟩ ⟨bl_1000, fun U hU hW => ⟨rfl, by rw [hU], by rw [hU]; exact hPc, va_K.moved hW.alike hKc, hDc.weaken (fun _ _ _ _ => trivial)⟩⟩ rfl rfl hl.1 rfl (lv_room (Nat.le_of_ble_eq_true rfl)) d_K_init_59 ⟨Nat.le_of_ble_eq_true rfl, Nat.le_of_ble_eq_true rfl⟩) hS (fun q _ h => hFc q h) hFc (fun u_69 t H1 locs ht hvm hw hB hz1 hk1 hS => ?_)
                  obtain ⟨q_70, q_71, hP1, hK1, hD1⟩ := hB
                  rw [ht] at hP1
                  have hK1 := va_K.moved hvm.symm hK1
                  obtain ⟨hP, hD⟩ := va_join (wr := [(k, .inr (2, [.ref q_1, .ref q_5, .ref q_7, .null, .int 0, .null, .int 0, .int 0, .int 0, .int 0, .long 0, .int (-1), .int 0, .int (-1)])), (q_7, .inl (k_8, 24, .inr (.inr (.inr (.inr fq_64)))))]) (w1 := [(q_66, .inr (0, [.null, .int 0, .ref q_70, .ref q_71, .int 0]))]) hP hD [2] [0, 1] rfl rfl (by decide) (by decide) hk1 hFc hP1 hD1
                  have hK := (hK.sub (tys' := [(k_8, .object "MapFramer$Call")]) [0] rfl).app hK1
                  generalize H1 = H at hP hS ⊢
                  have hP : va_P (dC, dI) vwCl [(k, .inr (2, [.ref q_1, .ref q_5, .ref q_7, .null, .int 0, .null, .int 0, .int 0, .int 0, .int 0, .long 0, .int (-1), .int 0, .int (-1)])), (q_7, .inl (k_8, 24, .inr (.inr (.inr (.inr fq_64))))), (q_66, .inr (0, [.null, .int 0, .ref q_70, .ref q_71, .int 0]))] H := hP
                  have hD : va_D A [(k, .inr (2, [.ref q_1, .ref q_5, .ref q_7, .null, .int 0, .null, .int 0, .int 0, .int 0, .int 0, .long 0, .int (-1), .int 0, .int (-1)])), (q_7, .inl (k_8, 24, .inr (.inr (.inr (.inr fq_64))))), (q_66, .inr (0, [.null, .int 0, .ref q_70, .ref q_71, .int 0]))] := hD
                  have hK : va_K (dC, dI) vwCl [(k_8, .object "MapFramer$Call")] s := hK
                  refine W.widen (k := 30) (n := 4176) (Nat.le_of_ble_eq_true rfl) (Nat.le_of_ble_eq_true rfl) ?_
                  refine va_astq (r := (R_C, T_C, 5)) hx hb hK hP hD hS 1 0 2 0 rfl rfl rfl rfl (vp_in_iff.mpr (by decide)) d_K_init_62 (fun H locs hP hD hS => ?_)
                  obtain ⟨fq_72, hfq⟩ : ∃ z : Nat → Option Nat, z = (va_up fq_64 (7 : Int32).toNatClampNeg (some q_66)) := ⟨_, rfl⟩
                  have hP : va_P (dC, dI) vwCl [(k, .inr (2, [.ref q_1, .ref q_5, .ref q_7, .null, .int 0, .null, .int 0, .int 0, .int 0, .int 0, .long 0, .int (-1), .int 0, .int (-1)])), (q_7, .inl (k_8, 24, .inr (.inr (.inr (.inr (va_up fq_64 (7 : Int32).toNatClampNeg (some q_66))))))), (q_66, .inr (0, [.null, .int 0, .ref q_70, .ref q_71, .int 0]))] H := hP
                  have hD : va_D A [(k, .inr (2, [.ref q_1, .ref q_5, .ref q_7, .null, .int 0, .null, .int 0, .int 0, .int 0, .int 0, .long 0, .int (-1), .int 0, .int (-1)])), (q_7, .inl (k_8, 24, .inr (.inr (.inr (.inr (va_up fq_64 (7 : Int32).toNatClampNeg (some q_66))))))), (q_66, .inr (0, [.null, .int 0, .ref q_70, .ref q_71, .int 0]))] := hD
                  rw [← hfq] at hP hD
                  have hP : va_P (dC, dI) vwCl [(k, .inr (2, [.ref q_1, .ref q_5, .ref q_7, .null, .int 0, .null, .int 0, .int 0, .int 0, .int 0, .long 0, .int (-1), .int 0, .int (-1)])), (q_7, .inl (k_8, 24, .inr (.inr (.inr (.inr fq_72))))), (q_66, .inr (0, [.null, .int 0, .ref q_70, .ref q_71, .int 0]))] H := hP
                  have hD : va_D A [(k, .inr (2, [.ref q_1, .ref q_5, .ref q_7, .null, .int 0, .null, .int 0, .int 0, .int 0, .int 0, .long 0, .int (-1), .int 0, .int (-1)])), (q_7, .inl (k_8, 24, .inr (.inr (.inr (.inr fq_72))))), (q_66, .inr (0, [.null, .int 0, .ref q_70, .ref q_71, .int 0]))] := hD
                  refine lv_iinc (v := 8) (lv' := [(1, .int 8), (0, .ref k)]) hx hb d_K_init_63 hl (k := 0) rfl (by decide) (by decide) rfl (fun ls hl => ?_)
                  refine lv_goto (tgt := 44) hx hb d_K_init_66 (by decide) ?_
                  have hP := hP.sub (ws' := [(k, .inr (2, [.ref q_1, .ref q_5, .ref q_7, .null, .int 0, .null, .int 0, .int 0, .int 0, .int 0, .long 0, .int (-1), .int 0, .int (-1)])), (q_7, .inl (k_8, 24, .inr (.inr (.inr (.inr fq_72)))))]) [0, 1] rfl
                  have hD := hD.sub (ws' := [(k, .inr (2, [.ref q_1, .ref q_5, .ref q_7, .null, .int 0, .null, .int 0, .int 0, .int 0, .int 0, .long 0, .int (-1), .int 0, .int (-1)])), (q_7, .inl (k_8, 24, .inr (.inr (.inr (.inr fq_72)))))]) [0, 1] (by decide) rfl
                  have hK := hK.sub (tys' := [(k_8, .object "MapFramer$Call")]) [0] rfl
                  refine lv_iload_n hx hb d_K_init_44 rfl (lv_at hl 0 rfl) ?_
                  refine lv_bipush (v := 24) hx hb d_K_init_45 (by decide) ?_
                  refine lv_icmp_ge (tgt := 69) hx hb d_K_init_47 (by decide) (fun c_73 => ?_) (fun c_73 => ?_)
                  · skip
                    first | exact absurd c_73 (by decide) | exact absurd (by decide) c_73
                  · skip
                    refine lv_aload_n hx hb d_K_init_50 rfl (lv_at hl 1 rfl) ?_
                    refine va_get (D := (dC, dI)) (ci := 2) (v := .ref q_7) (C := R_K) (T := T_K) (N := 14) hx hb hts (fun w h => hsub w (uw_K w h)) hown hK hP 0 rfl rfl 2 (by decide) (hts _ (hsub _ w_237)) (fun _ h9 => h9) rfl d_K_init_51 ?_
                    refine lv_iload_n hx hb d_K_init_54 rfl (lv_at hl 0 rfl) ?_
                    refine va_new (ci := 0) (fs := [.null, .int 0, .null, .null, .int 0]) (C := R_C) (T := T_C) (N := 5) hx hb hts (fun w h => hsub w (uw_C w h)) ty_C tok_C hown (hts _ (hsub _ w_236)) (hts _ (hsub _ w_240)) (hts _ (hsub _ w_241)) hK hP hD hS hA rfl (fun j hj => df_C j hj) (Nat.le_of_ble_eq_true rfl) (Nat.le_of_ble_eq_true rfl) d_K_init_55 (fun q_74 H hP hD hS => ?_)
                    have hP : va_P (dC, dI) vwCl [(k, .inr (2, [.ref q_1, .ref q_5, .ref q_7, .null, .int 0, .null, .int 0, .int 0, .int 0, .int 0, .long 0, .int (-1), .int 0, .int (-1)])), (q_7, .inl (k_8, 24, .inr (.inr (.inr (.inr fq_72))))), (q_74, .inr (0, [.null, .int 0, .null, .null, .int 0]))] H := hP
                    have hD : va_D A [(k, .inr (2, [.ref q_1, .ref q_5, .ref q_7, .null, .int 0, .null, .int 0, .int 0, .int 0, .int 0, .long 0, .int (-1), .int 0, .int (-1)])), (q_7, .inl (k_8, 24, .inr (.inr (.inr (.inr fq_72))))), (q_74, .inr (0, [.null, .int 0, .null, .null, .int 0]))] := hD
                    refine W.widen (k := 31) (n := 4181) (Nat.le_of_ble_eq_true rfl) (Nat.le_of_ble_eq_true rfl) ?_
                    refine lv_dup hx hb d_K_init_58 rfl ?_
                    have hPc := hP.sub (ws' := [(q_74, .inr (0, [.null, .int 0, .null, .null, .int 0]))]) [2] rfl
                    have hKc := hK.sub (tys' := []) [] rfl
                    have hDc := hD.sub (ws' := [(q_74, .inr (0, [.null, .int 0, .null, .null, .int 0]))]) [2] (by decide) rfl
                    have hFc := va_free (wc := [(q_74, .inr (0, [.null, .int 0, .null, .null, .int 0]))]) hD hS hA [2] rfl
                    refine va_callv (va_runIN (As := []) (rest := [.ref q_74, .int 8, .ref q_7]) ⟨hx, hb, hml, hown, hts⟩ (k_C_init l dC dI q_74 H.size) ⟨va_cnB 0 hts (gC hsub w_242) rfl rfl rfl htb.2.1 (hts _ (hsub _ w_241)) (by decide +kernel) ⟨Nat.le_of_ble_eq_true rfl, Nat.le_of_ble_eq_true rfl⟩, rfl, (hts _ (hsub _ w_243))⟩ ⟨bl_1000, fun U hU hW => ⟨rfl, by rw [hU], by rw [hU]; exact hPc, va_K.moved hW.alike hKc, hDc.weaken (fun _ _ _ _ => trivial)⟩⟩ rfl rfl hl.1 rfl (lv_room (Nat.le_of_ble_eq_true rfl)) d_K_init_59 ⟨Nat.le_of_ble_eq_true rfl, Nat.le_of_ble_eq_true rfl⟩) hS (fun q _ h => hFc q h) hFc (fun u_77 t H1 locs ht hvm hw hB hz1 hk1 hS => ?_)
                    obtain ⟨q_78, q_79, hP1, hK1, hD1⟩ := hB
                    rw [ht] at hP1
                    have hK1 := va_K.moved hvm.symm hK1
                    obtain ⟨hP, hD⟩ := va_join (wr := [(k, .inr (2, [.ref q_1, .ref q_5, .ref q_7, .null, .int 0, .null, .int 0, .int 0, .int 0, .int 0, .long 0, .int (-1), .int 0, .int (-1)])), (q_7, .inl (k_8, 24, .inr (.inr (.inr (.inr fq_72)))))]) (w1 := [(q_74, .inr (0, [.null, .int 0, .ref q_78, .ref q_79, .int 0]))]) hP hD [2] [0, 1] rfl rfl (by decide) (by decide) hk1 hFc hP1 hD1
                    have hK := (hK.sub (tys' := [(k_8, .object "MapFramer$Call")]) [0] rfl).app hK1
                    generalize H1 = H at hP hS ⊢
                    have hP : va_P (dC, dI) vwCl [(k, .inr (2, [.ref q_1, .ref q_5, .ref q_7, .null, .int 0, .null, .int 0, .int 0, .int 0, .int 0, .long 0, .int (-1), .int 0, .int (-1)])), (q_7, .inl (k_8, 24, .inr (.inr (.inr (.inr fq_72))))), (q_74, .inr (0, [.null, .int 0, .ref q_78, .ref q_79, .int 0]))] H := hP
                    have hD : va_D A [(k, .inr (2, [.ref q_1, .ref q_5, .ref q_7, .null, .int 0, .null, .int 0, .int 0, .int 0, .int 0, .long 0, .int (-1), .int 0, .int (-1)])), (q_7, .inl (k_8, 24, .inr (.inr (.inr (.inr fq_72))))), (q_74, .inr (0, [.null, .int 0, .ref q_78, .ref q_79, .int 0]))] := hD
                    have hK : va_K (dC, dI) vwCl [(k_8, .object "MapFramer$Call")] s := hK
                    refine W.widen (k := 33) (n := 4205) (Nat.le_of_ble_eq_true rfl) (Nat.le_of_ble_eq_true rfl) ?_
                    refine va_astq (r := (R_C, T_C, 5)) hx hb hK hP hD hS 1 0 2 0 rfl rfl rfl rfl (vp_in_iff.mpr (by decide)) d_K_init_62 (fun H locs hP hD hS => ?_)
                    obtain ⟨fq_80, hfq⟩ : ∃ z : Nat → Option Nat, z = (va_up fq_72 (8 : Int32).toNatClampNeg (some q_74)) := ⟨_, rfl⟩
                    have hP : va_P (dC, dI) vwCl [(k, .inr (2, [.ref q_1, .ref q_5, .ref q_7, .null, .int 0, .null, .int 0, .int 0, .int 0, .int 0, .long 0, .int (-1), .int 0, .int (-1)])), (q_7, .inl (k_8, 24, .inr (.inr (.inr (.inr (va_up fq_72 (8 : Int32).toNatClampNeg (some q_74))))))), (q_74, .inr (0, [.null, .int 0, .ref q_78, .ref q_79, .int 0]))] H := hP
                    have hD : va_D A [(k, .inr (2, [.ref q_1, .ref q_5, .ref q_7, .null, .int 0, .null, .int 0, .int 0, .int 0, .int 0, .long 0, .int (-1), .int 0, .int (-1)])), (q_7, .inl (k_8, 24, .inr (.inr (.inr (.inr (va_up fq_72 (8 : Int32).toNatClampNeg (some q_74))))))), (q_74, .inr (0, [.null, .int 0, .ref q_78, .ref q_79, .int 0]))] := hD
                    rw [← hfq] at hP hD
                    have hP : va_P (dC, dI) vwCl [(k, .inr (2, [.ref q_1, .ref q_5, .ref q_7, .null, .int 0, .null, .int 0, .int 0, .int 0, .int 0, .long 0, .int (-1), .int 0, .int (-1)])), (q_7, .inl (k_8, 24, .inr (.inr (.inr (.inr fq_80))))), (q_74, .inr (0, [.null, .int 0, .ref q_78, .ref q_79, .int 0]))] H := hP
                    have hD : va_D A [(k, .inr (2, [.ref q_1, .ref q_5, .ref q_7, .null, .int 0, .null, .int 0, .int 0, .int 0, .int 0, .long 0, .int (-1), .int 0, .int (-1)])), (q_7, .inl (k_8, 24, .inr (.inr (.inr (.inr fq_80))))), (q_74, .inr (0, [.null, .int 0, .ref q_78, .ref q_79, .int 0]))] := hD
                    refine lv_iinc (v := 9) (lv' := [(1, .int 9), (0, .ref k)]) hx hb d_K_init_63 hl (k := 0) rfl (by decide) (by decide) rfl (fun ls hl => ?_)
                    refine lv_goto (tgt := 44) hx hb d_K_init_66 (by decide) ?_
                    have hP := hP.sub (ws' := [(k, .inr (2, [.ref q_1, .ref q_5, .ref q_7, .null, .int 0, .null, .int 0, .int 0, .int 0, .int 0, .long 0, .int (-1), .int 0, .int (-1)])), (q_7, .inl (k_8, 24, .inr (.inr (.inr (.inr fq_80)))))]) [0, 1] rfl
                    have hD := hD.sub (ws' := [(k, .inr (2, [.ref q_1, .ref q_5, .ref q_7, .null, .int 0, .null, .int 0, .int 0, .int 0, .int 0, .long 0, .int (-1), .int 0, .int (-1)])), (q_7, .inl (k_8, 24, .inr (.inr (.inr (.inr fq_80)))))]) [0, 1] (by decide) rfl
                    have hK := hK.sub (tys' := [(k_8, .object "MapFramer$Call")]) [0] rfl
                    refine lv_iload_n hx hb d_K_init_44 rfl (lv_at hl 0 rfl) ?_
                    refine lv_bipush (v := 24) hx hb d_K_init_45 (by decide) ?_
                    refine lv_icmp_ge (tgt := 69) hx hb d_K_init_47 (by decide) (fun c_81 => ?_) (fun c_81 => ?_)
                    · skip
                      first | exact absurd c_81 (by decide) | exact absurd (by decide) c_81
                    · skip
                      refine lv_aload_n hx hb d_K_init_50 rfl (lv_at hl 1 rfl) ?_
                      refine va_get (D := (dC, dI)) (ci := 2) (v := .ref q_7) (C := R_K) (T := T_K) (N := 14) hx hb hts (fun w h => hsub w (uw_K w h)) hown hK hP 0 rfl rfl 2 (by decide) (hts _ (hsub _ w_237)) (fun _ h9 => h9) rfl d_K_init_51 ?_
                      refine lv_iload_n hx hb d_K_init_54 rfl (lv_at hl 0 rfl) ?_
                      refine va_new (ci := 0) (fs := [.null, .int 0, .null, .null, .int 0]) (C := R_C) (T := T_C) (N := 5) hx hb hts (fun w h => hsub w (uw_C w h)) ty_C tok_C hown (hts _ (hsub _ w_236)) (hts _ (hsub _ w_240)) (hts _ (hsub _ w_241)) hK hP hD hS hA rfl (fun j hj => df_C j hj) (Nat.le_of_ble_eq_true rfl) (Nat.le_of_ble_eq_true rfl) d_K_init_55 (fun q_82 H hP hD hS => ?_)
                      have hP : va_P (dC, dI) vwCl [(k, .inr (2, [.ref q_1, .ref q_5, .ref q_7, .null, .int 0, .null, .int 0, .int 0, .int 0, .int 0, .long 0, .int (-1), .int 0, .int (-1)])), (q_7, .inl (k_8, 24, .inr (.inr (.inr (.inr fq_80))))), (q_82, .inr (0, [.null, .int 0, .null, .null, .int 0]))] H := hP
                      have hD : va_D A [(k, .inr (2, [.ref q_1, .ref q_5, .ref q_7, .null, .int 0, .null, .int 0, .int 0, .int 0, .int 0, .long 0, .int (-1), .int 0, .int (-1)])), (q_7, .inl (k_8, 24, .inr (.inr (.inr (.inr fq_80))))), (q_82, .inr (0, [.null, .int 0, .null, .null, .int 0]))] := hD
                      refine W.widen (k := 34) (n := 4210) (Nat.le_of_ble_eq_true rfl) (Nat.le_of_ble_eq_true rfl) ?_
                      refine lv_dup hx hb d_K_init_58 rfl ?_
                      have hPc := hP.sub (ws' := [(q_82, .inr (0, [.null, .int 0, .null, .null, .int 0]))]) [2] rfl
                      have hKc := hK.sub (tys' := []) [] rfl
                      have hDc := hD.sub (ws' := [(q_82, .inr (0, [.null, .int 0, .null, .null, .int 0]))]) [2] (by decide) rfl
                      have hFc := va_free (wc := [(q_82, .inr (0, [.null, .int 0, .null, .null, .int 0]))]) hD hS hA [2] rfl
                      refine va_callv (va_runIN (As := []) (rest := [.ref q_82, .int 9, .ref q_7]) ⟨hx, hb, hml, hown, hts⟩ (k_C_init l dC dI q_82 H.size) ⟨va_cnB 0 hts (gC hsub w_242) rfl rfl rfl htb.2.1 (hts _ (hsub _ w_241)) (by decide +kernel) ⟨Nat.le_of_ble_eq_true rfl, Nat.le_of_ble_eq_true rfl⟩, rfl, (hts _ (hsub _ w_243))⟩ ⟨bl_1000, fun U hU hW => ⟨rfl, by rw [hU], by rw [hU]; exact hPc, va_K.moved hW.alike hKc, hDc.weaken (fun _ _ _ _ => trivial)⟩⟩ rfl rfl hl.1 rfl (lv_room (Nat.le_of_ble_eq_true rfl)) d_K_init_59 ⟨Nat.le_of_ble_eq_true rfl, Nat.le_of_ble_eq_true rfl⟩) hS (fun q _ h => hFc q h) hFc (fun u_85 t H1 locs ht hvm hw hB hz1 hk1 hS => ?_)
                      obtain ⟨q_86, q_87, hP1, hK1, hD1⟩ := hB
                      rw [ht] at hP1
                      have hK1 := va_K.moved hvm.symm hK1
                      obtain ⟨hP, hD⟩ := va_join (wr := [(k, .inr (2, [.ref q_1, .ref q_5, .ref q_7, .null, .int 0, .null, .int 0, .int 0, .int 0, .int 0, .long 0, .int (-1), .int 0, .int (-1)])), (q_7, .inl (k_8, 24, .inr (.inr (.inr (.inr fq_80)))))]) (w1 := [(q_82, .inr (0, [.null, .int 0, .ref q_86, .ref q_87, .int 0]))]) hP hD [2] [0, 1] rfl rfl (by decide) (by decide) hk1 hFc hP1 hD1
                      have hK := (hK.sub (tys' := [(k_8, .object "MapFramer$Call")]) [0] rfl).app hK1
                      generalize H1 = H at hP hS ⊢
                      have hP : va_P (dC, dI) vwCl [(k, .inr (2, [.ref q_1, .ref q_5, .ref q_7, .null, .int 0, .null, .int 0, .int 0, .int 0, .int 0, .long 0, .int (-1), .int 0, .int (-1)])), (q_7, .inl (k_8, 24, .inr (.inr (.inr (.inr fq_80))))), (q_82, .inr (0, [.null, .int 0, .ref q_86, .ref q_87, .int 0]))] H := hP
                      have hD : va_D A [(k, .inr (2, [.ref q_1, .ref q_5, .ref q_7, .null, .int 0, .null, .int 0, .int 0, .int 0, .int 0, .long 0, .int (-1), .int 0, .int (-1)])), (q_7, .inl (k_8, 24, .inr (.inr (.inr (.inr fq_80))))), (q_82, .inr (0, [.null, .int 0, .ref q_86, .ref q_87, .int 0]))] := hD
                      have hK : va_K (dC, dI) vwCl [(k_8, .object "MapFramer$Call")] s := hK
                      refine W.widen (k := 36) (n := 4234) (Nat.le_of_ble_eq_true rfl) (Nat.le_of_ble_eq_true rfl) ?_
                      refine va_astq (r := (R_C, T_C, 5)) hx hb hK hP hD hS 1 0 2 0 rfl rfl rfl rfl (vp_in_iff.mpr (by decide)) d_K_init_62 (fun H locs hP hD hS => ?_)
                      obtain ⟨fq_88, hfq⟩ : ∃ z : Nat → Option Nat, z = (va_up fq_80 (9 : Int32).toNatClampNeg (some q_82)) := ⟨_, rfl⟩
                      have hP : va_P (dC, dI) vwCl [(k, .inr (2, [.ref q_1, .ref q_5, .ref q_7, .null, .int 0, .null, .int 0, .int 0, .int 0, .int 0, .long 0, .int (-1), .int 0, .int (-1)])), (q_7, .inl (k_8, 24, .inr (.inr (.inr (.inr (va_up fq_80 (9 : Int32).toNatClampNeg (some q_82))))))), (q_82, .inr (0, [.null, .int 0, .ref q_86, .ref q_87, .int 0]))] H := hP
                      have hD : va_D A [(k, .inr (2, [.ref q_1, .ref q_5, .ref q_7, .null, .int 0, .null, .int 0, .int 0, .int 0, .int 0, .long 0, .int (-1), .int 0, .int (-1)])), (q_7, .inl (k_8, 24, .inr (.inr (.inr (.inr (va_up fq_80 (9 : Int32).toNatClampNeg (some q_82))))))), (q_82, .inr (0, [.null, .int 0, .ref q_86, .ref q_87, .int 0]))] := hD
                      rw [← hfq] at hP hD
                      have hP : va_P (dC, dI) vwCl [(k, .inr (2, [.ref q_1, .ref q_5, .ref q_7, .null, .int 0, .null, .int 0, .int 0, .int 0, .int 0, .long 0, .int (-1), .int 0, .int (-1)])), (q_7, .inl (k_8, 24, .inr (.inr (.inr (.inr fq_88))))), (q_82, .inr (0, [.null, .int 0, .ref q_86, .ref q_87, .int 0]))] H := hP
                      have hD : va_D A [(k, .inr (2, [.ref q_1, .ref q_5, .ref q_7, .null, .int 0, .null, .int 0, .int 0, .int 0, .int 0, .long 0, .int (-1), .int 0, .int (-1)])), (q_7, .inl (k_8, 24, .inr (.inr (.inr (.inr fq_88))))), (q_82, .inr (0, [.null, .int 0, .ref q_86, .ref q_87, .int 0]))] := hD
                      refine lv_iinc (v := 10) (lv' := [(1, .int 10), (0, .ref k)]) hx hb d_K_init_63 hl (k := 0) rfl (by decide) (by decide) rfl (fun ls hl => ?_)
                      refine lv_goto (tgt := 44) hx hb d_K_init_66 (by decide) ?_
                      have hP := hP.sub (ws' := [(k, .inr (2, [.ref q_1, .ref q_5, .ref q_7, .null, .int 0, .null, .int 0, .int 0, .int 0, .int 0, .long 0, .int (-1), .int 0, .int (-1)])), (q_7, .inl (k_8, 24, .inr (.inr (.inr (.inr fq_88)))))]) [0, 1] rfl
                      have hD := hD.sub (ws' := [(k, .inr (2, [.ref q_1, .ref q_5, .ref q_7, .null, .int 0, .null, .int 0, .int 0, .int 0, .int 0, .long 0, .int (-1), .int 0, .int (-1)])), (q_7, .inl (k_8, 24, .inr (.inr (.inr (.inr fq_88)))))]) [0, 1] (by decide) rfl
                      have hK := hK.sub (tys' := [(k_8, .object "MapFramer$Call")]) [0] rfl
                      refine lv_iload_n hx hb d_K_init_44 rfl (lv_at hl 0 rfl) ?_
                      refine lv_bipush (v := 24) hx hb d_K_init_45 (by decide) ?_
                      refine lv_icmp_ge (tgt := 69) hx hb d_K_init_47 (by decide) (fun c_89 => ?_) (fun c_89 => ?_)
                      · skip
                        first | exact absurd c_89 (by decide) | exact absurd (by decide) c_89
                      · skip
                        refine lv_aload_n hx hb d_K_init_50 rfl (lv_at hl 1 rfl) ?_
                        refine va_get (D := (dC, dI)) (ci := 2) (v := .ref q_7) (C := R_K) (T := T_K) (N := 14) hx hb hts (fun w h => hsub w (uw_K w h)) hown hK hP 0 rfl rfl 2 (by decide) (hts _ (hsub _ w_237)) (fun _ h9 => h9) rfl d_K_init_51 ?_
                        refine lv_iload_n hx hb d_K_init_54 rfl (lv_at hl 0 rfl) ?_
                        refine va_new (ci := 0) (fs := [.null, .int 0, .null, .null, .int 0]) (C := R_C) (T := T_C) (N := 5) hx hb hts (fun w h => hsub w (uw_C w h)) ty_C tok_C hown (hts _ (hsub _ w_236)) (hts _ (hsub _ w_240)) (hts _ (hsub _ w_241)) hK hP hD hS hA rfl (fun j hj => df_C j hj) (Nat.le_of_ble_eq_true rfl) (Nat.le_of_ble_eq_true rfl) d_K_init_55 (fun q_90 H hP hD hS => ?_)
                        have hP : va_P (dC, dI) vwCl [(k, .inr (2, [.ref q_1, .ref q_5, .ref q_7, .null, .int 0, .null, .int 0, .int 0, .int 0, .int 0, .long 0, .int (-1), .int 0, .int (-1)])), (q_7, .inl (k_8, 24, .inr (.inr (.inr (.inr fq_88))))), (q_90, .inr (0, [.null, .int 0, .null, .null, .int 0]))] H := hP
                        have hD : va_D A [(k, .inr (2, [.ref q_1, .ref q_5, .ref q_7, .null, .int 0, .null, .int 0, .int 0, .int 0, .int 0, .long 0, .int (-1), .int 0, .int (-1)])), (q_7, .inl (k_8, 24, .inr (.inr (.inr (.inr fq_88))))), (q_90, .inr (0, [.null, .int 0, .null, .null, .int 0]))] := hD
                        refine W.widen (k := 37) (n := 4239) (Nat.le_of_ble_eq_true rfl) (Nat.le_of_ble_eq_true rfl) ?_
                        refine lv_dup hx hb d_K_init_58 rfl ?_
                        have hPc := hP.sub (ws' := [(q_90, .inr (0, [.null, .int 0, .null, .null, .int 0]))]) [2] rfl
                        have hKc := hK.sub (tys' := []) [] rfl
                        have hDc := hD.sub (ws' := [(q_90, .inr (0, [.null, .int 0, .null, .null, .int 0]))]) [2] (by decide) rfl
                        have hFc := va_free (wc := [(q_90, .inr (0, [.null, .int 0, .null, .null, .int 0]))]) hD hS hA [2] rfl
                        refine va_callv (va_runIN (As := []) (rest := [.ref q_90, .int 10, .ref q_7]) ⟨hx, hb, hml, hown, hts⟩ (k_C_init l dC dI q_90 H.size) ⟨va_cnB 0 hts (gC hsub w_242) rfl rfl rfl htb.2.1 (hts _ (hsub _ w_241)) (by decide +kernel) ⟨Nat.le_of_ble_eq_true rfl, Nat.le_of_ble_eq_true rfl⟩, rfl, (hts _ (hsub _ w_243))⟩ ⟨bl_1000, fun U hU hW => ⟨rfl, by rw [hU], by rw [hU]; exact hPc, va_K.moved hW.alike hKc, hDc.weaken (fun _ _ _ _ => trivial)⟩⟩ rfl rfl hl.1 rfl (lv_room (Nat.le_of_ble_eq_true rfl)) d_K_init_59 ⟨Nat.le_of_ble_eq_true rfl, Nat.le_of_ble_eq_true rfl⟩) hS (fun q _ h => hFc q h) hFc (fun u_93 t H1 locs ht hvm hw hB hz1 hk1 hS => ?_)
                        obtain ⟨q_94, q_95, hP1, hK1, hD1⟩ := hB
                        rw [ht] at hP1
                        have hK1 := va_K.moved hvm.symm hK1
                        obtain ⟨hP, hD⟩ := va_join (wr := [(k, .inr (2, [.ref q_1, .ref q_5, .ref q_7, .null, .int 0, .null, .int 0, .int 0, .int 0, .int 0, .long 0, .int (-1), .int 0, .int (-1)])), (q_7, .inl (k_8, 24, .inr (.inr (.inr (.inr fq_88)))))]) (w1 := [(q_90, .inr (0, [.null, .int 0, .ref q_94, .ref q_95, .int 0]))]) hP hD [2] [0, 1] rfl rfl (by decide) (by decide) hk1 hFc hP1 hD1
                        have hK := (hK.sub (tys' := [(k_8, .object "MapFramer$Call")]) [0] rfl).app hK1
                        generalize H1 = H at hP hS ⊢
                        have hP : va_P (dC, dI) vwCl [(k, .inr (2, [.ref q_1, .ref q_5, .ref q_7, .null, .int 0, .null, .int 0, .int 0, .int 0, .int 0, .long 0, .int (-1), .int 0, .int (-1)])), (q_7, .inl (k_8, 24, .inr (.inr (.inr (.inr fq_88))))), (q_90, .inr (0, [.null, .int 0, .ref q_94, .ref q_95, .int 0]))] H := hP
                        have hD : va_D A [(k, .inr (2, [.ref q_1, .ref q_5, .ref q_7, .null, .int 0, .null, .int 0, .int 0, .int 0, .int 0, .long 0, .int (-1), .int 0, .int (-1)])), (q_7, .inl (k_8, 24, .inr (.inr (.inr (.inr fq_88))))), (q_90, .inr (0, [.null, .int 0, .ref q_94, .ref q_95, .int 0]))] := hD
                        have hK : va_K (dC, dI) vwCl [(k_8, .object "MapFramer$Call")] s := hK
                        refine W.widen (k := 39) (n := 4263) (Nat.le_of_ble_eq_true rfl) (Nat.le_of_ble_eq_true rfl) ?_
                        refine va_astq (r := (R_C, T_C, 5)) hx hb hK hP hD hS 1 0 2 0 rfl rfl rfl rfl (vp_in_iff.mpr (by decide)) d_K_init_62 (fun H locs hP hD hS => ?_)
                        obtain ⟨fq_96, hfq⟩ : ∃ z : Nat → Option Nat, z = (va_up fq_88 (10 : Int32).toNatClampNeg (some q_90)) := ⟨_, rfl⟩
                        have hP : va_P (dC, dI) vwCl [(k, .inr (2, [.ref q_1, .ref q_5, .ref q_7, .null, .int 0, .null, .int 0, .int 0, .int 0, .int 0, .long 0, .int (-1), .int 0, .int (-1)])), (q_7, .inl (k_8, 24, .inr (.inr (.inr (.inr (va_up fq_88 (10 : Int32).toNatClampNeg (some q_90))))))), (q_90, .inr (0, [.null, .int 0, .ref q_94, .ref q_95, .int 0]))] H := hP
                        have hD : va_D A [(k, .inr (2, [.ref q_1, .ref q_5, .ref q_7, .null, .int 0, .null, .int 0, .int 0, .int 0, .int 0, .long 0, .int (-1), .int 0, .int (-1)])), (q_7, .inl (k_8, 24, .inr (.inr (.inr (.inr (va_up fq_88 (10 : Int32).toNatClampNeg (some q_90))))))), (q_90, .inr (0, [.null, .int 0, .ref q_94, .ref q_95, .int 0]))] := hD
                        rw [← hfq] at hP hD
                        have hP : va_P (dC, dI) vwCl [(k, .inr (2, [.ref q_1, .ref q_5, .ref q_7, .null, .int 0, .null, .int 0, .int 0, .int 0, .int 0, .long 0, .int (-1), .int 0, .int (-1)])), (q_7, .inl (k_8, 24, .inr (.inr (.inr (.inr fq_96))))), (q_90, .inr (0, [.null, .int 0, .ref q_94, .ref q_95, .int 0]))] H := hP
                        have hD : va_D A [(k, .inr (2, [.ref q_1, .ref q_5, .ref q_7, .null, .int 0, .null, .int 0, .int 0, .int 0, .int 0, .long 0, .int (-1), .int 0, .int (-1)])), (q_7, .inl (k_8, 24, .inr (.inr (.inr (.inr fq_96))))), (q_90, .inr (0, [.null, .int 0, .ref q_94, .ref q_95, .int 0]))] := hD
                        refine lv_iinc (v := 11) (lv' := [(1, .int 11), (0, .ref k)]) hx hb d_K_init_63 hl (k := 0) rfl (by decide) (by decide) rfl (fun ls hl => ?_)
                        refine lv_goto (tgt := 44) hx hb d_K_init_66 (by decide) ?_
                        have hP := hP.sub (ws' := [(k, .inr (2, [.ref q_1, .ref q_5, .ref q_7, .null, .int 0, .null, .int 0, .int 0, .int 0, .int 0, .long 0, .int (-1), .int 0, .int (-1)])), (q_7, .inl (k_8, 24, .inr (.inr (.inr (.inr fq_96)))))]) [0, 1] rfl
                        have hD := hD.sub (ws' := [(k, .inr (2, [.ref q_1, .ref q_5, .ref q_7, .null, .int 0, .null, .int 0, .int 0, .int 0, .int 0, .long 0, .int (-1), .int 0, .int (-1)])), (q_7, .inl (k_8, 24, .inr (.inr (.inr (.inr fq_96)))))]) [0, 1] (by decide) rfl
                        have hK := hK.sub (tys' := [(k_8, .object "MapFramer$Call")]) [0] rfl
                        refine lv_iload_n hx hb d_K_init_44 rfl (lv_at hl 0 rfl) ?_
                        refine lv_bipush (v := 24) hx hb d_K_init_45 (by decide) ?_
                        refine lv_icmp_ge (tgt := 69) hx hb d_K_init_47 (by decide) (fun c_97 => ?_) (fun c_97 => ?_)
                        · skip
                          first | exact absurd c_97 (by decide) | exact absurd (by decide) c_97
                        · skip
                          refine lv_aload_n hx hb d_K_init_50 rfl (lv_at hl 1 rfl) ?_
                          refine va_get (D := (dC, dI)) (ci := 2) (v := .ref q_7) (C := R_K) (T := T_K) (N := 14) hx hb hts (fun w h => hsub w (uw_K w h)) hown hK hP 0 rfl rfl 2 (by decide) (hts _ (hsub _ w_237)) (fun _ h9 => h9) rfl d_K_init_51 ?_
                          refine lv_iload_n hx hb d_K_init_54 rfl (lv_at hl 0 rfl) ?_
                          refine va_new (ci := 0) (fs := [.null, .int 0, .null, .null, .int 0]) (C := R_C) (T := T_C) (N := 5) hx hb hts (fun w h => hsub w (uw_C w h)) ty_C tok_C hown (hts _ (hsub _ w_236)) (hts _ (hsub _ w_240)) (hts _ (hsub _ w_241)) hK hP hD hS hA rfl (fun j hj => df_C j hj) (Nat.le_of_ble_eq_true rfl) (Nat.le_of_ble_eq_true rfl) d_K_init_55 (fun q_98 H hP hD hS => ?_)
                          have hP : va_P (dC, dI) vwCl [(k, .inr (2, [.ref q_1, .ref q_5, .ref q_7, .null, .int 0, .null, .int 0, .int 0, .int 0, .int 0, .long 0, .int (-1), .int 0, .int (-1)])), (q_7, .inl (k_8, 24, .inr (.inr (.inr (.inr fq_96))))), (q_98, .inr (0, [.null, .int 0, .null, .null, .int 0]))] H := hP
                          have hD : va_D A [(k, .inr (2, [.ref q_1, .ref q_5, .ref q_7, .null, .int 0, .null, .int 0, .int 0, .int 0, .int 0, .long 0, .int (-1), .int 0, .int (-1)])), (q_7, .inl (k_8, 24, .inr (.inr (.inr (.inr fq_96))))), (q_98, .inr (0, [.null, .int 0, .null, .null, .int 0]))] := hD
                          refine W.widen (k := 40) (n := 4268) (Nat.le_of_ble_eq_true rfl) (Nat.le_of_ble_eq_true rfl) ?_
                          refine lv_dup hx hb d_K_init_58 rfl ?_
                          have hPc := hP.sub (ws' := [(q_98, .inr (0, [.null, .int 0, .null, .null, .int 0]))]) [2] rfl
                          have hKc := hK.sub (tys' := []) [] rfl
                          have hDc := hD.sub (ws' := [(q_98, .inr (0, [.null, .int 0, .null, .null, .int 0]))]) [2] (by decide) rfl
                          have hFc := va_free (wc := [(q_98, .inr (0, [.null, .int 0, .null, .null, .int 0]))]) hD hS hA [2] rfl
                          refine va_callv (va_runIN (As := []) (rest := [.ref q_98, .int 11, .ref q_7]) ⟨hx, hb, hml, hown, hts⟩ (k_C_init l dC dI q_98 H.size) ⟨va_cnB 0 hts (gC hsub w_242) rfl rfl rfl htb.2.1 (hts _ (hsub _ w_241)) (by decide +kernel) ⟨Nat.le_of_ble_eq_true rfl, Nat.le_of_ble_eq_true rfl⟩, rfl, (hts _ (hsub _ w_243))⟩ ⟨bl_1000, fun U hU hW => ⟨rfl, by rw [hU], by rw [hU]; exact hPc, va_K.moved hW.alike hKc, hDc.weaken (fun _ _ _ _ => trivial)⟩⟩ rfl rfl hl.1 rfl (lv_room (Nat.le_of_ble_eq_true rfl)) d_K_init_59 ⟨Nat.le_of_ble_eq_true rfl, Nat.le_of_ble_eq_true rfl⟩) hS (fun q _ h => hFc q h) hFc (fun u_101 t H1 locs ht hvm hw hB hz1 hk1 hS => ?_)
                          obtain ⟨q_102, q_103, hP1, hK1, hD1⟩ := hB
                          rw [ht] at hP1
                          have hK1 := va_K.moved hvm.symm hK1
                          obtain ⟨hP, hD⟩ := va_join (wr := [(k, .inr (2, [.ref q_1, .ref q_5, .ref q_7, .null, .int 0, .null, .int 0, .int 0, .int 0, .int 0, .long 0, .int (-1), .int 0, .int (-1)])), (q_7, .inl (k_8, 24, .inr (.inr (.inr (.inr fq_96)))))]) (w1 := [(q_98, .inr (0, [.null, .int 0, .ref q_102, .ref q_103, .int 0]))]) hP hD [2] [0, 1] rfl rfl (by decide) (by decide) hk1 hFc hP1 hD1
                          have hK := (hK.sub (tys' := [(k_8, .object "MapFramer$Call")]) [0] rfl).app hK1
                          generalize H1 = H at hP hS ⊢
                          have hP : va_P (dC, dI) vwCl [(k, .inr (2, [.ref q_1, .ref q_5, .ref q_7, .null, .int 0, .null, .int 0, .int 0, .int 0, .int 0, .long 0, .int (-1), .int 0, .int (-1)])), (q_7, .inl (k_8, 24, .inr (.inr (.inr (.inr fq_96))))), (q_98, .inr (0, [.null, .int 0, .ref q_102, .ref q_103, .int 0]))] H := hP
                          have hD : va_D A [(k, .inr (2, [.ref q_1, .ref q_5, .ref q_7, .null, .int 0, .null, .int 0, .int 0, .int 0, .int 0, .long 0, .int (-1), .int 0, .int (-1)])), (q_7, .inl (k_8, 24, .inr (.inr (.inr (.inr fq_96))))), (q_98, .inr (0, [.null, .int 0, .ref q_102, .ref q_103, .int 0]))] := hD
                          have hK : va_K (dC, dI) vwCl [(k_8, .object "MapFramer$Call")] s := hK
                          refine W.widen (k := 42) (n := 4292) (Nat.le_of_ble_eq_true rfl) (Nat.le_of_ble_eq_true rfl) ?_
                          refine va_astq (r := (R_C, T_C, 5)) hx hb hK hP hD hS 1 0 2 0 rfl rfl rfl rfl (vp_in_iff.mpr (by decide)) d_K_init_62 (fun H locs hP hD hS => ?_)
                          obtain ⟨fq_104, hfq⟩ : ∃ z : Nat → Option Nat, z = (va_up fq_96 (11 : Int32).toNatClampNeg (some q_98)) := ⟨_, rfl⟩
                          have hP : va_P (dC, dI) vwCl [(k, .inr (2, [.ref q_1, .ref q_5, .ref q_7, .null, .int 0, .null, .int 0, .int 0, .int 0, .int 0, .long 0, .int (-1), .int 0, .int (-1)])), (q_7, .inl (k_8, 24, .inr (.inr (.inr (.inr (va_up fq_96 (11 : Int32).toNatClampNeg (some q_98))))))), (q_98, .inr (0, [.null, .int 0, .ref q_102, .ref q_103, .int 0]))] H := hP
                          have hD : va_D A [(k, .inr (2, [.ref q_1, .ref q_5, .ref q_7, .null, .int 0, .null, .int 0, .int 0, .int 0, .int 0, .long 0, .int (-1), .int 0, .int (-1)])), (q_7, .inl (k_8, 24, .inr (.inr (.inr (.inr (va_up fq_96 (11 : Int32).toNatClampNeg (some q_98))))))), (q_98, .inr (0, [.null, .int 0, .ref q_102, .ref q_103, .int 0]))] := hD
                          rw [← hfq] at hP hD
                          have hP : va_P (dC, dI) vwCl [(k, .inr (2, [.ref q_1, .ref q_5, .ref q_7, .null, .int 0, .null, .int 0, .int 0, .int 0, .int 0, .long 0, .int (-1), .int 0, .int (-1)])), (q_7, .inl (k_8, 24, .inr (.inr (.inr (.inr fq_104))))), (q_98, .inr (0, [.null, .int 0, .ref q_102, .ref q_103, .int 0]))] H := hP
                          have hD : va_D A [(k, .inr (2, [.ref q_1, .ref q_5, .ref q_7, .null, .int 0, .null, .int 0, .int 0, .int 0, .int 0, .long 0, .int (-1), .int 0, .int (-1)])), (q_7, .inl (k_8, 24, .inr (.inr (.inr (.inr fq_104))))), (q_98, .inr (0, [.null, .int 0, .ref q_102, .ref q_103, .int 0]))] := hD
                          refine lv_iinc (v := 12) (lv' := [(1, .int 12), (0, .ref k)]) hx hb d_K_init_63 hl (k := 0) rfl (by decide) (by decide) rfl (fun ls hl => ?_)
                          refine lv_goto (tgt := 44) hx hb d_K_init_66 (by decide) ?_
                          have hP := hP.sub (ws' := [(k, .inr (2, [.ref q_1, .ref q_5, .ref q_7, .null, .int 0, .null, .int 0, .int 0, .int 0, .int 0, .long 0, .int (-1), .int 0, .int (-1)])), (q_7, .inl (k_8, 24, .inr (.inr (.inr (.inr fq_104)))))]) [0, 1] rfl
                          have hD := hD.sub (ws' := [(k, .inr (2, [.ref q_1, .ref q_5, .ref q_7, .null, .int 0, .null, .int 0, .int 0, .int 0, .int 0, .long 0, .int (-1), .int 0, .int (-1)])), (q_7, .inl (k_8, 24, .inr (.inr (.inr (.inr fq_104)))))]) [0, 1] (by decide) rfl
                          have hK := hK.sub (tys' := [(k_8, .object "MapFramer$Call")]) [0] rfl
                          refine lv_iload_n hx hb d_K_init_44 rfl (lv_at hl 0 rfl) ?_
                          refine lv_bipush (v := 24) hx hb d_K_init_45 (by decide) ?_
                          refine lv_icmp_ge (tgt := 69) hx hb d_K_init_47 (by decide) (fun c_105 => ?_) (fun c_105 => ?_)
                          · skip
                            first | exact absurd c_105 (by decide) | exact absurd (by decide) c_105
                          · skip
                            refine lv_aload_n hx hb d_K_init_50 rfl (lv_at hl 1 rfl) ?_
                            refine va_get (D := (dC, dI)) (ci := 2) (v := .ref q_7) (C := R_K) (T := T_K) (N := 14) hx hb hts (fun w h => hsub w (uw_K w h)) hown hK hP 0 rfl rfl 2 (by decide) (hts _ (hsub _ w_237)) (fun _ h9 => h9) rfl d_K_init_51 ?_
                            refine lv_iload_n hx hb d_K_init_54 rfl (lv_at hl 0 rfl) ?_
                            refine va_new (ci := 0) (fs := [.null, .int 0, .null, .null, .int 0]) (C := R_C) (T := T_C) (N := 5) hx hb hts (fun w h => hsub w (uw_C w h)) ty_C tok_C hown (hts _ (hsub _ w_236)) (hts _ (hsub _ w_240)) (hts _ (hsub _ w_241)) hK hP hD hS hA rfl (fun j hj => df_C j hj) (Nat.le_of_ble_eq_true rfl) (Nat.le_of_ble_eq_true rfl) d_K_init_55 (fun q_106 H hP hD hS => ?_)
                            have hP : va_P (dC, dI) vwCl [(k, .inr (2, [.ref q_1, .ref q_5, .ref q_7, .null, .int 0, .null, .int 0, .int 0, .int 0, .int 0, .long 0, .int (-1), .int 0, .int (-1)])), (q_7, .inl (k_8, 24, .inr (.inr (.inr (.inr fq_104))))), (q_106, .inr (0, [.null, .int 0, .null, .null, .int 0]))] H := hP
                            have hD : va_D A [(k, .inr (2, [.ref q_1, .ref q_5, .ref q_7, .null, .int 0, .null, .int 0, .int 0, .int 0, .int 0, .long 0, .int (-1), .int 0, .int (-1)])), (q_7, .inl (k_8, 24, .inr (.inr (.inr (.inr fq_104))))), (q_106, .inr (0, [.null, .int 0, .null, .null, .int 0]))] := hD
                            refine W.widen (k := 43) (n := 4297) (Nat.le_of_ble_eq_true rfl) (Nat.le_of_ble_eq_true rfl) ?_
                            refine lv_dup hx hb d_K_init_58 rfl ?_
                            have hPc := hP.sub (ws' := [(q_106, .inr (0, [.null, .int 0, .null, .null, .int 0]))]) [2] rfl
                            have hKc := hK.sub (tys' := []) [] rfl
                            have hDc := hD.sub (ws' := [(q_106, .inr (0, [.null, .int 0, .null, .null, .int 0]))]) [2] (by decide) rfl
                            have hFc := va_free (wc := [(q_106, .inr (0, [.null, .int 0, .null, .null, .int 0]))]) hD hS hA [2] rfl
                            refine va_callv (va_runIN (As := []) (rest := [.ref q_106, .int 12, .ref q_7]) ⟨hx, hb, hml, hown, hts⟩ (k_C_init l dC dI q_106 H.size) ⟨va_cnB 0 hts (gC hsub w_242) rfl rfl rfl htb.2.1 (hts _ (hsub _ w_241)) (by decide +kernel) ⟨Nat.le_of_ble_eq_true rfl, Nat.le_of_ble_eq_true rfl⟩, rfl, (hts _ (hsub _ w_243))⟩ ⟨bl_1000, fun U hU hW => ⟨rfl, by rw [hU], by rw [hU]; exact hPc, va_K.moved hW.alike hKc, hDc.weaken (fun _ _ _ _ => trivial)⟩⟩ rfl rfl hl.1 rfl (lv_room (Nat.le_of_ble_eq_true rfl)) d_K_init_59 ⟨Nat.le_of_ble_eq_true rfl, Nat.le_of_ble_eq_true rfl⟩) hS (fun q _ h => hFc q h) hFc (fun u_109 t H1 locs ht hvm hw hB hz1 hk1 hS => ?_)
                            obtain ⟨q_110, q_111, hP1, hK1, hD1⟩ := hB
                            rw [ht] at hP1
                            have hK1 := va_K.moved hvm.symm hK1
                            obtain ⟨hP, hD⟩ := va_join (wr := [(k, .inr (2, [.ref q_1, .ref q_5, .ref q_7, .null, .int 0, .null, .int 0, .int 0, .int 0, .int 0, .long 0, .int (-1), .int 0, .int (-1)])), (q_7, .inl (k_8, 24, .inr (.inr (.inr (.inr fq_104)))))]) (w1 := [(q_106, .inr (0, [.null, .int 0, .ref q_110, .ref q_111, .int 0]))]) hP hD [2] [0, 1] rfl rfl (by decide) (by decide) hk1 hFc hP1 hD1
                            have hK := (hK.sub (tys' := [(k_8, .object "MapFramer$Call")]) [0] rfl).app hK1
                            generalize H1 = H at hP hS ⊢
                            have hP : va_P (dC, dI) vwCl [(k, .inr (2, [.ref q_1, .ref q_5, .ref q_7, .null, .int 0, .null, .int 0, .int 0, .int 0, .int 0, .long 0, .int (-1), .int 0, .int (-1)])), (q_7, .inl (k_8, 24, .inr (.inr (.inr (.inr fq_104))))), (q_106, .inr (0, [.null, .int 0, .ref q_110, .ref q_111, .int 0]))] H := hP
                            have hD : va_D A [(k, .inr (2, [.ref q_1, .ref q_5, .ref q_7, .null, .int 0, .null, .int 0, .int 0, .int 0, .int 0, .long 0, .int (-1), .int 0, .int (-1)])), (q_7, .inl (k_8, 24, .inr (.inr (.inr (.inr fq_104))))), (q_106, .inr (0, [.null, .int 0, .ref q_110, .ref q_111, .int 0]))] := hD
                            have hK : va_K (dC, dI) vwCl [(k_8, .object "MapFramer$Call")] s := hK
                            refine W.widen (k := 45) (n := 4321) (Nat.le_of_ble_eq_true rfl) (Nat.le_of_ble_eq_true rfl) ?_
                            refine va_astq (r := (R_C, T_C, 5)) hx hb hK hP hD hS 1 0 2 0 rfl rfl rfl rfl (vp_in_iff.mpr (by decide)) d_K_init_62 (fun H locs hP hD hS => ?_)
                            obtain ⟨fq_112, hfq⟩ : ∃ z : Nat → Option Nat, z = (va_up fq_104 (12 : Int32).toNatClampNeg (some q_106)) := ⟨_, rfl⟩
                            have hP : va_P (dC, dI) vwCl [(k, .inr (2, [.ref q_1, .ref q_5, .ref q_7, .null, .int 0, .null, .int 0, .int 0, .int 0, .int 0, .long 0, .int (-1), .int 0, .int (-1)])), (q_7, .inl (k_8, 24, .inr (.inr (.inr (.inr (va_up fq_104 (12 : Int32).toNatClampNeg (some q_106))))))), (q_106, .inr (0, [.null, .int 0, .ref q_110, .ref q_111, .int 0]))] H := hP
                            have hD : va_D A [(k, .inr (2, [.ref q_1, .ref q_5, .ref q_7, .null, .int 0, .null, .int 0, .int 0, .int 0, .int 0, .long 0, .int (-1), .int 0, .int (-1)])), (q_7, .inl (k_8, 24, .inr (.inr (.inr (.inr (va_up fq_104 (12 : Int32).toNatClampNeg (some q_106))))))), (q_106, .inr (0, [.null, .int 0, .ref q_110, .ref q_111, .int 0]))] := hD
                            rw [← hfq] at hP hD
                            have hP : va_P (dC, dI) vwCl [(k, .inr (2, [.ref q_1, .ref q_5, .ref q_7, .null, .int 0, .null, .int 0, .int 0, .int 0, .int 0, .long 0, .int (-1), .int 0, .int (-1)])), (q_7, .inl (k_8, 24, .inr (.inr (.inr (.inr fq_112))))), (q_106, .inr (0, [.null, .int 0, .ref q_110, .ref q_111, .int 0]))] H := hP
                            have hD : va_D A [(k, .inr (2, [.ref q_1, .ref q_5, .ref q_7, .null, .int 0, .null, .int 0, .int 0, .int 0, .int 0, .long 0, .int (-1), .int 0, .int (-1)])), (q_7, .inl (k_8, 24, .inr (.inr (.inr (.inr fq_112))))), (q_106, .inr (0, [.null, .int 0, .ref q_110, .ref q_111, .int 0]))] := hD
                            refine lv_iinc (v := 13) (lv' := [(1, .int 13), (0, .ref k)]) hx hb d_K_init_63 hl (k := 0) rfl (by decide) (by decide) rfl (fun ls hl => ?_)
                            refine lv_goto (tgt := 44) hx hb d_K_init_66 (by decide) ?_
                            have hP := hP.sub (ws' := [(k, .inr (2, [.ref q_1, .ref q_5, .ref q_7, .null, .int 0, .null, .int 0, .int 0, .int 0, .int 0, .long 0, .int (-1), .int 0, .int (-1)])), (q_7, .inl (k_8, 24, .inr (.inr (.inr (.inr fq_112)))))]) [0, 1] rfl
                            have hD := hD.sub (ws' := [(k, .inr (2, [.ref q_1, .ref q_5, .ref q_7, .null, .int 0, .null, .int 0, .int 0, .int 0, .int 0, .long 0, .int (-1), .int 0, .int (-1)])), (q_7, .inl (k_8, 24, .inr (.inr (.inr (.inr fq_112)))))]) [0, 1] (by decide) rfl
                            have hK := hK.sub (tys' := [(k_8, .object "MapFramer$Call")]) [0] rfl
                            refine lv_iload_n hx hb d_K_init_44 rfl (lv_at hl 0 rfl) ?_
                            refine lv_bipush (v := 24) hx hb d_K_init_45 (by decide) ?_
                            refine lv_icmp_ge (tgt := 69) hx hb d_K_init_47 (by decide) (fun c_113 => ?_) (fun c_113 => ?_)
                            · skip
                              first | exact absurd c_113 (by decide) | exact absurd (by decide) c_113
                            · skip
                              refine lv_aload_n hx hb d_K_init_50 rfl (lv_at hl 1 rfl) ?_
                              refine va_get (D := (dC, dI)) (ci := 2) (v := .ref q_7) (C := R_K) (T := T_K) (N := 14) hx hb hts (fun w h => hsub w (uw_K w h)) hown hK hP 0 rfl rfl 2 (by decide) (hts _ (hsub _ w_237)) (fun _ h9 => h9) rfl d_K_init_51 ?_
                              refine lv_iload_n hx hb d_K_init_54 rfl (lv_at hl 0 rfl) ?_
                              refine va_new (ci := 0) (fs := [.null, .int 0, .null, .null, .int 0]) (C := R_C) (T := T_C) (N := 5) hx hb hts (fun w h => hsub w (uw_C w h)) ty_C tok_C hown (hts _ (hsub _ w_236)) (hts _ (hsub _ w_240)) (hts _ (hsub _ w_241)) hK hP hD hS hA rfl (fun j hj => df_C j hj) (Nat.le_of_ble_eq_true rfl) (Nat.le_of_ble_eq_true rfl) d_K_init_55 (fun q_114 H hP hD hS => ?_)
                              have hP : va_P (dC, dI) vwCl [(k, .inr (2, [.ref q_1, .ref q_5, .ref q_7, .null, .int 0, .null, .int 0, .int 0, .int 0, .int 0, .long 0, .int (-1), .int 0, .int (-1)])), (q_7, .inl (k_8, 24, .inr (.inr (.inr (.inr fq_112))))), (q_114, .inr (0, [.null, .int 0, .null, .null, .int 0]))] H := hP
                              have hD : va_D A [(k, .inr (2, [.ref q_1, .ref q_5, .ref q_7, .null, .int 0, .null, .int 0, .int 0, .int 0, .int 0, .long 0, .int (-1), .int 0, .int (-1)])), (q_7, .inl (k_8, 24, .inr (.inr (.inr (.inr fq_112))))), (q_114, .inr (0, [.null, .int 0, .null, .null, .int 0]))] := hD
                              refine W.widen (k := 46) (n := 4326) (Nat.le_of_ble_eq_true rfl) (Nat.le_of_ble_eq_true rfl) ?_
                              refine lv_dup hx hb d_K_init_58 rfl ?_
                              have hPc := hP.sub (ws' := [(q_114, .inr (0, [.null, .int 0, .null, .null, .int 0]))]) [2] rfl
                              have hKc := hK.sub (tys' := []) [] rfl
                              have hDc := hD.sub (ws' := [(q_114, .inr (0, [.null, .int 0, .null, .null, .int 0]))]) [2] (by decide) rfl
                              have hFc := va_free (wc := [(q_114, .inr (0, [.null, .int 0, .null, .null, .int 0]))]) hD hS hA [2] rfl
                              refine va_callv (va_runIN (As := []) (rest := [.ref q_114, .int 13, .ref q_7]) ⟨hx, hb, hml, hown, hts⟩ (k_C_init l dC dI q_114 H.size) ⟨va_cnB 0 hts (gC hsub w_242) rfl rfl rfl htb.2.1 (hts _ (hsub _ w_241)) (by decide +kernel) ⟨Nat.le_of_ble_eq_true rfl, Nat.le_of_ble_eq_true rfl⟩, rfl, (hts _ (hsub _ w_243))⟩ ⟨bl_1000, fun U hU hW => ⟨rfl, by rw [hU], by rw [hU]; exact hPc, va_K.moved hW.alike hKc, hDc.weaken (fun _ _ _ _ => trivial)⟩⟩ rfl rfl hl.1 rfl (lv_room (Nat.le_of_ble_eq_true rfl)) d_K_init_59 ⟨Nat.le_of_ble_eq_true rfl, Nat.le_of_ble_eq_true rfl⟩) hS (fun q _ h => hFc q h) hFc (fun u_117 t H1 locs ht hvm hw hB hz1 hk1 hS => ?_)
                              obtain ⟨q_118, q_119, hP1, hK1, hD1⟩ := hB
                              rw [ht] at hP1
                              have hK1 := va_K.moved hvm.symm hK1
                              obtain ⟨hP, hD⟩ := va_join (wr := [(k, .inr (2, [.ref q_1, .ref q_5, .ref q_7, .null, .int 0, .null, .int 0, .int 0, .int 0, .int 0, .long 0, .int (-1), .int 0, .int (-1)])), (q_7, .inl (k_8, 24, .inr (.inr (.inr (.inr fq_112)))))]) (w1 := [(q_114, .inr (0, [.null, .int 0, .ref q_118, .ref q_119, .int 0]))]) hP hD [2] [0, 1] rfl rfl (by decide) (by decide) hk1 hFc hP1 hD1
                              have hK := (hK.sub (tys' := [(k_8, .object "MapFramer$Call")]) [0] rfl).app hK1
                              generalize H1 = H at hP hS ⊢
                              have hP : va_P (dC, dI) vwCl [(k, .inr (2, [.ref q_1, .ref q_5, .ref q_7, .null, .int 0, .null, .int 0, .int 0, .int 0, .int 0, .long 0, .int (-1), .int 0, .int (-1)])), (q_7, .inl (k_8, 24, .inr (.inr (.inr (.inr fq_112))))), (q_114, .inr (0, [.null, .int 0, .ref q_118, .ref q_119, .int 0]))] H := hP
                              have hD : va_D A [(k, .inr (2, [.ref q_1, .ref q_5, .ref q_7, .null, .int 0, .null, .int 0, .int 0, .int 0, .int 0, .long 0, .int (-1), .int 0, .int (-1)])), (q_7, .inl (k_8, 24, .inr (.inr (.inr (.inr fq_112))))), (q_114, .inr (0, [.null, .int 0, .ref q_118, .ref q_119, .int 0]))] := hD
                              have hK : va_K (dC, dI) vwCl [(k_8, .object "MapFramer$Call")] s := hK
                              refine W.widen (k := 48) (n := 4350) (Nat.le_of_ble_eq_true rfl) (Nat.le_of_ble_eq_true rfl) ?_
                              refine va_astq (r := (R_C, T_C, 5)) hx hb hK hP hD hS 1 0 2 0 rfl rfl rfl rfl (vp_in_iff.mpr (by decide)) d_K_init_62 (fun H locs hP hD hS => ?_)
                              obtain ⟨fq_120, hfq⟩ : ∃ z : Nat → Option Nat, z = (va_up fq_112 (13 : Int32).toNatClampNeg (some q_114)) := ⟨_, rfl⟩
                              have hP : va_P (dC, dI) vwCl [(k, .inr (2, [.ref q_1, .ref q_5, .ref q_7, .null, .int 0, .null, .int 0, .int 0, .int 0, .int 0, .long 0, .int (-1), .int 0, .int (-1)])), (q_7, .inl (k_8, 24, .inr (.inr (.inr (.inr (va_up fq_112 (13 : Int32).toNatClampNeg (some q_114))))))), (q_114, .inr (0, [.null, .int 0, .ref q_118, .ref q_119, .int 0]))] H := hP
                              have hD : va_D A [(k, .inr (2, [.ref q_1, .ref q_5, .ref q_7, .null, .int 0, .null, .int 0, .int 0, .int 0, .int 0, .long 0, .int (-1), .int 0, .int (-1)])), (q_7, .inl (k_8, 24, .inr (.inr (.inr (.inr (va_up fq_112 (13 : Int32).toNatClampNeg (some q_114))))))), (q_114, .inr (0, [.null, .int 0, .ref q_118, .ref q_119, .int 0]))] := hD
                              rw [← hfq] at hP hD
                              have hP : va_P (dC, dI) vwCl [(k, .inr (2, [.ref q_1, .ref q_5, .ref q_7, .null, .int 0, .null, .int 0, .int 0, .int 0, .int 0, .long 0, .int (-1), .int 0, .int (-1)])), (q_7, .inl (k_8, 24, .inr (.inr (.inr (.inr fq_120))))), (q_114, .inr (0, [.null, .int 0, .ref q_118, .ref q_119, .int 0]))] H := hP
                              have hD : va_D A [(k, .inr (2, [.ref q_1, .ref q_5, .ref q_7, .null, .int 0, .null, .int 0, .int 0, .int 0, .int 0, .long 0, .int (-1), .int 0, .int (-1)])), (q_7, .inl (k_8, 24, .inr (.inr (.inr (.inr fq_120))))), (q_114, .inr (0, [.null, .int 0, .ref q_118, .ref q_119, .int 0]))] := hD
                              refine lv_iinc (v := 14) (lv' := [(1, .int 14), (0, .ref k)]) hx hb d_K_init_63 hl (k := 0) rfl (by decide) (by decide) rfl (fun ls hl => ?_)
                              refine lv_goto (tgt := 44) hx hb d_K_init_66 (by decide) ?_
                              have hP := hP.sub (ws' := [(k, .inr (2, [.ref q_1, .ref q_5, .ref q_7, .null, .int 0, .null, .int 0, .int 0, .int 0, .int 0, .long 0, .int (-1), .int 0, .int (-1)])), (q_7, .inl (k_8, 24, .inr (.inr (.inr (.inr fq_120)))))]) [0, 1] rfl
                              have hD := hD.sub (ws' := [(k, .inr (2, [.ref q_1, .ref q_5, .ref q_7, .null, .int 0, .null, .int 0, .int 0, .int 0, .int 0, .long 0, .int (-1), .int 0, .int (-1)])), (q_7, .inl (k_8, 24, .inr (.inr (.inr (.inr fq_120)))))]) [0, 1] (by decide) rfl
                              have hK := hK.sub (tys' := [(k_8, .object "MapFramer$Call")]) [0] rfl
                              refine lv_iload_n hx hb d_K_init_44 rfl (lv_at hl 0 rfl) ?_
                              refine lv_bipush (v := 24) hx hb d_K_init_45 (by decide) ?_
                              refine lv_icmp_ge (tgt := 69) hx hb d_K_init_47 (by decide) (fun c_121 => ?_) (fun c_121 => ?_)
                              · skip
                                first | exact absurd c_121 (by decide) | exact absurd (by decide) c_121
                              · skip
                                refine lv_aload_n hx hb d_K_init_50 rfl (lv_at hl 1 rfl) ?_
                                refine va_get (D := (dC, dI)) (ci := 2) (v := .ref q_7) (C := R_K) (T := T_K) (N := 14) hx hb hts (fun w h => hsub w (uw_K w h)) hown hK hP 0 rfl rfl 2 (by decide) (hts _ (hsub _ w_237)) (fun _ h9 => h9) rfl d_K_init_51 ?_
                                refine lv_iload_n hx hb d_K_init_54 rfl (lv_at hl 0 rfl) ?_
                                refine va_new (ci := 0) (fs := [.null, .int 0, .null, .null, .int 0]) (C := R_C) (T := T_C) (N := 5) hx hb hts (fun w h => hsub w (uw_C w h)) ty_C tok_C hown (hts _ (hsub _ w_236)) (hts _ (hsub _ w_240)) (hts _ (hsub _ w_241)) hK hP hD hS hA rfl (fun j hj => df_C j hj) (Nat.le_of_ble_eq_true rfl) (Nat.le_of_ble_eq_true rfl) d_K_init_55 (fun q_122 H hP hD hS => ?_)
                                have hP : va_P (dC, dI) vwCl [(k, .inr (2, [.ref q_1, .ref q_5, .ref q_7, .null, .int 0, .null, .int 0, .int 0, .int 0, .int 0, .long 0, .int (-1), .int 0, .int (-1)])), (q_7, .inl (k_8, 24, .inr (.inr (.inr (.inr fq_120))))), (q_122, .inr (0, [.null, .int 0, .null, .null, .int 0]))] H := hP
                                have hD : va_D A [(k, .inr (2, [.ref q_1, .ref q_5, .ref q_7, .null, .int 0, .null, .int 0, .int 0, .int 0, .int 0, .long 0, .int (-1), .int 0, .int (-1)])), (q_7, .inl (k_8, 24, .inr (.inr (.inr (.inr fq_120))))), (q_122, .inr (0, [.null, .int 0, .null, .null, .int 0]))] := hD
                                refine W.widen (k := 49) (n := 4355) (Nat.le_of_ble_eq_true rfl) (Nat.le_of_ble_eq_true rfl) ?_
                                refine lv_dup hx hb d_K_init_58 rfl ?_
                                have hPc := hP.sub (ws' := [(q_122, .inr (0, [.null, .int 0, .null, .null, .int 0]))]) [2] rfl
                                have hKc := hK.sub (tys' := []) [] rfl
                                have hDc := hD.sub (ws' := [(q_122, .inr (0, [.null, .int 0, .null, .null, .int 0]))]) [2] (by decide) rfl
                                have hFc := va_free (wc := [(q_122, .inr (0, [.null, .int 0, .null, .null, .int 0]))]) hD hS hA [2] rfl
                                refine va_callv (va_runIN (As := []) (rest := [.ref q_122, .int 14, .ref q_7]) ⟨hx, hb, hml, hown, hts⟩ (k_C_init l dC dI q_122 H.size) ⟨va_cnB 0 hts (gC hsub w_242) rfl rfl rfl htb.2.1 (hts _ (hsub _ w_241)) (by decide +kernel) ⟨Nat.le_of_ble_eq_true rfl, Nat.le_of_ble_eq_true rfl⟩, rfl, (hts _ (hsub _ w_243))⟩ ⟨bl_1000, fun U hU hW => ⟨rfl, by rw [hU], by rw [hU]; exact hPc, va_K.moved hW.alike hKc, hDc.weaken (fun _ _ _ _ => trivial)⟩⟩ rfl rfl hl.1 rfl (lv_room (Nat.le_of_ble_eq_true rfl)) d_K_init_59 ⟨Nat.le_of_ble_eq_true rfl, Nat.le_of_ble_eq_true rfl⟩) hS (fun q _ h => hFc q h) hFc (fun u_125 t H1 locs ht hvm hw hB hz1 hk1 hS => ?_)
                                obtain ⟨q_126, q_127, hP1, hK1, hD1⟩ := hB
                                rw [ht] at hP1
                                have hK1 := va_K.moved hvm.symm hK1
                                obtain ⟨hP, hD⟩ := va_join (wr := [(k, .inr (2, [.ref q_1, .ref q_5, .ref q_7, .null, .int 0, .null, .int 0, .int 0, .int 0, .int 0, .long 0, .int (-1), .int 0, .int (-1)])), (q_7, .inl (k_8, 24, .inr (.inr (.inr (.inr fq_120)))))]) (w1 := [(q_122, .inr (0, [.null, .int 0, .ref q_126, .ref q_127, .int 0]))]) hP hD [2] [0, 1] rfl rfl (by decide) (by decide) hk1 hFc hP1 hD1
                                have hK := (hK.sub (tys' := [(k_8, .object "MapFramer$Call")]) [0] rfl).app hK1
                                generalize H1 = H at hP hS ⊢
                                have hP : va_P (dC, dI) vwCl [(k, .inr (2, [.ref q_1, .ref q_5, .ref q_7, .null, .int 0, .null, .int 0, .int 0, .int 0, .int 0, .long 0, .int (-1), .int 0, .int (-1)])), (q_7, .inl (k_8, 24, .inr (.inr (.inr (.inr fq_120))))), (q_122, .inr (0, [.null, .int 0, .ref q_126, .ref q_127, .int 0]))] H := hP
                                have hD : va_D A [(k, .inr (2, [.ref q_1, .ref q_5, .ref q_7, .null, .int 0, .null, .int 0, .int 0, .int 0, .int 0, .long 0, .int (-1), .int 0, .int (-1)])), (q_7, .inl (k_8, 24, .inr (.inr (.inr (.inr fq_120))))), (q_122, .inr (0, [.null, .int 0, .ref q_126, .ref q_127, .int 0]))] := hD
                                have hK : va_K (dC, dI) vwCl [(k_8, .object "MapFramer$Call")] s := hK
                                refine W.widen (k := 51) (n := 4379) (Nat.le_of_ble_eq_true rfl) (Nat.le_of_ble_eq_true rfl) ?_
                                refine va_astq (r := (R_C, T_C, 5)) hx hb hK hP hD hS 1 0 2 0 rfl rfl rfl rfl (vp_in_iff.mpr (by decide)) d_K_init_62 (fun H locs hP hD hS => ?_)
                                obtain ⟨fq_128, hfq⟩ : ∃ z : Nat → Option Nat, z = (va_up fq_120 (14 : Int32).toNatClampNeg (some q_122)) := ⟨_, rfl⟩
                                have hP : va_P (dC, dI) vwCl [(k, .inr (2, [.ref q_1, .ref q_5, .ref q_7, .null, .int 0, .null, .int 0, .int 0, .int 0, .int 0, .long 0, .int (-1), .int 0, .int (-1)])), (q_7, .inl (k_8, 24, .inr (.inr (.inr (.inr (va_up fq_120 (14 : Int32).toNatClampNeg (some q_122))))))), (q_122, .inr (0, [.null, .int 0, .ref q_126, .ref q_127, .int 0]))] H := hP
                                have hD : va_D A [(k, .inr (2, [.ref q_1, .ref q_5, .ref q_7, .null, .int 0, .null, .int 0, .int 0, .int 0, .int 0, .long 0, .int (-1), .int 0, .int (-1)])), (q_7, .inl (k_8, 24, .inr (.inr (.inr (.inr (va_up fq_120 (14 : Int32).toNatClampNeg (some q_122))))))), (q_122, .inr (0, [.null, .int 0, .ref q_126, .ref q_127, .int 0]))] := hD
                                rw [← hfq] at hP hD
                                have hP : va_P (dC, dI) vwCl [(k, .inr (2, [.ref q_1, .ref q_5, .ref q_7, .null, .int 0, .null, .int 0, .int 0, .int 0, .int 0, .long 0, .int (-1), .int 0, .int (-1)])), (q_7, .inl (k_8, 24, .inr (.inr (.inr (.inr fq_128))))), (q_122, .inr (0, [.null, .int 0, .ref q_126, .ref q_127, .int 0]))] H := hP
                                have hD : va_D A [(k, .inr (2, [.ref q_1, .ref q_5, .ref q_7, .null, .int 0, .null, .int 0, .int 0, .int 0, .int 0, .long 0, .int (-1), .int 0, .int (-1)])), (q_7, .inl (k_8, 24, .inr (.inr (.inr (.inr fq_128))))), (q_122, .inr (0, [.null, .int 0, .ref q_126, .ref q_127, .int 0]))] := hD
                                refine lv_iinc (v := 15) (lv' := [(1, .int 15), (0, .ref k)]) hx hb d_K_init_63 hl (k := 0) rfl (by decide) (by decide) rfl (fun ls hl => ?_)
                                refine lv_goto (tgt := 44) hx hb d_K_init_66 (by decide) ?_
                                have hP := hP.sub (ws' := [(k, .inr (2, [.ref q_1, .ref q_5, .ref q_7, .null, .int 0, .null, .int 0, .int 0, .int 0, .int 0, .long 0, .int (-1), .int 0, .int (-1)])), (q_7, .inl (k_8, 24, .inr (.inr (.inr (.inr fq_128)))))]) [0, 1] rfl
                                have hD := hD.sub (ws' := [(k, .inr (2, [.ref q_1, .ref q_5, .ref q_7, .null, .int 0, .null, .int 0, .int 0, .int 0, .int 0, .long 0, .int (-1), .int 0, .int (-1)])), (q_7, .inl (k_8, 24, .inr (.inr (.inr (.inr fq_128)))))]) [0, 1] (by decide) rfl
                                have hK := hK.sub (tys' := [(k_8, .object "MapFramer$Call")]) [0] rfl
                                refine lv_iload_n hx hb d_K_init_44 rfl (lv_at hl 0 rfl) ?_
                                refine lv_bipush (v := 24) hx hb d_K_init_45 (by decide) ?_
                                refine lv_icmp_ge (tgt := 69) hx hb d_K_init_47 (by decide) (fun c_129 => ?_) (fun c_129 => ?_)
                                · skip
                                  first | exact absurd c_129 (by decide) | exact absurd (by decide) c_129
                                · skip
                                  refine lv_aload_n hx hb d_K_init_50 rfl (lv_at hl 1 rfl) ?_
                                  refine va_get (D := (dC, dI)) (ci := 2) (v := .ref q_7) (C := R_K) (T := T_K) (N := 14) hx hb hts (fun w h => hsub w (uw_K w h)) hown hK hP 0 rfl rfl 2 (by decide) (hts _ (hsub _ w_237)) (fun _ h9 => h9) rfl d_K_init_51 ?_
                                  refine lv_iload_n hx hb d_K_init_54 rfl (lv_at hl 0 rfl) ?_
                                  refine va_new (ci := 0) (fs := [.null, .int 0, .null, .null, .int 0]) (C := R_C) (T := T_C) (N := 5) hx hb hts (fun w h => hsub w (uw_C w h)) ty_C tok_C hown (hts _ (hsub _ w_236)) (hts _ (hsub _ w_240)) (hts _ (hsub _ w_241)) hK hP hD hS hA rfl (fun j hj => df_C j hj) (Nat.le_of_ble_eq_true rfl) (Nat.le_of_ble_eq_true rfl) d_K_init_55 (fun q_130 H hP hD hS => ?_)
                                  have hP : va_P (dC, dI) vwCl [(k, .inr (2, [.ref q_1, .ref q_5, .ref q_7, .null, .int 0, .null, .int 0, .int 0, .int 0, .int 0, .long 0, .int (-1), .int 0, .int (-1)])), (q_7, .inl (k_8, 24, .inr (.inr (.inr (.inr fq_128))))), (q_130, .inr (0, [.null, .int 0, .null, .null, .int 0]))] H := hP
                                  have hD : va_D A [(k, .inr (2, [.ref q_1, .ref q_5, .ref q_7, .null, .int 0, .null, .int 0, .int 0, .int 0, .int 0, .long 0, .int (-1), .int 0, .int (-1)])), (q_7, .inl (k_8, 24, .inr (.inr (.inr (.inr fq_128))))), (q_130, .inr (0, [.null, .int 0, .null, .null, .int 0]))] := hD
                                  refine W.widen (k := 52) (n := 4384) (Nat.le_of_ble_eq_true rfl) (Nat.le_of_ble_eq_true rfl) ?_
                                  refine lv_dup hx hb d_K_init_58 rfl ?_
                                  have hPc := hP.sub (ws' := [(q_130, .inr (0, [.null, .int 0, .null, .null, .int 0]))]) [2] rfl
                                  have hKc := hK.sub (tys' := []) [] rfl
                                  have hDc := hD.sub (ws' := [(q_130, .inr (0, [.null, .int 0, .null, .null, .int 0]))]) [2] (by decide) rfl
                                  have hFc := va_free (wc := [(q_130, .inr (0, [.null, .int 0, .null, .null, .int 0]))]) hD hS hA [2] rfl
                                  refine va_callv (va_runIN (As := []) (rest := [.ref q_130, .int 15, .ref q_7]) ⟨hx, hb, hml, hown, hts⟩ (k_C_init l dC dI q_130 H.size) ⟨va_cnB 0 hts (gC hsub w_242) rfl rfl rfl htb.2.1 (hts _ (hsub _ w_241)) (by decide +kernel) ⟨Nat.le_of_ble_eq_true rfl, Nat.le_of_ble_eq_true rfl⟩, rfl, (hts _ (hsub _ w_243))⟩ ⟨bl_1000, fun U hU hW => ⟨rfl, by rw [hU], by rw [hU]; exact hPc, va_K.moved hW.alike hKc, hDc.weaken (fun _ _ _ _ => trivial)⟩⟩ rfl rfl hl.1 rfl (lv_room (Nat.le_of_ble_eq_true rfl)) d_K_init_59 ⟨Nat.le_of_ble_eq_true rfl, Nat.le_of_ble_eq_true rfl⟩) hS (fun q _ h => hFc q h) hFc (fun u_133 t H1 locs ht hvm hw hB hz1 hk1 hS => ?_)
                                  obtain ⟨q_134, q_135, hP1, hK1, hD1⟩ := hB
                                  rw [ht] at hP1
                                  have hK1 := va_K.moved hvm.symm hK1
                                  obtain ⟨hP, hD⟩ := va_join (wr := [(k, .inr (2, [.ref q_1, .ref q_5, .ref q_7, .null, .int 0, .null, .int 0, .int 0, .int 0, .int 0, .long 0, .int (-1), .int 0, .int (-1)])), (q_7, .inl (k_8, 24, .inr (.inr (.inr (.inr fq_128)))))]) (w1 := [(q_130, .inr (0, [.null, .int 0, .ref q_134, .ref q_135, .int 0]))]) hP hD [2] [0, 1] rfl rfl (by decide) (by decide) hk1 hFc hP1 hD1
                                  have hK := (hK.sub (tys' := [(k_8, .object "MapFramer$Call")]) [0] rfl).app hK1
                                  generalize H1 = H at hP hS ⊢
                                  have hP : va_P (dC, dI) vwCl [(k, .inr (2, [.ref q_1, .ref q_5, .ref q_7, .null, .int 0, .null, .int 0, .int 0, .int 0, .int 0, .long 0, .int (-1), .int 0, .int (-1)])), (q_7, .inl (k_8, 24, .inr (.inr (.inr (.inr fq_128))))), (q_130, .inr (0, [.null, .int 0, .ref q_134, .ref q_135, .int 0]))] H := hP
                                  have hD : va_D A [(k, .inr (2, [.ref q_1, .ref q_5, .ref q_7, .null, .int 0, .null, .int 0, .int 0, .int 0, .int 0, .long 0, .int (-1), .int 0, .int (-1)])), (q_7, .inl (k_8, 24, .inr (.inr (.inr (.inr fq_128))))), (q_130, .inr (0, [.null, .int 0, .ref q_134, .ref q_135, .int 0]))] := hD
                                  have hK : va_K (dC, dI) vwCl [(k_8, .object "MapFramer$Call")] s := hK
                                  refine W.widen (k := 54) (n := 4408) (Nat.le_of_ble_eq_true rfl) (Nat.le_of_ble_eq_true rfl) ?_
                                  refine va_astq (r := (R_C, T_C, 5)) hx hb hK hP hD hS 1 0 2 0 rfl rfl rfl rfl (vp_in_iff.mpr (by decide)) d_K_init_62 (fun H locs hP hD hS => ?_)
                                  obtain ⟨fq_136, hfq⟩ : ∃ z : Nat → Option Nat, z = (va_up fq_128 (15 : Int32).toNatClampNeg (some q_130)) := ⟨_, rfl⟩
                                  have hP : va_P (dC, dI) vwCl [(k, .inr (2, [.ref q_1, .ref q_5, .ref q_7, .null, .int 0, .null, .int 0, .int 0, .int 0, .int 0, .long 0, .int (-1), .int 0, .int (-1)])), (q_7, .inl (k_8, 24, .inr (.inr (.inr (.inr (va_up fq_128 (15 : Int32).toNatClampNeg (some q_130))))))), (q_130, .inr (0, [.null, .int 0, .ref q_134, .ref q_135, .int 0]))] H := hP
                                  have hD : va_D A [(k, .inr (2, [.ref q_1, .ref q_5, .ref q_7, .null, .int 0, .null, .int 0, .int 0, .int 0, .int 0, .long 0, .int (-1), .int 0, .int (-1)])), (q_7, .inl (k_8, 24, .inr (.inr (.inr (.inr (va_up fq_128 (15 : Int32).toNatClampNeg (some q_130))))))), (q_130, .inr (0, [.null, .int 0, .ref q_134, .ref q_135, .int 0]))] := hD
                                  rw [← hfq] at hP hD
                                  have hP : va_P (dC, dI) vwCl [(k, .inr (2, [.ref q_1, .ref q_5, .ref q_7, .null, .int 0, .null, .int 0, .int 0, .int 0, .int 0, .long 0, .int (-1), .int 0, .int (-1)])), (q_7, .inl (k_8, 24, .inr (.inr (.inr (.inr fq_136))))), (q_130, .inr (0, [.null, .int 0, .ref q_134, .ref q_135, .int 0]))] H := hP
                                  have hD : va_D A [(k, .inr (2, [.ref q_1, .ref q_5, .ref q_7, .null, .int 0, .null, .int 0, .int 0, .int 0, .int 0, .long 0, .int (-1), .int 0, .int (-1)])), (q_7, .inl (k_8, 24, .inr (.inr (.inr (.inr fq_136))))), (q_130, .inr (0, [.null, .int 0, .ref q_134, .ref q_135, .int 0]))] := hD
                                  refine lv_iinc (v := 16) (lv' := [(1, .int 16), (0, .ref k)]) hx hb d_K_init_63 hl (k := 0) rfl (by decide) (by decide) rfl (fun ls hl => ?_)
                                  refine lv_goto (tgt := 44) hx hb d_K_init_66 (by decide) ?_
                                  have hP := hP.sub (ws' := [(k, .inr (2, [.ref q_1, .ref q_5, .ref q_7, .null, .int 0, .null, .int 0, .int 0, .int 0, .int 0, .long 0, .int (-1), .int 0, .int (-1)])), (q_7, .inl (k_8, 24, .inr (.inr (.inr (.inr fq_136)))))]) [0, 1] rfl
                                  have hD := hD.sub (ws' := [(k, .inr (2, [.ref q_1, .ref q_5, .ref q_7, .null, .int 0, .null, .int 0, .int 0, .int 0, .int 0, .long 0, .int (-1), .int 0, .int (-1)])), (q_7, .inl (k_8, 24, .inr (.inr (.inr (.inr fq_136)))))]) [0, 1] (by decide) rfl
                                  have hK := hK.sub (tys' := [(k_8, .object "MapFramer$Call")]) [0] rfl
                                  refine lv_iload_n hx hb d_K_init_44 rfl (lv_at hl 0 rfl) ?_
                                  refine lv_bipush (v := 24) hx hb d_K_init_45 (by decide) ?_
                                  refine lv_icmp_ge (tgt := 69) hx hb d_K_init_47 (by decide) (fun c_137 => ?_) (fun c_137 => ?_)
                                  · skip
                                    first | exact absurd c_137 (by decide) | exact absurd (by decide) c_137
                                  · skip
                                    refine lv_aload_n hx hb d_K_init_50 rfl (lv_at hl 1 rfl) ?_
                                    refine va_get (D := (dC, dI)) (ci := 2) (v := .ref q_7) (C := R_K) (T := T_K) (N := 14) hx hb hts (fun w h => hsub w (uw_K w h)) hown hK hP 0 rfl rfl 2 (by decide) (hts _ (hsub _ w_237)) (fun _ h9 => h9) rfl d_K_init_51 ?_
                                    refine lv_iload_n hx hb d_K_init_54 rfl (lv_at hl 0 rfl) ?_
                                    refine va_new (ci := 0) (fs := [.null, .int 0, .null, .null, .int 0]) (C := R_C) (T := T_C) (N := 5) hx hb hts (fun w h => hsub w (uw_C w h)) ty_C tok_C hown (hts _ (hsub _ w_236)) (hts _ (hsub _ w_240)) (hts _ (hsub _ w_241)) hK hP hD hS hA rfl (fun j hj => df_C j hj) (Nat.le_of_ble_eq_true rfl) (Nat.le_of_ble_eq_true rfl) d_K_init_55 (fun q_138 H hP hD hS => ?_)
                                    have hP : va_P (dC, dI) vwCl [(k, .inr (2, [.ref q_1, .ref q_5, .ref q_7, .null, .int 0, .null, .int 0, .int 0, .int 0, .int 0, .long 0, .int (-1), .int 0, .int (-1)])), (q_7, .inl (k_8, 24, .inr (.inr (.inr (.inr fq_136))))), (q_138, .inr (0, [.null, .int 0, .null, .null, .int 0]))] H := hP
                                    have hD : va_D A [(k, .inr (2, [.ref q_1, .ref q_5, .ref q_7, .null, .int 0, .null, .int 0, .int 0, .int 0, .int 0, .long 0, .int (-1), .int 0, .int (-1)])), (q_7, .inl (k_8, 24, .inr (.inr (.inr (.inr fq_136))))), (q_138, .inr (0, [.null, .int 0, .null, .null, .int 0]))] := hD
                                    refine W.widen (k := 55) (n := 4413) (Nat.le_of_ble_eq_true rfl) (Nat.le_of_ble_eq_true rfl) ?_
                                    refine lv_dup hx hb d_K_init_58 rfl ?_
                                    have hPc := hP.sub (ws' := [(q_138, .inr (0, [.null, .int 0, .null, .null, .int 0]))]) [2] rfl
                                    have hKc := hK.sub (tys' := []) [] rfl
                                    have hDc := hD.sub (ws' := [(q_138, .inr (0, [.null, .int 0, .null, .null, .int 0]))]) [2] (by decide) rfl
                                    have hFc := va_free (wc := [(q_138, .inr (0, [.null, .int 0, .null, .null, .int 0]))]) hD hS hA [2] rfl
                                    refine va_callv (va_runIN (As := []) (rest := [.ref q_138, .int 16, .ref q_7]) ⟨hx, hb, hml, hown, hts⟩ (k_C_init l dC dI q_138 H.size) ⟨va_cnB 0 hts (gC hsub w_242) rfl rfl rfl htb.2.1 (hts _ (hsub _ w_241)) (by decide +kernel) ⟨Nat.le_of_ble_eq_true rfl, Nat.le_of_ble_eq_true rfl⟩, rfl, (hts _ (hsub _ w_243))⟩ ⟨bl_1000, fun U hU hW => ⟨rfl, by rw [hU], by rw [hU]; exact hPc, va_K.moved hW.alike hKc, hDc.weaken (fun _ _ _ _ => trivial)⟩⟩ rfl rfl hl.1 rfl (lv_room (Nat.le_of_ble_eq_true rfl)) d_K_init_59 ⟨Nat.le_of_ble_eq_true rfl, Nat.le_of_ble_eq_true rfl⟩) hS (fun q _ h => hFc q h) hFc (fun u_141 t H1 locs ht hvm hw hB hz1 hk1 hS => ?_)
                                    obtain ⟨q_142, q_143, hP1, hK1, hD1⟩ := hB
                                    rw [ht] at hP1
                                    have hK1 := va_K.moved hvm.symm hK1
                                    obtain ⟨hP, hD⟩ := va_join (wr := [(k, .inr (2, [.ref q_1, .ref q_5, .ref q_7, .null, .int 0, .null, .int 0, .int 0, .int 0, .int 0, .long 0, .int (-1), .int 0, .int (-1)])), (q_7, .inl (k_8, 24, .inr (.inr (.inr (.inr fq_136)))))]) (w1 := [(q_138, .inr (0, [.null, .int 0, .ref q_142, .ref q_143, .int 0]))]) hP hD [2] [0, 1] rfl rfl (by decide) (by decide) hk1 hFc hP1 hD1
                                    have hK := (hK.sub (tys' := [(k_8, .object "MapFramer$Call")]) [0] rfl).app hK1
                                    generalize H1 = H at hP hS ⊢
                                    have hP : va_P (dC, dI) vwCl [(k, .inr (2, [.ref q_1, .ref q_5, .ref q_7, .null, .int 0, .null, .int 0, .int 0, .int 0, .int 0, .long 0, .int (-1), .int 0, .int (-1)])), (q_7, .inl (k_8, 24, .inr (.inr (.inr (.inr fq_136))))), (q_138, .inr (0, [.null, .int 0, .ref q_142, .ref q_143, .int 0]))] H := hP
                                    have hD : va_D A [(k, .inr (2, [.ref q_1, .ref q_5, .ref q_7, .null, .int 0, .null, .int 0, .int 0, .int 0, .int 0, .long 0, .int (-1), .int 0, .int (-1)])), (q_7, .inl (k_8, 24, .inr (.inr (.inr (.inr fq_136))))), (q_138, .inr (0, [.null, .int 0, .ref q_142, .ref q_143, .int 0]))] := hD
                                    have hK : va_K (dC, dI) vwCl [(k_8, .object "MapFramer$Call")] s := hK
                                    refine W.widen (k := 57) (n := 4437) (Nat.le_of_ble_eq_true rfl) (Nat.le_of_ble_eq_true rfl) ?_
                                    refine va_astq (r := (R_C, T_C, 5)) hx hb hK hP hD hS 1 0 2 0 rfl rfl rfl rfl (vp_in_iff.mpr (by decide)) d_K_init_62 (fun H locs hP hD hS => ?_)
                                    obtain ⟨fq_144, hfq⟩ : ∃ z : Nat → Option Nat, z = (va_up fq_136 (16 : Int32).toNatClampNeg (some q_138)) := ⟨_, rfl⟩
                                    have hP : va_P (dC, dI) vwCl [(k, .inr (2, [.ref q_1, .ref q_5, .ref q_7, .null, .int 0, .null, .int 0, .int 0, .int 0, .int 0, .long 0, .int (-1), .int 0, .int (-1)])), (q_7, .inl (k_8, 24, .inr (.inr (.inr (.inr (va_up fq_136 (16 : Int32).toNatClampNeg (some q_138))))))), (q_138, .inr (0, [.null, .int 0, .ref q_142, .ref q_143, .int 0]))] H := hP
                                    have hD : va_D A [(k, .inr (2, [.ref q_1, .ref q_5, .ref q_7, .null, .int 0, .null, .int 0, .int 0, .int 0, .int 0, .long 0, .int (-1), .int 0, .int (-1)])), (q_7, .inl (k_8, 24, .inr (.inr (.inr (.inr (va_up fq_136 (16 : Int32).toNatClampNeg (some q_138))))))), (q_138, .inr (0, [.null, .int 0, .ref q_142, .ref q_143, .int 0]))] := hD
                                    rw [← hfq] at hP hD
                                    have hP : va_P (dC, dI) vwCl [(k, .inr (2, [.ref q_1, .ref q_5, .ref q_7, .null, .int 0, .null, .int 0, .int 0, .int 0, .int 0, .long 0, .int (-1), .int 0, .int (-1)])), (q_7, .inl (k_8, 24, .inr (.inr (.inr (.inr fq_144))))), (q_138, .inr (0, [.null, .int 0, .ref q_142, .ref q_143, .int 0]))] H := hP
                                    have hD : va_D A [(k, .inr (2, [.ref q_1, .ref q_5, .ref q_7, .null, .int 0, .null, .int 0, .int 0, .int 0, .int 0, .long 0, .int (-1), .int 0, .int (-1)])), (q_7, .inl (k_8, 24, .inr (.inr (.inr (.inr fq_144))))), (q_138, .inr (0, [.null, .int 0, .ref q_142, .ref q_143, .int 0]))] := hD
                                    refine lv_iinc (v := 17) (lv' := [(1, .int 17), (0, .ref k)]) hx hb d_K_init_63 hl (k := 0) rfl (by decide) (by decide) rfl (fun ls hl => ?_)
                                    refine lv_goto (tgt := 44) hx hb d_K_init_66 (by decide) ?_
                                    have hP := hP.sub (ws' := [(k, .inr (2, [.ref q_1, .ref q_5, .ref q_7, .null, .int 0, .null, .int 0, .int 0, .int 0, .int 0, .long 0, .int (-1), .int 0, .int (-1)])), (q_7, .inl (k_8, 24, .inr (.inr (.inr (.inr fq_144)))))]) [0, 1] rfl
                                    have hD := hD.sub (ws' := [(k, .inr (2, [.ref q_1, .ref q_5, .ref q_7, .null, .int 0, .null, .int 0, .int 0, .int 0, .int 0, .long 0, .int (-1), .int 0, .int (-1)])), (q_7, .inl (k_8, 24, .inr (.inr (.inr (.inr fq_144)))))]) [0, 1] (by decide) rfl
                                    have hK := hK.sub (tys' := [(k_8, .object "MapFramer$Call")]) [0] rfl
                                    refine lv_iload_n hx hb d_K_init_44 rfl (lv_at hl 0 rfl) ?_
                                    refine lv_bipush (v := 24) hx hb d_K_init_45 (by decide) ?_
                                    refine lv_icmp_ge (tgt := 69) hx hb d_K_init_47 (by decide) (fun c_145 => ?_) (fun c_145 => ?_)
                                    · skip
                                      first | exact absurd c_145 (by decide) | exact absurd (by decide) c_145
                                    · skip
                                      refine lv_aload_n hx hb d_K_init_50 rfl (lv_at hl 1 rfl) ?_
                                      refine va_get (D := (dC, dI)) (ci := 2) (v := .ref q_7) (C := R_K) (T := T_K) (N := 14) hx hb hts (fun w h => hsub w (uw_K w h)) hown hK hP 0 rfl rfl 2 (by decide) (hts _ (hsub _ w_237)) (fun _ h9 => h9) rfl d_K_init_51 ?_
                                      refine lv_iload_n hx hb d_K_init_54 rfl (lv_at hl 0 rfl) ?_
                                      refine va_new (ci := 0) (fs := [.null, .int 0, .null, .null, .int 0]) (C := R_C) (T := T_C) (N := 5) hx hb hts (fun w h => hsub w (uw_C w h)) ty_C tok_C hown (hts _ (hsub _ w_236)) (hts _ (hsub _ w_240)) (hts _ (hsub _ w_241)) hK hP hD hS hA rfl (fun j hj => df_C j hj) (Nat.le_of_ble_eq_true rfl) (Nat.le_of_ble_eq_true rfl) d_K_init_55 (fun q_146 H hP hD hS => ?_)
                                      have hP : va_P (dC, dI) vwCl [(k, .inr (2, [.ref q_1, .ref q_5, .ref q_7, .null, .int 0, .null, .int 0, .int 0, .int 0, .int 0, .long 0, .int (-1), .int 0, .int (-1)])), (q_7, .inl (k_8, 24, .inr (.inr (.inr (.inr fq_144))))), (q_146, .inr (0, [.null, .int 0, .null, .null, .int 0]))] H := hP
                                      have hD : va_D A [(k, .inr (2, [.ref q_1, .ref q_5, .ref q_7, .null, .int 0, .null, .int 0, .int 0, .int 0, .int 0, .long 0, .int (-1), .int 0, .int (-1)])), (q_7, .inl (k_8, 24, .inr (.inr (.inr (.inr fq_144))))), (q_146, .inr (0, [.null, .int 0, .null, .null, .int 0]))] := hD
                                      refine W.widen (k := 58) (n := 4442) (Nat.le_of_ble_eq_true rfl) (Nat.le_of_ble_eq_true rfl) ?_
                                      refine lv_dup hx hb d_K_init_58 rfl ?_
                                      have hPc := hP.sub (ws' := [(q_146, .inr (0, [.null, .int 0, .null, .null, .int 0]))]) [2] rfl
                                      have hKc := hK.sub (tys' := []) [] rfl
                                      have hDc := hD.sub (ws' := [(q_146, .inr (0, [.null, .int 0, .null, .null, .int 0]))]) [2] (by decide) rfl
                                      have hFc := va_free (wc := [(q_146, .inr (0, [.null, .int 0, .null, .null, .int 0]))]) hD hS hA [2] rfl
                                      refine va_callv (va_runIN (As := []) (rest := [.ref q_146, .int 17, .ref q_7]) ⟨hx, hb, hml, hown, hts⟩ (k_C_init l dC dI q_146 H.size) ⟨va_cnB 0 hts (gC hsub w_242) rfl rfl rfl htb.2.1 (hts _ (hsub _ w_241)) (by decide +kernel) ⟨Nat.le_of_ble_eq_true rfl, Nat.le_of_ble_eq_true rfl⟩, rfl, (hts _ (hsub _ w_243))⟩ ⟨bl_1000, fun U hU hW => ⟨rfl, by rw [hU], by rw [hU]; exact hPc, va_K.moved hW.alike hKc, hDc.weaken (fun _ _ _ _ => trivial)⟩⟩ rfl rfl hl.1 rfl (lv_room (Nat.le_of_ble_eq_true rfl)) d_K_init_59 ⟨Nat.le_of_ble_eq_true rfl, Nat.le_of_ble_eq_true rfl⟩) hS (fun q _ h => hFc q h) hFc (fun u_149 t H1 locs ht hvm hw hB hz1 hk1 hS => ?_)
                                      obtain ⟨q_150, q_151, hP1, hK1, hD1⟩ := hB
                                      rw [ht] at hP1
                                      have hK1 := va_K.moved hvm.symm hK1
                                      obtain ⟨hP, hD⟩ := va_join (wr := [(k, .inr (2, [.ref q_1, .ref q_5, .ref q_7, .null, .int 0, .null, .int 0, .int 0, .int 0, .int 0, .long 0, .int (-1), .int 0, .int (-1)])), (q_7, .inl (k_8, 24, .inr (.inr (.inr (.inr fq_144)))))]) (w1 := [(q_146, .inr (0, [.null, .int 0, .ref q_150, .ref q_151, .int 0]))]) hP hD [2] [0, 1] rfl rfl (by decide) (by decide) hk1 hFc hP1 hD1
                                      have hK := (hK.sub (tys' := [(k_8, .object "MapFramer$Call")]) [0] rfl).app hK1
                                      generalize H1 = H at hP hS ⊢
                                      have hP : va_P (dC, dI) vwCl [(k, .inr (2, [.ref q_1, .ref q_5, .ref q_7, .null, .int 0, .null, .int 0, .int 0, .int 0, .int 0, .long 0, .int (-1), .int 0, .int (-1)])), (q_7, .inl (k_8, 24, .inr (.inr (.inr (.inr fq_144))))), (q_146, .inr (0, [.null, .int 0, .ref q_150, .ref q_151, .int 0]))] H := hP
                                      have hD : va_D A [(k, .inr (2, [.ref q_1, .ref q_5, .ref q_7, .null, .int 0, .null, .int 0, .int 0, .int 0, .int 0, .long 0, .int (-1), .int 0, .int (-1)])), (q_7, .inl (k_8, 24, .inr (.inr (.inr (.inr fq_144))))), (q_146, .inr (0, [.null, .int 0, .ref q_150, .ref q_151, .int 0]))] := hD
                                      have hK : va_K (dC, dI) vwCl [(k_8, .object "MapFramer$Call")] s := hK
                                      refine W.widen (k := 60) (n := 4466) (Nat.le_of_ble_eq_true rfl) (Nat.le_of_ble_eq_true rfl) ?_
                                      refine va_astq (r := (R_C, T_C, 5)) hx hb hK hP hD hS 1 0 2 0 rfl rfl rfl rfl (vp_in_iff.mpr (by decide)) d_K_init_62 (fun H locs hP hD hS => ?_)
                                      obtain ⟨fq_152, hfq⟩ : ∃ z : Nat → Option Nat, z = (va_up fq_144 (17 : Int32).toNatClampNeg (some q_146)) := ⟨_, rfl⟩
                                      have hP : va_P (dC, dI) vwCl [(k, .inr (2, [.ref q_1, .ref q_5, .ref q_7, .null, .int 0, .null, .int 0, .int 0, .int 0, .int 0, .long 0, .int (-1), .int 0, .int (-1)])), (q_7, .inl (k_8, 24, .inr (.inr (.inr (.inr (va_up fq_144 (17 : Int32).toNatClampNeg (some q_146))))))), (q_146, .inr (0, [.null, .int 0, .ref q_150, .ref q_151, .int 0]))] H := hP
                                      have hD : va_D A [(k, .inr (2, [.ref q_1, .ref q_5, .ref q_7, .null, .int 0, .null, .int 0, .int 0, .int 0, .int 0, .long 0, .int (-1), .int 0, .int (-1)])), (q_7, .inl (k_8, 24, .inr (.inr (.inr (.inr (va_up fq_144 (17 : Int32).toNatClampNeg (some q_146))))))), (q_146, .inr (0, [.null, .int 0, .ref q_150, .ref q_151, .int 0]))] := hD
                                      rw [← hfq] at hP hD
                                      have hP : va_P (dC, dI) vwCl [(k, .inr (2, [.ref q_1, .ref q_5, .ref q_7, .null, .int 0, .null, .int 0, .int 0, .int 0, .int 0, .long 0, .int (-1), .int 0, .int (-1)])), (q_7, .inl (k_8, 24, .inr (.inr (.inr (.inr fq_152))))), (q_146, .inr (0, [.null, .int 0, .ref q_150, .ref q_151, .int 0]))] H := hP
                                      have hD : va_D A [(k, .inr (2, [.ref q_1, .ref q_5, .ref q_7, .null, .int 0, .null, .int 0, .int 0, .int 0, .int 0, .long 0, .int (-1), .int 0, .int (-1)])), (q_7, .inl (k_8, 24, .inr (.inr (.inr (.inr fq_152))))), (q_146, .inr (0, [.null, .int 0, .ref q_150, .ref q_151, .int 0]))] := hD
                                      refine lv_iinc (v := 18) (lv' := [(1, .int 18), (0, .ref k)]) hx hb d_K_init_63 hl (k := 0) rfl (by decide) (by decide) rfl (fun ls hl => ?_)
                                      refine lv_goto (tgt := 44) hx hb d_K_init_66 (by decide) ?_
                                      have hP := hP.sub (ws' := [(k, .inr (2, [.ref q_1, .ref q_5, .ref q_7, .null, .int 0, .null, .int 0, .int 0, .int 0, .int 0, .long 0, .int (-1), .int 0, .int (-1)])), (q_7, .inl (k_8, 24, .inr (.inr (.inr (.inr fq_152)))))]) [0, 1] rfl
                                      have hD := hD.sub (ws' := [(k, .inr (2, [.ref q_1, .ref q_5, .ref q_7, .null, .int 0, .null, .int 0, .int 0, .int 0, .int 0, .long 0, .int (-1), .int 0, .int (-1)])), (q_7, .inl (k_8, 24, .inr (.inr (.inr (.inr fq_152)))))]) [0, 1] (by decide) rfl
                                      have hK := hK.sub (tys' := [(k_8, .object "MapFramer$Call")]) [0] rfl
                                      refine lv_iload_n hx hb d_K_init_44 rfl (lv_at hl 0 rfl) ?_
                                      refine lv_bipush (v := 24) hx hb d_K_init_45 (by decide) ?_
                                      refine lv_icmp_ge (tgt := 69) hx hb d_K_init_47 (by decide) (fun c_153 => ?_) (fun c_153 => ?_)
                                      · skip
                                        first | exact absurd c_153 (by decide) | exact absurd (by decide) c_153
                                      · skip
                                        refine lv_aload_n hx hb d_K_init_50 rfl (lv_at hl 1 rfl) ?_
                                        refine va_get (D := (dC, dI)) (ci := 2) (v := .ref q_7) (C := R_K) (T := T_K) (N := 14) hx hb hts (fun w h => hsub w (uw_K w h)) hown hK hP 0 rfl rfl 2 (by decide) (hts _ (hsub _ w_237)) (fun _ h9 => h9) rfl d_K_init_51 ?_
                                        refine lv_iload_n hx hb d_K_init_54 rfl (lv_at hl 0 rfl) ?_
                                        refine va_new (ci := 0) (fs := [.null, .int 0, .null, .null, .int 0]) (C := R_C) (T := T_C) (N := 5) hx hb hts (fun w h => hsub w (uw_C w h)) ty_C tok_C hown (hts _ (hsub _ w_236)) (hts _ (hsub _ w_240)) (hts _ (hsub _ w_241)) hK hP hD hS hA rfl (fun j hj => df_C j hj) (Nat.le_of_ble_eq_true rfl) (Nat.le_of_ble_eq_true rfl) d_K_init_55 (fun q_154 H hP hD hS => ?_)
                                        have hP : va_P (dC, dI) vwCl [(k, .inr (2, [.ref q_1, .ref q_5, .ref q_7, .null, .int 0, .null, .int 0, .int 0, .int 0, .int 0, .long 0, .int (-1), .int 0, .int (-1)])), (q_7, .inl (k_8, 24, .inr (.inr (.inr (.inr fq_152))))), (q_154, .inr (0, [.null, .int 0, .null, .null, .int 0]))] H := hP
                                        have hD : va_D A [(k, .inr (2, [.ref q_1, .ref q_5, .ref q_7, .null, .int 0, .null, .int 0, .int 0, .int 0, .int 0, .long 0, .int (-1), .int 0, .int (-1)])), (q_7, .inl (k_8, 24, .inr (.inr (.inr (.inr fq_152))))), (q_154, .inr (0, [.null, .int 0, .null, .null, .int 0]))] := hD
                                        refine W.widen (k := 61) (n := 4471) (Nat.le_of_ble_eq_true rfl) (Nat.le_of_ble_eq_true rfl) ?_
                                        refine lv_dup hx hb d_K_init_58 rfl ?_
                                        have hPc := hP.sub (ws' := [(q_154, .inr (0, [.null, .int 0, .null, .null, .int 0]))]) [2] rfl
                                        have hKc := hK.sub (tys' := []) [] rfl
                                        have hDc := hD.sub (ws' := [(q_154, .inr (0, [.null, .int 0, .null, .null, .int 0]))]) [2] (by decide) rfl
                                        have hFc := va_free (wc := [(q_154, .inr (0, [.null, .int 0, .null, .null, .int 0]))]) hD hS hA [2] rfl
                                        refine va_callv (va_runIN (As := []) (rest := [.ref q_154, .int 18, .ref q_7]) ⟨hx, hb, hml, hown, hts⟩ (k_C_init l dC dI q_154 H.size) ⟨va_cnB 0 hts (gC hsub w_242) rfl rfl rfl htb.2.1 (hts _ (hsub _ w_241)) (by decide +kernel) ⟨Nat.le_of_ble_eq_true rfl, Nat.le_of_ble_eq_true rfl⟩, rfl, (hts _ (hsub _ w_243))⟩ ⟨bl_1000, fun U hU hW => ⟨rfl, by rw [hU], by rw [hU]; exact hPc, va_K.moved hW.alike hKc, hDc.weaken (fun _ _ _ _ => trivial)⟩⟩ rfl rfl hl.1 rfl (lv_room (Nat.le_of_ble_eq_true rfl)) d_K_init_59 ⟨Nat.le_of_ble_eq_true rfl, Nat.le_of_ble_eq_true rfl⟩) hS (fun q _ h => hFc q h) hFc (fun u_157 t H1 locs ht hvm hw hB hz1 hk1 hS => ?_)
                                        obtain ⟨q_158, q_159, hP1, hK1, hD1⟩ := hB
                                        rw [ht] at hP1
                                        have hK1 := va_K.moved hvm.symm hK1
                                        obtain ⟨hP, hD⟩ := va_join (wr := [(k, .inr (2, [.ref q_1, .ref q_5, .ref q_7, .null, .int 0, .null, .int 0, .int 0, .int 0, .int 0, .long 0, .int (-1), .int 0, .int (-1)])), (q_7, .inl (k_8, 24, .inr (.inr (.inr (.inr fq_152)))))]) (w1 := [(q_154, .inr (0, [.null, .int 0, .ref q_158, .ref q_159, .int 0]))]) hP hD [2] [0, 1] rfl rfl (by decide) (by decide) hk1 hFc hP1 hD1
                                        have hK := (hK.sub (tys' := [(k_8, .object "MapFramer$Call")]) [0] rfl).app hK1
                                        generalize H1 = H at hP hS ⊢
                                        have hP : va_P (dC, dI) vwCl [(k, .inr (2, [.ref q_1, .ref q_5, .ref q_7, .null, .int 0, .null, .int 0, .int 0, .int 0, .int 0, .long 0, .int (-1), .int 0, .int (-1)])), (q_7, .inl (k_8, 24, .inr (.inr (.inr (.inr fq_152))))), (q_154, .inr (0, [.null, .int 0, .ref q_158, .ref q_159, .int 0]))] H := hP
                                        have hD : va_D A [(k, .inr (2, [.ref q_1, .ref q_5, .ref q_7, .null, .int 0, .null, .int 0, .int 0, .int 0, .int 0, .long 0, .int (-1), .int 0, .int (-1)])), (q_7, .inl (k_8, 24, .inr (.inr (.inr (.inr fq_152))))), (q_154, .inr (0, [.null, .int 0, .ref q_158, .ref q_159, .int 0]))] := hD
                                        have hK : va_K (dC, dI) vwCl [(k_8, .object "MapFramer$Call")] s := hK
                                        refine W.widen (k := 63) (n := 4495) (Nat.le_of_ble_eq_true rfl) (Nat.le_of_ble_eq_true rfl) ?_
                                        refine va_astq (r := (R_C, T_C, 5)) hx hb hK hP hD hS 1 0 2 0 rfl rfl rfl rfl (vp_in_iff.mpr (by decide)) d_K_init_62 (fun H locs hP hD hS => ?_)
                                        obtain ⟨fq_160, hfq⟩ : ∃ z : Nat → Option Nat, z = (va_up fq_152 (18 : Int32).toNatClampNeg (some q_154)) := ⟨_, rfl⟩
                                        have hP : va_P (dC, dI) vwCl [(k, .inr (2, [.ref q_1, .ref q_5, .ref q_7, .null, .int 0, .null, .int 0, .int 0, .int 0, .int 0, .long 0, .int (-1), .int 0, .int (-1)])), (q_7, .inl (k_8, 24, .inr (.inr (.inr (.inr (va_up fq_152 (18 : Int32).toNatClampNeg (some q_154))))))), (q_154, .inr (0, [.null, .int 0, .ref q_158, .ref q_159, .int 0]))] H := hP
                                        have hD : va_D A [(k, .inr (2, [.ref q_1, .ref q_5, .ref q_7, .null, .int 0, .null, .int 0, .int 0, .int 0, .int 0, .long 0, .int (-1), .int 0, .int (-1)])), (q_7, .inl (k_8, 24, .inr (.inr (.inr (.inr (va_up fq_152 (18 : Int32).toNatClampNeg (some q_154))))))), (q_154, .inr (0, [.null, .int 0, .ref q_158, .ref q_159, .int 0]))] := hD
                                        rw [← hfq] at hP hD
                                        have hP : va_P (dC, dI) vwCl [(k, .inr (2, [.ref q_1, .ref q_5, .ref q_7, .null, .int 0, .null, .int 0, .int 0, .int 0, .int 0, .long 0, .int (-1), .int 0, .int (-1)])), (q_7, .inl (k_8, 24, .inr (.inr (.inr (.inr fq_160))))), (q_154, .inr (0, [.null, .int 0, .ref q_158, .ref q_159, .int 0]))] H := hP
                                        have hD : va_D A [(k, .inr (2, [.ref q_1, .ref q_5, .ref q_7, .null, .int 0, .null, .int 0, .int 0, .int 0, .int 0, .long 0, .int (-1), .int 0, .int (-1)])), (q_7, .inl (k_8, 24, .inr (.inr (.inr (.inr fq_160))))), (q_154, .inr (0, [.null, .int 0, .ref q_158, .ref q_159, .int 0]))] := hD
                                        refine lv_iinc (v := 19) (lv' := [(1, .int 19), (0, .ref k)]) hx hb d_K_init_63 hl (k := 0) rfl (by decide) (by decide) rfl (fun ls hl => ?_)
                                        refine lv_goto (tgt := 44) hx hb d_K_init_66 (by decide) ?_
                                        have hP := hP.sub (ws' := [(k, .inr (2, [.ref q_1, .ref q_5, .ref q_7, .null, .int 0, .null, .int 0, .int 0, .int 0, .int 0, .long 0, .int (-1), .int 0, .int (-1)])), (q_7, .inl (k_8, 24, .inr (.inr (.inr (.inr fq_160)))))]) [0, 1] rfl
                                        have hD := hD.sub (ws' := [(k, .inr (2, [.ref q_1, .ref q_5, .ref q_7, .null, .int 0, .null, .int 0, .int 0, .int 0, .int 0, .long 0, .int (-1), .int 0, .int (-1)])), (q_7, .inl (k_8, 24, .inr (.inr (.inr (.inr fq_160)))))]) [0, 1] (by decide) rfl
                                        have hK := hK.sub (tys' := [(k_8, .object "MapFramer$Call")]) [0] rfl
                                        refine lv_iload_n hx hb d_K_init_44 rfl (lv_at hl 0 rfl) ?_
                                        refine lv_bipush (v := 24) hx hb d_K_init_45 (by decide) ?_
                                        refine lv_icmp_ge (tgt := 69) hx hb d_K_init_47 (by decide) (fun c_161 => ?_) (fun c_161 => ?_)
                                        · skip
                                          first | exact absurd c_161 (by decide) | exact absurd (by decide) c_161
                                        · skip
                                          refine lv_aload_n hx hb d_K_init_50 rfl (lv_at hl 1 rfl) ?_
                                          refine va_get (D := (dC, dI)) (ci := 2) (v := .ref q_7) (C := R_K) (T := T_K) (N := 14) hx hb hts (fun w h => hsub w (uw_K w h)) hown hK hP 0 rfl rfl 2 (by decide) (hts _ (hsub _ w_237)) (fun _ h9 => h9) rfl d_K_init_51 ?_
                                          refine lv_iload_n hx hb d_K_init_54 rfl (lv_at hl 0 rfl) ?_
                                          refine va_new (ci := 0) (fs := [.null, .int 0, .null, .null, .int 0]) (C := R_C) (T := T_C) (N := 5) hx hb hts (fun w h => hsub w (uw_C w h)) ty_C tok_C hown (hts _ (hsub _ w_236)) (hts _ (hsub _ w_240)) (hts _ (hsub _ w_241)) hK hP hD hS hA rfl (fun j hj => df_C j hj) (Nat.le_of_ble_eq_true rfl) (Nat.le_of_ble_eq_true rfl) d_K_init_55 (fun q_162 H hP hD hS => ?_)
                                          have hP : va_P (dC, dI) vwCl [(k, .inr (2, [.ref q_1, .ref q_5, .ref q_7, .null, .int 0, .null, .int 0, .int 0, .int 0, .int 0, .long 0, .int (-1), .int 0, .int (-1)])), (q_7, .inl (k_8, 24, .inr (.inr (.inr (.inr fq_160))))), (q_162, .inr (0, [.null, .int 0, .null, .null, .int 0]))] H := hP
                                          have hD : va_D A [(k, .inr (2, [.ref q_1, .ref q_5, .ref q_7, .null, .int 0, .null, .int 0, .int 0, .int 0, .int 0, .long 0, .int (-1), .int 0, .int (-1)])), (q_7, .inl (k_8, 24, .inr (.inr (.inr (.inr fq_160))))), (q_162, .inr (0, [.null, .int 0, .null, .null, .int 0]))] := hD
                                          refine W.widen (k := 64) (n := 4500) (Nat.le_of_ble_eq_true rfl) (Nat.le_of_ble_eq_true rfl) ?_
                                          refine lv_dup hx hb d_K_init_58 rfl ?_
                                          have hPc := hP.sub (ws' := [(q_162, .inr (0, [.null, .int 0, .null, .null, .int 0]))]) [2] rfl
                                          have hKc := hK.sub (tys' := []) [] rfl
                                          have hDc := hD.sub (ws' := [(q_162, .inr (0, [.null, .int 0, .null, .null, .int 0]))]) [2] (by decide) rfl
                                          have hFc := va_free (wc := [(q_162, .inr (0, [.null, .int 0, .null, .null, .int 0]))]) hD hS hA [2] rfl
                                          refine va_callv (va_runIN (As := []) (rest := [.ref q_162, .int 19, .ref q_7]) ⟨hx, hb, hml, hown, hts⟩ (k_C_init l dC dI q_162 H.size) ⟨va_cnB 0 hts (gC hsub w_242) rfl rfl rfl htb.2.1 (hts _ (hsub _ w_241)) (by decide +kernel) ⟨Nat.le_of_ble_eq_true rfl, Nat.le_of_ble_eq_true rfl⟩, rfl, (hts _ (hsub _ w_243))⟩ ⟨bl_1000, fun U hU hW => ⟨rfl, by rw [hU], by rw [hU]; exact hPc, va_K.moved hW.alike hKc, hDc.weaken (fun _ _ _ _ => trivial)⟩⟩ rfl rfl hl.1 rfl (lv_room (Nat.le_of_ble_eq_true rfl)) d_K_init_59 ⟨Nat.le_of_ble_eq_true rfl, Nat.le_of_ble_eq_true rfl⟩) hS (fun q _ h => hFc q h) hFc (fun u_165 t H1 locs ht hvm hw hB hz1 hk1 hS => ?_)
                                          obtain ⟨q_166, q_167, hP1, hK1, hD1⟩ := hB
                                          rw [ht] at hP1
                                          have hK1 := va_K.moved hvm.symm hK1
                                          obtain ⟨hP, hD⟩ := va_join (wr := [(k, .inr (2, [.ref q_1, .ref q_5, .ref q_7, .null, .int 0, .null, .int 0, .int 0, .int 0, .int 0, .long 0, .int (-1), .int 0, .int (-1)])), (q_7, .inl (k_8, 24, .inr (.inr (.inr (.inr fq_160)))))]) (w1 := [(q_162, .inr (0, [.null, .int 0, .ref q_166, .ref q_167, .int 0]))]) hP hD [2] [0, 1] rfl rfl (by decide) (by decide) hk1 hFc hP1 hD1
                                          have hK := (hK.sub (tys' := [(k_8, .object "MapFramer$Call")]) [0] rfl).app hK1
                                          generalize H1 = H at hP hS ⊢
                                          have hP : va_P (dC, dI) vwCl [(k, .inr (2, [.ref q_1, .ref q_5, .ref q_7, .null, .int 0, .null, .int 0, .int 0, .int 0, .int 0, .long 0, .int (-1), .int 0, .int (-1)])), (q_7, .inl (k_8, 24, .inr (.inr (.inr (.inr fq_160))))), (q_162, .inr (0, [.null, .int 0, .ref q_166, .ref q_167, .int 0]))] H := hP
                                          have hD : va_D A [(k, .inr (2, [.ref q_1, .ref q_5, .ref q_7, .null, .int 0, .null, .int 0, .int 0, .int 0, .int 0, .long 0, .int (-1), .int 0, .int (-1)])), (q_7, .inl (k_8, 24, .inr (.inr (.inr (.inr fq_160))))), (q_162, .inr (0, [.null, .int 0, .ref q_166, .ref q_167, .int 0]))] := hD
                                          have hK : va_K (dC, dI) vwCl [(k_8, .object "MapFramer$Call")] s := hK
                                          refine W.widen (k := 66) (n := 4524) (Nat.le_of_ble_eq_true rfl) (Nat.le_of_ble_eq_true rfl) ?_
                                          refine va_astq (r := (R_C, T_C, 5)) hx hb hK hP hD hS 1 0 2 0 rfl rfl rfl rfl (vp_in_iff.mpr (by decide)) d_K_init_62 (fun H locs hP hD hS => ?_)
                                          obtain ⟨fq_168, hfq⟩ : ∃ z : Nat → Option Nat, z = (va_up fq_160 (19 : Int32).toNatClampNeg (some q_162)) := ⟨_, rfl⟩
                                          have hP : va_P (dC, dI) vwCl [(k, .inr (2, [.ref q_1, .ref q_5, .ref q_7, .null, .int 0, .null, .int 0, .int 0, .int 0, .int 0, .long 0, .int (-1), .int 0, .int (-1)])), (q_7, .inl (k_8, 24, .inr (.inr (.inr (.inr (va_up fq_160 (19 : Int32).toNatClampNeg (some q_162))))))), (q_162, .inr (0, [.null, .int 0, .ref q_166, .ref q_167, .int 0]))] H := hP
                                          have hD : va_D A [(k, .inr (2, [.ref q_1, .ref q_5, .ref q_7, .null, .int 0, .null, .int 0, .int 0, .int 0, .int 0, .long 0, .int (-1), .int 0, .int (-1)])), (q_7, .inl (k_8, 24, .inr (.inr (.inr (.inr (va_up fq_160 (19 : Int32).toNatClampNeg (some q_162))))))), (q_162, .inr (0, [.null, .int 0, .ref q_166, .ref q_167, .int 0]))] := hD
                                          rw [← hfq] at hP hD
                                          have hP : va_P (dC, dI) vwCl [(k, .inr (2, [.ref q_1, .ref q_5, .ref q_7, .null, .int 0, .null, .int 0, .int 0, .int 0, .int 0, .long 0, .int (-1), .int 0, .int (-1)])), (q_7, .inl (k_8, 24, .inr (.inr (.inr (.inr fq_168))))), (q_162, .inr (0, [.null, .int 0, .ref q_166, .ref q_167, .int 0]))] H := hP
                                          have hD : va_D A [(k, .inr (2, [.ref q_1, .ref q_5, .ref q_7, .null, .int 0, .null, .int 0, .int 0, .int 0, .int 0, .long 0, .int (-1), .int 0, .int (-1)])), (q_7, .inl (k_8, 24, .inr (.inr (.inr (.inr fq_168))))), (q_162, .inr (0, [.null, .int 0, .ref q_166, .ref q_167, .int 0]))] := hD
                                          refine lv_iinc (v := 20) (lv' := [(1, .int 20), (0, .ref k)]) hx hb d_K_init_63 hl (k := 0) rfl (by decide) (by decide) rfl (fun ls hl => ?_)
                                          refine lv_goto (tgt := 44) hx hb d_K_init_66 (by decide) ?_
                                          have hP := hP.sub (ws' := [(k, .inr (2, [.ref q_1, .ref q_5, .ref q_7, .null, .int 0, .null, .int 0, .int 0, .int 0, .int 0, .long 0, .int (-1), .int 0, .int (-1)])), (q_7, .inl (k_8, 24, .inr (.inr (.inr (.inr fq_168)))))]) [0, 1] rfl
                                          have hD := hD.sub (ws' := [(k, .inr (2, [.ref q_1, .ref q_5, .ref q_7, .null, .int 0, .null, .int 0, .int 0, .int 0, .int 0, .long 0, .int (-1), .int 0, .int (-1)])), (q_7, .inl (k_8, 24, .inr (.inr (.inr (.inr fq_168)))))]) [0, 1] (by decide) rfl
                                          have hK := hK.sub (tys' := [(k_8, .object "MapFramer$Call")]) [0] rfl
                                          refine lv_iload_n hx hb d_K_init_44 rfl (lv_at hl 0 rfl) ?_
                                          refine lv_bipush (v := 24) hx hb d_K_init_45 (by decide) ?_
                                          refine lv_icmp_ge (tgt := 69) hx hb d_K_init_47 (by decide) (fun c_169 => ?_) (fun c_169 => ?_)
                                          · skip
                                            first | exact absurd c_169 (by decide) | exact absurd (by decide) c_169
                                          · skip
                                            refine lv_aload_n hx hb d_K_init_50 rfl (lv_at hl 1 rfl) ?_
                                            refine va_get (D := (dC, dI)) (ci := 2) (v := .ref q_7) (C := R_K) (T := T_K) (N := 14) hx hb hts (fun w h => hsub w (uw_K w h)) hown hK hP 0 rfl rfl 2 (by decide) (hts _ (hsub _ w_237)) (fun _ h9 => h9) rfl d_K_init_51 ?_
                                            refine lv_iload_n hx hb d_K_init_54 rfl (lv_at hl 0 rfl) ?_
                                            refine va_new (ci := 0) (fs := [.null, .int 0, .null, .null, .int 0]) (C := R_C) (T := T_C) (N := 5) hx hb hts (fun w h => hsub w (uw_C w h)) ty_C tok_C hown (hts _ (hsub _ w_236)) (hts _ (hsub _ w_240)) (hts _ (hsub _ w_241)) hK hP hD hS hA rfl (fun j hj => df_C j hj) (Nat.le_of_ble_eq_true rfl) (Nat.le_of_ble_eq_true rfl) d_K_init_55 (fun q_170 H hP hD hS => ?_)
                                            have hP : va_P (dC, dI) vwCl [(k, .inr (2, [.ref q_1, .ref q_5, .ref q_7, .null, .int 0, .null, .int 0, .int 0, .int 0, .int 0, .long 0, .int (-1), .int 0, .int (-1)])), (q_7, .inl (k_8, 24, .inr (.inr (.inr (.inr fq_168))))), (q_170, .inr (0, [.null, .int 0, .null, .null, .int 0]))] H := hP
                                            have hD : va_D A [(k, .inr (2, [.ref q_1, .ref q_5, .ref q_7, .null, .int 0, .null, .int 0, .int 0, .int 0, .int 0, .long 0, .int (-1), .int 0, .int (-1)])), (q_7, .inl (k_8, 24, .inr (.inr (.inr (.inr fq_168))))), (q_170, .inr (0, [.null, .int 0, .null, .null, .int 0]))] := hD
                                            refine W.widen (k := 67) (n := 4529) (Nat.le_of_ble_eq_true rfl) (Nat.le_of_ble_eq_true rfl) ?_
                                            refine lv_dup hx hb d_K_init_58 rfl ?_
                                            have hPc := hP.sub (ws' := [(q_170, .inr (0, [.null, .int 0, .null, .null, .int 0]))]) [2] rfl
                                            have hKc := hK.sub (tys' := []) [] rfl
                                            have hDc := hD.sub (ws' := [(q_170, .inr (0, [.null, .int 0, .null, .null, .int 0]))]) [2] (by decide) rfl
                                            have hFc := va_free (wc := [(q_170, .inr (0, [.null, .int 0, .null, .null, .int 0]))]) hD hS hA [2] rfl
                                            refine va_callv (va_runIN (As := []) (rest := [.ref q_170, .int 20, .ref q_7]) ⟨hx, hb, hml, hown, hts⟩ (k_C_init l dC dI q_170 H.size) ⟨va_cnB 0 hts (gC hsub w_242) rfl rfl rfl htb.2.1 (hts _ (hsub _ w_241)) (by decide +kernel) ⟨Nat.le_of_ble_eq_true rfl, Nat.le_of_ble_eq_true rfl⟩, rfl, (hts _ (hsub _ w_243))⟩ ⟨bl_1000, fun U hU hW => ⟨rfl, by rw [hU], by rw [hU]; exact hPc, va_K.moved hW.alike hKc, hDc.weaken (fun _ _ _ _ => trivial)⟩⟩ rfl rfl hl.1 rfl (lv_room (Nat.le_of_ble_eq_true rfl)) d_K_init_59 ⟨Nat.le_of_ble_eq_true rfl, Nat.le_of_ble_eq_true rfl⟩) hS (fun q _ h => hFc q h) hFc (fun u_173 t H1 locs ht hvm hw hB hz1 hk1 hS => ?_)
                                            obtain ⟨q_174, q_175, hP1, hK1, hD1⟩ := hB
                                            rw [ht] at hP1
                                            have hK1 := va_K.moved hvm.symm hK1
                                            obtain ⟨hP, hD⟩ := va_join (wr := [(k, .inr (2, [.ref q_1, .ref q_5, .ref q_7, .null, .int 0, .null, .int 0, .int 0, .int 0, .int 0, .long 0, .int (-1), .int 0, .int (-1)])), (q_7, .inl (k_8, 24, .inr (.inr (.inr (.inr fq_168)))))]) (w1 := [(q_170, .inr (0, [.null, .int 0, .ref q_174, .ref q_175, .int 0]))]) hP hD [2] [0, 1] rfl rfl (by decide) (by decide) hk1 hFc hP1 hD1
                                            have hK := (hK.sub (tys' := [(k_8, .object "MapFramer$Call")]) [0] rfl).app hK1
                                            generalize H1 = H at hP hS ⊢
                                            have hP : va_P (dC, dI) vwCl [(k, .inr (2, [.ref q_1, .ref q_5, .ref q_7, .null, .int 0, .null, .int 0, .int 0, .int 0, .int 0, .long 0, .int (-1), .int 0, .int (-1)])), (q_7, .inl (k_8, 24, .inr (.inr (.inr (.inr fq_168))))), (q_170, .inr (0, [.null, .int 0, .ref q_174, .ref q_175, .int 0]))] H := hP
                                            have hD : va_D A [(k, .inr (2, [.ref q_1, .ref q_5, .ref q_7, .null, .int 0, .null, .int 0, .int 0, .int 0, .int 0, .long 0, .int (-1), .int 0, .int (-1)])), (q_7, .inl (k_8, 24, .inr (.inr (.inr (.inr fq_168))))), (q_170, .inr (0, [.null, .int 0, .ref q_174, .ref q_175, .int 0]))] := hD
                                            have hK : va_K (dC, dI) vwCl [(k_8, .object "MapFramer$Call")] s := hK
                                            refine W.widen (k := 69) (n := 4553) (Nat.le_of_ble_eq_true rfl) (Nat.le_of_ble_eq_true rfl) ?_
                                            refine va_astq (r := (R_C, T_C, 5)) hx hb hK hP hD hS 1 0 2 0 rfl rfl rfl rfl (vp_in_iff.mpr (by decide)) d_K_init_62 (fun H locs hP hD hS => ?_)
                                            obtain ⟨fq_176, hfq⟩ : ∃ z : Nat → Option Nat, z = (va_up fq_168 (20 : Int32).toNatClampNeg (some q_170)) := ⟨_, rfl⟩
                                            have hP : va_P (dC, dI) vwCl [(k, .inr (2, [.ref q_1, .ref q_5, .ref q_7, .null, .int 0, .null, .int 0, .int 0, .int 0, .int 0, .long 0, .int (-1), .int 0, .int (-1)])), (q_7, .inl (k_8, 24, .inr (.inr (.inr (.inr (va_up fq_168 (20 : Int32).toNatClampNeg (some q_170))))))), (q_170, .inr (0, [.null, .int 0, .ref q_174, .ref q_175, .int 0]))] H := hP
                                            have hD : va_D A [(k, .inr (2, [.ref q_1, .ref q_5, .ref q_7, .null, .int 0, .null, .int 0, .int 0, .int 0, .int 0, .long 0, .int (-1), .int 0, .int (-1)])), (q_7, .inl (k_8, 24, .inr (.inr (.inr (.inr (va_up fq_168 (20 : Int32).toNatClampNeg (some q_170))))))), (q_170, .inr (0, [.null, .int 0, .ref q_174, .ref q_175, .int 0]))] := hD
                                            rw [← hfq] at hP hD
                                            have hP : va_P (dC, dI) vwCl [(k, .inr (2, [.ref q_1, .ref q_5, .ref q_7, .null, .int 0, .null, .int 0, .int 0, .int 0, .int 0, .long 0, .int (-1), .int 0, .int (-1)])), (q_7, .inl (k_8, 24, .inr (.inr (.inr (.inr fq_176))))), (q_170, .inr (0, [.null, .int 0, .ref q_174, .ref q_175, .int 0]))] H := hP
                                            have hD : va_D A [(k, .inr (2, [.ref q_1, .ref q_5, .ref q_7, .null, .int 0, .null, .int 0, .int 0, .int 0, .int 0, .long 0, .int (-1), .int 0, .int (-1)])), (q_7, .inl (k_8, 24, .inr (.inr (.inr (.inr fq_176))))), (q_170, .inr (0, [.null, .int 0, .ref q_174, .ref q_175, .int 0]))] := hD
                                            refine lv_iinc (v := 21) (lv' := [(1, .int 21), (0, .ref k)]) hx hb d_K_init_63 hl (k := 0) rfl (by decide) (by decide) rfl (fun ls hl => ?_)
                                            refine lv_goto (tgt := 44) hx hb d_K_init_66 (by decide) ?_
                                            have hP := hP.sub (ws' := [(k, .inr (2, [.ref q_1, .ref q_5, .ref q_7, .null, .int 0, .null, .int 0, .int 0, .int 0, .int 0, .long 0, .int (-1), .int 0, .int (-1)])), (q_7, .inl (k_8, 24, .inr (.inr (.inr (.inr fq_176)))))]) [0, 1] rfl
                                            have hD := hD.sub (ws' := [(k, .inr (2, [.ref q_1, .ref q_5, .ref q_7, .null, .int 0, .null, .int 0, .int 0, .int 0, .int 0, .long 0, .int (-1), .int 0, .int (-1)])), (q_7, .inl (k_8, 24, .inr (.inr (.inr (.inr fq_176)))))]) [0, 1] (by decide) rfl
                                            have hK := hK.sub (tys' := [(k_8, .object "MapFramer$Call")]) [0] rfl
                                            refine lv_iload_n hx hb d_K_init_44 rfl (lv_at hl 0 rfl) ?_
                                            refine lv_bipush (v := 24) hx hb d_K_init_45 (by decide) ?_
                                            refine lv_icmp_ge (tgt := 69) hx hb d_K_init_47 (by decide) (fun c_177 => ?_) (fun c_177 => ?_)
                                            · skip
                                              first | exact absurd c_177 (by decide) | exact absurd (by decide) c_177
                                            · skip
                                              refine lv_aload_n hx hb d_K_init_50 rfl (lv_at hl 1 rfl) ?_
                                              refine va_get (D := (dC, dI)) (ci := 2) (v := .ref q_7) (C := R_K) (T := T_K) (N := 14) hx hb hts (fun w h => hsub w (uw_K w h)) hown hK hP 0 rfl rfl 2 (by decide) (hts _ (hsub _ w_237)) (fun _ h9 => h9) rfl d_K_init_51 ?_
                                              refine lv_iload_n hx hb d_K_init_54 rfl (lv_at hl 0 rfl) ?_
                                              refine va_new (ci := 0) (fs := [.null, .int 0, .null, .null, .int 0]) (C := R_C) (T := T_C) (N := 5) hx hb hts (fun w h => hsub w (uw_C w h)) ty_C tok_C hown (hts _ (hsub _ w_236)) (hts _ (hsub _ w_240)) (hts _ (hsub _ w_241)) hK hP hD hS hA rfl (fun j hj => df_C j hj) (Nat.le_of_ble_eq_true rfl) (Nat.le_of_ble_eq_true rfl) d_K_init_55 (fun q_178 H hP hD hS => ?_)
                                              have hP : va_P (dC, dI) vwCl [(k, .inr (2, [.ref q_1, .ref q_5, .ref q_7, .null, .int 0, .null, .int 0, .int 0, .int 0, .int 0, .long 0, .int (-1), .int 0, .int (-1)])), (q_7, .inl (k_8, 24, .inr (.inr (.inr (.inr fq_176))))), (q_178, .inr (0, [.null, .int 0, .null, .null, .int 0]))] H := hP
                                              have hD : va_D A [(k, .inr (2, [.ref q_1, .ref q_5, .ref q_7, .null, .int 0, .null, .int 0, .int 0, .int 0, .int 0, .long 0, .int (-1), .int 0, .int (-1)])), (q_7, .inl (k_8, 24, .inr (.inr (.inr (.inr fq_176))))), (q_178, .inr (0, [.null, .int 0, .null, .null, .int 0]))] := hD
                                              refine W.widen (k := 70) (n := 4558) (Nat.le_of_ble_eq_true rfl) (Nat.le_of_ble_eq_true rfl) ?_
                                              refine lv_dup hx hb d_K_init_58 rfl ?_
                                              have hPc := hP.sub (ws' := [(q_178, .inr (0, [.null, .int 0, .null, .null, .int 0]))]) [2] rfl
                                              have hKc := hK.sub (tys' := []) [] rfl
                                              have hDc := hD.sub (ws' := [(q_178, .inr (0, [.null, .int 0, .null, .null, .int 0]))]) [2] (by decide) rfl
                                              have hFc := va_free (wc := [(q_178, .inr (0, [.null, .int 0, .null, .null, .int 0]))]) hD hS hA [2] rfl
                                              refine va_callv (va_runIN (As := []) (rest := [.ref q_178, .int 21, .ref q_7]) ⟨hx, hb, hml, hown, hts⟩ (k_C_init l dC dI q_178 H.size) ⟨va_cnB 0 hts (gC hsub w_242) rfl rfl rfl htb.2.1 (hts _ (hsub _ w_241)) (by decide +kernel) ⟨Nat.le_of_ble_eq_true rfl, Nat.le_of_ble_eq_true rfl⟩, rfl, (hts _ (hsub _ w_243))⟩ ⟨bl_1000, fun U hU hW => ⟨rfl, by rw [hU], by rw [hU]; exact hPc, va_K.moved hW.alike hKc, hDc.weaken (fun _ _ _ _ => trivial)⟩⟩ rfl rfl hl.1 rfl (lv_room (Nat.le_of_ble_eq_true rfl)) d_K_init_59 ⟨Nat.le_of_ble_eq_true rfl, Nat.le_of_ble_eq_true rfl⟩) hS (fun q _ h => hFc q h) hFc (fun u_181 t H1 locs ht hvm hw hB hz1 hk1 hS => ?_)
                                              obtain ⟨q_182, q_183, hP1, hK1, hD1⟩ := hB
                                              rw [ht] at hP1
                                              have hK1 := va_K.moved hvm.symm hK1
                                              obtain ⟨hP, hD⟩ := va_join (wr := [(k, .inr (2, [.ref q_1, .ref q_5, .ref q_7, .null, .int 0, .null, .int 0, .int 0, .int 0, .int 0, .long 0, .int (-1), .int 0, .int (-1)])), (q_7, .inl (k_8, 24, .inr (.inr (.inr (.inr fq_176)))))]) (w1 := [(q_178, .inr (0, [.null, .int 0, .ref q_182, .ref q_183, .int 0]))]) hP hD [2] [0, 1] rfl rfl (by decide) (by decide) hk1 hFc hP1 hD1
                                              have hK := (hK.sub (tys' := [(k_8, .object "MapFramer$Call")]) [0] rfl).app hK1
                                              generalize H1 = H at hP hS ⊢
                                              have hP : va_P (dC, dI) vwCl [(k, .inr (2, [.ref q_1, .ref q_5, .ref q_7, .null, .int 0, .null, .int 0, .int 0, .int 0, .int 0, .long 0, .int (-1), .int 0, .int (-1)])), (q_7, .inl (k_8, 24, .inr (.inr (.inr (.inr fq_176))))), (q_178, .inr (0, [.null, .int 0, .ref q_182, .ref q_183, .int 0]))] H := hP
                                              have hD : va_D A [(k, .inr (2, [.ref q_1, .ref q_5, .ref q_7, .null, .int 0, .null, .int 0, .int 0, .int 0, .int 0, .long 0, .int (-1), .int 0, .int (-1)])), (q_7, .inl (k_8, 24, .inr (.inr (.inr (.inr fq_176))))), (q_178, .inr (0, [.null, .int 0, .ref q_182, .ref q_183, .int 0]))] := hD
                                              have hK : va_K (dC, dI) vwCl [(k_8, .object "MapFramer$Call")] s := hK
                                              refine W.widen (k := 72) (n := 4582) (Nat.le_of_ble_eq_true rfl) (Nat.le_of_ble_eq_true rfl) ?_
                                              refine va_astq (r := (R_C, T_C, 5)) hx hb hK hP hD hS 1 0 2 0 rfl rfl rfl rfl (vp_in_iff.mpr (by decide)) d_K_init_62 (fun H locs hP hD hS => ?_)
                                              obtain ⟨fq_184, hfq⟩ : ∃ z : Nat → Option Nat, z = (va_up fq_176 (21 : Int32).toNatClampNeg (some q_178)) := ⟨_, rfl⟩
                                              have hP : va_P (dC, dI) vwCl [(k, .inr (2, [.ref q_1, .ref q_5, .ref q_7, .null, .int 0, .null, .int 0, .int 0, .int 0, .int 0, .long 0, .int (-1), .int 0, .int (-1)])), (q_7, .inl (k_8, 24, .inr (.inr (.inr (.inr (va_up fq_176 (21 : Int32).toNatClampNeg (some q_178))))))), (q_178, .inr (0, [.null, .int 0, .ref q_182, .ref q_183, .int 0]))] H := hP
                                              have hD : va_D A [(k, .inr (2, [.ref q_1, .ref q_5, .ref q_7, .null, .int 0, .null, .int 0, .int 0, .int 0, .int 0, .long 0, .int (-1), .int 0, .int (-1)])), (q_7, .inl (k_8, 24, .inr (.inr (.inr (.inr (va_up fq_176 (21 : Int32).toNatClampNeg (some q_178))))))), (q_178, .inr (0, [.null, .int 0, .ref q_182, .ref q_183, .int 0]))] := hD
                                              rw [← hfq] at hP hD
                                              have hP : va_P (dC, dI) vwCl [(k, .inr (2, [.ref q_1, .ref q_5, .ref q_7, .null, .int 0, .null, .int 0, .int 0, .int 0, .int 0, .long 0, .int (-1), .int 0, .int (-1)])), (q_7, .inl (k_8, 24, .inr (.inr (.inr (.inr fq_184))))), (q_178, .inr (0, [.null, .int 0, .ref q_182, .ref q_183, .int 0]))] H := hP
                                              have hD : va_D A [(k, .inr (2, [.ref q_1, .ref q_5, .ref q_7, .null, .int 0, .null, .int 0, .int 0, .int 0, .int 0, .long 0, .int (-1), .int 0, .int (-1)])), (q_7, .inl (k_8, 24, .inr (.inr (.inr (.inr fq_184))))), (q_178, .inr (0, [.null, .int 0, .ref q_182, .ref q_183, .int 0]))] := hD
                                              refine lv_iinc (v := 22) (lv' := [(1, .int 22), (0, .ref k)]) hx hb d_K_init_63 hl (k := 0) rfl (by decide) (by decide) rfl (fun ls hl => ?_)
                                              refine lv_goto (tgt := 44) hx hb d_K_init_66 (by decide) ?_
                                              have hP := hP.sub (ws' := [(k, .inr (2, [.ref q_1, .ref q_5, .ref q_7, .null, .int 0, .null, .int 0, .int 0, .int 0, .int 0, .long 0, .int (-1), .int 0, .int (-1)])), (q_7, .inl (k_8, 24, .inr (.inr (.inr (.inr fq_184)))))]) [0, 1] rfl
                                              have hD := hD.sub (ws' := [(k, .inr (2, [.ref q_1, .ref q_5, .ref q_7, .null, .int 0, .null, .int 0, .int 0, .int 0, .int 0, .long 0, .int (-1), .int 0, .int (-1)])), (q_7, .inl (k_8, 24, .inr (.inr (.inr (.inr fq_184)))))]) [0, 1] (by decide) rfl
                                              have hK := hK.sub (tys' := [(k_8, .object "MapFramer$Call")]) [0] rfl
                                              refine lv_iload_n hx hb d_K_init_44 rfl (lv_at hl 0 rfl) ?_
                                              refine lv_bipush (v := 24) hx hb d_K_init_45 (by decide) ?_
                                              refine lv_icmp_ge (tgt := 69) hx hb d_K_init_47 (by decide) (fun c_185 => ?_) (fun c_185 => ?_)
                                              · skip
                                                first | exact absurd c_185 (by decide) | exact absurd (by decide) c_185
                                              · skip
                                                refine lv_aload_n hx hb d_K_init_50 rfl (lv_at hl 1 rfl) ?_
                                                refine va_get (D := (dC, dI)) (ci := 2) (v := .ref q_7) (C := R_K) (T := T_K) (N := 14) hx hb hts (fun w h => hsub w (uw_K w h)) hown hK hP 0 rfl rfl 2 (by decide) (hts _ (hsub _ w_237)) (fun _ h9 => h9) rfl d_K_init_51 ?_
                                                refine lv_iload_n hx hb d_K_init_54 rfl (lv_at hl 0 rfl) ?_
                                                refine va_new (ci := 0) (fs := [.null, .int 0, .null, .null, .int 0]) (C := R_C) (T := T_C) (N := 5) hx hb hts (fun w h => hsub w (uw_C w h)) ty_C tok_C hown (hts _ (hsub _ w_236)) (hts _ (hsub _ w_240)) (hts _ (hsub _ w_241)) hK hP hD hS hA rfl (fun j hj => df_C j hj) (Nat.le_of_ble_eq_true rfl) (Nat.le_of_ble_eq_true rfl) d_K_init_55 (fun q_186 H hP hD hS => ?_)
                                                have hP : va_P (dC, dI) vwCl [(k, .inr (2, [.ref q_1, .ref q_5, .ref q_7, .null, .int 0, .null, .int 0, .int 0, .int 0, .int 0, .long 0, .int (-1), .int 0, .int (-1)])), (q_7, .inl (k_8, 24, .inr (.inr (.inr (.inr fq_184))))), (q_186, .inr (0, [.null, .int 0, .null, .null, .int 0]))] H := hP
                                                have hD : va_D A [(k, .inr (2, [.ref q_1, .ref q_5, .ref q_7, .null, .int 0, .null, .int 0, .int 0, .int 0, .int 0, .long 0, .int (-1), .int 0, .int (-1)])), (q_7, .inl (k_8, 24, .inr (.inr (.inr (.inr fq_184))))), (q_186, .inr (0, [.null, .int 0, .null, .null, .int 0]))] := hD
                                                refine W.widen (k := 73) (n := 4587) (Nat.le_of_ble_eq_true rfl) (Nat.le_of_ble_eq_true rfl) ?_
                                                refine lv_dup hx hb d_K_init_58 rfl ?_
                                                have hPc := hP.sub (ws' := [(q_186, .inr (0, [.null, .int 0, .null, .null, .int 0]))]) [2] rfl
                                                have hKc := hK.sub (tys' := []) [] rfl
                                                have hDc := hD.sub (ws' := [(q_186, .inr (0, [.null, .int 0, .null, .null, .int 0]))]) [2] (by decide) rfl
                                                have hFc := va_free (wc := [(q_186, .inr (0, [.null, .int 0, .null, .null, .int 0]))]) hD hS hA [2] rfl
                                                refine va_callv (va_runIN (As := []) (rest := [.ref q_186, .int 22, .ref q_7]) ⟨hx, hb, hml, hown, hts⟩ (k_C_init l dC dI q_186 H.size) ⟨va_cnB 0 hts (gC hsub w_242) rfl rfl rfl htb.2.1 (hts _ (hsub _ w_241)) (by decide +kernel) ⟨Nat.le_of_ble_eq_true rfl, Nat.le_of_ble_eq_true rfl⟩, rfl, (hts _ (hsub _ w_243))⟩ ⟨bl_1000, fun U hU hW => ⟨rfl, by rw [hU], by rw [hU]; exact hPc, va_K.moved hW.alike hKc, hDc.weaken (fun _ _ _ _ => trivial)⟩⟩ rfl rfl hl.1 rfl (lv_room (Nat.le_of_ble_eq_true rfl)) d_K_init_59 ⟨Nat.le_of_ble_eq_true rfl, Nat.le_of_ble_eq_true rfl⟩) hS (fun q _ h => hFc q h) hFc (fun u_189 t H1 locs ht hvm hw hB hz1 hk1 hS => ?_)
                                                obtain ⟨q_190, q_191, hP1, hK1, hD1⟩ := hB
                                                rw [ht] at hP1
                                                have hK1 := va_K.moved hvm.symm hK1
                                                obtain ⟨hP, hD⟩ := va_join (wr := [(k, .inr (2, [.ref q_1, .ref q_5, .ref q_7, .null, .int 0, .null, .int 0, .int 0, .int 0, .int 0, .long 0, .int (-1), .int 0, .int (-1)])), (q_7, .inl (k_8, 24, .inr (.inr (.inr (.inr fq_184)))))]) (w1 := [(q_186, .inr (0, [.null, .int 0, .ref q_190, .ref q_191, .int 0]))]) hP hD [2] [0, 1] rfl rfl (by decide) (by decide) hk1 hFc hP1 hD1
                                                have hK := (hK.sub (tys' := [(k_8, .object "MapFramer$Call")]) [0] rfl).app hK1
                                                generalize H1 = H at hP hS ⊢
                                                have hP : va_P (dC, dI) vwCl [(k, .inr (2, [.ref q_1, .ref q_5, .ref q_7, .null, .int 0, .null, .int 0, .int 0, .int 0, .int 0, .long 0, .int (-1), .int 0, .int (-1)])), (q_7, .inl (k_8, 24, .inr (.inr (.inr (.inr fq_184))))), (q_186, .inr (0, [.null, .int 0, .ref q_190, .ref q_191, .int 0]))] H := hP
                                                have hD : va_D A [(k, .inr (2, [.ref q_1, .ref q_5, .ref q_7, .null, .int 0, .null, .int 0, .int 0, .int 0, .int 0, .long 0, .int (-1), .int 0, .int (-1)])), (q_7, .inl (k_8, 24, .inr (.inr (.inr (.inr fq_184))))), (q_186, .inr (0, [.null, .int 0, .ref q_190, .ref q_191, .int 0]))] := hD
                                                have hK : va_K (dC, dI) vwCl [(k_8, .object "MapFramer$Call")] s := hK
                                                refine W.widen (k := 75) (n := 4611) (Nat.le_of_ble_eq_true rfl) (Nat.le_of_ble_eq_true rfl) ?_
                                                refine va_astq (r := (R_C, T_C, 5)) hx hb hK hP hD hS 1 0 2 0 rfl rfl rfl rfl (vp_in_iff.mpr (by decide)) d_K_init_62 (fun H locs hP hD hS => ?_)
                                                obtain ⟨fq_192, hfq⟩ : ∃ z : Nat → Option Nat, z = (va_up fq_184 (22 : Int32).toNatClampNeg (some q_186)) := ⟨_, rfl⟩
                                                have hP : va_P (dC, dI) vwCl [(k, .inr (2, [.ref q_1, .ref q_5, .ref q_7, .null, .int 0, .null, .int 0, .int 0, .int 0, .int 0, .long 0, .int (-1), .int 0, .int (-1)])), (q_7, .inl (k_8, 24, .inr (.inr (.inr (.inr (va_up fq_184 (22 : Int32).toNatClampNeg (some q_186))))))), (q_186, .inr (0, [.null, .int 0, .ref q_190, .ref q_191, .int 0]))] H := hP
                                                have hD : va_D A [(k, .inr (2, [.ref q_1, .ref q_5, .ref q_7, .null, .int 0, .null, .int 0, .int 0, .int 0, .int 0, .long 0, .int (-1), .int 0, .int (-1)])), (q_7, .inl (k_8, 24, .inr (.inr (.inr (.inr (va_up fq_184 (22 : Int32).toNatClampNeg (some q_186))))))), (q_186, .inr (0, [.null, .int 0, .ref q_190, .ref q_191, .int 0]))] := hD
                                                rw [← hfq] at hP hD
                                                have hP : va_P (dC, dI) vwCl [(k, .inr (2, [.ref q_1, .ref q_5, .ref q_7, .null, .int 0, .null, .int 0, .int 0, .int 0, .int 0, .long 0, .int (-1), .int 0, .int (-1)])), (q_7, .inl (k_8, 24, .inr (.inr (.inr (.inr fq_192))))), (q_186, .inr (0, [.null, .int 0, .ref q_190, .ref q_191, .int 0]))] H := hP
                                                have hD : va_D A [(k, .inr (2, [.ref q_1, .ref q_5, .ref q_7, .null, .int 0, .null, .int 0, .int 0, .int 0, .int 0, .long 0, .int (-1), .int 0, .int (-1)])), (q_7, .inl (k_8, 24, .inr (.inr (.inr (.inr fq_192))))), (q_186, .inr (0, [.null, .int 0, .ref q_190, .ref q_191, .int 0]))] := hD
                                                refine lv_iinc (v := 23) (lv' := [(1, .int 23), (0, .ref k)]) hx hb d_K_init_63 hl (k := 0) rfl (by decide) (by decide) rfl (fun ls hl => ?_)
                                                refine lv_goto (tgt := 44) hx hb d_K_init_66 (by decide) ?_
                                                have hP := hP.sub (ws' := [(k, .inr (2, [.ref q_1, .ref q_5, .ref q_7, .null, .int 0, .null, .int 0, .int 0, .int 0, .int 0, .long 0, .int (-1), .int 0, .int (-1)])), (q_7, .inl (k_8, 24, .inr (.inr (.inr (.inr fq_192)))))]) [0, 1] rfl
                                                have hD := hD.sub (ws' := [(k, .inr (2, [.ref q_1, .ref q_5, .ref q_7, .null, .int 0, .null, .int 0, .int 0, .int 0, .int 0, .long 0, .int (-1), .int 0, .int (-1)])), (q_7, .inl (k_8, 24, .inr (.inr (.inr (.inr fq_192)))))]) [0, 1] (by decide) rfl
                                                have hK := hK.sub (tys' := [(k_8, .object "MapFramer$Call")]) [0] rfl
                                                refine lv_iload_n hx hb d_K_init_44 rfl (lv_at hl 0 rfl) ?_
                                                refine lv_bipush (v := 24) hx hb d_K_init_45 (by decide) ?_
                                                refine lv_icmp_ge (tgt := 69) hx hb d_K_init_47 (by decide) (fun c_193 => ?_) (fun c_193 => ?_)
                                                · skip
                                                  first | exact absurd c_193 (by decide) | exact absurd (by decide) c_193
                                                · skip
                                                  refine lv_aload_n hx hb d_K_init_50 rfl (lv_at hl 1 rfl) ?_
                                                  refine va_get (D := (dC, dI)) (ci := 2) (v := .ref q_7) (C := R_K) (T := T_K) (N := 14) hx hb hts (fun w h => hsub w (uw_K w h)) hown hK hP 0 rfl rfl 2 (by decide) (hts _ (hsub _ w_237)) (fun _ h9 => h9) rfl d_K_init_51 ?_
                                                  refine lv_iload_n hx hb d_K_init_54 rfl (lv_at hl 0 rfl) ?_
                                                  refine va_new (ci := 0) (fs := [.null, .int 0, .null, .null, .int 0]) (C := R_C) (T := T_C) (N := 5) hx hb hts (fun w h => hsub w (uw_C w h)) ty_C tok_C hown (hts _ (hsub _ w_236)) (hts _ (hsub _ w_240)) (hts _ (hsub _ w_241)) hK hP hD hS hA rfl (fun j hj => df_C j hj) (Nat.le_of_ble_eq_true rfl) (Nat.le_of_ble_eq_true rfl) d_K_init_55 (fun q_194 H hP hD hS => ?_)
                                                  have hP : va_P (dC, dI) vwCl [(k, .inr (2, [.ref q_1, .ref q_5, .ref q_7, .null, .int 0, .null, .int 0, .int 0, .int 0, .int 0, .long 0, .int (-1), .int 0, .int (-1)])), (q_7, .inl (k_8, 24, .inr (.inr (.inr (.inr fq_192))))), (q_194, .inr (0, [.null, .int 0, .null, .null, .int 0]))] H := hP
                                                  have hD : va_D A [(k, .inr (2, [.ref q_1, .ref q_5, .ref q_7, .null, .int 0, .null, .int 0, .int 0, .int 0, .int 0, .long 0, .int (-1), .int 0, .int (-1)])), (q_7, .inl (k_8, 24, .inr (.inr (.inr (.inr fq_192))))), (q_194, .inr (0, [.null, .int 0, .null, .null, .int 0]))] := hD
                                                  refine W.widen (k := 76) (n := 4616) (Nat.le_of_ble_eq_true rfl) (Nat.le_of_ble_eq_true rfl) ?_
                                                  refine lv_dup hx hb d_K_init_58 rfl ?_
                                                  have hPc := hP.sub (ws' := [(q_194, .inr (0, [.null, .int 0, .null, .null, .int 0]))]) [2] rfl
                                                  have hKc := hK.sub (tys' := []) [] rfl
                                                  have hDc := hD.sub (ws' := [(q_194, .inr (0, [.null, .int 0, .null, .null, .int 0]))]) [2] (by decide) rfl
                                                  have hFc := va_free (wc := [(q_194, .inr (0, [.null, .int 0, .null, .null, .int 0]))]) hD hS hA [2] rfl
                                                  refine va_callv (va_runIN (As := []) (rest := [.ref q_194, .int 23, .ref q_7]) ⟨hx, hb, hml, hown, hts⟩ (k_C_init l dC dI q_194 H.size) ⟨va_cnB 0 hts (gC hsub w_242) rfl rfl rfl htb.2.1 (hts _ (hsub _ w_241)) (by decide +kernel) ⟨Nat.le_of_ble_eq_true rfl, Nat.le_of_ble_eq_true rfl⟩, rfl, (hts _ (hsub _ w_243))⟩ ⟨bl_1000, fun U hU hW => ⟨rfl, by rw [hU], by rw [hU]; exact hPc, va_K.moved hW.alike hKc, hDc.weaken (fun _ _ _ _ => trivial)⟩⟩ rfl rfl hl.1 rfl (lv_room (Nat.le_of_ble_eq_true rfl)) d_K_init_59 ⟨Nat.le_of_ble_eq_true rfl, Nat.le_of_ble_eq_true rfl⟩) hS (fun q _ h => hFc q h) hFc (fun u_197 t H1 locs ht hvm hw hB hz1 hk1 hS => ?_)
                                                  obtain ⟨q_198, q_199, hP1, hK1, hD1⟩ := hB
                                                  rw [ht] at hP1
                                                  have hK1 := va_K.moved hvm.symm hK1
                                                  obtain ⟨hP, hD⟩ := va_join (wr := [(k, .inr (2, [.ref q_1, .ref q_5, .ref q_7, .null, .int 0, .null, .int 0, .int 0, .int 0, .int 0, .long 0, .int (-1), .int 0, .int (-1)])), (q_7, .inl (k_8, 24, .inr (.inr (.inr (.inr fq_192)))))]) (w1 := [(q_194, .inr (0, [.null, .int 0, .ref q_198, .ref q_199, .int 0]))]) hP hD [2] [0, 1] rfl rfl (by decide) (by decide) hk1 hFc hP1 hD1
                                                  have hK := (hK.sub (tys' := [(k_8, .object "MapFramer$Call")]) [0] rfl).app hK1
                                                  generalize H1 = H at hP hS ⊢
                                                  have hP : va_P (dC, dI) vwCl [(k, .inr (2, [.ref q_1, .ref q_5, .ref q_7, .null, .int 0, .null, .int 0, .int 0, .int 0, .int 0, .long 0, .int (-1), .int 0, .int (-1)])), (q_7, .inl (k_8, 24, .inr (.inr (.inr (.inr fq_192))))), (q_194, .inr (0, [.null, .int 0, .ref q_198, .ref q_199, .int 0]))] H := hP
                                                  have hD : va_D A [(k, .inr (2, [.ref q_1, .ref q_5, .ref q_7, .null, .int 0, .null, .int 0, .int 0, .int 0, .int 0, .long 0, .int (-1), .int 0, .int (-1)])), (q_7, .inl (k_8, 24, .inr (.inr (.inr (.inr fq_192))))), (q_194, .inr (0, [.null, .int 0, .ref q_198, .ref q_199, .int 0]))] := hD
                                                  have hK : va_K (dC, dI) vwCl [(k_8, .object "MapFramer$Call")] s := hK
                                                  refine W.widen (k := 78) (n := 4640) (Nat.le_of_ble_eq_true rfl) (Nat.le_of_ble_eq_true rfl) ?_
                                                  refine va_astq (r := (R_C, T_C, 5)) hx hb hK hP hD hS 1 0 2 0 rfl rfl rfl rfl (vp_in_iff.mpr (by decide)) d_K_init_62 (fun H locs hP hD hS => ?_)
                                                  obtain ⟨fq_200, hfq⟩ : ∃ z : Nat → Option Nat, z = (va_up fq_192 (23 : Int32).toNatClampNeg (some q_194)) := ⟨_, rfl⟩
                                                  have hP : va_P (dC, dI) vwCl [(k, .inr (2, [.ref q_1, .ref q_5, .ref q_7, .null, .int 0, .null, .int 0, .int 0, .int 0, .int 0, .long 0, .int (-1), .int 0, .int (-1)])), (q_7, .inl (k_8, 24, .inr (.inr (.inr (.inr (va_up fq_192 (23 : Int32).toNatClampNeg (some q_194))))))), (q_194, .inr (0, [.null, .int 0, .ref q_198, .ref q_199, .int 0]))] H := hP
                                                  have hD : va_D A [(k, .inr (2, [.ref q_1, .ref q_5, .ref q_7, .null, .int 0, .null, .int 0, .int 0, .int 0, .int 0, .long 0, .int (-1), .int 0, .int (-1)])), (q_7, .inl (k_8, 24, .inr (.inr (.inr (.inr (va_up fq_192 (23 : Int32).toNatClampNeg (some q_194))))))), (q_194, .inr (0, [.null, .int 0, .ref q_198, .ref q_199, .int 0]))] := hD
                                                  rw [← hfq] at hP hD
                                                  have hP : va_P (dC, dI) vwCl [(k, .inr (2, [.ref q_1, .ref q_5, .ref q_7, .null, .int 0, .null, .int 0, .int 0, .int 0, .int 0, .long 0, .int (-1), .int 0, .int (-1)])), (q_7, .inl (k_8, 24, .inr (.inr (.inr (.inr fq_200))))), (q_194, .inr (0, [.null, .int 0, .ref q_198, .ref q_199, .int 0]))] H := hP
                                                  have hD : va_D A [(k, .inr (2, [.ref q_1, .ref q_5, .ref q_7, .null, .int 0, .null, .int 0, .int 0, .int 0, .int 0, .long 0, .int (-1), .int 0, .int (-1)])), (q_7, .inl (k_8, 24, .inr (.inr (.inr (.inr fq_200))))), (q_194, .inr (0, [.null, .int 0, .ref q_198, .ref q_199, .int 0]))] := hD
                                                  refine lv_iinc (v := 24) (lv' := [(1, .int 24), (0, .ref k)]) hx hb d_K_init_63 hl (k := 0) rfl (by decide) (by decide) rfl (fun ls hl => ?_)
                                                  refine lv_goto (tgt := 44) hx hb d_K_init_66 (by decide) ?_
                                                  have hP := hP.sub (ws' := [(k, .inr (2, [.ref q_1, .ref q_5, .ref q_7, .null, .int 0, .null, .int 0, .int 0, .int 0, .int 0, .long 0, .int (-1), .int 0, .int (-1)])), (q_7, .inl (k_8, 24, .inr (.inr (.inr (.inr fq_200)))))]) [0, 1] rfl
                                                  have hD := hD.sub (ws' := [(k, .inr (2, [.ref q_1, .ref q_5, .ref q_7, .null, .int 0, .null, .int 0, .int 0, .int 0, .int 0, .long 0, .int (-1), .int 0, .int (-1)])), (q_7, .inl (k_8, 24, .inr (.inr (.inr (.inr fq_200)))))]) [0, 1] (by decide) rfl
                                                  have hK := hK.sub (tys' := [(k_8, .object "MapFramer$Call")]) [0] rfl
                                                  refine lv_iload_n hx hb d_K_init_44 rfl (lv_at hl 0 rfl) ?_
                                                  refine lv_bipush (v := 24) hx hb d_K_init_45 (by decide) ?_
                                                  refine lv_icmp_ge (tgt := 69) hx hb d_K_init_47 (by decide) (fun c_201 => ?_) (fun c_201 => ?_)
                                                  · skip
                                                    refine W.widen (k := 78) (n := 4640) (Nat.le_of_ble_eq_true rfl) (Nat.le_of_ble_eq_true rfl) ?_
                                                    exact W.vret hx hb hr (fun t ht hW => ⟨⟨(), rfl, trivial, q_1, q_5, q_7, by rw [ht]; exact hP.sub [0] rfl, va_K.moved hW.alike (hK.sub (tys' := []) [] rfl), hD.sub [0] (by decide) rfl⟩, hS.F ht⟩) hS.2.2 d_K_init_69
                                                  · skip
                                                    first | exact absurd c_201 (by decide) | exact absurd (by decide) c_201

abbrev ws_k_W_init (w : Nat) : va_W := [(w, .inr (3, [.null, .null, .null, .int 0, .null, .null, .null, .int 0, .null, .int 0]))]
set_option maxHeartbeats 4000000 in
set_option maxRecDepth 100000 in
theorem k_W_init (l : Launch) (dC : Nat → ClassId) (dI : Nat → Nat → Nat) (w : Nat) (sz : Nat) : Met l y_W_init (Cond.code y_W_init prog_12_method_1_code 1 none :: bigW) ({ frames := 1, cells := 7, slots := 104, locals := 12 } : Room) (va_Pc [.ref w] (fun U => U.heap.size = sz ∧ va_P (dC, dI) vwCl (ws_k_W_init w) U.heap ∧ va_K (dC, dI) vwCl [] U ∧ va_D (fun _ => True) (ws_k_W_init w) ∧ exP (va_A (ws_k_W_init w) sz) U)) (va_Qv (fun (u : Unit) => True) (fun _ t => ∃ (wp wu wi wc wt wx wm : Nat) (kp ku ki kc kt kx km : ClassId), va_P (dC, dI) vwCl [(w, .inr (3, [.ref wp, .ref wu, .ref wi, .int 2, .ref wc, .ref wt, .ref wx, .int 0, .ref wm, .int 0])), (wp, .inl (kp, 16, .inl (upd (upd (fun _ => 0) (0 : Int32).toNatClampNeg (-1)) (1 : Int32).toNatClampNeg 0))), (wu, .inl (ku, 16, .inl (upd (upd (fun _ => 0) (0 : Int32).toNatClampNeg 1) (1 : Int32).toNatClampNeg 3))), (wi, .inl (ki, 16, .inl (fun _ => 0))), (wc, .inl (kc, 16, .inl (fun _ => 0))), (wt, .inl (kt, 16, .inl (fun _ => 0))), (wx, .inl (kx, 16, .inl (fun _ => 0))), (wm, .inl (km, 8, .inr (.inr (.inr (.inr (fun _ => none))))))] t.heap ∧ va_K (dC, dI) vwCl [(kp, .int), (ku, .int), (ki, .boolean), (kc, .int), (kt, .int), (kx, .boolean), (km, .object "MapFramer$Method")] t ∧ va_D (va_A (ws_k_W_init w) sz) [(w, .inr (3, [.ref wp, .ref wu, .ref wi, .int 2, .ref wc, .ref wt, .ref wx, .int 0, .ref wm, .int 0])), (wp, .inl (kp, 16, .inl (upd (upd (fun _ => 0) (0 : Int32).toNatClampNeg (-1)) (1 : Int32).toNatClampNeg 0))), (wu, .inl (ku, 16, .inl (upd (upd (fun _ => 0) (0 : Int32).toNatClampNeg 1) (1 : Int32).toNatClampNeg 3))), (wi, .inl (ki, 16, .inl (fun _ => 0))), (wc, .inl (kc, 16, .inl (fun _ => 0))), (wt, .inl (kt, 16, .inl (fun _ => 0))), (wx, .inl (kx, 16, .inl (fun _ => 0))), (wm, .inl (km, 8, .inr (.inr (.inr (.inr (fun _ => none))))))]) (va_A (ws_k_W_init w) sz)) 7 104 (va_A (ws_k_W_init w) sz) := by
  refine Met.ofW (cc := prog_12_method_1_code) (maxL := 1) (ret := none) (by decide) rfl ?_
  intro p e s m args below meth cx s₁ B hml hv
  obtain ⟨rfl, hsz, hP, hK, hD0, hex⟩ := hv
  have hx := B.exec
  have hb := B.bytes
  have hr := B.returns
  have hts := atoms_spec (ws := (Cond.code y_W_init prog_12_method_1_code 1 none :: bigW)) B.pre
  have hsub : ∀ w ∈ bigW, w ∈ (Cond.code y_W_init prog_12_method_1_code 1 none :: bigW) := fun w h => List.mem_cons_of_mem _ h
  have hown : s.vm.findClass "MapFramer$World" = some m.cls := findClass_of_methodNamed B.named
  have hlocks := B.notSynchronized
  have hin : meth.name = "<init>" := (name_of_methodNamed B.named B.method).1
  subst hsz
  have hD := hD0.self (sz := s.heap.size)
  generalize hAe : va_A (ws_k_W_init w) s.heap.size = A at hD hex ⊢
  have hA : ∀ q : Nat, s.heap.size ≤ q → A q := fun q h => by rw [← hAe]; exact Or.inr h
  have hS : va_S A s.heap s.heap [] := va_S.rf
  have hP : va_P (dC, dI) vwCl [(w, .inr (3, [.null, .null, .null, .int 0, .null, .null, .null, .int 0, .null, .int 0]))] s.heap := hP
  have hD : va_D A [(w, .inr (3, [.null, .null, .null, .int 0, .null, .null, .null, .int 0, .null, .int 0]))] := hD
  have hl := lv_entry ([.ref w]) (n := 1) (Nat.le_of_ble_eq_true rfl)
  rw [lg_entry_eq]
  generalize (lg_sl ([.ref w]) ++ List.replicate (1 - (lg_sl ([.ref w])).length) Slot.unset).toArray = ls at hl ⊢
  have hl : lv_has ls 1 [(0, .ref w)] := hl
  have htb := hex.2.2.2.2.2.1
  refine lv_aload_n hx hb d_W_init_0 rfl (lv_at hl 0 rfl) ?_
  refine W.objInit hx hb hown (hts _ (hsub _ w_244)) (hts _ (hsub _ w_142)) (hts _ (hsub _ w_143)) rfl (by rw [hml]; exact hl.1) rfl d_W_init_1 (Nat.le_of_ble_eq_true rfl) (Nat.le_of_ble_eq_true rfl) ?_
  refine W.eq (g2 := F0 m 4 ls []) rfl ?_
  refine lv_aload_n hx hb d_W_init_4 rfl (lv_at hl 0 rfl) ?_
  refine lv_bipush (v := 16) hx hb d_W_init_5 (by decide) ?_
  refine va_newa (atype := .int) (ty := .int) (N' := 16) (a0 := (16, .inl (fun _ => 0))) hx hb (hts _ (hsub _ w_156)) rfl hK hP hD hS hA (fun _ => vz_i _ _) (by decide) (by decide) (Nat.le_of_ble_eq_true rfl) (Nat.le_of_ble_eq_true rfl) (Nat.le_of_ble_eq_true rfl) d_W_init_7 (fun q_1 k_2 H hK hP hD hS => ?_)
  have hK : va_K (dC, dI) vwCl [(k_2, .int)] s := hK
  have hP : va_P (dC, dI) vwCl [(w, .inr (3, [.null, .null, .null, .int 0, .null, .null, .null, .int 0, .null, .int 0])), (q_1, .inl (k_2, 16, .inl (fun _ => 0)))] H := hP
  have hD : va_D A [(w, .inr (3, [.null, .null, .null, .int 0, .null, .null, .null, .int 0, .null, .int 0])), (q_1, .inl (k_2, 16, .inl (fun _ => 0)))] := hD
  refine W.widen (k := 1) (n := 16) (Nat.le_of_ble_eq_true rfl) (Nat.le_of_ble_eq_true rfl) ?_
  refine va_putF (D := (dC, dI)) (ci := 3) (v := .ref q_1) (ty := (.array .int)) (C := R_W) (T := T_W) (N := 10) hx hb hts (fun w h => hsub w (uw_W w h)) ty_W tok_W nm_W hown hK hP hD hS 0 rfl rfl 0 (by decide) (hts _ (hsub _ w_132)) (fun _ h9 => h9) rfl hin rfl (by decide +kernel) rfl rfl (Nat.le_of_ble_eq_true rfl) d_W_init_9 (fun H locs hP hD hS => ?_)
  have hP : va_P (dC, dI) vwCl [(w, .inr (3, [.ref q_1, .null, .null, .int 0, .null, .null, .null, .int 0, .null, .int 0])), (q_1, .inl (k_2, 16, .inl (fun _ => 0)))] H := hP
  have hD : va_D A [(w, .inr (3, [.ref q_1, .null, .null, .int 0, .null, .null, .null, .int 0, .null, .int 0])), (q_1, .inl (k_2, 16, .inl (fun _ => 0)))] := hD
  refine lv_aload_n hx hb d_W_init_12 rfl (lv_at hl 0 rfl) ?_
  refine lv_bipush (v := 16) hx hb d_W_init_13 (by decide) ?_
  refine va_newa (atype := .int) (ty := .int) (N' := 16) (a0 := (16, .inl (fun _ => 0))) hx hb (hts _ (hsub _ w_156)) rfl hK hP hD hS hA (fun _ => vz_i _ _) (by decide) (by decide) (Nat.le_of_ble_eq_true rfl) (Nat.le_of_ble_eq_true rfl) (Nat.le_of_ble_eq_true rfl) d_W_init_15 (fun q_3 k_4 H hK hP hD hS => ?_)
  have hK : va_K (dC, dI) vwCl [(k_2, .int), (k_4, .int)] s := hK
  have hP : va_P (dC, dI) vwCl [(w, .inr (3, [.ref q_1, .null, .null, .int 0, .null, .null, .null, .int 0, .null, .int 0])), (q_1, .inl (k_2, 16, .inl (fun _ => 0))), (q_3, .inl (k_4, 16, .inl (fun _ => 0)))] H := hP
  have hD : va_D A [(w, .inr (3, [.ref q_1, .null, .null, .int 0, .null, .null, .null, .int 0, .null, .int 0])), (q_1, .inl (k_2, 16, .inl (fun _ => 0))), (q_3, .inl (k_4, 16, .inl (fun _ => 0)))] := hD
  refine W.widen (k := 2) (n := 32) (Nat.le_of_ble_eq_true rfl) (Nat.le_of_ble_eq_true rfl) ?_
  refine va_putF (D := (dC, dI)) (ci := 3) (v := .ref q_3) (ty := (.array .int)) (C := R_W) (T := T_W) (N := 10) hx hb hts (fun w h => hsub w (uw_W w h)) ty_W tok_W nm_W hown hK hP hD hS 0 rfl rfl 1 (by decide) (hts _ (hsub _ w_133)) (fun _ h9 => h9) rfl hin rfl (by decide +kernel) rfl rfl (Nat.le_of_ble_eq_true rfl) d_W_init_17 (fun H locs hP hD hS => ?_)
  have hP : va_P (dC, dI) vwCl [(w, .inr (3, [.ref q_1, .ref q_3, .null, .int 0, .null, .null, .null, .int 0, .null, .int 0])), (q_1, .inl (k_2, 16, .inl (fun _ => 0))), (q_3, .inl (k_4, 16, .inl (fun _ => 0)))] H := hP
  have hD : va_D A [(w, .inr (3, [.ref q_1, .ref q_3, .null, .int 0, .null, .null, .null, .int 0, .null, .int 0])), (q_1, .inl (k_2, 16, .inl (fun _ => 0))), (q_3, .inl (k_4, 16, .inl (fun _ => 0)))] := hD
  refine lv_aload_n hx hb d_W_init_20 rfl (lv_at hl 0 rfl) ?_
  refine lv_bipush (v := 16) hx hb d_W_init_21 (by decide) ?_
  refine va_newa (atype := .boolean) (ty := .boolean) (N' := 16) (a0 := (16, .inl (fun _ => 0))) hx hb (hts _ (hsub _ w_245)) rfl hK hP hD hS hA (fun _ => vz_z _ _) (by decide) (by decide) (Nat.le_of_ble_eq_true rfl) (Nat.le_of_ble_eq_true rfl) (Nat.le_of_ble_eq_true rfl) d_W_init_23 (fun q_5 k_6 H hK hP hD hS => ?_)
  have hK : va_K (dC, dI) vwCl [(k_2, .int), (k_4, .int), (k_6, .boolean)] s := hK
  have hP : va_P (dC, dI) vwCl [(w, .inr (3, [.ref q_1, .ref q_3, .null, .int 0, .null, .null, .null, .int 0, .null, .int 0])), (q_1, .inl (k_2, 16, .inl (fun _ => 0))), (q_3, .inl (k_4, 16, .inl (fun _ => 0))), (q_5, .inl (k_6, 16, .inl (fun _ => 0)))] H := hP
  have hD : va_D A [(w, .inr (3, [.ref q_1, .ref q_3, .null, .int 0, .null, .null, .null, .int 0, .null, .int 0])), (q_1, .inl (k_2, 16, .inl (fun _ => 0))), (q_3, .inl (k_4, 16, .inl (fun _ => 0))), (q_5, .inl (k_6, 16, .inl (fun _ => 0)))] := hD
  refine W.widen (k := 3) (n := 48) (Nat.le_of_ble_eq_true rfl) (Nat.le_of_ble_eq_true rfl) ?_
  refine va_putF (D := (dC, dI)) (ci := 3) (v := .ref q_5) (ty := (.array .boolean)) (C := R_W) (T := T_W) (N := 10) hx hb hts (fun w h => hsub w (uw_W w h)) ty_W tok_W nm_W hown hK hP hD hS 0 rfl rfl 2 (by decide) (hts _ (hsub _ w_6)) (fun _ h9 => h9) rfl hin rfl (by decide +kernel) rfl rfl (Nat.le_of_ble_eq_true rfl) d_W_init_25 (fun H locs hP hD hS => ?_)
  have hP : va_P (dC, dI) vwCl [(w, .inr (3, [.ref q_1, .ref q_3, .ref q_5, .int 0, .null, .null, .null, .int 0, .null, .int 0])), (q_1, .inl (k_2, 16, .inl (fun _ => 0))), (q_3, .inl (k_4, 16, .inl (fun _ => 0))), (q_5, .inl (k_6, 16, .inl (fun _ => 0)))] H := hP
  have hD : va_D A [(w, .inr (3, [.ref q_1, .ref q_3, .ref q_5, .int 0, .null, .null, .null, .int 0, .null, .int 0])), (q_1, .inl (k_2, 16, .inl (fun _ => 0))), (q_3, .inl (k_4, 16, .inl (fun _ => 0))), (q_5, .inl (k_6, 16, .inl (fun _ => 0)))] := hD
  refine lv_aload_n hx hb d_W_init_28 rfl (lv_at hl 0 rfl) ?_
  refine lv_bipush (v := 16) hx hb d_W_init_29 (by decide) ?_
  refine va_newa (atype := .int) (ty := .int) (N' := 16) (a0 := (16, .inl (fun _ => 0))) hx hb (hts _ (hsub _ w_156)) rfl hK hP hD hS hA (fun _ => vz_i _ _) (by decide) (by decide) (Nat.le_of_ble_eq_true rfl) (Nat.le_of_ble_eq_true rfl) (Nat.le_of_ble_eq_true rfl) d_W_init_31 (fun q_7 k_8 H hK hP hD hS => ?_)
  have hK : va_K (dC, dI) vwCl [(k_2, .int), (k_4, .int), (k_6, .boolean), (k_8, .int)] s := hK
  have hP : va_P (dC, dI) vwCl [(w, .inr (3, [.ref q_1, .ref q_3, .ref q_5, .int 0, .null, .null, .null, .int 0, .null, .int 0])), (q_1, .inl (k_2, 16, .inl (fun _ => 0))), (q_3, .inl (k_4, 16, .inl (fun _ => 0))), (q_5, .inl (k_6, 16, .inl (fun _ => 0))), (q_7, .inl (k_8, 16, .inl (fun _ => 0)))] H := hP
  have hD : va_D A [(w, .inr (3, [.ref q_1, .ref q_3, .ref q_5, .int 0, .null, .null, .null, .int 0, .null, .int 0])), (q_1, .inl (k_2, 16, .inl (fun _ => 0))), (q_3, .inl (k_4, 16, .inl (fun _ => 0))), (q_5, .inl (k_6, 16, .inl (fun _ => 0))), (q_7, .inl (k_8, 16, .inl (fun _ => 0)))] := hD
  refine W.widen (k := 4) (n := 64) (Nat.le_of_ble_eq_true rfl) (Nat.le_of_ble_eq_true rfl) ?_
  refine va_putF (D := (dC, dI)) (ci := 3) (v := .ref q_7) (ty := (.array .int)) (C := R_W) (T := T_W) (N := 10) hx hb hts (fun w h => hsub w (uw_W w h)) ty_W tok_W nm_W hown hK hP hD hS 0 rfl rfl 4 (by decide) (hts _ (hsub _ w_134)) (fun _ h9 => h9) rfl hin rfl (by decide +kernel) rfl rfl (Nat.le_of_ble_eq_true rfl) d_W_init_33 (fun H locs hP hD hS => ?_)
  have hP : va_P (dC, dI) vwCl [(w, .inr (3, [.ref q_1, .ref q_3, .ref q_5, .int 0, .ref q_7, .null, .null, .int 0, .null, .int 0])), (q_1, .inl (k_2, 16, .inl (fun _ => 0))), (q_3, .inl (k_4, 16, .inl (fun _ => 0))), (q_5, .inl (k_6, 16, .inl (fun _ => 0))), (q_7, .inl (k_8, 16, .inl (fun _ => 0)))] H := hP
  have hD : va_D A [(w, .inr (3, [.ref q_1, .ref q_3, .ref q_5, .int 0, .ref q_7, .null, .null, .int 0, .null, .int 0])), (q_1, .inl (k_2, 16, .inl (fun _ => 0))), (q_3, .inl (k_4, 16, .inl (fun _ => 0))), (q_5, .inl (k_6, 16, .inl (fun _ => 0))), (q_7, .inl (k_8, 16, .inl (fun _ => 0)))] := hD
  refine lv_aload_n hx hb d_W_init_36 rfl (lv_at hl 0 rfl) ?_
  refine lv_bipush (v := 16) hx hb d_W_init_37 (by decide) ?_
  refine va_newa (atype := .int) (ty := .int) (N' := 16) (a0 := (16, .inl (fun _ => 0))) hx hb (hts _ (hsub _ w_156)) rfl hK hP hD hS hA (fun _ => vz_i _ _) (by decide) (by decide) (Nat.le_of_ble_eq_true rfl) (Nat.le_of_ble_eq_true rfl) (Nat.le_of_ble_eq_true rfl) d_W_init_39 (fun q_9 k_10 H hK hP hD hS => ?_)
  have hK : va_K (dC, dI) vwCl [(k_2, .int), (k_4, .int), (k_6, .boolean), (k_8, .int), (k_10, .int)] s := hK
  have hP : va_P (dC, dI) vwCl [(w, .inr (3, [.ref q_1, .ref q_3, .ref q_5, .int 0, .ref q_7, .null, .null, .int 0, .null, .int 0])), (q_1, .inl (k_2, 16, .inl (fun _ => 0))), (q_3, .inl (k_4, 16, .inl (fun _ => 0))), (q_5, .inl (k_6, 16, .inl (fun _ => 0))), (q_7, .inl (k_8, 16, .inl (fun _ => 0))), (q_9, .inl (k_10, 16, .inl (fun _ => 0)))] H := hP
  have hD : va_D A [(w, .inr (3, [.ref q_1, .ref q_3, .ref q_5, .int 0, .ref q_7, .null, .null, .int 0, .null, .int 0])), (q_1, .inl (k_2, 16, .inl (fun _ => 0))), (q_3, .inl (k_4, 16, .inl (fun _ => 0))), (q_5, .inl (k_6, 16, .inl (fun _ => 0))), (q_7, .inl (k_8, 16, .inl (fun _ => 0))), (q_9, .inl (k_10, 16, .inl (fun _ => 0)))] := hD
  refine W.widen (k := 5) (n := 80) (Nat.le_of_ble_eq_true rfl) (Nat.le_of_ble_eq_true rfl) ?_
  refine va_putF (D := (dC, dI)) (ci := 3) (v := .ref q_9) (ty := (.array .int)) (C := R_W) (T := T_W) (N := 10) hx hb hts (fun w h => hsub w (uw_W w h)) ty_W tok_W nm_W hown hK hP hD hS 0 rfl rfl 5 (by decide) (hts _ (hsub _ w_136)) (fun _ h9 => h9) rfl hin rfl (by decide +kernel) rfl rfl (Nat.le_of_ble_eq_true rfl) d_W_init_41 (fun H locs hP hD hS => ?_)
  have hP : va_P (dC, dI) vwCl [(w, .inr (3, [.ref q_1, .ref q_3, .ref q_5, .int 0, .ref q_7, .ref q_9, .null, .int 0, .null, .int 0])), (q_1, .inl (k_2, 16, .inl (fun _ => 0))), (q_3, .inl (k_4, 16, .inl (fun _ => 0))), (q_5, .inl (k_6, 16, .inl (fun _ => 0))), (q_7, .inl (k_8, 16, .inl (fun _ => 0))), (q_9, .inl (k_10, 16, .inl (fun _ => 0)))] H := hP
  have hD : va_D A [(w, .inr (3, [.ref q_1, .ref q_3, .ref q_5, .int 0, .ref q_7, .ref q_9, .null, .int 0, .null, .int 0])), (q_1, .inl (k_2, 16, .inl (fun _ => 0))), (q_3, .inl (k_4, 16, .inl (fun _ => 0))), (q_5, .inl (k_6, 16, .inl (fun _ => 0))), (q_7, .inl (k_8, 16, .inl (fun _ => 0))), (q_9, .inl (k_10, 16, .inl (fun _ => 0)))] := hD
  refine lv_aload_n hx hb d_W_init_44 rfl (lv_at hl 0 rfl) ?_
  refine lv_bipush (v := 16) hx hb d_W_init_45 (by decide) ?_
  refine va_newa (atype := .boolean) (ty := .boolean) (N' := 16) (a0 := (16, .inl (fun _ => 0))) hx hb (hts _ (hsub _ w_245)) rfl hK hP hD hS hA (fun _ => vz_z _ _) (by decide) (by decide) (Nat.le_of_ble_eq_true rfl) (Nat.le_of_ble_eq_true rfl) (Nat.le_of_ble_eq_true rfl) d_W_init_47 (fun q_11 k_12 H hK hP hD hS => ?_)
  have hK : va_K (dC, dI) vwCl [(k_2, .int), (k_4, .int), (k_6, .boolean), (k_8, .int), (k_10, .int), (k_12, .boolean)] s := hK
  have hP : va_P (dC, dI) vwCl [(w, .inr (3, [.ref q_1, .ref q_3, .ref q_5, .int 0, .ref q_7, .ref q_9, .null, .int 0, .null, .int 0])), (q_1, .inl (k_2, 16, .inl (fun _ => 0))), (q_3, .inl (k_4, 16, .inl (fun _ => 0))), (q_5, .inl (k_6, 16, .inl (fun _ => 0))), (q_7, .inl (k_8, 16, .inl (fun _ => 0))), (q_9, .inl (k_10, 16, .inl (fun _ => 0))), (q_11, .inl (k_12, 16, .inl (fun _ => 0)))] H := hP
  have hD : va_D A [(w, .inr (3, [.ref q_1, .ref q_3, .ref q_5, .int 0, .ref q_7, .ref q_9, .null, .int 0, .null, .int 0])), (q_1, .inl (k_2, 16, .inl (fun _ => 0))), (q_3, .inl (k_4, 16, .inl (fun _ => 0))), (q_5, .inl (k_6, 16, .inl (fun _ => 0))), (q_7, .inl (k_8, 16, .inl (fun _ => 0))), (q_9, .inl (k_10, 16, .inl (fun _ => 0))), (q_11, .inl (k_12, 16, .inl (fun _ => 0)))] := hD
  refine W.widen (k := 6) (n := 96) (Nat.le_of_ble_eq_true rfl) (Nat.le_of_ble_eq_true rfl) ?_
  refine va_putF (D := (dC, dI)) (ci := 3) (v := .ref q_11) (ty := (.array .boolean)) (C := R_W) (T := T_W) (N := 10) hx hb hts (fun w h => hsub w (uw_W w h)) ty_W tok_W nm_W hown hK hP hD hS 0 rfl rfl 6 (by decide) (hts _ (hsub _ w_137)) (fun _ h9 => h9) rfl hin rfl (by decide +kernel) rfl rfl (Nat.le_of_ble_eq_true rfl) d_W_init_49 (fun H locs hP hD hS => ?_)
  have hP : va_P (dC, dI) vwCl [(w, .inr (3, [.ref q_1, .ref q_3, .ref q_5, .int 0, .ref q_7, .ref q_9, .ref q_11, .int 0, .null, .int 0])), (q_1, .inl (k_2, 16, .inl (fun _ => 0))), (q_3, .inl (k_4, 16, .inl (fun _ => 0))), (q_5, .inl (k_6, 16, .inl (fun _ => 0))), (q_7, .inl (k_8, 16, .inl (fun _ => 0))), (q_9, .inl (k_10, 16, .inl (fun _ => 0))), (q_11, .inl (k_12, 16, .inl (fun _ => 0)))] H := hP
  have hD : va_D A [(w, .inr (3, [.ref q_1, .ref q_3, .ref q_5, .int 0, .ref q_7, .ref q_9, .ref q_11, .int 0, .null, .int 0])), (q_1, .inl (k_2, 16, .inl (fun _ => 0))), (q_3, .inl (k_4, 16, .inl (fun _ => 0))), (q_5, .inl (k_6, 16, .inl (fun _ => 0))), (q_7, .inl (k_8, 16, .inl (fun _ => 0))), (q_9, .inl (k_10, 16, .inl (fun _ => 0))), (q_11, .inl (k_12, 16, .inl (fun _ => 0)))] := hD
  refine lv_aload_n hx hb d_W_init_52 rfl (lv_at hl 0 rfl) ?_
  refine lv_bipush (v := 8) hx hb d_W_init_53 (by decide) ?_
  refine va_newq (N' := 8) hx hb hown (hts _ (hsub _ w_175)) htb.2.2.1 hK hP hD hS hA (by decide) (by decide) (Nat.le_of_ble_eq_true rfl) (Nat.le_of_ble_eq_true rfl) (Nat.le_of_ble_eq_true rfl) d_W_init_55 (fun q_13 k_14 H hK hP hD hS => ?_)
  have hK : va_K (dC, dI) vwCl [(k_2, .int), (k_4, .int), (k_6, .boolean), (k_8, .int), (k_10, .int), (k_12, .boolean), (k_14, .object "MapFramer$Method")] s := hK
  have hP : va_P (dC, dI) vwCl [(w, .inr (3, [.ref q_1, .ref q_3, .ref q_5, .int 0, .ref q_7, .ref q_9, .ref q_11, .int 0, .null, .int 0])), (q_1, .inl (k_2, 16, .inl (fun _ => 0))), (q_3, .inl (k_4, 16, .inl (fun _ => 0))), (q_5, .inl (k_6, 16, .inl (fun _ => 0))), (q_7, .inl (k_8, 16, .inl (fun _ => 0))), (q_9, .inl (k_10, 16, .inl (fun _ => 0))), (q_11, .inl (k_12, 16, .inl (fun _ => 0))), (q_13, .inl (k_14, 8, .inr (.inr (.inr (.inr (fun _ => none))))))] H := hP
  have hD : va_D A [(w, .inr (3, [.ref q_1, .ref q_3, .ref q_5, .int 0, .ref q_7, .ref q_9, .ref q_11, .int 0, .null, .int 0])), (q_1, .inl (k_2, 16, .inl (fun _ => 0))), (q_3, .inl (k_4, 16, .inl (fun _ => 0))), (q_5, .inl (k_6, 16, .inl (fun _ => 0))), (q_7, .inl (k_8, 16, .inl (fun _ => 0))), (q_9, .inl (k_10, 16, .inl (fun _ => 0))), (q_11, .inl (k_12, 16, .inl (fun _ => 0))), (q_13, .inl (k_14, 8, .inr (.inr (.inr (.inr (fun _ => none))))))] := hD
  refine W.widen (k := 7) (n := 104) (Nat.le_of_ble_eq_true rfl) (Nat.le_of_ble_eq_true rfl) ?_
  refine va_putF (D := (dC, dI)) (ci := 3) (v := .ref q_13) (ty := (.array (.object "MapFramer$Method"))) (C := R_W) (T := T_W) (N := 10) hx hb hts (fun w h => hsub w (uw_W w h)) ty_W tok_W nm_W hown hK hP hD hS 0 rfl rfl 8 (by decide) (hts _ (hsub _ w_174)) (fun _ h9 => h9) rfl hin rfl (by decide +kernel) rfl rfl (Nat.le_of_ble_eq_true rfl) d_W_init_58 (fun H locs hP hD hS => ?_)
  have hP : va_P (dC, dI) vwCl [(w, .inr (3, [.ref q_1, .ref q_3, .ref q_5, .int 0, .ref q_7, .ref q_9, .ref q_11, .int 0, .ref q_13, .int 0])), (q_1, .inl (k_2, 16, .inl (fun _ => 0))), (q_3, .inl (k_4, 16, .inl (fun _ => 0))), (q_5, .inl (k_6, 16, .inl (fun _ => 0))), (q_7, .inl (k_8, 16, .inl (fun _ => 0))), (q_9, .inl (k_10, 16, .inl (fun _ => 0))), (q_11, .inl (k_12, 16, .inl (fun _ => 0))), (q_13, .inl (k_14, 8, .inr (.inr (.inr (.inr (fun _ => none))))))] H := hP
  have hD : va_D A [(w, .inr (3, [.ref q_1, .ref q_3, .ref q_5, .int 0, .ref q_7, .ref q_9, .ref q_11, .int 0, .ref q_13, .int 0])), (q_1, .inl (k_2, 16, .inl (fun _ => 0))), (q_3, .inl (k_4, 16, .inl (fun _ => 0))), (q_5, .inl (k_6, 16, .inl (fun _ => 0))), (q_7, .inl (k_8, 16, .inl (fun _ => 0))), (q_9, .inl (k_10, 16, .inl (fun _ => 0))), (q_11, .inl (k_12, 16, .inl (fun _ => 0))), (q_13, .inl (k_14, 8, .inr (.inr (.inr (.inr (fun _ => none))))))] := hD
  refine lv_aload_n hx hb d_W_init_61 rfl (lv_at hl 0 rfl) ?_
  refine va_get (D := (dC, dI)) (ci := 3) (v := .ref q_1) (C := R_W) (T := T_W) (N := 10) hx hb hts (fun w h => hsub w (uw_W w h)) hown hK hP 0 rfl rfl 0 (by decide) (hts _ (hsub _ w_132)) (fun _ h9 => h9) rfl d_W_init_62 ?_
  refine lv_iconst (v := 0) hx hb d_W_init_65 (by decide) ?_
  refine lv_iconst (v := (-1)) hx hb d_W_init_66 (by decide) ?_
  refine va_iast hx hb hK hP hD hS 1 0 rfl rfl (vp_in_iff.mpr (by decide)) d_W_init_67 (fun H locs hP hD hS => ?_)
  have hP : va_P (dC, dI) vwCl [(w, .inr (3, [.ref q_1, .ref q_3, .ref q_5, .int 0, .ref q_7, .ref q_9, .ref q_11, .int 0, .ref q_13, .int 0])), (q_1, .inl (k_2, 16, .inl (upd (fun _ => 0) (0 : Int32).toNatClampNeg (-1)))), (q_3, .inl (k_4, 16, .inl (fun _ => 0))), (q_5, .inl (k_6, 16, .inl (fun _ => 0))), (q_7, .inl (k_8, 16, .inl (fun _ => 0))), (q_9, .inl (k_10, 16, .inl (fun _ => 0))), (q_11, .inl (k_12, 16, .inl (fun _ => 0))), (q_13, .inl (k_14, 8, .inr (.inr (.inr (.inr (fun _ => none))))))] H := hP
  have hD : va_D A [(w, .inr (3, [.ref q_1, .ref q_3, .ref q_5, .int 0, .ref q_7, .ref q_9, .ref q_11, .int 0, .ref q_13, .int 0])), (q_1, .inl (k_2, 16, .inl (upd (fun _ => 0) (0 : Int32).toNatClampNeg (-1)))), (q_3, .inl (k_4, 16, .inl (fun _ => 0))), (q_5, .inl (k_6, 16, .inl (fun _ => 0))), (q_7, .inl (k_8, 16, .inl (fun _ => 0))), (q_9, .inl (k_10, 16, .inl (fun _ => 0))), (q_11, .inl (k_12, 16, .inl (fun _ => 0))), (q_13, .inl (k_14, 8, .inr (.inr (.inr (.inr (fun _ => none))))))] := hD
  refine lv_aload_n hx hb d_W_init_68 rfl (lv_at hl 0 rfl) ?_
  refine va_get (D := (dC, dI)) (ci := 3) (v := .ref q_3) (C := R_W) (T := T_W) (N := 10) hx hb hts (fun w h => hsub w (uw_W w h)) hown hK hP 0 rfl rfl 1 (by decide) (hts _ (hsub _ w_133)) (fun _ h9 => h9) rfl d_W_init_69 ?_
  refine lv_iconst (v := 0) hx hb d_W_init_72 (by decide) ?_
  refine lv_iconst (v := 1) hx hb d_W_init_73 (by decide) ?_
  refine va_iast hx hb hK hP hD hS 2 1 rfl rfl (vp_in_iff.mpr (by decide)) d_W_init_74 (fun H locs hP hD hS => ?_)
  have hP : va_P (dC, dI) vwCl [(w, .inr (3, [.ref q_1, .ref q_3, .ref q_5, .int 0, .ref q_7, .ref q_9, .ref q_11, .int 0, .ref q_13, .int 0])), (q_1, .inl (k_2, 16, .inl (upd (fun _ => 0) (0 : Int32).toNatClampNeg (-1)))), (q_3, .inl (k_4, 16, .inl (upd (fun _ => 0) (0 : Int32).toNatClampNeg 1))), (q_5, .inl (k_6, 16, .inl (fun _ => 0))), (q_7, .inl (k_8, 16, .inl (fun _ => 0))), (q_9, .inl (k_10, 16, .inl (fun _ => 0))), (q_11, .inl (k_12, 16, .inl (fun _ => 0))), (q_13, .inl (k_14, 8, .inr (.inr (.inr (.inr (fun _ => none))))))] H := hP
  have hD : va_D A [(w, .inr (3, [.ref q_1, .ref q_3, .ref q_5, .int 0, .ref q_7, .ref q_9, .ref q_11, .int 0, .ref q_13, .int 0])), (q_1, .inl (k_2, 16, .inl (upd (fun _ => 0) (0 : Int32).toNatClampNeg (-1)))), (q_3, .inl (k_4, 16, .inl (upd (fun _ => 0) (0 : Int32).toNatClampNeg 1))), (q_5, .inl (k_6, 16, .inl (fun _ => 0))), (q_7, .inl (k_8, 16, .inl (fun _ => 0))), (q_9, .inl (k_10, 16, .inl (fun _ => 0))), (q_11, .inl (k_12, 16, .inl (fun _ => 0))), (q_13, .inl (k_14, 8, .inr (.inr (.inr (.inr (fun _ => none))))))] := hD
  refine lv_aload_n hx hb d_W_init_75 rfl (lv_at hl 0 rfl) ?_
  refine va_get (D := (dC, dI)) (ci := 3) (v := .ref q_1) (C := R_W) (T := T_W) (N := 10) hx hb hts (fun w h => hsub w (uw_W w h)) hown hK hP 0 rfl rfl 0 (by decide) (hts _ (hsub _ w_132)) (fun _ h9 => h9) rfl d_W_init_76 ?_
  refine lv_iconst (v := 1) hx hb d_W_init_79 (by decide) ?_
  refine lv_iconst (v := 0) hx hb d_W_init_80 (by decide) ?_
  refine va_iast hx hb hK hP hD hS 1 0 rfl rfl (vp_in_iff.mpr (by decide)) d_W_init_81 (fun H locs hP hD hS => ?_)
  have hP : va_P (dC, dI) vwCl [(w, .inr (3, [.ref q_1, .ref q_3, .ref q_5, .int 0, .ref q_7, .ref q_9, .ref q_11, .int 0, .ref q_13, .int 0])), (q_1, .inl (k_2, 16, .inl (upd (upd (fun _ => 0) (0 : Int32).toNatClampNeg (-1)) (1 : Int32).toNatClampNeg 0))), (q_3, .inl (k_4, 16, .inl (upd (fun _ => 0) (0 : Int32).toNatClampNeg 1))), (q_5, .inl (k_6, 16, .inl (fun _ => 0))), (q_7, .inl (k_8, 16, .inl (fun _ => 0))), (q_9, .inl (k_10, 16, .inl (fun _ => 0))), (q_11, .inl (k_12, 16, .inl (fun _ => 0))), (q_13, .inl (k_14, 8, .inr (.inr (.inr (.inr (fun _ => none))))))] H := hP
  have hD : va_D A [(w, .inr (3, [.ref q_1, .ref q_3, .ref q_5, .int 0, .ref q_7, .ref q_9, .ref q_11, .int 0, .ref q_13, .int 0])), (q_1, .inl (k_2, 16, .inl (upd (upd (fun _ => 0) (0 : Int32).toNatClampNeg (-1)) (1 : Int32).toNatClampNeg 0))), (q_3, .inl (k_4, 16, .inl (upd (fun _ => 0) (0 : Int32).toNatClampNeg 1))), (q_5, .inl (k_6, 16, .inl (fun _ => 0))), (q_7, .inl (k_8, 16, .inl (fun _ => 0))), (q_9, .inl (k_10, 16, .inl (fun _ => 0))), (q_11, .inl (k_12, 16, .inl (fun _ => 0))), (q_13, .inl (k_14, 8, .inr (.inr (.inr (.inr (fun _ => none))))))] := hD
  refine lv_aload_n hx hb d_W_init_82 rfl (lv_at hl 0 rfl) ?_
  refine va_get (D := (dC, dI)) (ci := 3) (v := .ref q_3) (C := R_W) (T := T_W) (N := 10) hx hb hts (fun w h => hsub w (uw_W w h)) hown hK hP 0 rfl rfl 1 (by decide) (hts _ (hsub _ w_133)) (fun _ h9 => h9) rfl d_W_init_83 ?_
  refine lv_iconst (v := 1) hx hb d_W_init_86 (by decide) ?_
  refine lv_iconst (v := 3) hx hb d_W_init_87 (by decide) ?_
  refine va_iast hx hb hK hP hD hS 2 1 rfl rfl (vp_in_iff.mpr (by decide)) d_W_init_88 (fun H locs hP hD hS => ?_)
  have hP : va_P (dC, dI) vwCl [(w, .inr (3, [.ref q_1, .ref q_3, .ref q_5, .int 0, .ref q_7, .ref q_9, .ref q_11, .int 0, .ref q_13, .int 0])), (q_1, .inl (k_2, 16, .inl (upd (upd (fun _ => 0) (0 : Int32).toNatClampNeg (-1)) (1 : Int32).toNatClampNeg 0))), (q_3, .inl (k_4, 16, .inl (upd (upd (fun _ => 0) (0 : Int32).toNatClampNeg 1) (1 : Int32).toNatClampNeg 3))), (q_5, .inl (k_6, 16, .inl (fun _ => 0))), (q_7, .inl (k_8, 16, .inl (fun _ => 0))), (q_9, .inl (k_10, 16, .inl (fun _ => 0))), (q_11, .inl (k_12, 16, .inl (fun _ => 0))), (q_13, .inl (k_14, 8, .inr (.inr (.inr (.inr (fun _ => none))))))] H := hP
  have hD : va_D A [(w, .inr (3, [.ref q_1, .ref q_3, .ref q_5, .int 0, .ref q_7, .ref q_9, .ref q_11, .int 0, .ref q_13, .int 0])), (q_1, .inl (k_2, 16, .inl (upd (upd (fun _ => 0) (0 : Int32).toNatClampNeg (-1)) (1 : Int32).toNatClampNeg 0))), (q_3, .inl (k_4, 16, .inl (upd (upd (fun _ => 0) (0 : Int32).toNatClampNeg 1) (1 : Int32).toNatClampNeg 3))), (q_5, .inl (k_6, 16, .inl (fun _ => 0))), (q_7, .inl (k_8, 16, .inl (fun _ => 0))), (q_9, .inl (k_10, 16, .inl (fun _ => 0))), (q_11, .inl (k_12, 16, .inl (fun _ => 0))), (q_13, .inl (k_14, 8, .inr (.inr (.inr (.inr (fun _ => none))))))] := hD
  refine lv_aload_n hx hb d_W_init_89 rfl (lv_at hl 0 rfl) ?_
  refine lv_iconst (v := 2) hx hb d_W_init_90 (by decide) ?_
  refine va_put (D := (dC, dI)) (ci := 3) (v := .int 2) (ty := .int) (C := R_W) (T := T_W) (N := 10) hx hb hts (fun w h => hsub w (uw_W w h)) ty_W tok_W nm_W hown hK hP hD hS 0 rfl rfl 3 (by decide) (hts _ (hsub _ w_0)) (fun _ h9 => h9) rfl (by decide +kernel) rfl rfl (Nat.le_of_ble_eq_true rfl) d_W_init_91 (fun H locs hP hD hS => ?_)
  have hP : va_P (dC, dI) vwCl [(w, .inr (3, [.ref q_1, .ref q_3, .ref q_5, .int 2, .ref q_7, .ref q_9, .ref q_11, .int 0, .ref q_13, .int 0])), (q_1, .inl (k_2, 16, .inl (upd (upd (fun _ => 0) (0 : Int32).toNatClampNeg (-1)) (1 : Int32).toNatClampNeg 0))), (q_3, .inl (k_4, 16, .inl (upd (upd (fun _ => 0) (0 : Int32).toNatClampNeg 1) (1 : Int32).toNatClampNeg 3))), (q_5, .inl (k_6, 16, .inl (fun _ => 0))), (q_7, .inl (k_8, 16, .inl (fun _ => 0))), (q_9, .inl (k_10, 16, .inl (fun _ => 0))), (q_11, .inl (k_12, 16, .inl (fun _ => 0))), (q_13, .inl (k_14, 8, .inr (.inr (.inr (.inr (fun _ => none))))))] H := hP
  have hD : va_D A [(w, .inr (3, [.ref q_1, .ref q_3, .ref q_5, .int 2, .ref q_7, .ref q_9, .ref q_11, .int 0, .ref q_13, .int 0])), (q_1, .inl (k_2, 16, .inl (upd (upd (fun _ => 0) (0 : Int32).toNatClampNeg (-1)) (1 : Int32).toNatClampNeg 0))), (q_3, .inl (k_4, 16, .inl (upd (upd (fun _ => 0) (0 : Int32).toNatClampNeg 1) (1 : Int32).toNatClampNeg 3))), (q_5, .inl (k_6, 16, .inl (fun _ => 0))), (q_7, .inl (k_8, 16, .inl (fun _ => 0))), (q_9, .inl (k_10, 16, .inl (fun _ => 0))), (q_11, .inl (k_12, 16, .inl (fun _ => 0))), (q_13, .inl (k_14, 8, .inr (.inr (.inr (.inr (fun _ => none))))))] := hD
  refine W.widen (k := 7) (n := 104) (Nat.le_of_ble_eq_true rfl) (Nat.le_of_ble_eq_true rfl) ?_
  exact W.vret hx hb hr (fun t ht hW => ⟨⟨(), rfl, trivial, q_1, q_3, q_5, q_7, q_9, q_11, q_13, k_2, k_4, k_6, k_8, k_10, k_12, k_14, by rw [ht]; exact hP, va_K.moved hW.alike hK, hD⟩, hS.F ht⟩) hS.2.2 d_W_init_94

abbrev ws_k_F_init (f : Nat) : va_W := [(f, .inr (4, [.null, .null, .null, .int 0]))]
set_option maxHeartbeats 4000000 in
set_option maxRecDepth 100000 in
theorem k_F_init (l : Launch) (dC : Nat → ClassId) (dI : Nat → Nat → Nat) (f : Nat) (sz : Nat) : Met l y_F_init (Cond.code y_F_init prog_1_method_1_code 1 none :: bigW) ({ frames := 3, cells := 88, slots := 5168, locals := 53 } : Room) (va_Pc [.ref f] (fun U => U.heap.size = sz ∧ va_P (dC, dI) vwCl (ws_k_F_init f) U.heap ∧ va_K (dC, dI) vwCl [] U ∧ va_D (fun _ => True) (ws_k_F_init f) ∧ exP (va_A (ws_k_F_init f) sz) U)) (va_Qv (fun (u : Unit) => True) (fun _ t => ∃ (w wp wu wi wc wt wx wm k kh ks kc9 tp : Nat) (kp ku ki kc kt kx km kt9 : ClassId), va_P (dC, dI) vwCl [(f, .inr (4, [.ref w, .ref k, .ref tp, .int 0])), (w, .inr (3, [.ref wp, .ref wu, .ref wi, .int 2, .ref wc, .ref wt, .ref wx, .int 0, .ref wm, .int 0])), (wp, .inl (kp, 16, .inl (upd (upd (fun _ => 0) (0 : Int32).toNatClampNeg (-1)) (1 : Int32).toNatClampNeg 0))), (wu, .inl (ku, 16, .inl (upd (upd (fun _ => 0) (0 : Int32).toNatClampNeg 1) (1 : Int32).toNatClampNeg 3))), (wi, .inl (ki, 16, .inl (fun _ => 0))), (wc, .inl (kc, 16, .inl (fun _ => 0))), (wt, .inl (kt, 16, .inl (fun _ => 0))), (wx, .inl (kx, 16, .inl (fun _ => 0))), (wm, .inl (km, 8, .inr (.inr (.inr (.inr (fun _ => none)))))), (k, .inr (2, [.ref kh, .ref ks, .ref kc9, .null, .int 0, .null, .int 0, .int 0, .int 0, .int 0, .long 0, .int (-1), .int 0, .int (-1)])), (tp, .inl (kt9, 400, .inl (fun _ => 0)))] t.heap ∧ va_K (dC, dI) vwCl [(kp, .int), (ku, .int), (ki, .boolean), (kc, .int), (kt, .int), (kx, .boolean), (km, .object "MapFramer$Method"), (kt9, .int)] t ∧ va_D (va_A (ws_k_F_init f) sz) [(f, .inr (4, [.ref w, .ref k, .ref tp, .int 0])), (w, .inr (3, [.ref wp, .ref wu, .ref wi, .int 2, .ref wc, .ref wt, .ref wx, .int 0, .ref wm, .int 0])), (wp, .inl (kp, 16, .inl (upd (upd (fun _ => 0) (0 : Int32).toNatClampNeg (-1)) (1 : Int32).toNatClampNeg 0))), (wu, .inl (ku, 16, .inl (upd (upd (fun _ => 0) (0 : Int32).toNatClampNeg 1) (1 : Int32).toNatClampNeg 3))), (wi, .inl (ki, 16, .inl (fun _ => 0))), (wc, .inl (kc, 16, .inl (fun _ => 0))), (wt, .inl (kt, 16, .inl (fun _ => 0))), (wx, .inl (kx, 16, .inl (fun _ => 0))), (wm, .inl (km, 8, .inr (.inr (.inr (.inr (fun _ => none)))))), (k, .inr (2, [.ref kh, .ref ks, .ref kc9, .null, .int 0, .null, .int 0, .int 0, .int 0, .int 0, .long 0, .int (-1), .int 0, .int (-1)])), (tp, .inl (kt9, 400, .inl (fun _ => 0)))]) (va_A (ws_k_F_init f) sz)) 88 5168 (va_A (ws_k_F_init f) sz) := by
  refine Met.ofW (cc := prog_1_method_1_code) (maxL := 1) (ret := none) (by decide) rfl ?_
  intro p e s m args below meth cx s₁ B hml hv
  obtain ⟨rfl, hsz, hP, hK, hD0, hex⟩ := hv
  have hx := B.exec
  have hb := B.bytes
  have hr := B.returns
  have hts := atoms_spec (ws := (Cond.code y_F_init prog_1_method_1_code 1 none :: bigW)) B.pre
  have hsub : ∀ w ∈ bigW, w ∈ (Cond.code y_F_init prog_1_method_1_code 1 none :: bigW) := fun w h => List.mem_cons_of_mem _ h
  have hown : s.vm.findClass "MapFramer" = some m.cls := findClass_of_methodNamed B.named
  have hlocks := B.notSynchronized
  have hin : meth.name = "<init>" := (name_of_methodNamed B.named B.method).1
  subst hsz
  have hD := hD0.self (sz := s.heap.size)
  generalize hAe : va_A (ws_k_F_init f) s.heap.size = A at hD hex ⊢
  have hA : ∀ q : Nat, s.heap.size ≤ q → A q := fun q h => by rw [← hAe]; exact Or.inr h
  have hS : va_S A s.heap s.heap [] := va_S.rf
  have hP : va_P (dC, dI) vwCl [(f, .inr (4, [.null, .null, .null, .int 0]))] s.heap := hP
  have hD : va_D A [(f, .inr (4, [.null, .null, .null, .int 0]))] := hD
  have hl := lv_entry ([.ref f]) (n := 1) (Nat.le_of_ble_eq_true rfl)
  rw [lg_entry_eq]
  generalize (lg_sl ([.ref f]) ++ List.replicate (1 - (lg_sl ([.ref f])).length) Slot.unset).toArray = ls at hl ⊢
  have hl : lv_has ls 1 [(0, .ref f)] := hl
  have htb := hex.2.2.2.2.2.1
  refine lv_aload_n hx hb d_F_init_0 rfl (lv_at hl 0 rfl) ?_
  refine W.objInit hx hb hown (hts _ (hsub _ w_246)) (hts _ (hsub _ w_142)) (hts _ (hsub _ w_143)) rfl (by rw [hml]; exact hl.1) rfl d_F_init_1 (Nat.le_of_ble_eq_true rfl) (Nat.le_of_ble_eq_true rfl) ?_
  refine W.eq (g2 := F0 m 4 ls []) rfl ?_
  refine lv_aload_n hx hb d_F_init_4 rfl (lv_at hl 0 rfl) ?_
  refine va_new (ci := 3) (fs := [.null, .null, .null, .int 0, .null, .null, .null, .int 0, .null, .int 0]) (C := R_W) (T := T_W) (N := 10) hx hb hts (fun w h => hsub w (uw_W w h)) ty_W tok_W hown (hts _ (hsub _ w_247)) (hts _ (hsub _ w_248)) (hts _ (hsub _ w_4)) hK hP hD hS hA rfl (fun j hj => df_W j hj) (Nat.le_of_ble_eq_true rfl) (Nat.le_of_ble_eq_true rfl) d_F_init_5 (fun q_1 H hP hD hS => ?_)
  have hP : va_P (dC, dI) vwCl [(f, .inr (4, [.null, .null, .null, .int 0])), (q_1, .inr (3, [.null, .null, .null, .int 0, .null, .null, .null, .int 0, .null, .int 0]))] H := hP
  have hD : va_D A [(f, .inr (4, [.null, .null, .null, .int 0])), (q_1, .inr (3, [.null, .null, .null, .int 0, .null, .null, .null, .int 0, .null, .int 0]))] := hD
  refine W.widen (k := 1) (n := 10) (Nat.le_of_ble_eq_true rfl) (Nat.le_of_ble_eq_true rfl) ?_
  refine lv_dup hx hb d_F_init_8 rfl ?_
  have hPc := hP.sub (ws' := [(q_1, .inr (3, [.null, .null, .null, .int 0, .null, .null, .null, .int 0, .null, .int 0]))]) [1] rfl
  have hKc := hK.sub (tys' := []) [] rfl
  have hDc := hD.sub (ws' := [(q_1, .inr (3, [.null, .null, .null, .int 0, .null, .null, .null, .int 0, .null, .int 0]))]) [1] (by decide) rfl
  have hFc := va_free (wc := [(q_1, .inr (3, [.null, .null, .null, .int 0, .null, .null, .null, .int 0, .null, .int 0]))]) hD hS hA [1] rfl
  refine va_callv (va_runI (As := []) (rest := [.ref q_1, .ref f]) ⟨hx, hb, hml, hown, hts⟩ (k_W_init l dC dI q_1 H.size) (cwI 0 hts (gC hsub w_250) rfl rfl rfl (hts _ (hsub _ w_4)) (hts _ (hsub _ w_249)) (hts _ (hsub _ w_251)) rfl (by decide +kernel) ⟨Nat.le_of_ble_eq_true rfl, Nat.le_of_ble_eq_true rfl⟩) ⟨bl_1010, fun U hU hW => ⟨rfl, by rw [hU], by rw [hU]; exact hPc, va_K.moved hW.alike hKc, hDc.weaken (fun _ _ _ _ => trivial), exP_go hex hS (fun q h => hFc q h) U hU hW⟩⟩ rfl rfl hl.1 rfl (lv_room (Nat.le_of_ble_eq_true rfl)) d_F_init_9 ⟨Nat.le_of_ble_eq_true rfl, Nat.le_of_ble_eq_true rfl⟩) hS (fun q _ h => hFc q h) hFc (fun u_4 t H1 locs ht hvm hw hB hz1 hk1 hS => ?_)
  obtain ⟨a_5, a_6, a_7, a_8, a_9, a_10, a_11, k_12, k_13, k_14, k_15, k_16, k_17, k_18, hP1, hK1, hD1⟩ := hB
  rw [ht] at hP1
  have hK1 := va_K.moved hvm.symm hK1
  obtain ⟨hP, hD⟩ := va_join (wr := [(f, .inr (4, [.null, .null, .null, .int 0]))]) (w1 := [(q_1, .inr (3, [.ref a_5, .ref a_6, .ref a_7, .int 2, .ref a_8, .ref a_9, .ref a_10, .int 0, .ref a_11, .int 0])), (a_5, .inl (k_12, 16, .inl (upd (upd (fun _ => 0) (0 : Int32).toNatClampNeg (-1)) (1 : Int32).toNatClampNeg 0))), (a_6, .inl (k_13, 16, .inl (upd (upd (fun _ => 0) (0 : Int32).toNatClampNeg 1) (1 : Int32).toNatClampNeg 3))), (a_7, .inl (k_14, 16, .inl (fun _ => 0))), (a_8, .inl (k_15, 16, .inl (fun _ => 0))), (a_9, .inl (k_16, 16, .inl (fun _ => 0))), (a_10, .inl (k_17, 16, .inl (fun _ => 0))), (a_11, .inl (k_18, 8, .inr (.inr (.inr (.inr (fun _ => none))))))]) hP hD [1] [0] rfl rfl (by decide) (by decide) hk1 hFc hP1 hD1
  have hK := (hK.sub (tys' := []) [] rfl).app hK1
  generalize H1 = H at hP hS ⊢
  have hP : va_P (dC, dI) vwCl [(f, .inr (4, [.null, .null, .null, .int 0])), (q_1, .inr (3, [.ref a_5, .ref a_6, .ref a_7, .int 2, .ref a_8, .ref a_9, .ref a_10, .int 0, .ref a_11, .int 0])), (a_5, .inl (k_12, 16, .inl (upd (upd (fun _ => 0) (0 : Int32).toNatClampNeg (-1)) (1 : Int32).toNatClampNeg 0))), (a_6, .inl (k_13, 16, .inl (upd (upd (fun _ => 0) (0 : Int32).toNatClampNeg 1) (1 : Int32).toNatClampNeg 3))), (a_7, .inl (k_14, 16, .inl (fun _ => 0))), (a_8, .inl (k_15, 16, .inl (fun _ => 0))), (a_9, .inl (k_16, 16, .inl (fun _ => 0))), (a_10, .inl (k_17, 16, .inl (fun _ => 0))), (a_11, .inl (k_18, 8, .inr (.inr (.inr (.inr (fun _ => none))))))] H := hP
  have hD : va_D A [(f, .inr (4, [.null, .null, .null, .int 0])), (q_1, .inr (3, [.ref a_5, .ref a_6, .ref a_7, .int 2, .ref a_8, .ref a_9, .ref a_10, .int 0, .ref a_11, .int 0])), (a_5, .inl (k_12, 16, .inl (upd (upd (fun _ => 0) (0 : Int32).toNatClampNeg (-1)) (1 : Int32).toNatClampNeg 0))), (a_6, .inl (k_13, 16, .inl (upd (upd (fun _ => 0) (0 : Int32).toNatClampNeg 1) (1 : Int32).toNatClampNeg 3))), (a_7, .inl (k_14, 16, .inl (fun _ => 0))), (a_8, .inl (k_15, 16, .inl (fun _ => 0))), (a_9, .inl (k_16, 16, .inl (fun _ => 0))), (a_10, .inl (k_17, 16, .inl (fun _ => 0))), (a_11, .inl (k_18, 8, .inr (.inr (.inr (.inr (fun _ => none))))))] := hD
  have hK : va_K (dC, dI) vwCl [(k_12, .int), (k_13, .int), (k_14, .boolean), (k_15, .int), (k_16, .int), (k_17, .boolean), (k_18, .object "MapFramer$Method")] s := hK
  refine W.widen (k := 8) (n := 114) (Nat.le_of_ble_eq_true rfl) (Nat.le_of_ble_eq_true rfl) ?_
  refine va_putF (D := (dC, dI)) (ci := 4) (v := .ref q_1) (ty := (.object "MapFramer$World")) (C := R_F) (T := T_F) (N := 4) hx hb hts (fun w h => hsub w (uw_F w h)) ty_F tok_F nm_F hown hK hP hD hS 0 rfl rfl 0 (by decide) (hts _ (hsub _ w_181)) (fun _ h9 => h9) rfl hin rfl (by decide +kernel) rfl rfl (Nat.le_of_ble_eq_true rfl) d_F_init_12 (fun H locs hP hD hS => ?_)
  have hP : va_P (dC, dI) vwCl [(f, .inr (4, [.ref q_1, .null, .null, .int 0])), (q_1, .inr (3, [.ref a_5, .ref a_6, .ref a_7, .int 2, .ref a_8, .ref a_9, .ref a_10, .int 0, .ref a_11, .int 0])), (a_5, .inl (k_12, 16, .inl (upd (upd (fun _ => 0) (0 : Int32).toNatClampNeg (-1)) (1 : Int32).toNatClampNeg 0))), (a_6, .inl (k_13, 16, .inl (upd (upd (fun _ => 0) (0 : Int32).toNatClampNeg 1) (1 : Int32).toNatClampNeg 3))), (a_7, .inl (k_14, 16, .inl (fun _ => 0))), (a_8, .inl (k_15, 16, .inl (fun _ => 0))), (a_9, .inl (k_16, 16, .inl (fun _ => 0))), (a_10, .inl (k_17, 16, .inl (fun _ => 0))), (a_11, .inl (k_18, 8, .inr (.inr (.inr (.inr (fun _ => none))))))] H := hP
  have hD : va_D A [(f, .inr (4, [.ref q_1, .null, .null, .int 0])), (q_1, .inr (3, [.ref a_5, .ref a_6, .ref a_7, .int 2, .ref a_8, .ref a_9, .ref a_10, .int 0, .ref a_11, .int 0])), (a_5, .inl (k_12, 16, .inl (upd (upd (fun _ => 0) (0 : Int32).toNatClampNeg (-1)) (1 : Int32).toNatClampNeg 0))), (a_6, .inl (k_13, 16, .inl (upd (upd (fun _ => 0) (0 : Int32).toNatClampNeg 1) (1 : Int32).toNatClampNeg 3))), (a_7, .inl (k_14, 16, .inl (fun _ => 0))), (a_8, .inl (k_15, 16, .inl (fun _ => 0))), (a_9, .inl (k_16, 16, .inl (fun _ => 0))), (a_10, .inl (k_17, 16, .inl (fun _ => 0))), (a_11, .inl (k_18, 8, .inr (.inr (.inr (.inr (fun _ => none))))))] := hD
  refine lv_aload_n hx hb d_F_init_15 rfl (lv_at hl 0 rfl) ?_
  refine va_new (ci := 2) (fs := [.null, .null, .null, .null, .int 0, .null, .int 0, .int 0, .int 0, .int 0, .long 0, .int 0, .int 0, .int 0]) (C := R_K) (T := T_K) (N := 14) hx hb hts (fun w h => hsub w (uw_K w h)) ty_K tok_K hown (hts _ (hsub _ w_252)) (hts _ (hsub _ w_253)) (hts _ (hsub _ w_254)) hK hP hD hS hA rfl (fun j hj => df_K j hj) (Nat.le_of_ble_eq_true rfl) (Nat.le_of_ble_eq_true rfl) d_F_init_16 (fun q_19 H hP hD hS => ?_)
  have hP : va_P (dC, dI) vwCl [(f, .inr (4, [.ref q_1, .null, .null, .int 0])), (q_1, .inr (3, [.ref a_5, .ref a_6, .ref a_7, .int 2, .ref a_8, .ref a_9, .ref a_10, .int 0, .ref a_11, .int 0])), (a_5, .inl (k_12, 16, .inl (upd (upd (fun _ => 0) (0 : Int32).toNatClampNeg (-1)) (1 : Int32).toNatClampNeg 0))), (a_6, .inl (k_13, 16, .inl (upd (upd (fun _ => 0) (0 : Int32).toNatClampNeg 1) (1 : Int32).toNatClampNeg 3))), (a_7, .inl (k_14, 16, .inl (fun _ => 0))), (a_8, .inl (k_15, 16, .inl (fun _ => 0))), (a_9, .inl (k_16, 16, .inl (fun _ => 0))), (a_10, .inl (k_17, 16, .inl (fun _ => 0))), (a_11, .inl (k_18, 8, .inr (.inr (.inr (.inr (fun _ => none)))))), (q_19, .inr (2, [.null, .null, .null, .null, .int 0, .null, .int 0, .int 0, .int 0, .int 0, .long 0, .int 0, .int 0, .int 0]))] H := hP
  have hD : va_D A [(f, .inr (4, [.ref q_1, .null, .null, .int 0])), (q_1, .inr (3, [.ref a_5, .ref a_6, .ref a_7, .int 2, .ref a_8, .ref a_9, .ref a_10, .int 0, .ref a_11, .int 0])), (a_5, .inl (k_12, 16, .inl (upd (upd (fun _ => 0) (0 : Int32).toNatClampNeg (-1)) (1 : Int32).toNatClampNeg 0))), (a_6, .inl (k_13, 16, .inl (upd (upd (fun _ => 0) (0 : Int32).toNatClampNeg 1) (1 : Int32).toNatClampNeg 3))), (a_7, .inl (k_14, 16, .inl (fun _ => 0))), (a_8, .inl (k_15, 16, .inl (fun _ => 0))), (a_9, .inl (k_16, 16, .inl (fun _ => 0))), (a_10, .inl (k_17, 16, .inl (fun _ => 0))), (a_11, .inl (k_18, 8, .inr (.inr (.inr (.inr (fun _ => none)))))), (q_19, .inr (2, [.null, .null, .null, .null, .int 0, .null, .int 0, .int 0, .int 0, .int 0, .long 0, .int 0, .int 0, .int 0]))] := hD
  refine W.widen (k := 9) (n := 128) (Nat.le_of_ble_eq_true rfl) (Nat.le_of_ble_eq_true rfl) ?_
  refine lv_dup hx hb d_F_init_19 rfl ?_
  have hPc := hP.sub (ws' := [(q_19, .inr (2, [.null, .null, .null, .null, .int 0, .null, .int 0, .int 0, .int 0, .int 0, .long 0, .int 0, .int 0, .int 0]))]) [9] rfl
  have hKc := hK.sub (tys' := []) [] rfl
  have hDc := hD.sub (ws' := [(q_19, .inr (2, [.null, .null, .null, .null, .int 0, .null, .int 0, .int 0, .int 0, .int 0, .long 0, .int 0, .int 0, .int 0]))]) [9] (by decide) rfl
  have hFc := va_free (wc := [(q_19, .inr (2, [.null, .null, .null, .null, .int 0, .null, .int 0, .int 0, .int 0, .int 0, .long 0, .int 0, .int 0, .int 0]))]) hD hS hA [9] rfl
  refine va_callv (va_runI (As := []) (rest := [.ref q_19, .ref f]) ⟨hx, hb, hml, hown, hts⟩ (k_K_init l dC dI q_19 H.size) (cwI 0 hts (gC hsub w_256) rfl rfl rfl (hts _ (hsub _ w_254)) (hts _ (hsub _ w_255)) (hts _ (hsub _ w_257)) rfl (by decide +kernel) ⟨Nat.le_of_ble_eq_true rfl, Nat.le_of_ble_eq_true rfl⟩) ⟨bl_1010, fun U hU hW => ⟨rfl, by rw [hU], by rw [hU]; exact hPc, va_K.moved hW.alike hKc, hDc.weaken (fun _ _ _ _ => trivial), exP_go hex hS (fun q h => hFc q h) U hU hW⟩⟩ rfl rfl hl.1 rfl (lv_room (Nat.le_of_ble_eq_true rfl)) d_F_init_20 ⟨Nat.le_of_ble_eq_true rfl, Nat.le_of_ble_eq_true rfl⟩) hS (fun q _ h => hFc q h) hFc (fun u_22 t H1 locs ht hvm hw hB hz1 hk1 hS => ?_)
  obtain ⟨q_23, q_24, q_25, hP1, hK1, hD1⟩ := hB
  rw [ht] at hP1
  have hK1 := va_K.moved hvm.symm hK1
  obtain ⟨hP, hD⟩ := va_join (wr := [(f, .inr (4, [.ref q_1, .null, .null, .int 0])), (q_1, .inr (3, [.ref a_5, .ref a_6, .ref a_7, .int 2, .ref a_8, .ref a_9, .ref a_10, .int 0, .ref a_11, .int 0])), (a_5, .inl (k_12, 16, .inl (upd (upd (fun _ => 0) (0 : Int32).toNatClampNeg (-1)) (1 : Int32).toNatClampNeg 0))), (a_6, .inl (k_13, 16, .inl (upd (upd (fun _ => 0) (0 : Int32).toNatClampNeg 1) (1 : Int32).toNatClampNeg 3))), (a_7, .inl (k_14, 16, .inl (fun _ => 0))), (a_8, .inl (k_15, 16, .inl (fun _ => 0))), (a_9, .inl (k_16, 16, .inl (fun _ => 0))), (a_10, .inl (k_17, 16, .inl (fun _ => 0))), (a_11, .inl (k_18, 8, .inr (.inr (.inr (.inr (fun _ => none))))))]) (w1 := [(q_19, .inr (2, [.ref q_23, .ref q_24, .ref q_25, .null, .int 0, .null, .int 0, .int 0, .int 0, .int 0, .long 0, .int (-1), .int 0, .int (-1)]))]) hP hD [9] [0, 1, 2, 3, 4, 5, 6, 7, 8] rfl rfl (by decide) (by decide) hk1 hFc hP1 hD1
  have hK := (hK.sub (tys' := [(k_12, .int), (k_13, .int), (k_14, .boolean), (k_15, .int), (k_16, .int), (k_17, .boolean), (k_18, .object "MapFramer$Method")]) [0, 1, 2, 3, 4, 5, 6] rfl).app hK1
  generalize H1 = H at hP hS ⊢
  have hP : va_P (dC, dI) vwCl [(f, .inr (4, [.ref q_1, .null, .null, .int 0])), (q_1, .inr (3, [.ref a_5, .ref a_6, .ref a_7, .int 2, .ref a_8, .ref a_9, .ref a_10, .int 0, .ref a_11, .int 0])), (a_5, .inl (k_12, 16, .inl (upd (upd (fun _ => 0) (0 : Int32).toNatClampNeg (-1)) (1 : Int32).toNatClampNeg 0))), (a_6, .inl (k_13, 16, .inl (upd (upd (fun _ => 0) (0 : Int32).toNatClampNeg 1) (1 : Int32).toNatClampNeg 3))), (a_7, .inl (k_14, 16, .inl (fun _ => 0))), (a_8, .inl (k_15, 16, .inl (fun _ => 0))), (a_9, .inl (k_16, 16, .inl (fun _ => 0))), (a_10, .inl (k_17, 16, .inl (fun _ => 0))), (a_11, .inl (k_18, 8, .inr (.inr (.inr (.inr (fun _ => none)))))), (q_19, .inr (2, [.ref q_23, .ref q_24, .ref q_25, .null, .int 0, .null, .int 0, .int 0, .int 0, .int 0, .long 0, .int (-1), .int 0, .int (-1)]))] H := hP
  have hD : va_D A [(f, .inr (4, [.ref q_1, .null, .null, .int 0])), (q_1, .inr (3, [.ref a_5, .ref a_6, .ref a_7, .int 2, .ref a_8, .ref a_9, .ref a_10, .int 0, .ref a_11, .int 0])), (a_5, .inl (k_12, 16, .inl (upd (upd (fun _ => 0) (0 : Int32).toNatClampNeg (-1)) (1 : Int32).toNatClampNeg 0))), (a_6, .inl (k_13, 16, .inl (upd (upd (fun _ => 0) (0 : Int32).toNatClampNeg 1) (1 : Int32).toNatClampNeg 3))), (a_7, .inl (k_14, 16, .inl (fun _ => 0))), (a_8, .inl (k_15, 16, .inl (fun _ => 0))), (a_9, .inl (k_16, 16, .inl (fun _ => 0))), (a_10, .inl (k_17, 16, .inl (fun _ => 0))), (a_11, .inl (k_18, 8, .inr (.inr (.inr (.inr (fun _ => none)))))), (q_19, .inr (2, [.ref q_23, .ref q_24, .ref q_25, .null, .int 0, .null, .int 0, .int 0, .int 0, .int 0, .long 0, .int (-1), .int 0, .int (-1)]))] := hD
  have hK : va_K (dC, dI) vwCl [(k_12, .int), (k_13, .int), (k_14, .boolean), (k_15, .int), (k_16, .int), (k_17, .boolean), (k_18, .object "MapFramer$Method")] s := hK
  refine W.widen (k := 87) (n := 4768) (Nat.le_of_ble_eq_true rfl) (Nat.le_of_ble_eq_true rfl) ?_
  refine va_putF (D := (dC, dI)) (ci := 4) (v := .ref q_19) (ty := (.object "MapFramer$Machine")) (C := R_F) (T := T_F) (N := 4) hx hb hts (fun w h => hsub w (uw_F w h)) ty_F tok_F nm_F hown hK hP hD hS 0 rfl rfl 1 (by decide) (hts _ (hsub _ w_218)) (fun _ h9 => h9) rfl hin rfl (by decide +kernel) rfl rfl (Nat.le_of_ble_eq_true rfl) d_F_init_23 (fun H locs hP hD hS => ?_)
  have hP : va_P (dC, dI) vwCl [(f, .inr (4, [.ref q_1, .ref q_19, .null, .int 0])), (q_1, .inr (3, [.ref a_5, .ref a_6, .ref a_7, .int 2, .ref a_8, .ref a_9, .ref a_10, .int 0, .ref a_11, .int 0])), (a_5, .inl (k_12, 16, .inl (upd (upd (fun _ => 0) (0 : Int32).toNatClampNeg (-1)) (1 : Int32).toNatClampNeg 0))), (a_6, .inl (k_13, 16, .inl (upd (upd (fun _ => 0) (0 : Int32).toNatClampNeg 1) (1 : Int32).toNatClampNeg 3))), (a_7, .inl (k_14, 16, .inl (fun _ => 0))), (a_8, .inl (k_15, 16, .inl (fun _ => 0))), (a_9, .inl (k_16, 16, .inl (fun _ => 0))), (a_10, .inl (k_17, 16, .inl (fun _ => 0))), (a_11, .inl (k_18, 8, .inr (.inr (.inr (.inr (fun _ => none)))))), (q_19, .inr (2, [.ref q_23, .ref q_24, .ref q_25, .null, .int 0, .null, .int 0, .int 0, .int 0, .int 0, .long 0, .int (-1), .int 0, .int (-1)]))] H := hP
  have hD : va_D A [(f, .inr (4, [.ref q_1, .ref q_19, .null, .int 0])), (q_1, .inr (3, [.ref a_5, .ref a_6, .ref a_7, .int 2, .ref a_8, .ref a_9, .ref a_10, .int 0, .ref a_11, .int 0])), (a_5, .inl (k_12, 16, .inl (upd (upd (fun _ => 0) (0 : Int32).toNatClampNeg (-1)) (1 : Int32).toNatClampNeg 0))), (a_6, .inl (k_13, 16, .inl (upd (upd (fun _ => 0) (0 : Int32).toNatClampNeg 1) (1 : Int32).toNatClampNeg 3))), (a_7, .inl (k_14, 16, .inl (fun _ => 0))), (a_8, .inl (k_15, 16, .inl (fun _ => 0))), (a_9, .inl (k_16, 16, .inl (fun _ => 0))), (a_10, .inl (k_17, 16, .inl (fun _ => 0))), (a_11, .inl (k_18, 8, .inr (.inr (.inr (.inr (fun _ => none)))))), (q_19, .inr (2, [.ref q_23, .ref q_24, .ref q_25, .null, .int 0, .null, .int 0, .int 0, .int 0, .int 0, .long 0, .int (-1), .int 0, .int (-1)]))] := hD
  refine lv_aload_n hx hb d_F_init_26 rfl (lv_at hl 0 rfl) ?_
  refine lv_sipush (v := 400) hx hb d_F_init_27 (by decide) ?_
  refine va_newa (atype := .int) (ty := .int) (N' := 400) (a0 := (400, .inl (fun _ => 0))) hx hb (hts _ (hsub _ w_156)) rfl hK hP hD hS hA (fun _ => vz_i _ _) (by decide) (by decide) (Nat.le_of_ble_eq_true rfl) (Nat.le_of_ble_eq_true rfl) (Nat.le_of_ble_eq_true rfl) d_F_init_30 (fun q_26 k_27 H hK hP hD hS => ?_)
  have hK : va_K (dC, dI) vwCl [(k_12, .int), (k_13, .int), (k_14, .boolean), (k_15, .int), (k_16, .int), (k_17, .boolean), (k_18, .object "MapFramer$Method"), (k_27, .int)] s := hK
  have hP : va_P (dC, dI) vwCl [(f, .inr (4, [.ref q_1, .ref q_19, .null, .int 0])), (q_1, .inr (3, [.ref a_5, .ref a_6, .ref a_7, .int 2, .ref a_8, .ref a_9, .ref a_10, .int 0, .ref a_11, .int 0])), (a_5, .inl (k_12, 16, .inl (upd (upd (fun _ => 0) (0 : Int32).toNatClampNeg (-1)) (1 : Int32).toNatClampNeg 0))), (a_6, .inl (k_13, 16, .inl (upd (upd (fun _ => 0) (0 : Int32).toNatClampNeg 1) (1 : Int32).toNatClampNeg 3))), (a_7, .inl (k_14, 16, .inl (fun _ => 0))), (a_8, .inl (k_15, 16, .inl (fun _ => 0))), (a_9, .inl (k_16, 16, .inl (fun _ => 0))), (a_10, .inl (k_17, 16, .inl (fun _ => 0))), (a_11, .inl (k_18, 8, .inr (.inr (.inr (.inr (fun _ => none)))))), (q_19, .inr (2, [.ref q_23, .ref q_24, .ref q_25, .null, .int 0, .null, .int 0, .int 0, .int 0, .int 0, .long 0, .int (-1), .int 0, .int (-1)])), (q_26, .inl (k_27, 400, .inl (fun _ => 0)))] H := hP
  have hD : va_D A [(f, .inr (4, [.ref q_1, .ref q_19, .null, .int 0])), (q_1, .inr (3, [.ref a_5, .ref a_6, .ref a_7, .int 2, .ref a_8, .ref a_9, .ref a_10, .int 0, .ref a_11, .int 0])), (a_5, .inl (k_12, 16, .inl (upd (upd (fun _ => 0) (0 : Int32).toNatClampNeg (-1)) (1 : Int32).toNatClampNeg 0))), (a_6, .inl (k_13, 16, .inl (upd (upd (fun _ => 0) (0 : Int32).toNatClampNeg 1) (1 : Int32).toNatClampNeg 3))), (a_7, .inl (k_14, 16, .inl (fun _ => 0))), (a_8, .inl (k_15, 16, .inl (fun _ => 0))), (a_9, .inl (k_16, 16, .inl (fun _ => 0))), (a_10, .inl (k_17, 16, .inl (fun _ => 0))), (a_11, .inl (k_18, 8, .inr (.inr (.inr (.inr (fun _ => none)))))), (q_19, .inr (2, [.ref q_23, .ref q_24, .ref q_25, .null, .int 0, .null, .int 0, .int 0, .int 0, .int 0, .long 0, .int (-1), .int 0, .int (-1)])), (q_26, .inl (k_27, 400, .inl (fun _ => 0)))] := hD
  refine W.widen (k := 88) (n := 5168) (Nat.le_of_ble_eq_true rfl) (Nat.le_of_ble_eq_true rfl) ?_
  refine va_putF (D := (dC, dI)) (ci := 4) (v := .ref q_26) (ty := (.array .int)) (C := R_F) (T := T_F) (N := 4) hx hb hts (fun w h => hsub w (uw_F w h)) ty_F tok_F nm_F hown hK hP hD hS 0 rfl rfl 2 (by decide) (hts _ (hsub _ w_211)) (fun _ h9 => h9) rfl hin rfl (by decide +kernel) rfl rfl (Nat.le_of_ble_eq_true rfl) d_F_init_32 (fun H locs hP hD hS => ?_)
  have hP : va_P (dC, dI) vwCl [(f, .inr (4, [.ref q_1, .ref q_19, .ref q_26, .int 0])), (q_1, .inr (3, [.ref a_5, .ref a_6, .ref a_7, .int 2, .ref a_8, .ref a_9, .ref a_10, .int 0, .ref a_11, .int 0])), (a_5, .inl (k_12, 16, .inl (upd (upd (fun _ => 0) (0 : Int32).toNatClampNeg (-1)) (1 : Int32).toNatClampNeg 0))), (a_6, .inl (k_13, 16, .inl (upd (upd (fun _ => 0) (0 : Int32).toNatClampNeg 1) (1 : Int32).toNatClampNeg 3))), (a_7, .inl (k_14, 16, .inl (fun _ => 0))), (a_8, .inl (k_15, 16, .inl (fun _ => 0))), (a_9, .inl (k_16, 16, .inl (fun _ => 0))), (a_10, .inl (k_17, 16, .inl (fun _ => 0))), (a_11, .inl (k_18, 8, .inr (.inr (.inr (.inr (fun _ => none)))))), (q_19, .inr (2, [.ref q_23, .ref q_24, .ref q_25, .null, .int 0, .null, .int 0, .int 0, .int 0, .int 0, .long 0, .int (-1), .int 0, .int (-1)])), (q_26, .inl (k_27, 400, .inl (fun _ => 0)))] H := hP
  have hD : va_D A [(f, .inr (4, [.ref q_1, .ref q_19, .ref q_26, .int 0])), (q_1, .inr (3, [.ref a_5, .ref a_6, .ref a_7, .int 2, .ref a_8, .ref a_9, .ref a_10, .int 0, .ref a_11, .int 0])), (a_5, .inl (k_12, 16, .inl (upd (upd (fun _ => 0) (0 : Int32).toNatClampNeg (-1)) (1 : Int32).toNatClampNeg 0))), (a_6, .inl (k_13, 16, .inl (upd (upd (fun _ => 0) (0 : Int32).toNatClampNeg 1) (1 : Int32).toNatClampNeg 3))), (a_7, .inl (k_14, 16, .inl (fun _ => 0))), (a_8, .inl (k_15, 16, .inl (fun _ => 0))), (a_9, .inl (k_16, 16, .inl (fun _ => 0))), (a_10, .inl (k_17, 16, .inl (fun _ => 0))), (a_11, .inl (k_18, 8, .inr (.inr (.inr (.inr (fun _ => none)))))), (q_19, .inr (2, [.ref q_23, .ref q_24, .ref q_25, .null, .int 0, .null, .int 0, .int 0, .int 0, .int 0, .long 0, .int (-1), .int 0, .int (-1)])), (q_26, .inl (k_27, 400, .inl (fun _ => 0)))] := hD
  refine lv_aload_n hx hb d_F_init_35 rfl (lv_at hl 0 rfl) ?_
  refine lv_iconst (v := 0) hx hb d_F_init_36 (by decide) ?_
  refine va_put (D := (dC, dI)) (ci := 4) (v := .int 0) (ty := .int) (C := R_F) (T := T_F) (N := 4) hx hb hts (fun w h => hsub w (uw_F w h)) ty_F tok_F nm_F hown hK hP hD hS 0 rfl rfl 3 (by decide) (hts _ (hsub _ w_210)) (fun _ h9 => h9) rfl (by decide +kernel) rfl rfl (Nat.le_of_ble_eq_true rfl) d_F_init_37 (fun H locs hP hD hS => ?_)
  have hP : va_P (dC, dI) vwCl [(f, .inr (4, [.ref q_1, .ref q_19, .ref q_26, .int 0])), (q_1, .inr (3, [.ref a_5, .ref a_6, .ref a_7, .int 2, .ref a_8, .ref a_9, .ref a_10, .int 0, .ref a_11, .int 0])), (a_5, .inl (k_12, 16, .inl (upd (upd (fun _ => 0) (0 : Int32).toNatClampNeg (-1)) (1 : Int32).toNatClampNeg 0))), (a_6, .inl (k_13, 16, .inl (upd (upd (fun _ => 0) (0 : Int32).toNatClampNeg 1) (1 : Int32).toNatClampNeg 3))), (a_7, .inl (k_14, 16, .inl (fun _ => 0))), (a_8, .inl (k_15, 16, .inl (fun _ => 0))), (a_9, .inl (k_16, 16, .inl (fun _ => 0))), (a_10, .inl (k_17, 16, .inl (fun _ => 0))), (a_11, .inl (k_18, 8, .inr (.inr (.inr (.inr (fun _ => none)))))), (q_19, .inr (2, [.ref q_23, .ref q_24, .ref q_25, .null, .int 0, .null, .int 0, .int 0, .int 0, .int 0, .long 0, .int (-1), .int 0, .int (-1)])), (q_26, .inl (k_27, 400, .inl (fun _ => 0)))] H := hP
  have hD : va_D A [(f, .inr (4, [.ref q_1, .ref q_19, .ref q_26, .int 0])), (q_1, .inr (3, [.ref a_5, .ref a_6, .ref a_7, .int 2, .ref a_8, .ref a_9, .ref a_10, .int 0, .ref a_11, .int 0])), (a_5, .inl (k_12, 16, .inl (upd (upd (fun _ => 0) (0 : Int32).toNatClampNeg (-1)) (1 : Int32).toNatClampNeg 0))), (a_6, .inl (k_13, 16, .inl (upd (upd (fun _ => 0) (0 : Int32).toNatClampNeg 1) (1 : Int32).toNatClampNeg 3))), (a_7, .inl (k_14, 16, .inl (fun _ => 0))), (a_8, .inl (k_15, 16, .inl (fun _ => 0))), (a_9, .inl (k_16, 16, .inl (fun _ => 0))), (a_10, .inl (k_17, 16, .inl (fun _ => 0))), (a_11, .inl (k_18, 8, .inr (.inr (.inr (.inr (fun _ => none)))))), (q_19, .inr (2, [.ref q_23, .ref q_24, .ref q_25, .null, .int 0, .null, .int 0, .int 0, .int 0, .int 0, .long 0, .int (-1), .int 0, .int (-1)])), (q_26, .inl (k_27, 400, .inl (fun _ => 0)))] := hD
  refine W.widen (k := 88) (n := 5168) (Nat.le_of_ble_eq_true rfl) (Nat.le_of_ble_eq_true rfl) ?_
  exact W.vret hx hb hr (fun t ht hW => ⟨⟨(), rfl, trivial, q_1, a_5, a_6, a_7, a_8, a_9, a_10, a_11, q_19, q_23, q_24, q_25, q_26, k_12, k_13, k_14, k_15, k_16, k_17, k_18, k_27, by rw [ht]; exact hP.sub [0, 1, 2, 3, 4, 5, 6, 7, 8, 9, 10] rfl, va_K.moved hW.alike (hK.sub (tys' := [(k_12, .int), (k_13, .int), (k_14, .boolean), (k_15, .int), (k_16, .int), (k_17, .boolean), (k_18, .object "MapFramer$Method"), (k_27, .int)]) [0, 1, 2, 3, 4, 5, 6, 7] rfl), hD.sub [0, 1, 2, 3, 4, 5, 6, 7, 8, 9, 10] (by decide) rfl⟩, hS.F ht⟩) hS.2.2 d_F_init_40

