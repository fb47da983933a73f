abbrev y_F_cls : MethodName := ⟨"MapFramer", "cls", "(IZ)I"⟩
abbrev y_F_field : MethodName := ⟨"MapFramer", "field", "(IIZ)I"⟩
abbrev y_F_method : MethodName := ⟨"MapFramer", "method", "(II)I"⟩
abbrev y_F_feed : MethodName := ⟨"MapFramer", "feed", "(I)Z"⟩
abbrev y_F_code : MethodName := ⟨"MapFramer", "code", "(IIII)V"⟩
abbrev y_F_handler : MethodName := ⟨"MapFramer", "handler", "(IIIII)I"⟩
abbrev y_F_verify : MethodName := ⟨"MapFramer", "verify", "(I)I"⟩
abbrev y_F_about : MethodName := ⟨"MapFramer", "about", "(II)I"⟩
abbrev y_F_codeAt : MethodName := ⟨"MapFramer", "codeAt", "(II)I"⟩
abbrev y_F_frameAt : MethodName := ⟨"MapFramer", "frameAt", "(II)I"⟩
abbrev y_F_handlerAt : MethodName := ⟨"MapFramer", "handlerAt", "(III)I"⟩
abbrev y_F_typeAt : MethodName := ⟨"MapFramer", "typeAt", "(III)I"⟩
abbrev y_F_run : MethodName := ⟨"MapFramer", "run", "(IJJI)J"⟩
abbrev y_F_end : MethodName := ⟨"MapFramer", "end", "(I)I"⟩
abbrev y_F_count : MethodName := ⟨"MapFramer", "count", "(I)I"⟩
theorem w_181 : (Cond.fieldLink "MapFramer" 10 "MapFramer" "world" "LMapFramer$World;" : Cond) ∈ bigW := inB_1 190 (by decide +kernel) rfl
theorem w_182 : (Cond.fieldLink "MapFramer" 42 "MapFramer$World" "classCount" "I" : Cond) ∈ bigW := inB_1 57 (by decide +kernel) rfl
theorem w_183 : (Cond.methodLink "MapFramer" 50 ⟨"MapFramer$World", "addClass", "(IZ)I"⟩ : Cond) ∈ bigW := inB_2 78 (by decide +kernel) rfl
theorem w_184 : (Cond.instanceMethod ⟨"MapFramer$World", "addClass", "(IZ)I"⟩ : Cond) ∈ bigW := inB_2 79 (by decide +kernel) rfl
theorem w_185 : (Cond.selects "MapFramer$World" ⟨"MapFramer$World", "addClass", "(IZ)I"⟩ ⟨"MapFramer$World", "addClass", "(IZ)I"⟩ : Cond) ∈ bigW := inB_2 80 (by decide +kernel) rfl
theorem w_186 : (Cond.code ⟨"MapFramer$World", "addClass", "(IZ)I"⟩ prog_12_method_2_code 3 (some .int) : Cond) ∈ bigW := inB_2 81 rfl rfl
theorem w_187 : (Cond.methodLink "MapFramer" 31 ⟨"MapFramer$World", "isProperClass", "(I)Z"⟩ : Cond) ∈ bigW := inB_1 224 (by decide +kernel) rfl
theorem w_188 : (Cond.instanceMethod ⟨"MapFramer$World", "isProperClass", "(I)Z"⟩ : Cond) ∈ bigW := inB_1 225 (by decide +kernel) rfl
theorem w_189 : (Cond.selects "MapFramer$World" ⟨"MapFramer$World", "isProperClass", "(I)Z"⟩ ⟨"MapFramer$World", "isProperClass", "(I)Z"⟩ : Cond) ∈ bigW := inB_1 226 (by decide +kernel) rfl
theorem w_190 : (Cond.code ⟨"MapFramer$World", "isProperClass", "(I)Z"⟩ prog_12_method_9_code 2 (some .boolean) : Cond) ∈ bigW := inB_1 227 rfl rfl
theorem w_191 : (Cond.classLink "MapFramer" 35 "java/lang/IllegalArgumentException" : Cond) ∈ bigW := inB_1 232 (by decide +kernel) rfl
theorem w_192 : (Cond.initialized "java/lang/IllegalArgumentException" : Cond) ∈ bigW := inB_1 10 (by decide +kernel) rfl
theorem w_193 : (Cond.methodLink "MapFramer" 54 ⟨"MapFramer$World", "hasClass", "(I)Z"⟩ : Cond) ∈ bigW := inB_2 89 (by decide +kernel) rfl
theorem w_194 : (Cond.methodLink "MapFramer" 57 ⟨"MapFramer$World", "isValueType", "(I)Z"⟩ : Cond) ∈ bigW := inB_2 90 (by decide +kernel) rfl
theorem w_195 : (Cond.instanceMethod ⟨"MapFramer$World", "isValueType", "(I)Z"⟩ : Cond) ∈ bigW := inB_2 91 (by decide +kernel) rfl
theorem w_196 : (Cond.selects "MapFramer$World" ⟨"MapFramer$World", "isValueType", "(I)Z"⟩ ⟨"MapFramer$World", "isValueType", "(I)Z"⟩ : Cond) ∈ bigW := inB_2 92 (by decide +kernel) rfl
theorem w_197 : (Cond.code ⟨"MapFramer$World", "isValueType", "(I)Z"⟩ prog_12_method_11_code 2 (some .boolean) : Cond) ∈ bigW := inB_2 93 rfl rfl
theorem w_198 : (Cond.fieldLink "MapFramer" 64 "MapFramer$World" "fieldCount" "I" : Cond) ∈ bigW := inB_1 62 (by decide +kernel) rfl
theorem w_199 : (Cond.methodLink "MapFramer" 69 ⟨"MapFramer$World", "addField", "(IIZ)I"⟩ : Cond) ∈ bigW := inB_2 97 (by decide +kernel) rfl
theorem w_200 : (Cond.instanceMethod ⟨"MapFramer$World", "addField", "(IIZ)I"⟩ : Cond) ∈ bigW := inB_2 98 (by decide +kernel) rfl
theorem w_201 : (Cond.selects "MapFramer$World" ⟨"MapFramer$World", "addField", "(IIZ)I"⟩ ⟨"MapFramer$World", "addField", "(IIZ)I"⟩ : Cond) ∈ bigW := inB_2 99 (by decide +kernel) rfl
theorem w_202 : (Cond.code ⟨"MapFramer$World", "addField", "(IIZ)I"⟩ prog_12_method_3_code 4 (some .int) : Cond) ∈ bigW := inB_2 100 rfl rfl
theorem w_203 : (Cond.methodLink "MapFramer" 73 ⟨"MapFramer$World", "argumentCount", "(I)I"⟩ : Cond) ∈ bigW := inB_2 108 (by decide +kernel) rfl
theorem w_204 : (Cond.fieldLink "MapFramer" 85 "MapFramer$World" "methodCount" "I" : Cond) ∈ bigW := inB_1 65 (by decide +kernel) rfl
theorem w_205 : (Cond.methodLink "MapFramer" 90 ⟨"MapFramer$World", "addMethod", "(II)I"⟩ : Cond) ∈ bigW := inB_2 118 (by decide +kernel) rfl
theorem w_206 : (Cond.instanceMethod ⟨"MapFramer$World", "addMethod", "(II)I"⟩ : Cond) ∈ bigW := inB_2 119 (by decide +kernel) rfl
theorem w_207 : (Cond.selects "MapFramer$World" ⟨"MapFramer$World", "addMethod", "(II)I"⟩ ⟨"MapFramer$World", "addMethod", "(II)I"⟩ : Cond) ∈ bigW := inB_2 120 (by decide +kernel) rfl
theorem w_208 : (Cond.code ⟨"MapFramer$World", "addMethod", "(II)I"⟩ prog_12_method_4_code 5 (some .int) : Cond) ∈ bigW := inB_2 121 rfl rfl
theorem w_209 : (Cond.methodLink "MapFramer" 77 ⟨"MapFramer$World", "argumentType", "(II)I"⟩ : Cond) ∈ bigW := inB_2 114 (by decide +kernel) rfl
theorem w_210 : (Cond.fieldLink "MapFramer" 27 "MapFramer" "tapeLength" "I" : Cond) ∈ bigW := inB_1 193 (by decide +kernel) rfl
theorem w_211 : (Cond.fieldLink "MapFramer" 23 "MapFramer" "tape" "[I" : Cond) ∈ bigW := inB_1 192 (by decide +kernel) rfl
theorem w_212 : (Cond.methodLink "MapFramer" 93 ⟨"MapFramer$World", "methodAt", "(I)LMapFramer$Method;"⟩ : Cond) ∈ bigW := inB_2 227 (by decide +kernel) rfl
theorem w_213 : (Cond.instanceMethod ⟨"MapFramer$World", "methodAt", "(I)LMapFramer$Method;"⟩ : Cond) ∈ bigW := inB_2 228 (by decide +kernel) rfl
theorem w_214 : (Cond.selects "MapFramer$World" ⟨"MapFramer$World", "methodAt", "(I)LMapFramer$Method;"⟩ ⟨"MapFramer$World", "methodAt", "(I)LMapFramer$Method;"⟩ : Cond) ∈ bigW := inB_2 229 (by decide +kernel) rfl
theorem w_215 : (Cond.code ⟨"MapFramer$World", "methodAt", "(I)LMapFramer$Method;"⟩ prog_12_method_7_code 2 (some (.object "MapFramer$Method")) : Cond) ∈ bigW := inB_2 230 rfl rfl
theorem w_216 : (Cond.classLink "MapFramer" 204 "java/lang/IndexOutOfBoundsException" : Cond) ∈ bigW := inB_7 23 (by decide +kernel) rfl
theorem w_217 : (Cond.initialized "java/lang/IndexOutOfBoundsException" : Cond) ∈ bigW := inB_1 27 (by decide +kernel) rfl
theorem w_218 : (Cond.fieldLink "MapFramer" 19 "MapFramer" "machine" "LMapFramer$Machine;" : Cond) ∈ bigW := inB_1 191 (by decide +kernel) rfl
theorem w_219 : (Cond.fieldLink "MapFramer" 275 "MapFramer$Machine" "outcome" "I" : Cond) ∈ bigW := inB_1 156 (by decide +kernel) rfl
theorem d_F_cls_0 : decode prog_1_method_2_code 0 = .ok (.iload_n 2, 1) := by decide +kernel
theorem d_F_cls_1 : decode prog_1_method_2_code 1 = .ok (.ifCond .ne 24, 3) := by decide +kernel
theorem d_F_cls_4 : decode prog_1_method_2_code 4 = .ok (.aload_n 0, 1) := by decide +kernel
theorem d_F_cls_5 : decode prog_1_method_2_code 5 = .ok (.getfield 10, 3) := by decide +kernel
theorem d_F_cls_8 : decode prog_1_method_2_code 8 = .ok (.iload_n 1, 1) := by decide +kernel
theorem d_F_cls_9 : decode prog_1_method_2_code 9 = .ok (.invokevirtual 31, 3) := by decide +kernel
theorem d_F_cls_12 : decode prog_1_method_2_code 12 = .ok (.ifCond .ne 13, 3) := by decide +kernel
theorem d_F_cls_15 : decode prog_1_method_2_code 15 = .ok (.new 35, 3) := by decide +kernel
theorem d_F_cls_18 : decode prog_1_method_2_code 18 = .ok (.dup, 1) := by decide +kernel
theorem d_F_cls_19 : decode prog_1_method_2_code 19 = .ok (.ldc 37, 2) := by decide +kernel
theorem d_F_cls_21 : decode prog_1_method_2_code 21 = .ok (.invokespecial 39, 3) := by decide +kernel
theorem d_F_cls_24 : decode prog_1_method_2_code 24 = .ok (.athrow, 1) := by decide +kernel
theorem d_F_cls_25 : decode prog_1_method_2_code 25 = .ok (.aload_n 0, 1) := by decide +kernel
theorem d_F_cls_26 : decode prog_1_method_2_code 26 = .ok (.getfield 10, 3) := by decide +kernel
theorem d_F_cls_29 : decode prog_1_method_2_code 29 = .ok (.getfield 42, 3) := by decide +kernel
theorem d_F_cls_32 : decode prog_1_method_2_code 32 = .ok (.bipush 16, 2) := by decide +kernel
theorem d_F_cls_34 : decode prog_1_method_2_code 34 = .ok (.if_icmp .lt 13, 3) := by decide +kernel
theorem d_F_cls_47 : decode prog_1_method_2_code 47 = .ok (.aload_n 0, 1) := by decide +kernel
theorem d_F_cls_48 : decode prog_1_method_2_code 48 = .ok (.getfield 10, 3) := by decide +kernel
theorem d_F_cls_51 : decode prog_1_method_2_code 51 = .ok (.iload_n 2, 1) := by decide +kernel
theorem d_F_cls_52 : decode prog_1_method_2_code 52 = .ok (.ifCond .eq 7, 3) := by decide +kernel
theorem d_F_cls_55 : decode prog_1_method_2_code 55 = .ok (.iconst 0, 1) := by decide +kernel
theorem d_F_cls_56 : decode prog_1_method_2_code 56 = .ok (.goto 4, 3) := by decide +kernel
theorem d_F_cls_59 : decode prog_1_method_2_code 59 = .ok (.iload_n 1, 1) := by decide +kernel
theorem d_F_cls_60 : decode prog_1_method_2_code 60 = .ok (.iload_n 2, 1) := by decide +kernel
theorem d_F_cls_61 : decode prog_1_method_2_code 61 = .ok (.invokevirtual 50, 3) := by decide +kernel
theorem d_F_cls_64 : decode prog_1_method_2_code 64 = .ok (.ireturn, 1) := by decide +kernel
theorem d_F_field_0 : decode prog_1_method_3_code 0 = .ok (.aload_n 0, 1) := by decide +kernel
theorem d_F_field_1 : decode prog_1_method_3_code 1 = .ok (.getfield 10, 3) := by decide +kernel
theorem d_F_field_4 : decode prog_1_method_3_code 4 = .ok (.iload_n 1, 1) := by decide +kernel
theorem d_F_field_5 : decode prog_1_method_3_code 5 = .ok (.invokevirtual 54, 3) := by decide +kernel
theorem d_F_field_8 : decode prog_1_method_3_code 8 = .ok (.ifCond .eq 14, 3) := by decide +kernel
theorem d_F_field_11 : decode prog_1_method_3_code 11 = .ok (.aload_n 0, 1) := by decide +kernel
theorem d_F_field_12 : decode prog_1_method_3_code 12 = .ok (.getfield 10, 3) := by decide +kernel
theorem d_F_field_15 : decode prog_1_method_3_code 15 = .ok (.iload_n 2, 1) := by decide +kernel
theorem d_F_field_16 : decode prog_1_method_3_code 16 = .ok (.invokevirtual 57, 3) := by decide +kernel
theorem d_F_field_19 : decode prog_1_method_3_code 19 = .ok (.ifCond .ne 13, 3) := by decide +kernel
theorem d_F_field_22 : decode prog_1_method_3_code 22 = .ok (.new 35, 3) := by decide +kernel
theorem d_F_field_25 : decode prog_1_method_3_code 25 = .ok (.dup, 1) := by decide +kernel
theorem d_F_field_26 : decode prog_1_method_3_code 26 = .ok (.ldc 60, 2) := by decide +kernel
theorem d_F_field_28 : decode prog_1_method_3_code 28 = .ok (.invokespecial 39, 3) := by decide +kernel
theorem d_F_field_31 : decode prog_1_method_3_code 31 = .ok (.athrow, 1) := by decide +kernel
theorem d_F_field_32 : decode prog_1_method_3_code 32 = .ok (.iload_n 3, 1) := by decide +kernel
theorem d_F_field_33 : decode prog_1_method_3_code 33 = .ok (.ifCond .ne 28, 3) := by decide +kernel
theorem d_F_field_36 : decode prog_1_method_3_code 36 = .ok (.iload_n 1, 1) := by decide +kernel
theorem d_F_field_37 : decode prog_1_method_3_code 37 = .ok (.ifCond .eq 14, 3) := by decide +kernel
theorem d_F_field_40 : decode prog_1_method_3_code 40 = .ok (.aload_n 0, 1) := by decide +kernel
theorem d_F_field_41 : decode prog_1_method_3_code 41 = .ok (.getfield 10, 3) := by decide +kernel
theorem d_F_field_44 : decode prog_1_method_3_code 44 = .ok (.iload_n 1, 1) := by decide +kernel
theorem d_F_field_45 : decode prog_1_method_3_code 45 = .ok (.invokevirtual 31, 3) := by decide +kernel
theorem d_F_field_48 : decode prog_1_method_3_code 48 = .ok (.ifCond .ne 13, 3) := by decide +kernel
theorem d_F_field_51 : decode prog_1_method_3_code 51 = .ok (.new 35, 3) := by decide +kernel
theorem d_F_field_54 : decode prog_1_method_3_code 54 = .ok (.dup, 1) := by decide +kernel
theorem d_F_field_55 : decode prog_1_method_3_code 55 = .ok (.ldc 62, 2) := by decide +kernel
theorem d_F_field_57 : decode prog_1_method_3_code 57 = .ok (.invokespecial 39, 3) := by decide +kernel
theorem d_F_field_60 : decode prog_1_method_3_code 60 = .ok (.athrow, 1) := by decide +kernel
theorem d_F_field_61 : decode prog_1_method_3_code 61 = .ok (.aload_n 0, 1) := by decide +kernel
theorem d_F_field_62 : decode prog_1_method_3_code 62 = .ok (.getfield 10, 3) := by decide +kernel
theorem d_F_field_65 : decode prog_1_method_3_code 65 = .ok (.getfield 64, 3) := by decide +kernel
theorem d_F_field_68 : decode prog_1_method_3_code 68 = .ok (.bipush 16, 2) := by decide +kernel
theorem d_F_field_70 : decode prog_1_method_3_code 70 = .ok (.if_icmp .lt 13, 3) := by decide +kernel
theorem d_F_field_83 : decode prog_1_method_3_code 83 = .ok (.aload_n 0, 1) := by decide +kernel
theorem d_F_field_84 : decode prog_1_method_3_code 84 = .ok (.getfield 10, 3) := by decide +kernel
theorem d_F_field_87 : decode prog_1_method_3_code 87 = .ok (.iload_n 1, 1) := by decide +kernel
theorem d_F_field_88 : decode prog_1_method_3_code 88 = .ok (.iload_n 2, 1) := by decide +kernel
theorem d_F_field_89 : decode prog_1_method_3_code 89 = .ok (.iload_n 3, 1) := by decide +kernel
theorem d_F_field_90 : decode prog_1_method_3_code 90 = .ok (.invokevirtual 69, 3) := by decide +kernel
theorem d_F_field_93 : decode prog_1_method_3_code 93 = .ok (.ireturn, 1) := by decide +kernel
theorem d_F_method_0 : decode prog_1_method_4_code 0 = .ok (.iload_n 1, 1) := by decide +kernel
theorem d_F_method_1 : decode prog_1_method_4_code 1 = .ok (.invokestatic 73, 3) := by decide +kernel
theorem d_F_method_4 : decode prog_1_method_4_code 4 = .ok (.istore_n 3, 1) := by decide +kernel
theorem d_F_method_5 : decode prog_1_method_4_code 5 = .ok (.iconst 0, 1) := by decide +kernel
theorem d_F_method_6 : decode prog_1_method_4_code 6 = .ok (.istore 4, 2) := by decide +kernel
theorem d_F_method_8 : decode prog_1_method_4_code 8 = .ok (.iload 4, 2) := by decide +kernel
theorem d_F_method_10 : decode prog_1_method_4_code 10 = .ok (.iload_n 3, 1) := by decide +kernel
theorem d_F_method_11 : decode prog_1_method_4_code 11 = .ok (.if_icmp .ge 35, 3) := by decide +kernel
theorem d_F_method_14 : decode prog_1_method_4_code 14 = .ok (.aload_n 0, 1) := by decide +kernel
theorem d_F_method_15 : decode prog_1_method_4_code 15 = .ok (.getfield 10, 3) := by decide +kernel
theorem d_F_method_18 : decode prog_1_method_4_code 18 = .ok (.iload_n 1, 1) := by decide +kernel
theorem d_F_method_19 : decode prog_1_method_4_code 19 = .ok (.iload 4, 2) := by decide +kernel
theorem d_F_method_21 : decode prog_1_method_4_code 21 = .ok (.invokestatic 77, 3) := by decide +kernel
theorem d_F_method_24 : decode prog_1_method_4_code 24 = .ok (.invokevirtual 57, 3) := by decide +kernel
theorem d_F_method_27 : decode prog_1_method_4_code 27 = .ok (.ifCond .ne 13, 3) := by decide +kernel
theorem d_F_method_30 : decode prog_1_method_4_code 30 = .ok (.new 35, 3) := by decide +kernel
theorem d_F_method_33 : decode prog_1_method_4_code 33 = .ok (.dup, 1) := by decide +kernel
theorem d_F_method_34 : decode prog_1_method_4_code 34 = .ok (.ldc 81, 2) := by decide +kernel
theorem d_F_method_36 : decode prog_1_method_4_code 36 = .ok (.invokespecial 39, 3) := by decide +kernel
theorem d_F_method_39 : decode prog_1_method_4_code 39 = .ok (.athrow, 1) := by decide +kernel
theorem d_F_method_40 : decode prog_1_method_4_code 40 = .ok (.iinc 4 1, 3) := by decide +kernel
theorem d_F_method_43 : decode prog_1_method_4_code 43 = .ok (.goto (-35), 3) := by decide +kernel
theorem d_F_method_46 : decode prog_1_method_4_code 46 = .ok (.iload_n 2, 1) := by decide +kernel
theorem d_F_method_47 : decode prog_1_method_4_code 47 = .ok (.ifCond .eq 24, 3) := by decide +kernel
theorem d_F_method_50 : decode prog_1_method_4_code 50 = .ok (.aload_n 0, 1) := by decide +kernel
theorem d_F_method_51 : decode prog_1_method_4_code 51 = .ok (.getfield 10, 3) := by decide +kernel
theorem d_F_method_54 : decode prog_1_method_4_code 54 = .ok (.iload_n 2, 1) := by decide +kernel
theorem d_F_method_55 : decode prog_1_method_4_code 55 = .ok (.invokevirtual 57, 3) := by decide +kernel
theorem d_F_method_58 : decode prog_1_method_4_code 58 = .ok (.ifCond .ne 13, 3) := by decide +kernel
theorem d_F_method_61 : decode prog_1_method_4_code 61 = .ok (.new 35, 3) := by decide +kernel
theorem d_F_method_64 : decode prog_1_method_4_code 64 = .ok (.dup, 1) := by decide +kernel
theorem d_F_method_65 : decode prog_1_method_4_code 65 = .ok (.ldc 83, 2) := by decide +kernel
theorem d_F_method_67 : decode prog_1_method_4_code 67 = .ok (.invokespecial 39, 3) := by decide +kernel
theorem d_F_method_70 : decode prog_1_method_4_code 70 = .ok (.athrow, 1) := by decide +kernel
theorem d_F_method_71 : decode prog_1_method_4_code 71 = .ok (.aload_n 0, 1) := by decide +kernel
theorem d_F_method_72 : decode prog_1_method_4_code 72 = .ok (.getfield 10, 3) := by decide +kernel
theorem d_F_method_75 : decode prog_1_method_4_code 75 = .ok (.getfield 85, 3) := by decide +kernel
theorem d_F_method_78 : decode prog_1_method_4_code 78 = .ok (.bipush 8, 2) := by decide +kernel
theorem d_F_method_80 : decode prog_1_method_4_code 80 = .ok (.if_icmp .lt 13, 3) := by decide +kernel
theorem d_F_method_93 : decode prog_1_method_4_code 93 = .ok (.aload_n 0, 1) := by decide +kernel
theorem d_F_method_94 : decode prog_1_method_4_code 94 = .ok (.getfield 10, 3) := by decide +kernel
theorem d_F_method_97 : decode prog_1_method_4_code 97 = .ok (.iload_n 1, 1) := by decide +kernel
theorem d_F_method_98 : decode prog_1_method_4_code 98 = .ok (.iload_n 2, 1) := by decide +kernel
theorem d_F_method_99 : decode prog_1_method_4_code 99 = .ok (.invokevirtual 90, 3) := by decide +kernel
theorem d_F_method_102 : decode prog_1_method_4_code 102 = .ok (.ireturn, 1) := by decide +kernel
theorem d_F_feed_0 : decode prog_1_method_5_code 0 = .ok (.aload_n 0, 1) := by decide +kernel
theorem d_F_feed_1 : decode prog_1_method_5_code 1 = .ok (.getfield 27, 3) := by decide +kernel
theorem d_F_feed_4 : decode prog_1_method_5_code 4 = .ok (.iconst 4, 1) := by decide +kernel
theorem d_F_feed_5 : decode prog_1_method_5_code 5 = .ok (.iadd, 1) := by decide +kernel
theorem d_F_feed_6 : decode prog_1_method_5_code 6 = .ok (.sipush 400, 3) := by decide +kernel
theorem d_F_feed_9 : decode prog_1_method_5_code 9 = .ok (.if_icmp .le 5, 3) := by decide +kernel
theorem d_F_feed_14 : decode prog_1_method_5_code 14 = .ok (.bipush 24, 2) := by decide +kernel
theorem d_F_feed_16 : decode prog_1_method_5_code 16 = .ok (.istore_n 2, 1) := by decide +kernel
theorem d_F_feed_17 : decode prog_1_method_5_code 17 = .ok (.iload_n 2, 1) := by decide +kernel
theorem d_F_feed_18 : decode prog_1_method_5_code 18 = .ok (.ifCond .lt 35, 3) := by decide +kernel
theorem d_F_feed_21 : decode prog_1_method_5_code 21 = .ok (.aload_n 0, 1) := by decide +kernel
theorem d_F_feed_22 : decode prog_1_method_5_code 22 = .ok (.getfield 23, 3) := by decide +kernel
theorem d_F_feed_25 : decode prog_1_method_5_code 25 = .ok (.aload_n 0, 1) := by decide +kernel
theorem d_F_feed_26 : decode prog_1_method_5_code 26 = .ok (.getfield 27, 3) := by decide +kernel
theorem d_F_feed_29 : decode prog_1_method_5_code 29 = .ok (.iload_n 1, 1) := by decide +kernel
theorem d_F_feed_30 : decode prog_1_method_5_code 30 = .ok (.iload_n 2, 1) := by decide +kernel
theorem d_F_feed_31 : decode prog_1_method_5_code 31 = .ok (.iushr, 1) := by decide +kernel
theorem d_F_feed_32 : decode prog_1_method_5_code 32 = .ok (.sipush 255, 3) := by decide +kernel
theorem d_F_feed_35 : decode prog_1_method_5_code 35 = .ok (.iand, 1) := by decide +kernel
theorem d_F_feed_36 : decode prog_1_method_5_code 36 = .ok (.iastore, 1) := by decide +kernel
theorem d_F_feed_37 : decode prog_1_method_5_code 37 = .ok (.aload_n 0, 1) := by decide +kernel
theorem d_F_feed_38 : decode prog_1_method_5_code 38 = .ok (.dup, 1) := by decide +kernel
theorem d_F_feed_39 : decode prog_1_method_5_code 39 = .ok (.getfield 27, 3) := by decide +kernel
theorem d_F_feed_42 : decode prog_1_method_5_code 42 = .ok (.iconst 1, 1) := by decide +kernel
theorem d_F_feed_43 : decode prog_1_method_5_code 43 = .ok (.iadd, 1) := by decide +kernel
theorem d_F_feed_44 : decode prog_1_method_5_code 44 = .ok (.putfield 27, 3) := by decide +kernel
theorem d_F_feed_47 : decode prog_1_method_5_code 47 = .ok (.iinc 2 (-8), 3) := by decide +kernel
theorem d_F_feed_50 : decode prog_1_method_5_code 50 = .ok (.goto (-33), 3) := by decide +kernel
theorem d_F_feed_53 : decode prog_1_method_5_code 53 = .ok (.iconst 1, 1) := by decide +kernel
theorem d_F_feed_54 : decode prog_1_method_5_code 54 = .ok (.ireturn, 1) := by decide +kernel
theorem d_F_code_0 : decode prog_1_method_6_code 0 = .ok (.aload_n 0, 1) := by decide +kernel
theorem d_F_code_1 : decode prog_1_method_6_code 1 = .ok (.getfield 27, 3) := by decide +kernel
theorem d_F_code_4 : decode prog_1_method_6_code 4 = .ok (.istore 5, 2) := by decide +kernel
theorem d_F_code_6 : decode prog_1_method_6_code 6 = .ok (.aload_n 0, 1) := by decide +kernel
theorem d_F_code_7 : decode prog_1_method_6_code 7 = .ok (.iconst 0, 1) := by decide +kernel
theorem d_F_code_8 : decode prog_1_method_6_code 8 = .ok (.putfield 27, 3) := by decide +kernel
theorem d_F_code_11 : decode prog_1_method_6_code 11 = .ok (.aload_n 0, 1) := by decide +kernel
theorem d_F_code_12 : decode prog_1_method_6_code 12 = .ok (.getfield 10, 3) := by decide +kernel
theorem d_F_code_15 : decode prog_1_method_6_code 15 = .ok (.iload_n 1, 1) := by decide +kernel
theorem d_F_code_16 : decode prog_1_method_6_code 16 = .ok (.invokevirtual 93, 3) := by decide +kernel
theorem d_F_code_19 : decode prog_1_method_6_code 19 = .ok (.astore 6, 2) := by decide +kernel
theorem d_F_code_21 : decode prog_1_method_6_code 21 = .ok (.aload 6, 2) := by decide +kernel
theorem d_F_code_23 : decode prog_1_method_6_code 23 = .ok (.ifnull 20, 3) := by decide +kernel
theorem d_F_code_43 : decode prog_1_method_6_code 43 = .ok (.new 35, 3) := by decide +kernel
theorem d_F_code_46 : decode prog_1_method_6_code 46 = .ok (.dup, 1) := by decide +kernel
theorem d_F_code_47 : decode prog_1_method_6_code 47 = .ok (.ldc 97, 2) := by decide +kernel
theorem d_F_code_49 : decode prog_1_method_6_code 49 = .ok (.invokespecial 39, 3) := by decide +kernel
theorem d_F_code_52 : decode prog_1_method_6_code 52 = .ok (.athrow, 1) := by decide +kernel
theorem d_F_handler_0 : decode prog_1_method_7_code 0 = .ok (.aload_n 0, 1) := by decide +kernel
theorem d_F_handler_1 : decode prog_1_method_7_code 1 = .ok (.getfield 10, 3) := by decide +kernel
theorem d_F_handler_4 : decode prog_1_method_7_code 4 = .ok (.iload_n 1, 1) := by decide +kernel
theorem d_F_handler_5 : decode prog_1_method_7_code 5 = .ok (.invokevirtual 93, 3) := by decide +kernel
theorem d_F_handler_8 : decode prog_1_method_7_code 8 = .ok (.astore 6, 2) := by decide +kernel
theorem d_F_handler_10 : decode prog_1_method_7_code 10 = .ok (.iload 5, 2) := by decide +kernel
theorem d_F_handler_12 : decode prog_1_method_7_code 12 = .ok (.iconst (-1), 1) := by decide +kernel
theorem d_F_handler_13 : decode prog_1_method_7_code 13 = .ok (.if_icmp .ne 7, 3) := by decide +kernel
theorem d_F_handler_16 : decode prog_1_method_7_code 16 = .ok (.iconst 1, 1) := by decide +kernel
theorem d_F_handler_17 : decode prog_1_method_7_code 17 = .ok (.goto 5, 3) := by decide +kernel
theorem d_F_handler_20 : decode prog_1_method_7_code 20 = .ok (.iload 5, 2) := by decide +kernel
theorem d_F_handler_22 : decode prog_1_method_7_code 22 = .ok (.istore 7, 2) := by decide +kernel
theorem d_F_handler_24 : decode prog_1_method_7_code 24 = .ok (.aload 6, 2) := by decide +kernel
theorem d_F_handler_26 : decode prog_1_method_7_code 26 = .ok (.ifnull 36, 3) := by decide +kernel
theorem d_F_handler_62 : decode prog_1_method_7_code 62 = .ok (.new 35, 3) := by decide +kernel
theorem d_F_handler_65 : decode prog_1_method_7_code 65 = .ok (.dup, 1) := by decide +kernel
theorem d_F_handler_66 : decode prog_1_method_7_code 66 = .ok (.ldc 132, 2) := by decide +kernel
theorem d_F_handler_68 : decode prog_1_method_7_code 68 = .ok (.invokespecial 39, 3) := by decide +kernel
theorem d_F_handler_71 : decode prog_1_method_7_code 71 = .ok (.athrow, 1) := by decide +kernel
theorem d_F_verify_0 : decode prog_1_method_9_code 0 = .ok (.aload_n 0, 1) := by decide +kernel
theorem d_F_verify_1 : decode prog_1_method_9_code 1 = .ok (.getfield 10, 3) := by decide +kernel
theorem d_F_verify_4 : decode prog_1_method_9_code 4 = .ok (.iload_n 1, 1) := by decide +kernel
theorem d_F_verify_5 : decode prog_1_method_9_code 5 = .ok (.invokevirtual 93, 3) := by decide +kernel
theorem d_F_verify_8 : decode prog_1_method_9_code 8 = .ok (.astore_n 2, 1) := by decide +kernel
theorem d_F_verify_9 : decode prog_1_method_9_code 9 = .ok (.aload_n 2, 1) := by decide +kernel
theorem d_F_verify_10 : decode prog_1_method_9_code 10 = .ok (.ifnull 10, 3) := by decide +kernel
theorem d_F_verify_20 : decode prog_1_method_9_code 20 = .ok (.new 35, 3) := by decide +kernel
theorem d_F_verify_23 : decode prog_1_method_9_code 23 = .ok (.dup, 1) := by decide +kernel
theorem d_F_verify_24 : decode prog_1_method_9_code 24 = .ok (.ldc 163, 2) := by decide +kernel
theorem d_F_verify_26 : decode prog_1_method_9_code 26 = .ok (.invokespecial 39, 3) := by decide +kernel
theorem d_F_verify_29 : decode prog_1_method_9_code 29 = .ok (.athrow, 1) := by decide +kernel
theorem d_F_about_0 : decode prog_1_method_10_code 0 = .ok (.aload_n 0, 1) := by decide +kernel
theorem d_F_about_1 : decode prog_1_method_10_code 1 = .ok (.getfield 10, 3) := by decide +kernel
theorem d_F_about_4 : decode prog_1_method_10_code 4 = .ok (.iload_n 1, 1) := by decide +kernel
theorem d_F_about_5 : decode prog_1_method_10_code 5 = .ok (.invokevirtual 93, 3) := by decide +kernel
theorem d_F_about_8 : decode prog_1_method_10_code 8 = .ok (.astore_n 3, 1) := by decide +kernel
theorem d_F_about_9 : decode prog_1_method_10_code 9 = .ok (.aload_n 3, 1) := by decide +kernel
theorem d_F_about_10 : decode prog_1_method_10_code 10 = .ok (.ifnull 13, 3) := by decide +kernel
theorem d_F_about_23 : decode prog_1_method_10_code 23 = .ok (.new 204, 3) := by decide +kernel
theorem d_F_about_26 : decode prog_1_method_10_code 26 = .ok (.dup, 1) := by decide +kernel
theorem d_F_about_27 : decode prog_1_method_10_code 27 = .ok (.ldc 206, 2) := by decide +kernel
theorem d_F_about_29 : decode prog_1_method_10_code 29 = .ok (.invokespecial 208, 3) := by decide +kernel
theorem d_F_about_32 : decode prog_1_method_10_code 32 = .ok (.athrow, 1) := by decide +kernel
theorem d_F_codeAt_0 : decode prog_1_method_11_code 0 = .ok (.aload_n 0, 1) := by decide +kernel
theorem d_F_codeAt_1 : decode prog_1_method_11_code 1 = .ok (.getfield 10, 3) := by decide +kernel
theorem d_F_codeAt_4 : decode prog_1_method_11_code 4 = .ok (.iload_n 1, 1) := by decide +kernel
theorem d_F_codeAt_5 : decode prog_1_method_11_code 5 = .ok (.invokevirtual 93, 3) := by decide +kernel
theorem d_F_codeAt_8 : decode prog_1_method_11_code 8 = .ok (.astore_n 3, 1) := by decide +kernel
theorem d_F_codeAt_9 : decode prog_1_method_11_code 9 = .ok (.aload_n 3, 1) := by decide +kernel
theorem d_F_codeAt_10 : decode prog_1_method_11_code 10 = .ok (.ifnull 16, 3) := by decide +kernel
theorem d_F_codeAt_26 : decode prog_1_method_11_code 26 = .ok (.new 204, 3) := by decide +kernel
theorem d_F_codeAt_29 : decode prog_1_method_11_code 29 = .ok (.dup, 1) := by decide +kernel
theorem d_F_codeAt_30 : decode prog_1_method_11_code 30 = .ok (.ldc 215, 2) := by decide +kernel
theorem d_F_codeAt_32 : decode prog_1_method_11_code 32 = .ok (.invokespecial 208, 3) := by decide +kernel
theorem d_F_codeAt_35 : decode prog_1_method_11_code 35 = .ok (.athrow, 1) := by decide +kernel
theorem d_F_frameAt_0 : decode prog_1_method_12_code 0 = .ok (.aload_n 0, 1) := by decide +kernel
theorem d_F_frameAt_1 : decode prog_1_method_12_code 1 = .ok (.getfield 10, 3) := by decide +kernel
theorem d_F_frameAt_4 : decode prog_1_method_12_code 4 = .ok (.iload_n 1, 1) := by decide +kernel
theorem d_F_frameAt_5 : decode prog_1_method_12_code 5 = .ok (.invokevirtual 93, 3) := by decide +kernel
theorem d_F_frameAt_8 : decode prog_1_method_12_code 8 = .ok (.astore_n 3, 1) := by decide +kernel
theorem d_F_frameAt_9 : decode prog_1_method_12_code 9 = .ok (.aload_n 3, 1) := by decide +kernel
theorem d_F_frameAt_10 : decode prog_1_method_12_code 10 = .ok (.ifnull 16, 3) := by decide +kernel
theorem d_F_frameAt_26 : decode prog_1_method_12_code 26 = .ok (.new 204, 3) := by decide +kernel
theorem d_F_frameAt_29 : decode prog_1_method_12_code 29 = .ok (.dup, 1) := by decide +kernel
theorem d_F_frameAt_30 : decode prog_1_method_12_code 30 = .ok (.ldc 217, 2) := by decide +kernel
theorem d_F_frameAt_32 : decode prog_1_method_12_code 32 = .ok (.invokespecial 208, 3) := by decide +kernel
theorem d_F_frameAt_35 : decode prog_1_method_12_code 35 = .ok (.athrow, 1) := by decide +kernel
theorem d_F_handlerAt_0 : decode prog_1_method_13_code 0 = .ok (.aload_n 0, 1) := by decide +kernel
theorem d_F_handlerAt_1 : decode prog_1_method_13_code 1 = .ok (.getfield 10, 3) := by decide +kernel
theorem d_F_handlerAt_4 : decode prog_1_method_13_code 4 = .ok (.iload_n 1, 1) := by decide +kernel
theorem d_F_handlerAt_5 : decode prog_1_method_13_code 5 = .ok (.invokevirtual 93, 3) := by decide +kernel
theorem d_F_handlerAt_8 : decode prog_1_method_13_code 8 = .ok (.astore 4, 2) := by decide +kernel
theorem d_F_handlerAt_10 : decode prog_1_method_13_code 10 = .ok (.aload 4, 2) := by decide +kernel
theorem d_F_handlerAt_12 : decode prog_1_method_13_code 12 = .ok (.ifnull 28, 3) := by decide +kernel
theorem d_F_handlerAt_40 : decode prog_1_method_13_code 40 = .ok (.new 204, 3) := by decide +kernel
theorem d_F_handlerAt_43 : decode prog_1_method_13_code 43 = .ok (.dup, 1) := by decide +kernel
theorem d_F_handlerAt_44 : decode prog_1_method_13_code 44 = .ok (.ldc 219, 2) := by decide +kernel
theorem d_F_handlerAt_46 : decode prog_1_method_13_code 46 = .ok (.invokespecial 208, 3) := by decide +kernel
theorem d_F_handlerAt_49 : decode prog_1_method_13_code 49 = .ok (.athrow, 1) := by decide +kernel
theorem d_F_typeAt_0 : decode prog_1_method_14_code 0 = .ok (.aload_n 0, 1) := by decide +kernel
theorem d_F_typeAt_1 : decode prog_1_method_14_code 1 = .ok (.getfield 10, 3) := by decide +kernel
theorem d_F_typeAt_4 : decode prog_1_method_14_code 4 = .ok (.iload_n 1, 1) := by decide +kernel
theorem d_F_typeAt_5 : decode prog_1_method_14_code 5 = .ok (.invokevirtual 93, 3) := by decide +kernel
theorem d_F_typeAt_8 : decode prog_1_method_14_code 8 = .ok (.astore 4, 2) := by decide +kernel
theorem d_F_typeAt_10 : decode prog_1_method_14_code 10 = .ok (.aload 4, 2) := by decide +kernel
theorem d_F_typeAt_12 : decode prog_1_method_14_code 12 = .ok (.ifnonnull 7, 3) := by decide +kernel
theorem d_F_typeAt_15 : decode prog_1_method_14_code 15 = .ok (.aconst_null, 1) := by decide +kernel
theorem d_F_typeAt_16 : decode prog_1_method_14_code 16 = .ok (.goto 9, 3) := by decide +kernel
theorem d_F_typeAt_25 : decode prog_1_method_14_code 25 = .ok (.astore 5, 2) := by decide +kernel
theorem d_F_typeAt_27 : decode prog_1_method_14_code 27 = .ok (.aload 5, 2) := by decide +kernel
theorem d_F_typeAt_29 : decode prog_1_method_14_code 29 = .ok (.ifnull 7, 3) := by decide +kernel
theorem d_F_typeAt_36 : decode prog_1_method_14_code 36 = .ok (.new 204, 3) := by decide +kernel
theorem d_F_typeAt_39 : decode prog_1_method_14_code 39 = .ok (.dup, 1) := by decide +kernel
theorem d_F_typeAt_40 : decode prog_1_method_14_code 40 = .ok (.ldc 241, 2) := by decide +kernel
theorem d_F_typeAt_42 : decode prog_1_method_14_code 42 = .ok (.invokespecial 208, 3) := by decide +kernel
theorem d_F_typeAt_45 : decode prog_1_method_14_code 45 = .ok (.athrow, 1) := by decide +kernel
theorem d_F_run_0 : decode prog_1_method_15_code 0 = .ok (.aload_n 0, 1) := by decide +kernel
theorem d_F_run_1 : decode prog_1_method_15_code 1 = .ok (.getfield 10, 3) := by decide +kernel
theorem d_F_run_4 : decode prog_1_method_15_code 4 = .ok (.iload_n 1, 1) := by decide +kernel
theorem d_F_run_5 : decode prog_1_method_15_code 5 = .ok (.invokevirtual 93, 3) := by decide +kernel
theorem d_F_run_8 : decode prog_1_method_15_code 8 = .ok (.astore 7, 2) := by decide +kernel
theorem d_F_run_10 : decode prog_1_method_15_code 10 = .ok (.aload 7, 2) := by decide +kernel
theorem d_F_run_12 : decode prog_1_method_15_code 12 = .ok (.ifnull 33, 3) := by decide +kernel
theorem d_F_run_45 : decode prog_1_method_15_code 45 = .ok (.new 35, 3) := by decide +kernel
theorem d_F_run_48 : decode prog_1_method_15_code 48 = .ok (.dup, 1) := by decide +kernel
theorem d_F_run_49 : decode prog_1_method_15_code 49 = .ok (.ldc_w 261, 3) := by decide +kernel
theorem d_F_run_52 : decode prog_1_method_15_code 52 = .ok (.invokespecial 39, 3) := by decide +kernel
theorem d_F_run_55 : decode prog_1_method_15_code 55 = .ok (.athrow, 1) := by decide +kernel
theorem d_F_end_0 : decode prog_1_method_16_code 0 = .ok (.aload_n 0, 1) := by decide +kernel
theorem d_F_end_1 : decode prog_1_method_16_code 1 = .ok (.getfield 19, 3) := by decide +kernel
theorem d_F_end_4 : decode prog_1_method_16_code 4 = .ok (.getfield 275, 3) := by decide +kernel
theorem d_F_end_7 : decode prog_1_method_16_code 7 = .ok (.iconst (-1), 1) := by decide +kernel
theorem d_F_end_8 : decode prog_1_method_16_code 8 = .ok (.if_icmp .ne 5, 3) := by decide +kernel
theorem d_F_end_11 : decode prog_1_method_16_code 11 = .ok (.iconst (-1), 1) := by decide +kernel
theorem d_F_end_12 : decode prog_1_method_16_code 12 = .ok (.ireturn, 1) := by decide +kernel
theorem d_F_count_0 : decode prog_1_method_17_code 0 = .ok (.iload_n 1, 1) := by decide +kernel
theorem d_F_count_1 : decode prog_1_method_17_code 1 = .ok (.tableswitch 60 0 3 #[31, 39, 47, 55], 31) := by decide +kernel
theorem d_F_count_32 : decode prog_1_method_17_code 32 = .ok (.aload_n 0, 1) := by decide +kernel
theorem d_F_count_33 : decode prog_1_method_17_code 33 = .ok (.getfield 10, 3) := by decide +kernel
theorem d_F_count_36 : decode prog_1_method_17_code 36 = .ok (.getfield 42, 3) := by decide +kernel
theorem d_F_count_39 : decode prog_1_method_17_code 39 = .ok (.ireturn, 1) := by decide +kernel
theorem d_F_count_40 : decode prog_1_method_17_code 40 = .ok (.aload_n 0, 1) := by decide +kernel
theorem d_F_count_41 : decode prog_1_method_17_code 41 = .ok (.getfield 10, 3) := by decide +kernel
theorem d_F_count_44 : decode prog_1_method_17_code 44 = .ok (.getfield 64, 3) := by decide +kernel
theorem d_F_count_47 : decode prog_1_method_17_code 47 = .ok (.ireturn, 1) := by decide +kernel
theorem d_F_count_48 : decode prog_1_method_17_code 48 = .ok (.aload_n 0, 1) := by decide +kernel
theorem d_F_count_49 : decode prog_1_method_17_code 49 = .ok (.getfield 10, 3) := by decide +kernel
theorem d_F_count_52 : decode prog_1_method_17_code 52 = .ok (.getfield 85, 3) := by decide +kernel
theorem d_F_count_55 : decode prog_1_method_17_code 55 = .ok (.ireturn, 1) := by decide +kernel
theorem d_F_count_56 : decode prog_1_method_17_code 56 = .ok (.aload_n 0, 1) := by decide +kernel
theorem d_F_count_57 : decode prog_1_method_17_code 57 = .ok (.getfield 27, 3) := by decide +kernel
theorem d_F_count_60 : decode prog_1_method_17_code 60 = .ok (.ireturn, 1) := by decide +kernel
theorem d_F_count_61 : decode prog_1_method_17_code 61 = .ok (.iconst (-1), 1) := by decide +kernel
theorem d_F_count_62 : decode prog_1_method_17_code 62 = .ok (.ireturn, 1) := by decide +kernel

abbrev ws_k_F_cls (f w k tp wp wu wi wc wt wx wm : Nat) (kp ku ki : ClassId) (fp fu : Nat → Int32) : va_W := [(f, .inr (4, [.ref w, .ref k, .ref tp, .int 0])), (w, .inr (3, [.ref wp, .ref wu, .ref wi, .int 2, .ref wc, .ref wt, .ref wx, .int 0, .ref wm, .int 0])), (wp, .inl (kp, 16, .inl fp)), (wu, .inl (ku, 16, .inl fu)), (wi, .inl (ki, 16, .inl (fun _ => 0)))]
set_option maxHeartbeats 4000000 in
set_option maxRecDepth 100000 in
theorem k_F_cls (l : Launch) (hl9 : l.stackTraces = false) (dC : Nat → ClassId) (dI : Nat → Nat → Nat) (f w k tp wp wu wi wc wt wx wm : Nat) (kp ku ki : ClassId) (fp fu : Nat → Int32) (pr bz : Int32) (sz : Nat) : vx_Met l y_F_cls (Cond.code y_F_cls prog_1_method_2_code 3 (some .int) :: bigW) ({ frames := 6, cells := 1, slots := 6, locals := 82 } : Room) (va_Pc [.ref f, .int pr, .int bz] (fun U => U.heap.size = sz ∧ va_P (dC, dI) vwCl (ws_k_F_cls f w k tp wp wu wi wc wt wx wm kp ku ki fp fu) U.heap ∧ va_K (dC, dI) vwCl [(kp, .int), (ku, .int), (ki, .boolean)] U ∧ va_D (fun _ => True) (ws_k_F_cls f w k tp wp wu wi wc wt wx wm kp ku ki fp fu) ∧ exP (va_A (ws_k_F_cls f w k tp wp wu wi wc wt wx wm kp ku ki fp fu) sz) U)) (va_Qi (fun (r : Int32) (u : Unit) => okC pr bz ∧ r = 2) (fun _ _ => True) (va_A (ws_k_F_cls f w k tp wp wu wi wc wt wx wm kp ku ki fp fu) sz)) (vx_X (S := Unit) (fun _ => ¬ okC pr bz) (fun E _ _ => E = "java/lang/IllegalArgumentException") (va_A (ws_k_F_cls f w k tp wp wu wi wc wt wx wm kp ku ki fp fu) sz)) 1 6 (va_A (ws_k_F_cls f w k tp wp wu wi wc wt wx wm kp ku ki fp fu) sz) := by
  refine vx_ofW (cc := prog_1_method_2_code) (maxL := 3) (ret := (some .int)) (by decide) rfl ?_
  intro p e s m args below meth cx s₁ B hml hnoh hv
  obtain ⟨rfl, hsz, hP, hK, hD0, hex⟩ := hv
  have hx := B.exec
  have hb := B.bytes
  have hr := B.returns
  have hts := atoms_spec (ws := (Cond.code y_F_cls prog_1_method_2_code 3 (some .int) :: bigW)) B.pre
  have hsub : ∀ w ∈ bigW, w ∈ (Cond.code y_F_cls prog_1_method_2_code 3 (some .int) :: bigW) := fun w h => List.mem_cons_of_mem _ h
  have hown : s.vm.findClass "MapFramer" = some m.cls := findClass_of_methodNamed B.named
  have hlocks := B.notSynchronized
  subst hsz
  have hD := hD0.self (sz := s.heap.size)
  generalize hAe : va_A (ws_k_F_cls f w k tp wp wu wi wc wt wx wm kp ku ki fp fu) s.heap.size = A at hD hex ⊢
  have hA : ∀ q : Nat, s.heap.size ≤ q → A q := fun q h => by rw [← hAe]; exact Or.inr h
  have hS : va_S A s.heap s.heap [] := va_S.rf
  have hP : va_P (dC, dI) vwCl [(f, .inr (4, [.ref w, .ref k, .ref tp, .int 0])), (w, .inr (3, [.ref wp, .ref wu, .ref wi, .int 2, .ref wc, .ref wt, .ref wx, .int 0, .ref wm, .int 0])), (wp, .inl (kp, 16, .inl fp)), (wu, .inl (ku, 16, .inl fu)), (wi, .inl (ki, 16, .inl (fun _ => 0)))] s.heap := hP
  have hD : va_D A [(f, .inr (4, [.ref w, .ref k, .ref tp, .int 0])), (w, .inr (3, [.ref wp, .ref wu, .ref wi, .int 2, .ref wc, .ref wt, .ref wx, .int 0, .ref wm, .int 0])), (wp, .inl (kp, 16, .inl fp)), (wu, .inl (ku, 16, .inl fu)), (wi, .inl (ki, 16, .inl (fun _ => 0)))] := hD
  have hl := lv_entry ([.ref f, .int pr, .int bz]) (n := 3) (Nat.le_of_ble_eq_true rfl)
  rw [lg_entry_eq]
  generalize (lg_sl ([.ref f, .int pr, .int bz]) ++ List.replicate (3 - (lg_sl ([.ref f, .int pr, .int bz])).length) Slot.unset).toArray = ls at hl ⊢
  have hl : lv_has ls 3 [(0, .ref f), (1, .int pr), (2, .int bz)] := hl
  refine lv_iload_n hx hb d_F_cls_0 rfl (lv_at hl 2 rfl) ?_
  refine lv_if_ne (tgt := 25) hx hb d_F_cls_1 (by decide) (fun c_1 => ?_) (fun c_1 => ?_)
  · skip
    refine lv_aload_n hx hb d_F_cls_25 rfl (lv_at hl 0 rfl) ?_
    refine va_get (D := (dC, dI)) (ci := 4) (v := .ref w) (C := R_F) (T := T_F) (N := 4) hx hb hts (fun w h => hsub w (uw_F w h)) hown hK hP 0 rfl rfl 0 (by decide) (hts _ (hsub _ w_181)) (fun _ h9 => h9) rfl d_F_cls_26 ?_
    refine va_get (D := (dC, dI)) (ci := 3) (v := .int 2) (C := R_W) (T := T_W) (N := 10) hx hb hts (fun w h => hsub w (uw_W w h)) hown hK hP 1 rfl rfl 3 (by decide) (hts _ (hsub _ w_182)) (fun _ h9 => h9) rfl d_F_cls_29 ?_
    refine lv_bipush (v := 16) hx hb d_F_cls_32 (by decide) ?_
    refine lv_icmp_lt (tgt := 47) hx hb d_F_cls_34 (by decide) (fun c_2 => ?_) (fun c_2 => ?_)
    · skip
      refine lv_aload_n hx hb d_F_cls_47 rfl (lv_at hl 0 rfl) ?_
      refine va_get (D := (dC, dI)) (ci := 4) (v := .ref w) (C := R_F) (T := T_F) (N := 4) hx hb hts (fun w h => hsub w (uw_F w h)) hown hK hP 0 rfl rfl 0 (by decide) (hts _ (hsub _ w_181)) (fun _ h9 => h9) rfl d_F_cls_48 ?_
      refine lv_iload_n hx hb d_F_cls_51 rfl (lv_at hl 2 rfl) ?_
      refine lv_if_eq (tgt := 59) hx hb d_F_cls_52 (by decide) (fun c_3 => ?_) (fun c_3 => ?_)
      · skip
        first | exact absurd c_3 c_1 | exact absurd c_1 c_3
      · skip
        refine lv_iconst (v := 0) hx hb d_F_cls_55 (by decide) ?_
        refine lv_goto (tgt := 60) hx hb d_F_cls_56 (by decide) ?_
        refine lv_iload_n hx hb d_F_cls_60 rfl (lv_at hl 2 rfl) ?_
        have hPc := hP.sub (ws' := [(w, .inr (3, [.ref wp, .ref wu, .ref wi, .int 2, .ref wc, .ref wt, .ref wx, .int 0, .ref wm, .int 0])), (wp, .inl (kp, 16, .inl fp)), (wu, .inl (ku, 16, .inl fu)), (wi, .inl (ki, 16, .inl (fun _ => 0)))]) [1, 2, 3, 4] rfl
        have hKc := hK.sub (tys' := [(kp, .int), (ku, .int), (ki, .boolean)]) [0, 1, 2] rfl
        have hDc := hD.sub (ws' := [(w, .inr (3, [.ref wp, .ref wu, .ref wi, .int 2, .ref wc, .ref wt, .ref wx, .int 0, .ref wm, .int 0])), (wp, .inl (kp, 16, .inl fp)), (wu, .inl (ku, 16, .inl fu)), (wi, .inl (ki, 16, .inl (fun _ => 0)))]) [1, 2, 3, 4] (by decide) rfl
        have hFc := va_free (wc := [(w, .inr (3, [.ref wp, .ref wu, .ref wi, .int 2, .ref wc, .ref wt, .ref wx, .int 0, .ref wm, .int 0])), (wp, .inl (kp, 16, .inl fp)), (wu, .inl (ku, 16, .inl fu)), (wi, .inl (ki, 16, .inl (fun _ => 0)))]) hD hS hA [1, 2, 3, 4] rfl
        refine va_calli (va_runV (As := [.int 0, .int bz]) (rest := []) ⟨hx, hb, hml, hown, hts⟩ (k_W_addClass l dC dI w wp wu wi wc wt wx wm kp ku ki fp fu 0 bz hasC_0 s.heap.size) (cwV 2 hts (gV hsub w_183 w_184 w_185 w_4 w_186) rfl rfl rfl (by decide +kernel) ⟨Nat.le_of_ble_eq_true rfl, Nat.le_of_ble_eq_true rfl⟩) ⟨bl_1000, va_recv hKc hPc (ci := 3) (q0 := 0) rfl rfl, fun U hU hW => ⟨rfl, by rw [hU], by rw [hU]; exact hPc, va_K.moved hW.alike hKc, hDc.weaken (fun _ _ _ _ => trivial)⟩⟩ rfl rfl hl.1 rfl (lv_room (Nat.le_of_ble_eq_true rfl)) d_F_cls_61 ⟨Nat.le_of_ble_eq_true rfl, Nat.le_of_ble_eq_true rfl⟩) hS (fun q _ h => hFc q h) hFc (fun r_5 u_6 t H1 locs ht hvm hw hB hz1 hk1 hS => ?_)
        have hP1 : va_P (dC, dI) vwCl [] H1 := nil_P
        have hD1 : va_D (va_A [(w, .inr (3, [.ref wp, .ref wu, .ref wi, .int 2, .ref wc, .ref wt, .ref wx, .int 0, .ref wm, .int 0])), (wp, .inl (kp, 16, .inl fp)), (wu, .inl (ku, 16, .inl fu)), (wi, .inl (ki, 16, .inl (fun _ => 0)))] s.heap.size) [] := nil_D
        have hK1 : va_K (dC, dI) vwCl [] s := hK.sub (tys' := []) [] rfl
        obtain ⟨hP, hD⟩ := va_join (wr := [(f, .inr (4, [.ref w, .ref k, .ref tp, .int 0]))]) (w1 := []) hP hD [1, 2, 3, 4] [0] rfl rfl (by decide) (by decide) hk1 hFc hP1 hD1
        have hK := (hK.sub (tys' := [(kp, .int), (ku, .int), (ki, .boolean)]) [0, 1, 2] rfl).app hK1
        generalize H1 = H at hP hS ⊢
        have hP : va_P (dC, dI) vwCl [(f, .inr (4, [.ref w, .ref k, .ref tp, .int 0]))] H := hP
        have hD : va_D A [(f, .inr (4, [.ref w, .ref k, .ref tp, .int 0]))] := hD
        have hK : va_K (dC, dI) vwCl [(kp, .int), (ku, .int), (ki, .boolean)] s := hK
        refine W.widen (k := 0) (n := 0) (Nat.le_of_ble_eq_true rfl) (Nat.le_of_ble_eq_true rfl) ?_
        subst hw
        refine vx_ret ?_
        refine W.widen (k := 1) (n := 6) (Nat.le_of_ble_eq_true rfl) (Nat.le_of_ble_eq_true rfl) ?_
        exact W.iret (v := 2) hx hb hr (fun t ht hW => ⟨⟨2, (), rfl, ⟨Or.inl c_1, rfl⟩, trivial⟩, hS.F ht⟩) hS.2.2 d_F_cls_64
    · skip
      first | exact absurd c_2 (by decide) | exact absurd (by decide) c_2
  · skip
    refine lv_aload_n hx hb d_F_cls_4 rfl (lv_at hl 0 rfl) ?_
    refine va_get (D := (dC, dI)) (ci := 4) (v := .ref w) (C := R_F) (T := T_F) (N := 4) hx hb hts (fun w h => hsub w (uw_F w h)) hown hK hP 0 rfl rfl 0 (by decide) (hts _ (hsub _ w_181)) (fun _ h9 => h9) rfl d_F_cls_5 ?_
    refine lv_iload_n hx hb d_F_cls_8 rfl (lv_at hl 1 rfl) ?_
    have hPc := hP.sub (ws' := [(w, .inr (3, [.ref wp, .ref wu, .ref wi, .int 2, .ref wc, .ref wt, .ref wx, .int 0, .ref wm, .int 0])), (wi, .inl (ki, 16, .inl (fun _ => 0)))]) [1, 4] rfl
    have hKc := hK.sub (tys' := [(ki, .boolean)]) [2] rfl
    refine va_calli (va_runV (As := [.int pr]) (rest := []) ⟨hx, hb, hml, hown, hts⟩ (k_W_isProperClass l dC dI w wp wu wi wc wt wx wm ki pr) (cwV 1 hts (gV hsub w_187 w_188 w_189 w_4 w_190) rfl rfl rfl (by decide +kernel) ⟨Nat.le_of_ble_eq_true rfl, Nat.le_of_ble_eq_true rfl⟩) ⟨bl_0000, va_recv hKc hPc (ci := 3) (q0 := 0) rfl rfl, fun U hU hW => ⟨rfl, by rw [hU]; exact hPc, va_K.moved hW.alike hKc⟩⟩ rfl rfl hl.1 rfl (lv_room (Nat.le_of_ble_eq_true rfl)) d_F_cls_9 ⟨Nat.le_of_ble_eq_true rfl, Nat.le_of_ble_eq_true rfl⟩) hS (fun q _ h => h.elim) (fun q h => h.elim) (fun r_8 u_9 t H1 locs ht hvm hw hB hz1 hk1 hS => ?_)
    have hP := ro_keep hP hk1
    generalize H1 = H at hP hS ⊢
    refine W.widen (k := 0) (n := 0) (Nat.le_of_ble_eq_true rfl) (Nat.le_of_ble_eq_true rfl) ?_
    rcases hw with ⟨hr9, hw⟩ | ⟨hr9, hw⟩
    · subst hr9
      have p_10 := hw
      refine lv_if_ne (tgt := 25) hx hb d_F_cls_12 (by decide) (fun c_11 => ?_) (fun c_11 => ?_)
      · skip
        refine lv_aload_n hx hb d_F_cls_25 rfl (lv_at hl 0 rfl) ?_
        refine va_get (D := (dC, dI)) (ci := 4) (v := .ref w) (C := R_F) (T := T_F) (N := 4) hx hb hts (fun w h => hsub w (uw_F w h)) hown hK hP 0 rfl rfl 0 (by decide) (hts _ (hsub _ w_181)) (fun _ h9 => h9) rfl d_F_cls_26 ?_
        refine va_get (D := (dC, dI)) (ci := 3) (v := .int 2) (C := R_W) (T := T_W) (N := 10) hx hb hts (fun w h => hsub w (uw_W w h)) hown hK hP 1 rfl rfl 3 (by decide) (hts _ (hsub _ w_182)) (fun _ h9 => h9) rfl d_F_cls_29 ?_
        refine lv_bipush (v := 16) hx hb d_F_cls_32 (by decide) ?_
        refine lv_icmp_lt (tgt := 47) hx hb d_F_cls_34 (by decide) (fun c_12 => ?_) (fun c_12 => ?_)
        · skip
          refine lv_aload_n hx hb d_F_cls_47 rfl (lv_at hl 0 rfl) ?_
          refine va_get (D := (dC, dI)) (ci := 4) (v := .ref w) (C := R_F) (T := T_F) (N := 4) hx hb hts (fun w h => hsub w (uw_F w h)) hown hK hP 0 rfl rfl 0 (by decide) (hts _ (hsub _ w_181)) (fun _ h9 => h9) rfl d_F_cls_48 ?_
          refine lv_iload_n hx hb d_F_cls_51 rfl (lv_at hl 2 rfl) ?_
          refine lv_if_eq (tgt := 59) hx hb d_F_cls_52 (by decide) (fun c_13 => ?_) (fun c_13 => ?_)
          · skip
            refine lv_iload_n hx hb d_F_cls_59 rfl (lv_at hl 1 rfl) ?_
            refine lv_iload_n hx hb d_F_cls_60 rfl (lv_at hl 2 rfl) ?_
            have hPc := hP.sub (ws' := [(w, .inr (3, [.ref wp, .ref wu, .ref wi, .int 2, .ref wc, .ref wt, .ref wx, .int 0, .ref wm, .int 0])), (wp, .inl (kp, 16, .inl fp)), (wu, .inl (ku, 16, .inl fu)), (wi, .inl (ki, 16, .inl (fun _ => 0)))]) [1, 2, 3, 4] rfl
            have hKc := hK.sub (tys' := [(kp, .int), (ku, .int), (ki, .boolean)]) [0, 1, 2] rfl
            have hDc := hD.sub (ws' := [(w, .inr (3, [.ref wp, .ref wu, .ref wi, .int 2, .ref wc, .ref wt, .ref wx, .int 0, .ref wm, .int 0])), (wp, .inl (kp, 16, .inl fp)), (wu, .inl (ku, 16, .inl fu)), (wi, .inl (ki, 16, .inl (fun _ => 0)))]) [1, 2, 3, 4] (by decide) rfl
            have hFc := va_free (wc := [(w, .inr (3, [.ref wp, .ref wu, .ref wi, .int 2, .ref wc, .ref wt, .ref wx, .int 0, .ref wm, .int 0])), (wp, .inl (kp, 16, .inl fp)), (wu, .inl (ku, 16, .inl fu)), (wi, .inl (ki, 16, .inl (fun _ => 0)))]) hD hS hA [1, 2, 3, 4] rfl
            refine va_calli (va_runV (As := [.int pr, .int bz]) (rest := []) ⟨hx, hb, hml, hown, hts⟩ (k_W_addClass l dC dI w wp wu wi wc wt wx wm kp ku ki fp fu pr bz p_10 H.size) (cwV 2 hts (gV hsub w_183 w_184 w_185 w_4 w_186) rfl rfl rfl (by decide +kernel) ⟨Nat.le_of_ble_eq_true rfl, Nat.le_of_ble_eq_true rfl⟩) ⟨bl_1000, va_recv hKc hPc (ci := 3) (q0 := 0) rfl rfl, fun U hU hW => ⟨rfl, by rw [hU], by rw [hU]; exact hPc, va_K.moved hW.alike hKc, hDc.weaken (fun _ _ _ _ => trivial)⟩⟩ rfl rfl hl.1 rfl (lv_room (Nat.le_of_ble_eq_true rfl)) d_F_cls_61 ⟨Nat.le_of_ble_eq_true rfl, Nat.le_of_ble_eq_true rfl⟩) hS (fun q _ h => hFc q h) hFc (fun r_15 u_16 t H1 locs ht hvm hw hB hz1 hk1 hS => ?_)
            have hP1 : va_P (dC, dI) vwCl [] H1 := nil_P
            have hD1 : va_D (va_A [(w, .inr (3, [.ref wp, .ref wu, .ref wi, .int 2, .ref wc, .ref wt, .ref wx, .int 0, .ref wm, .int 0])), (wp, .inl (kp, 16, .inl fp)), (wu, .inl (ku, 16, .inl fu)), (wi, .inl (ki, 16, .inl (fun _ => 0)))] H.size) [] := nil_D
            have hK1 : va_K (dC, dI) vwCl [] s := hK.sub (tys' := []) [] rfl
            obtain ⟨hP, hD⟩ := va_join (wr := [(f, .inr (4, [.ref w, .ref k, .ref tp, .int 0]))]) (w1 := []) hP hD [1, 2, 3, 4] [0] rfl rfl (by decide) (by decide) hk1 hFc hP1 hD1
            have hK := (hK.sub (tys' := [(kp, .int), (ku, .int), (ki, .boolean)]) [0, 1, 2] rfl).app hK1
            generalize H1 = H at hP hS ⊢
            have hP : va_P (dC, dI) vwCl [(f, .inr (4, [.ref w, .ref k, .ref tp, .int 0]))] H := hP
            have hD : va_D A [(f, .inr (4, [.ref w, .ref k, .ref tp, .int 0]))] := hD
            have hK : va_K (dC, dI) vwCl [(kp, .int), (ku, .int), (ki, .boolean)] s := hK
            refine W.widen (k := 0) (n := 0) (Nat.le_of_ble_eq_true rfl) (Nat.le_of_ble_eq_true rfl) ?_
            subst hw
            refine vx_ret ?_
            refine W.widen (k := 1) (n := 6) (Nat.le_of_ble_eq_true rfl) (Nat.le_of_ble_eq_true rfl) ?_
            exact W.iret (v := 2) hx hb hr (fun t ht hW => ⟨⟨2, (), rfl, ⟨Or.inr p_10, rfl⟩, trivial⟩, hS.F ht⟩) hS.2.2 d_F_cls_64
          · skip
            first | exact absurd c_13 c_1 | exact absurd c_1 c_13
        · skip
          first | exact absurd c_12 (by decide) | exact absurd (by decide) c_12
      · skip
        first | exact absurd c_11 (by decide) | exact absurd (by decide) c_11
    · subst hr9
      have p_17 := hw
      refine lv_if_ne (tgt := 25) hx hb d_F_cls_12 (by decide) (fun c_18 => ?_) (fun c_18 => ?_)
      · skip
        first | exact absurd c_18 (by decide) | exact absurd (by decide) c_18
      · skip
        obtain ⟨sa, hsa⟩ := hex.2.2.2.2.1 (37, "no such class to be under") (by decide)
        exact vx_throwS (sa := sa) (names := ["java/lang/RuntimeException", "java/lang/Exception"]) hx hb hl9 hown (by decide +kernel) (by decide +kernel) (hts _ (hsub _ w_191)) (hts _ (hsub _ w_192)) hsa (xg_IllegalArgumentException_39_at hts hsub hex) xg_IllegalArgumentException_39_ot hex.1 hex.2.1 hS (hl.1.trans hml.symm) d_F_cls_15 d_F_cls_18 d_F_cls_19 d_F_cls_21 d_F_cls_24 (fun x hx9 => (hnoh x hx9).elim) (Nat.le_of_ble_eq_true rfl) (Nat.le_of_ble_eq_true rfl) (Nat.le_of_ble_eq_true rfl) (Nat.le_of_ble_eq_true rfl) hlocks (fun t hal hz hk => ⟨(), fun h => Or.elim h (fun h => h c_1) p_17, rfl, Nat.le_trans hS.1 hz, fun q h1 h2 => by rw [hk q (Nat.lt_of_lt_of_le h1 hS.1)]; exact hS.2.1 q h1 h2⟩) hS.2.2 (Nat.le_of_ble_eq_true rfl) (Nat.le_of_ble_eq_true rfl)

abbrev ws_k_F_field (f w k tp wp wu wi wc wt wx wm : Nat) (ki kc kt kx : ClassId) : va_W := [(f, .inr (4, [.ref w, .ref k, .ref tp, .int 0])), (w, .inr (3, [.ref wp, .ref wu, .ref wi, .int 2, .ref wc, .ref wt, .ref wx, .int 0, .ref wm, .int 0])), (wi, .inl (ki, 16, .inl (fun _ => 0))), (wc, .inl (kc, 16, .inl (fun _ => 0))), (wt, .inl (kt, 16, .inl (fun _ => 0))), (wx, .inl (kx, 16, .inl (fun _ => 0)))]
set_option maxHeartbeats 4000000 in
set_option maxRecDepth 100000 in
theorem k_F_field (l : Launch) (hl9 : l.stackTraces = false) (dC : Nat → ClassId) (dI : Nat → Nat → Nat) (f w k tp wp wu wi wc wt wx wm : Nat) (ki kc kt kx : ClassId) (ow ty bz : Int32) (sz : Nat) : vx_Met l y_F_field (Cond.code y_F_field prog_1_method_3_code 4 (some .int) :: bigW) ({ frames := 6, cells := 1, slots := 6, locals := 82 } : Room) (va_Pc [.ref f, .int ow, .int ty, .int bz] (fun U => U.heap.size = sz ∧ va_P (dC, dI) vwCl (ws_k_F_field f w k tp wp wu wi wc wt wx wm ki kc kt kx) U.heap ∧ va_K (dC, dI) vwCl [(ki, .boolean), (kc, .int), (kt, .int), (kx, .boolean)] U ∧ va_D (fun _ => True) (ws_k_F_field f w k tp wp wu wi wc wt wx wm ki kc kt kx) ∧ exP (va_A (ws_k_F_field f w k tp wp wu wi wc wt wx wm ki kc kt kx) sz) U)) (va_Qi (fun (r : Int32) (u : Unit) => okF ow ty bz ∧ r = 0) (fun _ _ => True) (va_A (ws_k_F_field f w k tp wp wu wi wc wt wx wm ki kc kt kx) sz)) (vx_X (S := Unit) (fun _ => ¬ okF ow ty bz) (fun E _ _ => E = "java/lang/IllegalArgumentException") (va_A (ws_k_F_field f w k tp wp wu wi wc wt wx wm ki kc kt kx) sz)) 1 6 (va_A (ws_k_F_field f w k tp wp wu wi wc wt wx wm ki kc kt kx) sz) := by
  refine vx_ofW (cc := prog_1_method_3_code) (maxL := 4) (ret := (some .int)) (by decide) rfl ?_
  intro p e s m args below meth cx s₁ B hml hnoh hv
  obtain ⟨rfl, hsz, hP, hK, hD0, hex⟩ := hv
  have hx := B.exec
  have hb := B.bytes
  have hr := B.returns
  have hts := atoms_spec (ws := (Cond.code y_F_field prog_1_method_3_code 4 (some .int) :: bigW)) B.pre
  have hsub : ∀ w ∈ bigW, w ∈ (Cond.code y_F_field prog_1_method_3_code 4 (some .int) :: bigW) := fun w h => List.mem_cons_of_mem _ h
  have hown : s.vm.findClass "MapFramer" = some m.cls := findClass_of_methodNamed B.named
  have hlocks := B.notSynchronized
  subst hsz
  have hD := hD0.self (sz := s.heap.size)
  generalize hAe : va_A (ws_k_F_field f w k tp wp wu wi wc wt wx wm ki kc kt kx) s.heap.size = A at hD hex ⊢
  have hA : ∀ q : Nat, s.heap.size ≤ q → A q := fun q h => by rw [← hAe]; exact Or.inr h
  have hS : va_S A s.heap s.heap [] := va_S.rf
  have hP : va_P (dC, dI) vwCl [(f, .inr (4, [.ref w, .ref k, .ref tp, .int 0])), (w, .inr (3, [.ref wp, .ref wu, .ref wi, .int 2, .ref wc, .ref wt, .ref wx, .int 0, .ref wm, .int 0])), (wi, .inl (ki, 16, .inl (fun _ => 0))), (wc, .inl (kc, 16, .inl (fun _ => 0))), (wt, .inl (kt, 16, .inl (fun _ => 0))), (wx, .inl (kx, 16, .inl (fun _ => 0)))] s.heap := hP
  have hD : va_D A [(f, .inr (4, [.ref w, .ref k, .ref tp, .int 0])), (w, .inr (3, [.ref wp, .ref wu, .ref wi, .int 2, .ref wc, .ref wt, .ref wx, .int 0, .ref wm, .int 0])), (wi, .inl (ki, 16, .inl (fun _ => 0))), (wc, .inl (kc, 16, .inl (fun _ => 0))), (wt, .inl (kt, 16, .inl (fun _ => 0))), (wx, .inl (kx, 16, .inl (fun _ => 0)))] := hD
  have hl := lv_entry ([.ref f, .int ow, .int ty, .int bz]) (n := 4) (Nat.le_of_ble_eq_true rfl)
  rw [lg_entry_eq]
  generalize (lg_sl ([.ref f, .int ow, .int ty, .int bz]) ++ List.replicate (4 - (lg_sl ([.ref f, .int ow, .int ty, .int bz])).length) Slot.unset).toArray = ls at hl ⊢
  have hl : lv_has ls 4 [(0, .ref f), (1, .int ow), (2, .int ty), (3, .int bz)] := hl
  refine lv_aload_n hx hb d_F_field_0 rfl (lv_at hl 0 rfl) ?_
  refine va_get (D := (dC, dI)) (ci := 4) (v := .ref w) (C := R_F) (T := T_F) (N := 4) hx hb hts (fun w h => hsub w (uw_F w h)) hown hK hP 0 rfl rfl 0 (by decide) (hts _ (hsub _ w_181)) (fun _ h9 => h9) rfl d_F_field_1 ?_
  refine lv_iload_n hx hb d_F_field_4 rfl (lv_at hl 1 rfl) ?_
  have hPc := hP.sub (ws' := [(w, .inr (3, [.ref wp, .ref wu, .ref wi, .int 2, .ref wc, .ref wt, .ref wx, .int 0, .ref wm, .int 0]))]) [1] rfl
  have hKc := hK.sub (tys' := []) [] rfl
  refine va_calli (va_runV (As := [.int ow]) (rest := []) ⟨hx, hb, hml, hown, hts⟩ (k_W_hasClass l dC dI w wp wu wi wc wt wx wm ow) (cwV 1 hts (gV hsub w_193 w_2 w_3 w_4 w_5) rfl rfl rfl (by decide +kernel) ⟨Nat.le_of_ble_eq_true rfl, Nat.le_of_ble_eq_true rfl⟩) ⟨bl_0000, va_recv hKc hPc (ci := 3) (q0 := 0) rfl rfl, fun U hU hW => ⟨rfl, by rw [hU]; exact hPc, va_K.moved hW.alike hKc⟩⟩ rfl rfl hl.1 rfl (lv_room (Nat.le_of_ble_eq_true rfl)) d_F_field_5 ⟨Nat.le_of_ble_eq_true rfl, Nat.le_of_ble_eq_true rfl⟩) hS (fun q _ h => h.elim) (fun q h => h.elim) (fun r_2 u_3 t H1 locs ht hvm hw hB hz1 hk1 hS => ?_)
  have hP := ro_keep hP hk1
  generalize H1 = H at hP hS ⊢
  refine W.widen (k := 0) (n := 0) (Nat.le_of_ble_eq_true rfl) (Nat.le_of_ble_eq_true rfl) ?_
  rcases hw with ⟨hr9, hw⟩ | ⟨hr9, hw⟩
  · subst hr9
    have p_4 := hw
    refine lv_if_eq (tgt := 22) hx hb d_F_field_8 (by decide) (fun c_5 => ?_) (fun c_5 => ?_)
    · skip
      first | exact absurd c_5 (by decide) | exact absurd (by decide) c_5
    · skip
      refine lv_aload_n hx hb d_F_field_11 rfl (lv_at hl 0 rfl) ?_
      refine va_get (D := (dC, dI)) (ci := 4) (v := .ref w) (C := R_F) (T := T_F) (N := 4) hx hb hts (fun w h => hsub w (uw_F w h)) hown hK hP 0 rfl rfl 0 (by decide) (hts _ (hsub _ w_181)) (fun _ h9 => h9) rfl d_F_field_12 ?_
      refine lv_iload_n hx hb d_F_field_15 rfl (lv_at hl 2 rfl) ?_
      have hPc := hP.sub (ws' := [(w, .inr (3, [.ref wp, .ref wu, .ref wi, .int 2, .ref wc, .ref wt, .ref wx, .int 0, .ref wm, .int 0]))]) [1] rfl
      have hKc := hK.sub (tys' := []) [] rfl
      refine va_calli (va_runV (As := [.int ty]) (rest := []) ⟨hx, hb, hml, hown, hts⟩ (k_W_isValueType l dC dI w wp wu wi wc wt wx wm ty) (cwV 1 hts (gV hsub w_194 w_195 w_196 w_4 w_197) rfl rfl rfl (by decide +kernel) ⟨Nat.le_of_ble_eq_true rfl, Nat.le_of_ble_eq_true rfl⟩) ⟨bl_0000, va_recv hKc hPc (ci := 3) (q0 := 0) rfl rfl, fun U hU hW => ⟨rfl, by rw [hU]; exact hPc, va_K.moved hW.alike hKc⟩⟩ rfl rfl hl.1 rfl (lv_room (Nat.le_of_ble_eq_true rfl)) d_F_field_16 ⟨Nat.le_of_ble_eq_true rfl, Nat.le_of_ble_eq_true rfl⟩) hS (fun q _ h => h.elim) (fun q h => h.elim) (fun r_7 u_8 t H1 locs ht hvm hw hB hz1 hk1 hS => ?_)
      have hP := ro_keep hP hk1
      generalize H1 = H at hP hS ⊢
      refine W.widen (k := 0) (n := 0) (Nat.le_of_ble_eq_true rfl) (Nat.le_of_ble_eq_true rfl) ?_
      rcases hw with ⟨hr9, hw⟩ | ⟨hr9, hw⟩
      · subst hr9
        have p_9 := hw
        refine lv_if_ne (tgt := 32) hx hb d_F_field_19 (by decide) (fun c_10 => ?_) (fun c_10 => ?_)
        · skip
          refine lv_iload_n hx hb d_F_field_32 rfl (lv_at hl 3 rfl) ?_
          refine lv_if_ne (tgt := 61) hx hb d_F_field_33 (by decide) (fun c_11 => ?_) (fun c_11 => ?_)
          · skip
            refine lv_aload_n hx hb d_F_field_61 rfl (lv_at hl 0 rfl) ?_
            refine va_get (D := (dC, dI)) (ci := 4) (v := .ref w) (C := R_F) (T := T_F) (N := 4) hx hb hts (fun w h => hsub w (uw_F w h)) hown hK hP 0 rfl rfl 0 (by decide) (hts _ (hsub _ w_181)) (fun _ h9 => h9) rfl d_F_field_62 ?_
            refine va_get (D := (dC, dI)) (ci := 3) (v := .int 0) (C := R_W) (T := T_W) (N := 10) hx hb hts (fun w h => hsub w (uw_W w h)) hown hK hP 1 rfl rfl 7 (by decide) (hts _ (hsub _ w_198)) (fun _ h9 => h9) rfl d_F_field_65 ?_
            refine lv_bipush (v := 16) hx hb d_F_field_68 (by decide) ?_
            refine lv_icmp_lt (tgt := 83) hx hb d_F_field_70 (by decide) (fun c_12 => ?_) (fun c_12 => ?_)
            · skip
              refine lv_aload_n hx hb d_F_field_83 rfl (lv_at hl 0 rfl) ?_
              refine va_get (D := (dC, dI)) (ci := 4) (v := .ref w) (C := R_F) (T := T_F) (N := 4) hx hb hts (fun w h => hsub w (uw_F w h)) hown hK hP 0 rfl rfl 0 (by decide) (hts _ (hsub _ w_181)) (fun _ h9 => h9) rfl d_F_field_84 ?_
              refine lv_iload_n hx hb d_F_field_87 rfl (lv_at hl 1 rfl) ?_
              refine lv_iload_n hx hb d_F_field_88 rfl (lv_at hl 2 rfl) ?_
              refine lv_iload_n hx hb d_F_field_89 rfl (lv_at hl 3 rfl) ?_
              have hPc := hP.sub (ws' := [(w, .inr (3, [.ref wp, .ref wu, .ref wi, .int 2, .ref wc, .ref wt, .ref wx, .int 0, .ref wm, .int 0])), (wc, .inl (kc, 16, .inl (fun _ => 0))), (wt, .inl (kt, 16, .inl (fun _ => 0))), (wx, .inl (kx, 16, .inl (fun _ => 0)))]) [1, 3, 4, 5] rfl
              have hKc := hK.sub (tys' := [(kc, .int), (kt, .int), (kx, .boolean)]) [1, 2, 3] rfl
              have hDc := hD.sub (ws' := [(w, .inr (3, [.ref wp, .ref wu, .ref wi, .int 2, .ref wc, .ref wt, .ref wx, .int 0, .ref wm, .int 0])), (wc, .inl (kc, 16, .inl (fun _ => 0))), (wt, .inl (kt, 16, .inl (fun _ => 0))), (wx, .inl (kx, 16, .inl (fun _ => 0)))]) [1, 3, 4, 5] (by decide) rfl
              have hFc := va_free (wc := [(w, .inr (3, [.ref wp, .ref wu, .ref wi, .int 2, .ref wc, .ref wt, .ref wx, .int 0, .ref wm, .int 0])), (wc, .inl (kc, 16, .inl (fun _ => 0))), (wt, .inl (kt, 16, .inl (fun _ => 0))), (wx, .inl (kx, 16, .inl (fun _ => 0)))]) hD hS hA [1, 3, 4, 5] rfl
              refine va_calli (va_runV (As := [.int ow, .int ty, .int bz]) (rest := []) ⟨hx, hb, hml, hown, hts⟩ (k_W_addField l dC dI w wp wu wi wc wt wx wm kc kt kx ow ty bz H.size) (cwV 3 hts (gV hsub w_199 w_200 w_201 w_4 w_202) rfl rfl rfl (by decide +kernel) ⟨Nat.le_of_ble_eq_true rfl, Nat.le_of_ble_eq_true rfl⟩) ⟨bl_1000, va_recv hKc hPc (ci := 3) (q0 := 0) rfl rfl, fun U hU hW => ⟨rfl, by rw [hU], by rw [hU]; exact hPc, va_K.moved hW.alike hKc, hDc.weaken (fun _ _ _ _ => trivial)⟩⟩ rfl rfl hl.1 rfl (lv_room (Nat.le_of_ble_eq_true rfl)) d_F_field_90 ⟨Nat.le_of_ble_eq_true rfl, Nat.le_of_ble_eq_true rfl⟩) hS (fun q _ h => hFc q h) hFc (fun r_14 u_15 t H1 locs ht hvm hw hB hz1 hk1 hS => ?_)
              have hP1 : va_P (dC, dI) vwCl [] H1 := nil_P
              have hD1 : va_D (va_A [(w, .inr (3, [.ref wp, .ref wu, .ref wi, .int 2, .ref wc, .ref wt, .ref wx, .int 0, .ref wm, .int 0])), (wc, .inl (kc, 16, .inl (fun _ => 0))), (wt, .inl (kt, 16, .inl (fun _ => 0))), (wx, .inl (kx, 16, .inl (fun _ => 0)))] H.size) [] := nil_D
              have hK1 : va_K (dC, dI) vwCl [] s := hK.sub (tys' := []) [] rfl
              obtain ⟨hP, hD⟩ := va_join (wr := [(f, .inr (4, [.ref w, .ref k, .ref tp, .int 0])), (wi, .inl (ki, 16, .inl (fun _ => 0)))]) (w1 := []) hP hD [1, 3, 4, 5] [0, 2] rfl rfl (by decide) (by decide) hk1 hFc hP1 hD1
              have hK := (hK.sub (tys' := [(ki, .boolean), (kc, .int), (kt, .int), (kx, .boolean)]) [0, 1, 2, 3] rfl).app hK1
              generalize H1 = H at hP hS ⊢
              have hP : va_P (dC, dI) vwCl [(f, .inr (4, [.ref w, .ref k, .ref tp, .int 0])), (wi, .inl (ki, 16, .inl (fun _ => 0)))] H := hP
              have hD : va_D A [(f, .inr (4, [.ref w, .ref k, .ref tp, .int 0])), (wi, .inl (ki, 16, .inl (fun _ => 0)))] := hD
              have hK : va_K (dC, dI) vwCl [(ki, .boolean), (kc, .int), (kt, .int), (kx, .boolean)] s := hK
              refine W.widen (k := 0) (n := 0) (Nat.le_of_ble_eq_true rfl) (Nat.le_of_ble_eq_true rfl) ?_
              subst hw
              refine vx_ret ?_
              refine W.widen (k := 1) (n := 6) (Nat.le_of_ble_eq_true rfl) (Nat.le_of_ble_eq_true rfl) ?_
              exact W.iret (v := 0) hx hb hr (fun t ht hW => ⟨⟨0, (), rfl, ⟨⟨p_4, p_9, Or.inl c_11⟩, rfl⟩, trivial⟩, hS.F ht⟩) hS.2.2 d_F_field_93
            · skip
              first | exact absurd c_12 (by decide) | exact absurd (by decide) c_12
          · skip
            refine lv_iload_n hx hb d_F_field_36 rfl (lv_at hl 1 rfl) ?_
            refine lv_if_eq (tgt := 51) hx hb d_F_field_37 (by decide) (fun c_16 => ?_) (fun c_16 => ?_)
            · skip
              obtain ⟨sa, hsa⟩ := hex.2.2.2.2.1 (62, "objects of this class have no fields") (by decide)
              exact vx_throwS (sa := sa) (names := ["java/lang/RuntimeException", "java/lang/Exception"]) hx hb hl9 hown (by decide +kernel) (by decide +kernel) (hts _ (hsub _ w_191)) (hts _ (hsub _ w_192)) hsa (xg_IllegalArgumentException_39_at hts hsub hex) xg_IllegalArgumentException_39_ot hex.1 hex.2.1 hS (hl.1.trans hml.symm) d_F_field_51 d_F_field_54 d_F_field_55 d_F_field_57 d_F_field_60 (fun x hx9 => (hnoh x hx9).elim) (Nat.le_of_ble_eq_true rfl) (Nat.le_of_ble_eq_true rfl) (Nat.le_of_ble_eq_true rfl) (Nat.le_of_ble_eq_true rfl) hlocks (fun t hal hz hk => ⟨(), fun h => Or.elim h.2.2 (fun h => h c_11) (fun h => h c_16), rfl, Nat.le_trans hS.1 hz, fun q h1 h2 => by rw [hk q (Nat.lt_of_lt_of_le h1 hS.1)]; exact hS.2.1 q h1 h2⟩) hS.2.2 (Nat.le_of_ble_eq_true rfl) (Nat.le_of_ble_eq_true rfl)
            · skip
              refine lv_aload_n hx hb d_F_field_40 rfl (lv_at hl 0 rfl) ?_
              refine va_get (D := (dC, dI)) (ci := 4) (v := .ref w) (C := R_F) (T := T_F) (N := 4) hx hb hts (fun w h => hsub w (uw_F w h)) hown hK hP 0 rfl rfl 0 (by decide) (hts _ (hsub _ w_181)) (fun _ h9 => h9) rfl d_F_field_41 ?_
              refine lv_iload_n hx hb d_F_field_44 rfl (lv_at hl 1 rfl) ?_
              have hPc := hP.sub (ws' := [(w, .inr (3, [.ref wp, .ref wu, .ref wi, .int 2, .ref wc, .ref wt, .ref wx, .int 0, .ref wm, .int 0])), (wi, .inl (ki, 16, .inl (fun _ => 0)))]) [1, 2] rfl
              have hKc := hK.sub (tys' := [(ki, .boolean)]) [0] rfl
              refine va_calli (va_runV (As := [.int ow]) (rest := []) ⟨hx, hb, hml, hown, hts⟩ (k_W_isProperClass l dC dI w wp wu wi wc wt wx wm ki ow) (cwV 1 hts (gV hsub w_187 w_188 w_189 w_4 w_190) rfl rfl rfl (by decide +kernel) ⟨Nat.le_of_ble_eq_true rfl, Nat.le_of_ble_eq_true rfl⟩) ⟨bl_0000, va_recv hKc hPc (ci := 3) (q0 := 0) rfl rfl, fun U hU hW => ⟨rfl, by rw [hU]; exact hPc, va_K.moved hW.alike hKc⟩⟩ rfl rfl hl.1 rfl (lv_room (Nat.le_of_ble_eq_true rfl)) d_F_field_45 ⟨Nat.le_of_ble_eq_true rfl, Nat.le_of_ble_eq_true rfl⟩) hS (fun q _ h => h.elim) (fun q h => h.elim) (fun r_18 u_19 t H1 locs ht hvm hw hB hz1 hk1 hS => ?_)
              have hP := ro_keep hP hk1
              generalize H1 = H at hP hS ⊢
              refine W.widen (k := 0) (n := 0) (Nat.le_of_ble_eq_true rfl) (Nat.le_of_ble_eq_true rfl) ?_
              rcases hw with ⟨hr9, hw⟩ | ⟨hr9, hw⟩
              · subst hr9
                have p_20 := hw
                refine lv_if_ne (tgt := 61) hx hb d_F_field_48 (by decide) (fun c_21 => ?_) (fun c_21 => ?_)
                · skip
                  refine lv_aload_n hx hb d_F_field_61 rfl (lv_at hl 0 rfl) ?_
                  refine va_get (D := (dC, dI)) (ci := 4) (v := .ref w) (C := R_F) (T := T_F) (N := 4) hx hb hts (fun w h => hsub w (uw_F w h)) hown hK hP 0 rfl rfl 0 (by decide) (hts _ (hsub _ w_181)) (fun _ h9 => h9) rfl d_F_field_62 ?_
                  refine va_get (D := (dC, dI)) (ci := 3) (v := .int 0) (C := R_W) (T := T_W) (N := 10) hx hb hts (fun w h => hsub w (uw_W w h)) hown hK hP 1 rfl rfl 7 (by decide) (hts _ (hsub _ w_198)) (fun _ h9 => h9) rfl d_F_field_65 ?_
                  refine lv_bipush (v := 16) hx hb d_F_field_68 (by decide) ?_
                  refine lv_icmp_lt (tgt := 83) hx hb d_F_field_70 (by decide) (fun c_22 => ?_) (fun c_22 => ?_)
                  · skip
                    refine lv_aload_n hx hb d_F_field_83 rfl (lv_at hl 0 rfl) ?_
                    refine va_get (D := (dC, dI)) (ci := 4) (v := .ref w) (C := R_F) (T := T_F) (N := 4) hx hb hts (fun w h => hsub w (uw_F w h)) hown hK hP 0 rfl rfl 0 (by decide) (hts _ (hsub _ w_181)) (fun _ h9 => h9) rfl d_F_field_84 ?_
                    refine lv_iload_n hx hb d_F_field_87 rfl (lv_at hl 1 rfl) ?_
                    refine lv_iload_n hx hb d_F_field_88 rfl (lv_at hl 2 rfl) ?_
                    refine lv_iload_n hx hb d_F_field_89 rfl (lv_at hl 3 rfl) ?_
                    have hPc := hP.sub (ws' := [(w, .inr (3, [.ref wp, .ref wu, .ref wi, .int 2, .ref wc, .ref wt, .ref wx, .int 0, .ref wm, .int 0])), (wc, .inl (kc, 16, .inl (fun _ => 0))), (wt, .inl (kt, 16, .inl (fun _ => 0))), (wx, .inl (kx, 16, .inl (fun _ => 0)))]) [1, 3, 4, 5] rfl
                    have hKc := hK.sub (tys' := [(kc, .int), (kt, .int), (kx, .boolean)]) [1, 2, 3] rfl
                    have hDc := hD.sub (ws' := [(w, .inr (3, [.ref wp, .ref wu, .ref wi, .int 2, .ref wc, .ref wt, .ref wx, .int 0, .ref wm, .int 0])), (wc, .inl (kc, 16, .inl (fun _ => 0))), (wt, .inl (kt, 16, .inl (fun _ => 0))), (wx, .inl (kx, 16, .inl (fun _ => 0)))]) [1, 3, 4, 5] (by decide) rfl
                    have hFc := va_free (wc := [(w, .inr (3, [.ref wp, .ref wu, .ref wi, .int 2, .ref wc, .ref wt, .ref wx, .int 0, .ref wm, .int 0])), (wc, .inl (kc, 16, .inl (fun _ => 0))), (wt, .inl (kt, 16, .inl (fun _ => 0))), (wx, .inl (kx, 16, .inl (fun _ => 0)))]) hD hS hA [1, 3, 4, 5] rfl
                    refine va_calli (va_runV (As := [.int ow, .int ty, .int bz]) (rest := []) ⟨hx, hb, hml, hown, hts⟩ (k_W_addField l dC dI w wp wu wi wc wt wx wm kc kt kx ow ty bz H.size) (cwV 3 hts (gV hsub w_199 w_200 w_201 w_4 w_202) rfl rfl rfl (by decide +kernel) ⟨Nat.le_of_ble_eq_true rfl, Nat.le_of_ble_eq_true rfl⟩) ⟨bl_1000, va_recv hKc hPc (ci := 3) (q0 := 0) rfl rfl, fun U hU hW => ⟨rfl, by rw [hU], by rw [hU]; exact hPc, va_K.moved hW.alike hKc, hDc.weaken (fun _ _ _ _ => trivial)⟩⟩ rfl rfl hl.1 rfl (lv_room (Nat.le_of_ble_eq_true rfl)) d_F_field_90 ⟨Nat.le_of_ble_eq_true rfl, Nat.le_of_ble_eq_true rfl⟩) hS (fun q _ h => hFc q h) hFc (fun r_24 u_25 t H1 locs ht hvm hw hB hz1 hk1 hS => ?_)
                    have hP1 : va_P (dC, dI) vwCl [] H1 := nil_P
                    have hD1 : va_D (va_A [(w, .inr (3, [.ref wp, .ref wu, .ref wi, .int 2, .ref wc, .ref wt, .ref wx, .int 0, .ref wm, .int 0])), (wc, .inl (kc, 16, .inl (fun _ => 0))), (wt, .inl (kt, 16, .inl (fun _ => 0))), (wx, .inl (kx, 16, .inl (fun _ => 0)))] H.size) [] := nil_D
                    have hK1 : va_K (dC, dI) vwCl [] s := hK.sub (tys' := []) [] rfl
                    obtain ⟨hP, hD⟩ := va_join (wr := [(f, .inr (4, [.ref w, .ref k, .ref tp, .int 0])), (wi, .inl (ki, 16, .inl (fun _ => 0)))]) (w1 := []) hP hD [1, 3, 4, 5] [0, 2] rfl rfl (by decide) (by decide) hk1 hFc hP1 hD1
                    have hK := (hK.sub (tys' := [(ki, .boolean), (kc, .int), (kt, .int), (kx, .boolean)]) [0, 1, 2, 3] rfl).app hK1
                    generalize H1 = H at hP hS ⊢
                    have hP : va_P (dC, dI) vwCl [(f, .inr (4, [.ref w, .ref k, .ref tp, .int 0])), (wi, .inl (ki, 16, .inl (fun _ => 0)))] H := hP
                    have hD : va_D A [(f, .inr (4, [.ref w, .ref k, .ref tp, .int 0])), (wi, .inl (ki, 16, .inl (fun _ => 0)))] := hD
                    have hK : va_K (dC, dI) vwCl [(ki, .boolean), (kc, .int), (kt, .int), (kx, .boolean)] s := hK
                    refine W.widen (k := 0) (n := 0) (Nat.le_of_ble_eq_true rfl) (Nat.le_of_ble_eq_true rfl) ?_
                    subst hw
                    refine vx_ret ?_
                    refine W.widen (k := 1) (n := 6) (Nat.le_of_ble_eq_true rfl) (Nat.le_of_ble_eq_true rfl) ?_
                    exact W.iret (v := 0) hx hb hr (fun t ht hW => ⟨⟨0, (), rfl, ⟨⟨p_20, p_9, Or.inr c_16⟩, rfl⟩, trivial⟩, hS.F ht⟩) hS.2.2 d_F_field_93
                  · skip
                    first | exact absurd c_22 (by decide) | exact absurd (by decide) c_22
                · skip
                  first | exact absurd c_21 (by decide) | exact absurd (by decide) c_21
              · subst hr9
                have p_26 := hw
                first | exact absurd p_26 p_4 | exact absurd p_4 p_26
        · skip
          first | exact absurd c_10 (by decide) | exact absurd (by decide) c_10
      · subst hr9
        have p_27 := hw
        refine lv_if_ne (tgt := 32) hx hb d_F_field_19 (by decide) (fun c_28 => ?_) (fun c_28 => ?_)
        · skip
          first | exact absurd c_28 (by decide) | exact absurd (by decide) c_28
        · skip
          obtain ⟨sa, hsa⟩ := hex.2.2.2.2.1 (60, "no such class or type") (by decide)
          exact vx_throwS (sa := sa) (names := ["java/lang/RuntimeException", "java/lang/Exception"]) hx hb hl9 hown (by decide +kernel) (by decide +kernel) (hts _ (hsub _ w_191)) (hts _ (hsub _ w_192)) hsa (xg_IllegalArgumentException_39_at hts hsub hex) xg_IllegalArgumentException_39_ot hex.1 hex.2.1 hS (hl.1.trans hml.symm) d_F_field_22 d_F_field_25 d_F_field_26 d_F_field_28 d_F_field_31 (fun x hx9 => (hnoh x hx9).elim) (Nat.le_of_ble_eq_true rfl) (Nat.le_of_ble_eq_true rfl) (Nat.le_of_ble_eq_true rfl) (Nat.le_of_ble_eq_true rfl) hlocks (fun t hal hz hk => ⟨(), fun h => p_27 h.2.1, rfl, Nat.le_trans hS.1 hz, fun q h1 h2 => by rw [hk q (Nat.lt_of_lt_of_le h1 hS.1)]; exact hS.2.1 q h1 h2⟩) hS.2.2 (Nat.le_of_ble_eq_true rfl) (Nat.le_of_ble_eq_true rfl)
  · subst hr9
    have p_29 := hw
    refine lv_if_eq (tgt := 22) hx hb d_F_field_8 (by decide) (fun c_30 => ?_) (fun c_30 => ?_)
    · skip
      obtain ⟨sa, hsa⟩ := hex.2.2.2.2.1 (60, "no such class or type") (by decide)
      exact vx_throwS (sa := sa) (names := ["java/lang/RuntimeException", "java/lang/Exception"]) hx hb hl9 hown (by decide +kernel) (by decide +kernel) (hts _ (hsub _ w_191)) (hts _ (hsub _ w_192)) hsa (xg_IllegalArgumentException_39_at hts hsub hex) xg_IllegalArgumentException_39_ot hex.1 hex.2.1 hS (hl.1.trans hml.symm) d_F_field_22 d_F_field_25 d_F_field_26 d_F_field_28 d_F_field_31 (fun x hx9 => (hnoh x hx9).elim) (Nat.le_of_ble_eq_true rfl) (Nat.le_of_ble_eq_true rfl) (Nat.le_of_ble_eq_true rfl) (Nat.le_of_ble_eq_true rfl) hlocks (fun t hal hz hk => ⟨(), fun h => p_29 h.1, rfl, Nat.le_trans hS.1 hz, fun q h1 h2 => by rw [hk q (Nat.lt_of_lt_of_le h1 hS.1)]; exact hS.2.1 q h1 h2⟩) hS.2.2 (Nat.le_of_ble_eq_true rfl) (Nat.le_of_ble_eq_true rfl)
    · skip
      first | exact absurd c_30 (by decide) | exact absurd (by decide) c_30

abbrev ws_k_F_method (f w k tp wp wu wi wc wt wx wm : Nat) (km : ClassId) (fm : Nat → Option Nat) : va_W := [(f, .inr (4, [.ref w, .ref k, .ref tp, .int 0])), (w, .inr (3, [.ref wp, .ref wu, .ref wi, .int 2, .ref wc, .ref wt, .ref wx, .int 0, .ref wm, .int 0])), (wm, .inl (km, 8, .inr (.inr (.inr (.inr fm)))))]
set_option maxHeartbeats 4000000 in
set_option maxRecDepth 100000 in
theorem k_F_method (l : Launch) (hl9 : l.stackTraces = false) (dC : Nat → ClassId) (dI : Nat → Nat → Nat) (f w k tp wp wu wi wc wt wx wm : Nat) (km : ClassId) (fm : Nat → Option Nat) (pk rs : Int32) (sz : Nat) : vx_Met l y_F_method (Cond.code y_F_method prog_1_method_4_code 5 (some .int) :: bigW) ({ frames := 6, cells := 6, slots := 20, locals := 118 } : Room) (va_Pc [.ref f, .int pk, .int rs] (fun U => U.heap.size = sz ∧ va_P (dC, dI) vwCl (ws_k_F_method f w k tp wp wu wi wc wt wx wm km fm) U.heap ∧ va_K (dC, dI) vwCl [(km, .object "MapFramer$Method")] U ∧ va_D (fun _ => True) (ws_k_F_method f w k tp wp wu wi wc wt wx wm km fm) ∧ exP (va_A (ws_k_F_method f w k tp wp wu wi wc wt wx wm km fm) sz) U)) (va_Qi (fun (r : Int32) (u : Unit) => okM pk rs ∧ r = 0) (fun _ _ => True) (va_A (ws_k_F_method f w k tp wp wu wi wc wt wx wm km fm) sz)) (vx_X (S := Unit) (fun _ => ¬ okM pk rs) (fun E _ _ => E = "java/lang/IllegalArgumentException") (va_A (ws_k_F_method f w k tp wp wu wi wc wt wx wm km fm) sz)) 6 20 (va_A (ws_k_F_method f w k tp wp wu wi wc wt wx wm km fm) sz) := by
  refine vx_ofW (cc := prog_1_method_4_code) (maxL := 5) (ret := (some .int)) (by decide) rfl ?_
  intro p e s m args below meth cx s₁ B hml hnoh hv
  obtain ⟨rfl, hsz, hP, hK, hD0, hex⟩ := hv
  have hx := B.exec
  have hb := B.bytes
  have hr := B.returns
  have hts := atoms_spec (ws := (Cond.code y_F_method prog_1_method_4_code 5 (some .int) :: bigW)) B.pre
  have hsub : ∀ w ∈ bigW, w ∈ (Cond.code y_F_method prog_1_method_4_code 5 (some .int) :: bigW) := fun w h => List.mem_cons_of_mem _ h
  have hown : s.vm.findClass "MapFramer" = some m.cls := findClass_of_methodNamed B.named
  have hlocks := B.notSynchronized
  subst hsz
  have hD := hD0.self (sz := s.heap.size)
  generalize hAe : va_A (ws_k_F_method f w k tp wp wu wi wc wt wx wm km fm) s.heap.size = A at hD hex ⊢
  have hA : ∀ q : Nat, s.heap.size ≤ q → A q := fun q h => by rw [← hAe]; exact Or.inr h
  have hS : va_S A s.heap s.heap [] := va_S.rf
  have hP : va_P (dC, dI) vwCl [(f, .inr (4, [.ref w, .ref k, .ref tp, .int 0])), (w, .inr (3, [.ref wp, .ref wu, .ref wi, .int 2, .ref wc, .ref wt, .ref wx, .int 0, .ref wm, .int 0])), (wm, .inl (km, 8, .inr (.inr (.inr (.inr fm)))))] s.heap := hP
  have hD : va_D A [(f, .inr (4, [.ref w, .ref k, .ref tp, .int 0])), (w, .inr (3, [.ref wp, .ref wu, .ref wi, .int 2, .ref wc, .ref wt, .ref wx, .int 0, .ref wm, .int 0])), (wm, .inl (km, 8, .inr (.inr (.inr (.inr fm)))))] := hD
  have hl := lv_entry ([.ref f, .int pk, .int rs]) (n := 5) (Nat.le_of_ble_eq_true rfl)
  rw [lg_entry_eq]
  generalize (lg_sl ([.ref f, .int pk, .int rs]) ++ List.replicate (5 - (lg_sl ([.ref f, .int pk, .int rs])).length) Slot.unset).toArray = ls at hl ⊢
  have hl : lv_has ls 5 [(0, .ref f), (1, .int pk), (2, .int rs)] := hl
  refine lv_iload_n hx hb d_F_method_0 rfl (lv_at hl 1 rfl) ?_
  have hPc := hP.sub (ws' := []) [] rfl
  have hKc := hK.sub (tys' := []) [] rfl
  refine va_calli (va_runS (As := [.int pk]) (rest := []) ⟨hx, hb, hml, hown, hts⟩ (k_W_argumentCount l dC dI pk) (va_cwS 1 hts (gS hsub w_203 w_172 w_4 w_173) rfl rfl rfl (by decide +kernel) ⟨Nat.le_of_ble_eq_true rfl, Nat.le_of_ble_eq_true rfl⟩) ⟨bl_0000, fun U hU hW => ⟨rfl, by rw [hU]; exact hPc, va_K.moved hW.alike hKc⟩⟩ rfl rfl hl.1 rfl (lv_room (Nat.le_of_ble_eq_true rfl)) d_F_method_1 ⟨Nat.le_of_ble_eq_true rfl, Nat.le_of_ble_eq_true rfl⟩) hS (fun q _ h => h.elim) (fun q h => h.elim) (fun r_2 u_3 t H1 locs ht hvm hw hB hz1 hk1 hS => ?_)
  have hP := ro_keep hP hk1
  generalize H1 = H at hP hS ⊢
  refine W.widen (k := 0) (n := 0) (Nat.le_of_ble_eq_true rfl) (Nat.le_of_ble_eq_true rfl) ?_
  rcases argI_cases pk with ⟨hn, g0⟩ | ⟨hn, g0, g1⟩ | ⟨hn, g0, g1, g2⟩ | ⟨hn, g0, g1, g2, g3⟩ | ⟨hn, g0, g1, g2, g3⟩
  · obtain rfl : r_2 = 0 := hw.trans hn
    refine lv_istore_n (lv' := [(3, .int 0), (0, .ref f), (1, .int pk), (2, .int rs)]) hx hb d_F_method_4 rfl hl (by decide) rfl (fun ls hl => ?_)
    refine lv_iconst (v := 0) hx hb d_F_method_5 (by decide) ?_
    refine lv_istore (lv' := [(4, .int 0), (3, .int 0), (0, .ref f), (1, .int pk), (2, .int rs)]) hx hb d_F_method_6 hl (by decide) rfl (fun ls hl => ?_)
    refine lv_iload hx hb d_F_method_8 (lv_at hl 0 rfl) ?_
    refine lv_iload_n hx hb d_F_method_10 rfl (lv_at hl 1 rfl) ?_
    refine lv_icmp_ge (tgt := 46) hx hb d_F_method_11 (by decide) (fun c_4 => ?_) (fun c_4 => ?_)
    · skip
      refine lv_iload_n hx hb d_F_method_46 rfl (lv_at hl 4 rfl) ?_
      refine lv_if_eq (tgt := 71) hx hb d_F_method_47 (by decide) (fun c_5 => ?_) (fun c_5 => ?_)
      · skip
        refine lv_aload_n hx hb d_F_method_71 rfl (lv_at hl 2 rfl) ?_
        refine va_get (D := (dC, dI)) (ci := 4) (v := .ref w) (C := R_F) (T := T_F) (N := 4) hx hb hts (fun w h => hsub w (uw_F w h)) hown hK hP 0 rfl rfl 0 (by decide) (hts _ (hsub _ w_181)) (fun _ h9 => h9) rfl d_F_method_72 ?_
        refine va_get (D := (dC, dI)) (ci := 3) (v := .int 0) (C := R_W) (T := T_W) (N := 10) hx hb hts (fun w h => hsub w (uw_W w h)) hown hK hP 1 rfl rfl 9 (by decide) (hts _ (hsub _ w_204)) (fun _ h9 => h9) rfl d_F_method_75 ?_
        refine lv_bipush (v := 8) hx hb d_F_method_78 (by decide) ?_
        refine lv_icmp_lt (tgt := 93) hx hb d_F_method_80 (by decide) (fun c_6 => ?_) (fun c_6 => ?_)
        · skip
          refine lv_aload_n hx hb d_F_method_93 rfl (lv_at hl 2 rfl) ?_
          refine va_get (D := (dC, dI)) (ci := 4) (v := .ref w) (C := R_F) (T := T_F) (N := 4) hx hb hts (fun w h => hsub w (uw_F w h)) hown hK hP 0 rfl rfl 0 (by decide) (hts _ (hsub _ w_181)) (fun _ h9 => h9) rfl d_F_method_94 ?_
          refine lv_iload_n hx hb d_F_method_97 rfl (lv_at hl 3 rfl) ?_
          refine lv_iload_n hx hb d_F_method_98 rfl (lv_at hl 4 rfl) ?_
          have hPc := hP.sub (ws' := [(w, .inr (3, [.ref wp, .ref wu, .ref wi, .int 2, .ref wc, .ref wt, .ref wx, .int 0, .ref wm, .int 0])), (wm, .inl (km, 8, .inr (.inr (.inr (.inr fm)))))]) [1, 2] rfl
          have hKc := hK.sub (tys' := [(km, .object "MapFramer$Method")]) [0] rfl
          have hDc := hD.sub (ws' := [(w, .inr (3, [.ref wp, .ref wu, .ref wi, .int 2, .ref wc, .ref wt, .ref wx, .int 0, .ref wm, .int 0])), (wm, .inl (km, 8, .inr (.inr (.inr (.inr fm)))))]) [1, 2] (by decide) rfl
          have hFc := va_free (wc := [(w, .inr (3, [.ref wp, .ref wu, .ref wi, .int 2, .ref wc, .ref wt, .ref wx, .int 0, .ref wm, .int 0])), (wm, .inl (km, 8, .inr (.inr (.inr (.inr fm)))))]) hD hS hA [1, 2] rfl
          refine va_calli (va_runV (As := [.int pk, .int rs]) (rest := []) ⟨hx, hb, hml, hown, hts⟩ (k_W_addMethod l dC dI w wp wu wi wc wt wx wm km fm pk rs H.size) (cwV 2 hts (gV hsub w_205 w_206 w_207 w_4 w_208) rfl rfl rfl (by decide +kernel) ⟨Nat.le_of_ble_eq_true rfl, Nat.le_of_ble_eq_true rfl⟩) ⟨bl_1010, va_recv hKc hPc (ci := 3) (q0 := 0) rfl rfl, fun U hU hW => ⟨rfl, by rw [hU], by rw [hU]; exact hPc, va_K.moved hW.alike hKc, hDc.weaken (fun _ _ _ _ => trivial), exP_go hex hS (fun q h => hFc q h) U hU hW⟩⟩ rfl rfl hl.1 rfl (lv_room (Nat.le_of_ble_eq_true rfl)) d_F_method_99 ⟨Nat.le_of_ble_eq_true rfl, Nat.le_of_ble_eq_true rfl⟩) hS (fun q _ h => hFc q h) hFc (fun r_8 u_9 t H1 locs ht hvm hw hB hz1 hk1 hS => ?_)
          have hP1 : va_P (dC, dI) vwCl [] H1 := nil_P
          have hD1 : va_D (va_A [(w, .inr (3, [.ref wp, .ref wu, .ref wi, .int 2, .ref wc, .ref wt, .ref wx, .int 0, .ref wm, .int 0])), (wm, .inl (km, 8, .inr (.inr (.inr (.inr fm)))))] H.size) [] := nil_D
          have hK1 : va_K (dC, dI) vwCl [] s := hK.sub (tys' := []) [] rfl
          obtain ⟨hP, hD⟩ := va_join (wr := [(f, .inr (4, [.ref w, .ref k, .ref tp, .int 0]))]) (w1 := []) hP hD [1, 2] [0] rfl rfl (by decide) (by decide) hk1 hFc hP1 hD1
          have hK := (hK.sub (tys' := [(km, .object "MapFramer$Method")]) [0] rfl).app hK1
          generalize H1 = H at hP hS ⊢
          have hP : va_P (dC, dI) vwCl [(f, .inr (4, [.ref w, .ref k, .ref tp, .int 0]))] H := hP
          have hD : va_D A [(f, .inr (4, [.ref w, .ref k, .ref tp, .int 0]))] := hD
          have hK : va_K (dC, dI) vwCl [(km, .object "MapFramer$Method")] s := hK
          refine W.widen (k := 6) (n := 20) (Nat.le_of_ble_eq_true rfl) (Nat.le_of_ble_eq_true rfl) ?_
          subst hw
          refine vx_ret ?_
          refine W.widen (k := 6) (n := 20) (Nat.le_of_ble_eq_true rfl) (Nat.le_of_ble_eq_true rfl) ?_
          exact W.iret (v := 0) hx hb hr (fun t ht hW => ⟨⟨0, (), rfl, ⟨⟨by simp [okA, g0, c_5], Or.inl c_5⟩, rfl⟩, trivial⟩, hS.F ht⟩) hS.2.2 d_F_method_102
        · skip
          first | exact absurd c_6 (by decide) | exact absurd (by decide) c_6
      · skip
        refine lv_aload_n hx hb d_F_method_50 rfl (lv_at hl 2 rfl) ?_
        refine va_get (D := (dC, dI)) (ci := 4) (v := .ref w) (C := R_F) (T := T_F) (N := 4) hx hb hts (fun w h => hsub w (uw_F w h)) hown hK hP 0 rfl rfl 0 (by decide) (hts _ (hsub _ w_181)) (fun _ h9 => h9) rfl d_F_method_51 ?_
        refine lv_iload_n hx hb d_F_method_54 rfl (lv_at hl 4 rfl) ?_
        have hPc := hP.sub (ws' := [(w, .inr (3, [.ref wp, .ref wu, .ref wi, .int 2, .ref wc, .ref wt, .ref wx, .int 0, .ref wm, .int 0]))]) [1] rfl
        have hKc := hK.sub (tys' := []) [] rfl
        refine va_calli (va_runV (As := [.int rs]) (rest := []) ⟨hx, hb, hml, hown, hts⟩ (k_W_isValueType l dC dI w wp wu wi wc wt wx wm rs) (cwV 1 hts (gV hsub w_194 w_195 w_196 w_4 w_197) rfl rfl rfl (by decide +kernel) ⟨Nat.le_of_ble_eq_true rfl, Nat.le_of_ble_eq_true rfl⟩) ⟨bl_0000, va_recv hKc hPc (ci := 3) (q0 := 0) rfl rfl, fun U hU hW => ⟨rfl, by rw [hU]; exact hPc, va_K.moved hW.alike hKc⟩⟩ rfl rfl hl.1 rfl (lv_room (Nat.le_of_ble_eq_true rfl)) d_F_method_55 ⟨Nat.le_of_ble_eq_true rfl, Nat.le_of_ble_eq_true rfl⟩) hS (fun q _ h => h.elim) (fun q h => h.elim) (fun r_11 u_12 t H1 locs ht hvm hw hB hz1 hk1 hS => ?_)
        have hP := ro_keep hP hk1
        generalize H1 = H at hP hS ⊢
        refine W.widen (k := 0) (n := 0) (Nat.le_of_ble_eq_true rfl) (Nat.le_of_ble_eq_true rfl) ?_
        rcases hw with ⟨hr9, hw⟩ | ⟨hr9, hw⟩
        · subst hr9
          have p_13 := hw
          refine lv_if_ne (tgt := 71) hx hb d_F_method_58 (by decide) (fun c_14 => ?_) (fun c_14 => ?_)
          · skip
            refine lv_aload_n hx hb d_F_method_71 rfl (lv_at hl 2 rfl) ?_
            refine va_get (D := (dC, dI)) (ci := 4) (v := .ref w) (C := R_F) (T := T_F) (N := 4) hx hb hts (fun w h => hsub w (uw_F w h)) hown hK hP 0 rfl rfl 0 (by decide) (hts _ (hsub _ w_181)) (fun _ h9 => h9) rfl d_F_method_72 ?_
            refine va_get (D := (dC, dI)) (ci := 3) (v := .int 0) (C := R_W) (T := T_W) (N := 10) hx hb hts (fun w h => hsub w (uw_W w h)) hown hK hP 1 rfl rfl 9 (by decide) (hts _ (hsub _ w_204)) (fun _ h9 => h9) rfl d_F_method_75 ?_
            refine lv_bipush (v := 8) hx hb d_F_method_78 (by decide) ?_
            refine lv_icmp_lt (tgt := 93) hx hb d_F_method_80 (by decide) (fun c_15 => ?_) (fun c_15 => ?_)
            · skip
              refine lv_aload_n hx hb d_F_method_93 rfl (lv_at hl 2 rfl) ?_
              refine va_get (D := (dC, dI)) (ci := 4) (v := .ref w) (C := R_F) (T := T_F) (N := 4) hx hb hts (fun w h => hsub w (uw_F w h)) hown hK hP 0 rfl rfl 0 (by decide) (hts _ (hsub _ w_181)) (fun _ h9 => h9) rfl d_F_method_94 ?_
              refine lv_iload_n hx hb d_F_method_97 rfl (lv_at hl 3 rfl) ?_
              refine lv_iload_n hx hb d_F_method_98 rfl (lv_at hl 4 rfl) ?_
              have hPc := hP.sub (ws' := [(w, .inr (3, [.ref wp, .ref wu, .ref wi, .int 2, .ref wc, .ref wt, .ref wx, .int 0, .ref wm, .int 0])), (wm, .inl (km, 8, .inr (.inr (.inr (.inr fm)))))]) [1, 2] rfl
              have hKc := hK.sub (tys' := [(km, .object "MapFramer$Method")]) [0] rfl
              have hDc := hD.sub (ws' := [(w, .inr (3, [.ref wp, .ref wu, .ref wi, .int 2, .ref wc, .ref wt, .ref wx, .int 0, .ref wm, .int 0])), (wm, .inl (km, 8, .inr (.inr (.inr (.inr fm)))))]) [1, 2] (by decide) rfl
              have hFc := va_free (wc := [(w, .inr (3, [.ref wp, .ref wu, .ref wi, .int 2, .ref wc, .ref wt, .ref wx, .int 0, .ref wm, .int 0])), (wm, .inl (km, 8, .inr (.inr (.inr (.inr fm)))))]) hD hS hA [1, 2] rfl
              refine va_calli (va_runV (As := [.int pk, .int rs]) (rest := []) ⟨hx, hb, hml, hown, hts⟩ (k_W_addMethod l dC dI w wp wu wi wc wt wx wm km fm pk rs H.size) (cwV 2 hts (gV hsub w_205 w_206 w_207 w_4 w_208) rfl rfl rfl (by decide +kernel) ⟨Nat.le_of_ble_eq_true rfl, Nat.le_of_ble_eq_true rfl⟩) ⟨bl_1010, va_recv hKc hPc (ci := 3) (q0 := 0) rfl rfl, fun U hU hW => ⟨rfl, by rw [hU], by rw [hU]; exact hPc, va_K.moved hW.alike hKc, hDc.weaken (fun _ _ _ _ => trivial), exP_go hex hS (fun q h => hFc q h) U hU hW⟩⟩ rfl rfl hl.1 rfl (lv_room (Nat.le_of_ble_eq_true rfl)) d_F_method_99 ⟨Nat.le_of_ble_eq_true rfl, Nat.le_of_ble_eq_true rfl⟩) hS (fun q _ h => hFc q h) hFc (fun r_17 u_18 t H1 locs ht hvm hw hB hz1 hk1 hS => ?_)
              have hP1 : va_P (dC, dI) vwCl [] H1 := nil_P
              have hD1 : va_D (va_A [(w, .inr (3, [.ref wp, .ref wu, .ref wi, .int 2, .ref wc, .ref wt, .ref wx, .int 0, .ref wm, .int 0])), (wm, .inl (km, 8, .inr (.inr (.inr (.inr fm)))))] H.size) [] := nil_D
              have hK1 : va_K (dC, dI) vwCl [] s := hK.sub (tys' := []) [] rfl
              obtain ⟨hP, hD⟩ := va_join (wr := [(f, .inr (4, [.ref w, .ref k, .ref tp, .int 0]))]) (w1 := []) hP hD [1, 2] [0] rfl rfl (by decide) (by decide) hk1 hFc hP1 hD1
              have hK := (hK.sub (tys' := [(km, .object "MapFramer$Method")]) [0] rfl).app hK1
              generalize H1 = H at hP hS ⊢
              have hP : va_P (dC, dI) vwCl [(f, .inr (4, [.ref w, .ref k, .ref tp, .int 0]))] H := hP
              have hD : va_D A [(f, .inr (4, [.ref w, .ref k, .ref tp, .int 0]))] := hD
              have hK : va_K (dC, dI) vwCl [(km, .object "MapFramer$Method")] s := hK
              refine W.widen (k := 6) (n := 20) (Nat.le_of_ble_eq_true rfl) (Nat.le_of_ble_eq_true rfl) ?_
              subst hw
              refine vx_ret ?_
              refine W.widen (k := 6) (n := 20) (Nat.le_of_ble_eq_true rfl) (Nat.le_of_ble_eq_true rfl) ?_
              exact W.iret (v := 0) hx hb hr (fun t ht hW => ⟨⟨0, (), rfl, ⟨⟨by simp [okA, g0, c_5, p_13], Or.inr p_13⟩, rfl⟩, trivial⟩, hS.F ht⟩) hS.2.2 d_F_method_102
            · skip
              first | exact absurd c_15 (by decide) | exact absurd (by decide) c_15
          · skip
            first | exact absurd c_14 (by decide) | exact absurd (by decide) c_14
        · subst hr9
          have p_19 := hw
          refine lv_if_ne (tgt := 71) hx hb d_F_method_58 (by decide) (fun c_20 => ?_) (fun c_20 => ?_)
          · skip
            first | exact absurd c_20 (by decide) | exact absurd (by decide) c_20
          · skip
            obtain ⟨sa, hsa⟩ := hex.2.2.2.2.1 (83, "no such result type") (by decide)
            exact vx_throwS (sa := sa) (names := ["java/lang/RuntimeException", "java/lang/Exception"]) hx hb hl9 hown (by decide +kernel) (by decide +kernel) (hts _ (hsub _ w_191)) (hts _ (hsub _ w_192)) hsa (xg_IllegalArgumentException_39_at hts hsub hex) xg_IllegalArgumentException_39_ot hex.1 hex.2.1 hS (hl.1.trans hml.symm) d_F_method_61 d_F_method_64 d_F_method_65 d_F_method_67 d_F_method_70 (fun x hx9 => (hnoh x hx9).elim) (Nat.le_of_ble_eq_true rfl) (Nat.le_of_ble_eq_true rfl) (Nat.le_of_ble_eq_true rfl) (Nat.le_of_ble_eq_true rfl) hlocks (fun t hal hz hk => ⟨(), by intro h; obtain ⟨h1, h2⟩ := h; first | (simp [okA, g0, c_5, p_19] at h1; done) | (simp [g0, c_5, p_19] at h2; done), rfl, Nat.le_trans hS.1 hz, fun q h1 h2 => by rw [hk q (Nat.lt_of_lt_of_le h1 hS.1)]; exact hS.2.1 q h1 h2⟩) hS.2.2 (Nat.le_of_ble_eq_true rfl) (Nat.le_of_ble_eq_true rfl)
    · skip
      first | exact absurd c_4 (by decide) | exact absurd (by decide) c_4
  · obtain rfl : r_2 = 1 := hw.trans hn
    refine lv_istore_n (lv' := [(3, .int 1), (0, .ref f), (1, .int pk), (2, .int rs)]) hx hb d_F_method_4 rfl hl (by decide) rfl (fun ls hl => ?_)
    refine lv_iconst (v := 0) hx hb d_F_method_5 (by decide) ?_
    refine lv_istore (lv' := [(4, .int 0), (3, .int 1), (0, .ref f), (1, .int pk), (2, .int rs)]) hx hb d_F_method_6 hl (by decide) rfl (fun ls hl => ?_)
    refine lv_iload hx hb d_F_method_8 (lv_at hl 0 rfl) ?_
    refine lv_iload_n hx hb d_F_method_10 rfl (lv_at hl 1 rfl) ?_
    refine lv_icmp_ge (tgt := 46) hx hb d_F_method_11 (by decide) (fun c_21 => ?_) (fun c_21 => ?_)
    · skip
      first | exact absurd c_21 (by decide) | exact absurd (by decide) c_21
    · skip
      refine lv_aload_n hx hb d_F_method_14 rfl (lv_at hl 2 rfl) ?_
      refine va_get (D := (dC, dI)) (ci := 4) (v := .ref w) (C := R_F) (T := T_F) (N := 4) hx hb hts (fun w h => hsub w (uw_F w h)) hown hK hP 0 rfl rfl 0 (by decide) (hts _ (hsub _ w_181)) (fun _ h9 => h9) rfl d_F_method_15 ?_
      refine lv_iload_n hx hb d_F_method_18 rfl (lv_at hl 3 rfl) ?_
      refine lv_iload hx hb d_F_method_19 (lv_at hl 0 rfl) ?_
      have hPc := hP.sub (ws' := []) [] rfl
      have hKc := hK.sub (tys' := []) [] rfl
      refine va_calli (va_runS (As := [.int pk, .int 0]) (rest := [.ref w]) ⟨hx, hb, hml, hown, hts⟩ (k_W_argumentType l dC dI pk 0) (va_cwS 2 hts (gS hsub w_209 w_139 w_4 w_140) rfl rfl rfl (by decide +kernel) ⟨Nat.le_of_ble_eq_true rfl, Nat.le_of_ble_eq_true rfl⟩) ⟨bl_0000, fun U hU hW => ⟨rfl, by rw [hU]; exact hPc, va_K.moved hW.alike hKc⟩⟩ rfl rfl hl.1 rfl (lv_room (Nat.le_of_ble_eq_true rfl)) d_F_method_21 ⟨Nat.le_of_ble_eq_true rfl, Nat.le_of_ble_eq_true rfl⟩) hS (fun q _ h => h.elim) (fun q h => h.elim) (fun r_23 u_24 t H1 locs ht hvm hw hB hz1 hk1 hS => ?_)
      have hP := ro_keep hP hk1
      generalize H1 = H at hP hS ⊢
      refine W.widen (k := 0) (n := 0) (Nat.le_of_ble_eq_true rfl) (Nat.le_of_ble_eq_true rfl) ?_
      subst hw
      have hPc := hP.sub (ws' := [(w, .inr (3, [.ref wp, .ref wu, .ref wi, .int 2, .ref wc, .ref wt, .ref wx, .int 0, .ref wm, .int 0]))]) [1] rfl
      have hKc := hK.sub (tys' := []) [] rfl
      refine va_calli (va_runV (As := [.int (argX pk 0)]) (rest := []) ⟨hx, hb, hml, hown, hts⟩ (k_W_isValueType l dC dI w wp wu wi wc wt wx wm ((argX pk 0))) (cwV 1 hts (gV hsub w_194 w_195 w_196 w_4 w_197) rfl rfl rfl (by decide +kernel) ⟨Nat.le_of_ble_eq_true rfl, Nat.le_of_ble_eq_true rfl⟩) ⟨bl_0000, va_recv hKc hPc (ci := 3) (q0 := 0) rfl rfl, fun U hU hW => ⟨rfl, by rw [hU]; exact hPc, va_K.moved hW.alike hKc⟩⟩ rfl rfl hl.1 rfl (lv_room (Nat.le_of_ble_eq_true rfl)) d_F_method_24 ⟨Nat.le_of_ble_eq_true rfl, Nat.le_of_ble_eq_true rfl⟩) hS (fun q _ h => h.elim) (fun q h => h.elim) (fun r_26 u_27 t H1 locs ht hvm hw hB hz1 hk1 hS => ?_)
      have hP := ro_keep hP hk1
      generalize H1 = H at hP hS ⊢
      refine W.widen (k := 0) (n := 0) (Nat.le_of_ble_eq_true rfl) (Nat.le_of_ble_eq_true rfl) ?_
      rcases hw with ⟨hr9, hw⟩ | ⟨hr9, hw⟩
      · subst hr9
        have p_28 := hw
        refine lv_if_ne (tgt := 40) hx hb d_F_method_27 (by decide) (fun c_29 => ?_) (fun c_29 => ?_)
        · skip
          refine lv_iinc (v := 1) (lv' := [(4, .int 1), (3, .int 1), (0, .ref f), (1, .int pk), (2, .int rs)]) hx hb d_F_method_40 hl (k := 0) rfl (by decide) (by decide) rfl (fun ls hl => ?_)
          refine lv_goto (tgt := 8) hx hb d_F_method_43 (by decide) ?_
          refine lv_iload hx hb d_F_method_8 (lv_at hl 0 rfl) ?_
          refine lv_iload_n hx hb d_F_method_10 rfl (lv_at hl 1 rfl) ?_
          refine lv_icmp_ge (tgt := 46) hx hb d_F_method_11 (by decide) (fun c_30 => ?_) (fun c_30 => ?_)
          · skip
            refine lv_iload_n hx hb d_F_method_46 rfl (lv_at hl 4 rfl) ?_
            refine lv_if_eq (tgt := 71) hx hb d_F_method_47 (by decide) (fun c_31 => ?_) (fun c_31 => ?_)
            · skip
              refine lv_aload_n hx hb d_F_method_71 rfl (lv_at hl 2 rfl) ?_
              refine va_get (D := (dC, dI)) (ci := 4) (v := .ref w) (C := R_F) (T := T_F) (N := 4) hx hb hts (fun w h => hsub w (uw_F w h)) hown hK hP 0 rfl rfl 0 (by decide) (hts _ (hsub _ w_181)) (fun _ h9 => h9) rfl d_F_method_72 ?_
              refine va_get (D := (dC, dI)) (ci := 3) (v := .int 0) (C := R_W) (T := T_W) (N := 10) hx hb hts (fun w h => hsub w (uw_W w h)) hown hK hP 1 rfl rfl 9 (by decide) (hts _ (hsub _ w_204)) (fun _ h9 => h9) rfl d_F_method_75 ?_
              refine lv_bipush (v := 8) hx hb d_F_method_78 (by decide) ?_
              refine lv_icmp_lt (tgt := 93) hx hb d_F_method_80 (by decide) (fun c_32 => ?_) (fun c_32 => ?_)
              · skip
                refine lv_aload_n hx hb d_F_method_93 rfl (lv_at hl 2 rfl) ?_
                refine va_get (D := (dC, dI)) (ci := 4) (v := .ref w) (C := R_F) (T := T_F) (N := 4) hx hb hts (fun w h => hsub w (uw_F w h)) hown hK hP 0 rfl rfl 0 (by decide) (hts _ (hsub _ w_181)) (fun _ h9 => h9) rfl d_F_method_94 ?_
                refine lv_iload_n hx hb d_F_method_97 rfl (lv_at hl 3 rfl) ?_
                refine lv_iload_n hx hb d_F_method_98 rfl (lv_at hl 4 rfl) ?_
                have hPc := hP.sub (ws' := [(w, .inr (3, [.ref wp, .ref wu, .ref wi, .int 2, .ref wc, .ref wt, .ref wx, .int 0, .ref wm, .int 0])), (wm, .inl (km, 8, .inr (.inr (.inr (.inr fm)))))]) [1, 2] rfl
                have hKc := hK.sub (tys' := [(km, .object "MapFramer$Method")]) [0] rfl
                have hDc := hD.sub (ws' := [(w, .inr (3, [.ref wp, .ref wu, .ref wi, .int 2, .ref wc, .ref wt, .ref wx, .int 0, .ref wm, .int 0])), (wm, .inl (km, 8, .inr (.inr (.inr (.inr fm)))))]) [1, 2] (by decide) rfl
                have hFc := va_free (wc := [(w, .inr (3, [.ref wp, .ref wu, .ref wi, .int 2, .ref wc, .ref wt, .ref wx, .int 0, .ref wm, .int 0])), (wm, .inl (km, 8, .inr (.inr (.inr (.inr fm)))))]) hD hS hA [1, 2] rfl
                refine va_calli (va_runV (As := [.int pk, .int rs]) (rest := []) ⟨hx, hb, hml, hown, hts⟩ (k_W_addMethod l dC dI w wp wu wi wc wt wx wm km fm pk rs H.size) (cwV 2 hts (gV hsub w_205 w_206 w_207 w_4 w_208) rfl rfl rfl (by decide +kernel) ⟨Nat.le_of_ble_eq_true rfl, Nat.le_of_ble_eq_true rfl⟩) ⟨bl_1010, va_recv hKc hPc (ci := 3) (q0 := 0) rfl rfl, fun U hU hW => ⟨rfl, by rw [hU], by rw [hU]; exact hPc, va_K.moved hW.alike hKc, hDc.weaken (fun _ _ _ _ => trivial), exP_go hex hS (fun q h => hFc q h) U hU hW⟩⟩ rfl rfl hl.1 rfl (lv_room (Nat.le_of_ble_eq_true rfl)) d_F_method_99 ⟨Nat.le_of_ble_eq_true rfl, Nat.le_of_ble_eq_true rfl⟩) hS (fun q _ h => hFc q h) hFc (fun r_34 u_35 t H1 locs ht hvm hw hB hz1 hk1 hS => ?_)
                have hP1 : va_P (dC, dI) vwCl [] H1 := nil_P
                have hD1 : va_D (va_A [(w, .inr (3, [.ref wp, .ref wu, .ref wi, .int 2, .ref wc, .ref wt, .ref wx, .int 0, .ref wm, .int 0])), (wm, .inl (km, 8, .inr (.inr (.inr (.inr fm)))))] H.size) [] := nil_D
                have hK1 : va_K (dC, dI) vwCl [] s := hK.sub (tys' := []) [] rfl
                obtain ⟨hP, hD⟩ := va_join (wr := [(f, .inr (4, [.ref w, .ref k, .ref tp, .int 0]))]) (w1 := []) hP hD [1, 2] [0] rfl rfl (by decide) (by decide) hk1 hFc hP1 hD1
                have hK := (hK.sub (tys' := [(km, .object "MapFramer$Method")]) [0] rfl).app hK1
                generalize H1 = H at hP hS ⊢
                have hP : va_P (dC, dI) vwCl [(f, .inr (4, [.ref w, .ref k, .ref tp, .int 0]))] H := hP
                have hD : va_D A [(f, .inr (4, [.ref w, .ref k, .ref tp, .int 0]))] := hD
                have hK : va_K (dC, dI) vwCl [(km, .object "MapFramer$Method")] s := hK
                refine W.widen (k := 6) (n := 20) (Nat.le_of_ble_eq_true rfl) (Nat.le_of_ble_eq_true rfl) ?_
                subst hw
                refine vx_ret ?_
                refine W.widen (k := 6) (n := 20) (Nat.le_of_ble_eq_true rfl) (Nat.le_of_ble_eq_true rfl) ?_
                exact W.iret (v := 0) hx hb hr (fun t ht hW => ⟨⟨0, (), rfl, ⟨⟨by simp [okA, g0, g1, p_28, c_31], Or.inl c_31⟩, rfl⟩, trivial⟩, hS.F ht⟩) hS.2.2 d_F_method_102
              · skip
                first | exact absurd c_32 (by decide) | exact absurd (by decide) c_32
            · skip
              refine lv_aload_n hx hb d_F_method_50 rfl (lv_at hl 2 rfl) ?_
              refine va_get (D := (dC, dI)) (ci := 4) (v := .ref w) (C := R_F) (T := T_F) (N := 4) hx hb hts (fun w h => hsub w (uw_F w h)) hown hK hP 0 rfl rfl 0 (by decide) (hts _ (hsub _ w_181)) (fun _ h9 => h9) rfl d_F_method_51 ?_
              refine lv_iload_n hx hb d_F_method_54 rfl (lv_at hl 4 rfl) ?_
              have hPc := hP.sub (ws' := [(w, .inr (3, [.ref wp, .ref wu, .ref wi, .int 2, .ref wc, .ref wt, .ref wx, .int 0, .ref wm, .int 0]))]) [1] rfl
              have hKc := hK.sub (tys' := []) [] rfl
              refine va_calli (va_runV (As := [.int rs]) (rest := []) ⟨hx, hb, hml, hown, hts⟩ (k_W_isValueType l dC dI w wp wu wi wc wt wx wm rs) (cwV 1 hts (gV hsub w_194 w_195 w_196 w_4 w_197) rfl rfl rfl (by decide +kernel) ⟨Nat.le_of_ble_eq_true rfl, Nat.le_of_ble_eq_true rfl⟩) ⟨bl_0000, va_recv hKc hPc (ci := 3) (q0 := 0) rfl rfl, fun U hU hW => ⟨rfl, by rw [hU]; exact hPc, va_K.moved hW.alike hKc⟩⟩ rfl rfl hl.1 rfl (lv_room (Nat.le_of_ble_eq_true rfl)) d_F_method_55 ⟨Nat.le_of_ble_eq_true rfl, Nat.le_of_ble_eq_true rfl⟩) hS (fun q _ h => h.elim) (fun q h => h.elim) (fun r_37 u_38 t H1 locs ht hvm hw hB hz1 hk1 hS => ?_)
              have hP := ro_keep hP hk1
              generalize H1 = H at hP hS ⊢
              refine W.widen (k := 0) (n := 0) (Nat.le_of_ble_eq_true rfl) (Nat.le_of_ble_eq_true rfl) ?_
              rcases hw with ⟨hr9, hw⟩ | ⟨hr9, hw⟩
              · subst hr9
                have p_39 := hw
                refine lv_if_ne (tgt := 71) hx hb d_F_method_58 (by decide) (fun c_40 => ?_) (fun c_40 => ?_)
                · skip
                  refine lv_aload_n hx hb d_F_method_71 rfl (lv_at hl 2 rfl) ?_
                  refine va_get (D := (dC, dI)) (ci := 4) (v := .ref w) (C := R_F) (T := T_F) (N := 4) hx hb hts (fun w h => hsub w (uw_F w h)) hown hK hP 0 rfl rfl 0 (by decide) (hts _ (hsub _ w_181)) (fun _ h9 => h9) rfl d_F_method_72 ?_
                  refine va_get (D := (dC, dI)) (ci := 3) (v := .int 0) (C := R_W) (T := T_W) (N := 10) hx hb hts (fun w h => hsub w (uw_W w h)) hown hK hP 1 rfl rfl 9 (by decide) (hts _ (hsub _ w_204)) (fun _ h9 => h9) rfl d_F_method_75 ?_
                  refine lv_bipush (v := 8) hx hb d_F_method_78 (by decide) ?_
                  refine lv_icmp_lt (tgt := 93) hx hb d_F_method_80 (by decide) (fun c_41 => ?_) (fun c_41 => ?_)
                  · skip
                    refine lv_aload_n hx hb d_F_method_93 rfl (lv_at hl 2 rfl) ?_
                    refine va_get (D := (dC, dI)) (ci := 4) (v := .ref w) (C := R_F) (T := T_F) (N := 4) hx hb hts (fun w h => hsub w (uw_F w h)) hown hK hP 0 rfl rfl 0 (by decide) (hts _ (hsub _ w_181)) (fun _ h9 => h9) rfl d_F_method_94 ?_
                    refine lv_iload_n hx hb d_F_method_97 rfl (lv_at hl 3 rfl) ?_
                    refine lv_iload_n hx hb d_F_method_98 rfl (lv_at hl 4 rfl) ?_
                    have hPc := hP.sub (ws' := [(w, .inr (3, [.ref wp, .ref wu, .ref wi, .int 2, .ref wc, .ref wt, .ref wx, .int 0, .ref wm, .int 0])), (wm, .inl (km, 8, .inr (.inr (.inr (.inr fm)))))]) [1, 2] rfl
                    have hKc := hK.sub (tys' := [(km, .object "MapFramer$Method")]) [0] rfl
                    have hDc := hD.sub (ws' := [(w, .inr (3, [.ref wp, .ref wu, .ref wi, .int 2, .ref wc, .ref wt, .ref wx, .int 0, .ref wm, .int 0])), (wm, .inl (km, 8, .inr (.inr (.inr (.inr fm)))))]) [1, 2] (by decide) rfl
                    have hFc := va_free (wc := [(w, .inr (3, [.ref wp, .ref wu, .ref wi, .int 2, .ref wc, .ref wt, .ref wx, .int 0, .ref wm, .int 0])), (wm, .inl (km, 8, .inr (.inr (.inr (.inr fm)))))]) hD hS hA [1, 2] rfl
                    refine va_calli (va_runV (As := [.int pk, .int rs]) (rest := []) ⟨hx, hb, hml, hown, hts⟩ (k_W_addMethod l dC dI w wp wu wi wc wt wx wm km fm pk rs H.size) (cwV 2 hts (gV hsub w_205 w_206 w_207 w_4 w_208) rfl rfl rfl (by decide +kernel) ⟨Nat.le_of_ble_eq_true rfl, Nat.le_of_ble_eq_true rfl⟩) ⟨bl_1010, va_recv hKc hPc (ci := 3) (q0 := 0) rfl rfl, fun U hU hW => ⟨rfl, by rw [hU], by rw [hU]; exact hPc, va_K.moved hW.alike hKc, hDc.weaken (fun _ _ _ _ => trivial), exP_go hex hS (fun q h => hFc q h) U hU hW⟩⟩ rfl rfl hl.1 rfl (lv_room (Nat.le_of_ble_eq_true rfl)) d_F_method_99 ⟨Nat.le_of_ble_eq_true rfl, Nat.le_of_ble_eq_true rfl⟩) hS (fun q _ h => hFc q h) hFc (fun r_43 u_44 t H1 locs ht hvm hw hB hz1 hk1 hS => ?_)
                    have hP1 : va_P (dC, dI) vwCl [] H1 := nil_P
                    have hD1 : va_D (va_A [(w, .inr (3, [.ref wp, .ref wu, .ref wi, .int 2, .ref wc, .ref wt, .ref wx, .int 0, .ref wm, .int 0])), (wm, .inl (km, 8, .inr (.inr (.inr (.inr fm)))))] H.size) [] := nil_D
                    have hK1 : va_K (dC, dI) vwCl [] s := hK.sub (tys' := []) [] rfl
                    obtain ⟨hP, hD⟩ := va_join (wr := [(f, .inr (4, [.ref w, .ref k, .ref tp, .int 0]))]) (w1 := []) hP hD [1, 2] [0] rfl rfl (by decide) (by decide) hk1 hFc hP1 hD1
                    have hK := (hK.sub (tys' := [(km, .object "MapFramer$Method")]) [0] rfl).app hK1
                    generalize H1 = H at hP hS ⊢
                    have hP : va_P (dC, dI) vwCl [(f, .inr (4, [.ref w, .ref k, .ref tp, .int 0]))] H := hP
                    have hD : va_D A [(f, .inr (4, [.ref w, .ref k, .ref tp, .int 0]))] := hD
                    have hK : va_K (dC, dI) vwCl [(km, .object "MapFramer$Method")] s := hK
                    refine W.widen (k := 6) (n := 20) (Nat.le_of_ble_eq_true rfl) (Nat.le_of_ble_eq_true rfl) ?_
                    subst hw
                    refine vx_ret ?_
                    refine W.widen (k := 6) (n := 20) (Nat.le_of_ble_eq_true rfl) (Nat.le_of_ble_eq_true rfl) ?_
                    exact W.iret (v := 0) hx hb hr (fun t ht hW => ⟨⟨0, (), rfl, ⟨⟨by simp [okA, g0, g1, p_28, c_31, p_39], Or.inr p_39⟩, rfl⟩, trivial⟩, hS.F ht⟩) hS.2.2 d_F_method_102
                  · skip
                    first | exact absurd c_41 (by decide) | exact absurd (by decide) c_41
                · skip
                  first | exact absurd c_40 (by decide) | exact absurd (by decide) c_40
              · subst hr9
                have p_45 := hw
                refine lv_if_ne (tgt := 71) hx hb d_F_method_58 (by decide) (fun c_46 => ?_) (fun c_46 => ?_)
                · skip
                  first | exact absurd c_46 (by decide) | exact absurd (by decide) c_46
                · skip
                  obtain ⟨sa, hsa⟩ := hex.2.2.2.2.1 (83, "no such result type") (by decide)
                  exact vx_throwS (sa := sa) (names := ["java/lang/RuntimeException", "java/lang/Exception"]) hx hb hl9 hown (by decide +kernel) (by decide +kernel) (hts _ (hsub _ w_191)) (hts _ (hsub _ w_192)) hsa (xg_IllegalArgumentException_39_at hts hsub hex) xg_IllegalArgumentException_39_ot hex.1 hex.2.1 hS (hl.1.trans hml.symm) d_F_method_61 d_F_method_64 d_F_method_65 d_F_method_67 d_F_method_70 (fun x hx9 => (hnoh x hx9).elim) (Nat.le_of_ble_eq_true rfl) (Nat.le_of_ble_eq_true rfl) (Nat.le_of_ble_eq_true rfl) (Nat.le_of_ble_eq_true rfl) hlocks (fun t hal hz hk => ⟨(), by intro h; obtain ⟨h1, h2⟩ := h; first | (simp [okA, g0, g1, p_28, c_31, p_45] at h1; done) | (simp [g0, g1, p_28, c_31, p_45] at h2; done), rfl, Nat.le_trans hS.1 hz, fun q h1 h2 => by rw [hk q (Nat.lt_of_lt_of_le h1 hS.1)]; exact hS.2.1 q h1 h2⟩) hS.2.2 (Nat.le_of_ble_eq_true rfl) (Nat.le_of_ble_eq_true rfl)
          · skip
            first | exact absurd c_30 (by decide) | exact absurd (by decide) c_30
        · skip
          first | exact absurd c_29 (by decide) | exact absurd (by decide) c_29
      · subst hr9
        have p_47 := hw
        refine lv_if_ne (tgt := 40) hx hb d_F_method_27 (by decide) (fun c_48 => ?_) (fun c_48 => ?_)
        · skip
          first | exact absurd c_48 (by decide) | exact absurd (by decide) c_48
        · skip
          obtain ⟨sa, hsa⟩ := hex.2.2.2.2.1 (81, "no such argument type") (by decide)
          exact vx_throwS (sa := sa) (names := ["java/lang/RuntimeException", "java/lang/Exception"]) hx hb hl9 hown (by decide +kernel) (by decide +kernel) (hts _ (hsub _ w_191)) (hts _ (hsub _ w_192)) hsa (xg_IllegalArgumentException_39_at hts hsub hex) xg_IllegalArgumentException_39_ot hex.1 hex.2.1 hS (hl.1.trans hml.symm) d_F_method_30 d_F_method_33 d_F_method_34 d_F_method_36 d_F_method_39 (fun x hx9 => (hnoh x hx9).elim) (Nat.le_of_ble_eq_true rfl) (Nat.le_of_ble_eq_true rfl) (Nat.le_of_ble_eq_true rfl) (Nat.le_of_ble_eq_true rfl) hlocks (fun t hal hz hk => ⟨(), by intro h; obtain ⟨h1, h2⟩ := h; first | (simp [okA, g0, g1, p_47] at h1; done) | (simp [g0, g1, p_47] at h2; done), rfl, Nat.le_trans hS.1 hz, fun q h1 h2 => by rw [hk q (Nat.lt_of_lt_of_le h1 hS.1)]; exact hS.2.1 q h1 h2⟩) hS.2.2 (Nat.le_of_ble_eq_true rfl) (Nat.le_of_ble_eq_true rfl)
  · obtain rfl : r_2 = 2 := hw.trans hn
    refine lv_istore_n (lv' := [(3, .int 2), (0, .ref f), (1, .int pk), (2, .int rs)]) hx hb d_F_method_4 rfl hl (by decide) rfl (fun ls hl => ?_)
    refine lv_iconst (v := 0) hx hb d_F_method_5 (by decide) ?_
    refine lv_istore (lv' := [(4, .int 0), (3, .int 2), (0, .ref f), (1, .int pk), (2, .int rs)]) hx hb d_F_method_6 hl (by decide) rfl (fun ls hl => ?_)
    refine lv_iload hx hb d_F_method_8 (lv_at hl 0 rfl) ?_
    refine lv_iload_n hx hb d_F_method_10 rfl (lv_at hl 1 rfl) ?_
    refine lv_icmp_ge (tgt := 46) hx hb d_F_method_11 (by decide) (fun c_49 => ?_) (fun c_49 => ?_)
    · skip
      first | exact absurd c_49 (by decide) | exact absurd (by decide) c_49
    · skip
      refine lv_aload_n hx hb d_F_method_14 rfl (lv_at hl 2 rfl) ?_
      refine va_get (D := (dC, dI)) (ci := 4) (v := .ref w) (C := R_F) (T := T_F) (N := 4) hx hb hts (fun w h => hsub w (uw_F w h)) hown hK hP 0 rfl rfl 0 (by decide) (hts _ (hsub _ w_181)) (fun _ h9 => h9) rfl d_F_method_15 ?_
      refine lv_iload_n hx hb d_F_method_18 rfl (lv_at hl 3 rfl) ?_
      refine lv_iload hx hb d_F_method_19 (lv_at hl 0 rfl) ?_
      have hPc := hP.sub (ws' := []) [] rfl
      have hKc := hK.sub (tys' := []) [] rfl
      refine va_calli (va_runS (As := [.int pk, .int 0]) (rest := [.ref w]) ⟨hx, hb, hml, hown, hts⟩ (k_W_argumentType l dC dI pk 0) (va_cwS 2 hts (gS hsub w_209 w_139 w_4 w_140) rfl rfl rfl (by decide +kernel) ⟨Nat.le_of_ble_eq_true rfl, Nat.le_of_ble_eq_true rfl⟩) ⟨bl_0000, fun U hU hW => ⟨rfl, by rw [hU]; exact hPc, va_K.moved hW.alike hKc⟩⟩ rfl rfl hl.1 rfl (lv_room (Nat.le_of_ble_eq_true rfl)) d_F_method_21 ⟨Nat.le_of_ble_eq_true rfl, Nat.le_of_ble_eq_true rfl⟩) hS (fun q _ h => h.elim) (fun q h => h.elim) (fun r_51 u_52 t H1 locs ht hvm hw hB hz1 hk1 hS => ?_)
      have hP := ro_keep hP hk1
      generalize H1 = H at hP hS ⊢
      refine W.widen (k := 0) (n := 0) (Nat.le_of_ble_eq_true rfl) (Nat.le_of_ble_eq_true rfl) ?_
      subst hw
      have hPc := hP.sub (ws' := [(w, .inr (3, [.ref wp, .ref wu, .ref wi, .int 2, .ref wc, .ref wt, .ref wx, .int 0, .ref wm, .int 0]))]) [1] rfl
      have hKc := hK.sub (tys' := []) [] rfl
      refine va_calli (va_runV (As := [.int (argX pk 0)]) (rest := []) ⟨hx, hb, hml, hown, hts⟩ (k_W_isValueType l dC dI w wp wu wi wc wt wx wm ((argX pk 0))) (cwV 1 hts (gV hsub w_194 w_195 w_196 w_4 w_197) rfl rfl rfl (by decide +kernel) ⟨Nat.le_of_ble_eq_true rfl, Nat.le_of_ble_eq_true rfl⟩) ⟨bl_0000, va_recv hKc hPc (ci := 3) (q0 := 0) rfl rfl, fun U hU hW => ⟨rfl, by rw [hU]; exact hPc, va_K.moved hW.alike hKc⟩⟩ rfl rfl hl.1 rfl (lv_room (Nat.le_of_ble_eq_true rfl)) d_F_method_24 ⟨Nat.le_of_ble_eq_true rfl, Nat.le_of_ble_eq_true rfl⟩) hS (fun q _ h => h.elim) (fun q h => h.elim) (fun r_54 u_55 t H1 locs ht hvm hw hB hz1 hk1 hS => ?_)
      have hP := ro_keep hP hk1
      generalize H1 = H at hP hS ⊢
      refine W.widen (k := 0) (n := 0) (Nat.le_of_ble_eq_true rfl) (Nat.le_of_ble_eq_true rfl) ?_
      rcases hw with ⟨hr9, hw⟩ | ⟨hr9, hw⟩
      · subst hr9
        have p_56 := hw
        refine lv_if_ne (tgt := 40) hx hb d_F_method_27 (by decide) (fun c_57 => ?_) (fun c_57 => ?_)
        · skip
          refine lv_iinc (v := 1) (lv' := [(4, .int 1), (3, .int 2), (0, .ref f), (1, .int pk), (2, .int rs)]) hx hb d_F_method_40 hl (k := 0) rfl (by decide) (by decide) rfl (fun ls hl => ?_)
          refine lv_goto (tgt := 8) hx hb d_F_method_43 (by decide) ?_
          refine lv_iload hx hb d_F_method_8 (lv_at hl 0 rfl) ?_
          refine lv_iload_n hx hb d_F_method_10 rfl (lv_at hl 1 rfl) ?_
          refine lv_icmp_ge (tgt := 46) hx hb d_F_method_11 (by decide) (fun c_58 => ?_) (fun c_58 => ?_)
          · skip
            first | exact absurd c_58 (by decide) | exact absurd (by decide) c_58
          · skip
            refine lv_aload_n hx hb d_F_method_14 rfl (lv_at hl 2 rfl) ?_
            refine va_get (D := (dC, dI)) (ci := 4) (v := .ref w) (C := R_F) (T := T_F) (N := 4) hx hb hts (fun w h => hsub w (uw_F w h)) hown hK hP 0 rfl rfl 0 (by decide) (hts _ (hsub _ w_181)) (fun _ h9 => h9) rfl d_F_method_15 ?_
            refine lv_iload_n hx hb d_F_method_18 rfl (lv_at hl 3 rfl) ?_
            refine lv_iload hx hb d_F_method_19 (lv_at hl 0 rfl) ?_
            have hPc := hP.sub (ws' := []) [] rfl
            have hKc := hK.sub (tys' := []) [] rfl
            refine va_calli (va_runS (As := [.int pk, .int 1]) (rest := [.ref w]) ⟨hx, hb, hml, hown, hts⟩ (k_W_argumentType l dC dI pk 1) (va_cwS 2 hts (gS hsub w_209 w_139 w_4 w_140) rfl rfl rfl (by decide +kernel) ⟨Nat.le_of_ble_eq_true rfl, Nat.le_of_ble_eq_true rfl⟩) ⟨bl_0000, fun U hU hW => ⟨rfl, by rw [hU]; exact hPc, va_K.moved hW.alike hKc⟩⟩ rfl rfl hl.1 rfl (lv_room (Nat.le_of_ble_eq_true rfl)) d_F_method_21 ⟨Nat.le_of_ble_eq_true rfl, Nat.le_of_ble_eq_true rfl⟩) hS (fun q _ h => h.elim) (fun q h => h.elim) (fun r_60 u_61 t H1 locs ht hvm hw hB hz1 hk1 hS => ?_)
            have hP := ro_keep hP hk1
            generalize H1 = H at hP hS ⊢
            refine W.widen (k := 0) (n := 0) (Nat.le_of_ble_eq_true rfl) (Nat.le_of_ble_eq_true rfl) ?_
            subst hw
            have hPc := hP.sub (ws' := [(w, .inr (3, [.ref wp, .ref wu, .ref wi, .int 2, .ref wc, .ref wt, .ref wx, .int 0, .ref wm, .int 0]))]) [1] rfl
            have hKc := hK.sub (tys' := []) [] rfl
            refine va_calli (va_runV (As := [.int (argX pk 1)]) (rest := []) ⟨hx, hb, hml, hown, hts⟩ (k_W_isValueType l dC dI w wp wu wi wc wt wx wm ((argX pk 1))) (cwV 1 hts (gV hsub w_194 w_195 w_196 w_4 w_197) rfl rfl rfl (by decide +kernel) ⟨Nat.le_of_ble_eq_true rfl, Nat.le_of_ble_eq_true rfl⟩) ⟨bl_0000, va_recv hKc hPc (ci := 3) (q0 := 0) rfl rfl, fun U hU hW => ⟨rfl, by rw [hU]; exact hPc, va_K.moved hW.alike hKc⟩⟩ rfl rfl hl.1 rfl (lv_room (Nat.le_of_ble_eq_true rfl)) d_F_method_24 ⟨Nat.le_of_ble_eq_true rfl, Nat.le_of_ble_eq_true rfl⟩) hS (fun q _ h => h.elim) (fun q h => h.elim) (fun r_63 u_64 t H1 locs ht hvm hw hB hz1 hk1 hS => ?_)
            have hP := ro_keep hP hk1
            generalize H1 = H at hP hS ⊢
            refine W.widen (k := 0) (n := 0) (Nat.le_of_ble_eq_true rfl) (Nat.le_of_ble_eq_true rfl) ?_
            rcases hw with ⟨hr9, hw⟩ | ⟨hr9, hw⟩
            · subst hr9
              have p_65 := hw
              refine lv_if_ne (tgt := 40) hx hb d_F_method_27 (by decide) (fun c_66 => ?_) (fun c_66 => ?_)
              · skip
                refine lv_iinc (v := 2) (lv' := [(4, .int 2), (3, .int 2), (0, .ref f), (1, .int pk), (2, .int rs)]) hx hb d_F_method_40 hl (k := 0) rfl (by decide) (by decide) rfl (fun ls hl => ?_)
                refine lv_goto (tgt := 8) hx hb d_F_method_43 (by decide) ?_
                refine lv_iload hx hb d_F_method_8 (lv_at hl 0 rfl) ?_
                refine lv_iload_n hx hb d_F_method_10 rfl (lv_at hl 1 rfl) ?_
                refine lv_icmp_ge (tgt := 46) hx hb d_F_method_11 (by decide) (fun c_67 => ?_) (fun c_67 => ?_)
                · skip
                  refine lv_iload_n hx hb d_F_method_46 rfl (lv_at hl 4 rfl) ?_
                  refine lv_if_eq (tgt := 71) hx hb d_F_method_47 (by decide) (fun c_68 => ?_) (fun c_68 => ?_)
                  · skip
                    refine lv_aload_n hx hb d_F_method_71 rfl (lv_at hl 2 rfl) ?_
                    refine va_get (D := (dC, dI)) (ci := 4) (v := .ref w) (C := R_F) (T := T_F) (N := 4) hx hb hts (fun w h => hsub w (uw_F w h)) hown hK hP 0 rfl rfl 0 (by decide) (hts _ (hsub _ w_181)) (fun _ h9 => h9) rfl d_F_method_72 ?_
                    refine va_get (D := (dC, dI)) (ci := 3) (v := .int 0) (C := R_W) (T := T_W) (N := 10) hx hb hts (fun w h => hsub w (uw_W w h)) hown hK hP 1 rfl rfl 9 (by decide) (hts _ (hsub _ w_204)) (fun _ h9 => h9) rfl d_F_method_75 ?_
                    refine lv_bipush (v := 8) hx hb d_F_method_78 (by decide) ?_
                    refine lv_icmp_lt (tgt := 93) hx hb d_F_method_80 (by decide) (fun c_69 => ?_) (fun c_69 => ?_)
                    · skip
                      refine lv_aload_n hx hb d_F_method_93 rfl (lv_at hl 2 rfl) ?_
                      refine va_get (D := (dC, dI)) (ci := 4) (v := .ref w) (C := R_F) (T := T_F) (N := 4) hx hb hts (fun w h => hsub w (uw_F w h)) hown hK hP 0 rfl rfl 0 (by decide) (hts _ (hsub _ w_181)) (fun _ h9 => h9) rfl d_F_method_94 ?_
                      refine lv_iload_n hx hb d_F_method_97 rfl (lv_at hl 3 rfl) ?_
                      refine lv_iload_n hx hb d_F_method_98 rfl (lv_at hl 4 rfl) ?_
                      have hPc := hP.sub (ws' := [(w, .inr (3, [.ref wp, .ref wu, .ref wi, .int 2, .ref wc, .ref wt, .ref wx, .int 0, .ref wm, .int 0])), (wm, .inl (km, 8, .inr (.inr (.inr (.inr fm)))))]) [1, 2] rfl
                      have hKc := hK.sub (tys' := [(km, .object "MapFramer$Method")]) [0] rfl
                      have hDc := hD.sub (ws' := [(w, .inr (3, [.ref wp, .ref wu, .ref wi, .int 2, .ref wc, .ref wt, .ref wx, .int 0, .ref wm, .int 0])), (wm, .inl (km, 8, .inr (.inr (.inr (.inr fm)))))]) [1, 2] (by decide) rfl
                      have hFc := va_free (wc := [(w, .inr (3, [.ref wp, .ref wu, .ref wi, .int 2, .ref wc, .ref wt, .ref wx, .int 0, .ref wm, .int 0])), (wm, .inl (km, 8, .inr (.inr (.inr (.inr fm)))))]) hD hS hA [1, 2] rfl
                      refine va_calli (va_runV (As := [.int pk, .int rs]) (rest := []) ⟨hx, hb, hml, hown, hts⟩ (k_W_addMethod l dC dI w wp wu wi wc wt wx wm km fm pk rs H.size) (cwV 2 hts (gV hsub w_205 w_206 w_207 w_4 w_208) rfl rfl rfl (by decide +kernel) ⟨Nat.le_of_ble_eq_true rfl, Nat.le_of_ble_eq_true rfl⟩) ⟨bl_1010, va_recv hKc hPc (ci := 3) (q0 := 0) rfl rfl, fun U hU hW => ⟨rfl, by rw [hU], by rw [hU]; exact hPc, va_K.moved hW.alike hKc, hDc.weaken (fun _ _ _ _ => trivial), exP_go hex hS (fun q h => hFc q h) U hU hW⟩⟩ rfl rfl hl.1 rfl (lv_room (Nat.le_of_ble_eq_true rfl)) d_F_method_99 ⟨Nat.le_of_ble_eq_true rfl, Nat.le_of_ble_eq_true rfl⟩) hS (fun q _ h => hFc q h) hFc (fun r_71 u_72 t H1 locs ht hvm hw hB hz1 hk1 hS => ?_)
                      have hP1 : va_P (dC, dI) vwCl [] H1 := nil_P
                      have hD1 : va_D (va_A [(w, .inr (3, [.ref wp, .ref wu, .ref wi, .int 2, .ref wc, .ref wt, .ref wx, .int 0, .ref wm, .int 0])), (wm, .inl (km, 8, .inr (.inr (.inr (.inr fm)))))] H.size) [] := nil_D
                      have hK1 : va_K (dC, dI) vwCl [] s := hK.sub (tys' := []) [] rfl
                      obtain ⟨hP, hD⟩ := va_join (wr := [(f, .inr (4, [.ref w, .ref k, .ref tp, .int 0]))]) (w1 := []) hP hD [1, 2] [0] rfl rfl (by decide) (by decide) hk1 hFc hP1 hD1
                      have hK := (hK.sub (tys' := [(km, .object "MapFramer$Method")]) [0] rfl).app hK1
                      generalize H1 = H at hP hS ⊢
                      have hP : va_P (dC, dI) vwCl [(f, .inr (4, [.ref w, .ref k, .ref tp, .int 0]))] H := hP
                      have hD : va_D A [(f, .inr (4, [.ref w, .ref k, .ref tp, .int 0]))] := hD
                      have hK : va_K (dC, dI) vwCl [(km, .object "MapFramer$Method")] s := hK
                      refine W.widen (k := 6) (n := 20) (Nat.le_of_ble_eq_true rfl) (Nat.le_of_ble_eq_true rfl) ?_
                      subst hw
                      refine vx_ret ?_
                      refine W.widen (k := 6) (n := 20) (Nat.le_of_ble_eq_true rfl) (Nat.le_of_ble_eq_true rfl) ?_
                      exact W.iret (v := 0) hx hb hr (fun t ht hW => ⟨⟨0, (), rfl, ⟨⟨by simp [okA, g0, g1, g2, p_56, p_65, c_68], Or.inl c_68⟩, rfl⟩, trivial⟩, hS.F ht⟩) hS.2.2 d_F_method_102
                    · skip
                      first | exact absurd c_69 (by decide) | exact absurd (by decide) c_69
                  · skip
                    refine lv_aload_n hx hb d_F_method_50 rfl (lv_at hl 2 rfl) ?_
                    refine va_get (D := (dC, dI)) (ci := 4) (v := .ref w) (C := R_F) (T := T_F) (N := 4) hx hb hts (fun w h => hsub w (uw_F w h)) hown hK hP 0 rfl rfl 0 (by decide) (hts _ (hsub _ w_181)) (fun _ h9 => h9) rfl d_F_method_51 ?_
                    refine lv_iload_n hx hb d_F_method_54 rfl (lv_at hl 4 rfl) ?_
                    have hPc := hP.sub (ws' := [(w, .inr (3, [.ref wp, .ref wu, .ref wi, .int 2, .ref wc, .ref wt, .ref wx, .int 0, .ref wm, .int 0]))]) [1] rfl
                    have hKc := hK.sub (tys' := []) [] rfl
                    refine va_calli (va_runV (As := [.int rs]) (rest := []) ⟨hx, hb, hml, hown, hts⟩ (k_W_isValueType l dC dI w wp wu wi wc wt wx wm rs) (cwV 1 hts (gV hsub w_194 w_195 w_196 w_4 w_197) rfl rfl rfl (by decide +kernel) ⟨Nat.le_of_ble_eq_true rfl, Nat.le_of_ble_eq_true rfl⟩) ⟨bl_0000, va_recv hKc hPc (ci := 3) (q0 := 0) rfl rfl, fun U hU hW => ⟨rfl, by rw [hU]; exact hPc, va_K.moved hW.alike hKc⟩⟩ rfl rfl hl.1 rfl (lv_room (Nat.le_of_ble_eq_true rfl)) d_F_method_55 ⟨Nat.le_of_ble_eq_true rfl, Nat.le_of_ble_eq_true rfl⟩) hS (fun q _ h => h.elim) (fun q h => h.elim) (fun r_74 u_75 t H1 locs ht hvm hw hB hz1 hk1 hS => ?_)
                    have hP := ro_keep hP hk1
                    generalize H1 = H at hP hS ⊢
                    refine W.widen (k := 0) (n := 0) (Nat.le_of_ble_eq_true rfl) (Nat.le_of_ble_eq_true rfl) ?_
                    rcases hw with ⟨hr9, hw⟩ | ⟨hr9, hw⟩
                    · subst hr9
                      have p_76 := hw
                      refine lv_if_ne (tgt := 71) hx hb d_F_method_58 (by decide) (fun c_77 => ?_) (fun c_77 => ?_)
                      · skip
                        refine lv_aload_n hx hb d_F_method_71 rfl (lv_at hl 2 rfl) ?_
                        refine va_get (D := (dC, dI)) (ci := 4) (v := .ref w) (C := R_F) (T := T_F) (N := 4) hx hb hts (fun w h => hsub w (uw_F w h)) hown hK hP 0 rfl rfl 0 (by decide) (hts _ (hsub _ w_181)) (fun _ h9 => h9) rfl d_F_method_72 ?_
                        refine va_get (D := (dC, dI)) (ci := 3) (v := .int 0) (C := R_W) (T := T_W) (N := 10) hx hb hts (fun w h => hsub w (uw_W w h)) hown hK hP 1 rfl rfl 9 (by decide) (hts _ (hsub _ w_204)) (fun _ h9 => h9) rfl d_F_method_75 ?_
                        refine lv_bipush (v := 8) hx hb d_F_method_78 (by decide) ?_
                        refine lv_icmp_lt (tgt := 93) hx hb d_F_method_80 (by decide) (fun c_78 => ?_) (fun c_78 => ?_)
                        · skip
                          refine lv_aload_n hx hb d_F_method_93 rfl (lv_at hl 2 rfl) ?_
                          refine va_get (D := (dC, dI)) (ci := 4) (v := .ref w) (C := R_F) (T := T_F) (N := 4) hx hb hts (fun w h => hsub w (uw_F w h)) hown hK hP 0 rfl rfl 0 (by decide) (hts _ (hsub _ w_181)) (fun _ h9 => h9) rfl d_F_method_94 ?_
                          refine lv_iload_n hx hb d_F_method_97 rfl (lv_at hl 3 rfl) ?_
                          refine lv_iload_n hx hb d_F_method_98 rfl (lv_at hl 4 rfl) ?_
                          have hPc := hP.sub (ws' := [(w, .inr (3, [.ref wp, .ref wu, .ref wi, .int 2, .ref wc, .ref wt, .ref wx, .int 0, .ref wm, .int 0])), (wm, .inl (km, 8, .inr (.inr (.inr (.inr fm)))))]) [1, 2] rfl
                          have hKc := hK.sub (tys' := [(km, .object "MapFramer$Method")]) [0] rfl
                          have hDc := hD.sub (ws' := [(w, .inr (3, [.ref wp, .ref wu, .ref wi, .int 2, .ref wc, .ref wt, .ref wx, .int 0, .ref wm, .int 0])), (wm, .inl (km, 8, .inr (.inr (.inr (.inr fm)))))]) [1, 2] (by decide) rfl
                          have hFc := va_free (wc := [(w, .inr (3, [.ref wp, .ref wu, .ref wi, .int 2, .ref wc, .ref wt, .ref wx, .int 0, .ref wm, .int 0])), (wm, .inl (km, 8, .inr (.inr (.inr (.inr fm)))))]) hD hS hA [1, 2] rfl
                          refine va_calli (va_runV (As := [.int pk, .int rs]) (rest := []) ⟨hx, hb, hml, hown, hts⟩ (k_W_addMethod l dC dI w wp wu wi wc wt wx wm km fm pk rs H.size) (cwV 2 hts (gV hsub w_205 w_206 w_207 w_4 w_208) rfl rfl rfl (by decide +kernel) ⟨Nat.le_of_ble_eq_true rfl, Nat.le_of_ble_eq_true rfl⟩) ⟨bl_1010, va_recv hKc hPc (ci := 3) (q0 := 0) rfl rfl, fun U hU hW => ⟨rfl, by rw [hU], by rw [hU]; exact hPc, va_K.moved hW.alike hKc, hDc.weaken (fun _ _ _ _ => trivial), exP_go hex hS (fun q h => hFc q h) U hU hW⟩⟩ rfl rfl hl.1 rfl (lv_room (Nat.le_of_ble_eq_true rfl)) d_F_method_99 ⟨Nat.le_of_ble_eq_true rfl, Nat.le_of_ble_eq_true rfl⟩) hS (fun q _ h => hFc q h) hFc (fun r_80 u_81 t H1 locs ht hvm hw hB hz1 hk1 hS => ?_)
                          have hP1 : va_P (dC, dI) vwCl [] H1 := nil_P
                          have hD1 : va_D (va_A [(w, .inr (3, [.ref wp, .ref wu, .ref wi, .int 2, .ref wc, .ref wt, .ref wx, .int 0, .ref wm, .int 0])), (wm, .inl (km, 8, .inr (.inr (.inr (.inr fm)))))] H.size) [] := nil_D
                          have hK1 : va_K (dC, dI) vwCl [] s := hK.sub (tys' := []) [] rfl
                          obtain ⟨hP, hD⟩ := va_join (wr := [(f, .inr (4, [.ref w, .ref k, .ref tp, .int 0]))]) (w1 := []) hP hD [1, 2] [0] rfl rfl (by decide) (by decide) hk1 hFc hP1 hD1
                          have hK := (hK.sub (tys' := [(km, .object "MapFramer$Method")]) [0] rfl).app hK1
                          generalize H1 = H at hP hS ⊢
                          have hP : va_P (dC, dI) vwCl [(f, .inr (4, [.ref w, .ref k, .ref tp, .int 0]))] H := hP
                          have hD : va_D A [(f, .inr (4, [.ref w, .ref k, .ref tp, .int 0]))] := hD
                          have hK : va_K (dC, dI) vwCl [(km, .object "MapFramer$Method")] s := hK
                          refine W.widen (k := 6) (n := 20) (Nat.le_of_ble_eq_true rfl) (Nat.le_of_ble_eq_true rfl) ?_
                          subst hw
                          refine vx_ret ?_
                          refine W.widen (k := 6) (n := 20) (Nat.le_of_ble_eq_true rfl) (Nat.le_of_ble_eq_true rfl) ?_
                          exact W.iret (v := 0) hx hb hr (fun t ht hW => ⟨⟨0, (), rfl, ⟨⟨by simp [okA, g0, g1, g2, p_56, p_65, c_68, p_76], Or.inr p_76⟩, rfl⟩, trivial⟩, hS.F ht⟩) hS.2.2 d_F_method_102
                        · skip
                          first | exact absurd c_78 (by decide) | exact absurd (by decide) c_78
                      · skip
                        first | exact absurd c_77 (by decide) | exact absurd (by decide) c_77
                    · subst hr9
                      have p_82 := hw
                      refine lv_if_ne (tgt := 71) hx hb d_F_method_58 (by decide) (fun c_83 => ?_) (fun c_83 => ?_)
                      · skip
                        first | exact absurd c_83 (by decide) | exact absurd (by decide) c_83
                      · skip
                        obtain ⟨sa, hsa⟩ := hex.2.2.2.2.1 (83, "no such result type") (by decide)
                        exact vx_throwS (sa := sa) (names := ["java/lang/RuntimeException", "java/lang/Exception"]) hx hb hl9 hown (by decide +kernel) (by decide +kernel) (hts _ (hsub _ w_191)) (hts _ (hsub _ w_192)) hsa (xg_IllegalArgumentException_39_at hts hsub hex) xg_IllegalArgumentException_39_ot hex.1 hex.2.1 hS (hl.1.trans hml.symm) d_F_method_61 d_F_method_64 d_F_method_65 d_F_method_67 d_F_method_70 (fun x hx9 => (hnoh x hx9).elim) (Nat.le_of_ble_eq_true rfl) (Nat.le_of_ble_eq_true rfl) (Nat.le_of_ble_eq_true rfl) (Nat.le_of_ble_eq_true rfl) hlocks (fun t hal hz hk => ⟨(), by intro h; obtain ⟨h1, h2⟩ := h; first | (simp [okA, g0, g1, g2, p_56, p_65, c_68, p_82] at h1; done) | (simp [g0, g1, g2, p_56, p_65, c_68, p_82] at h2; done), rfl, Nat.le_trans hS.1 hz, fun q h1 h2 => by rw [hk q (Nat.lt_of_lt_of_le h1 hS.1)]; exact hS.2.1 q h1 h2⟩) hS.2.2 (Nat.le_of_ble_eq_true rfl) (Nat.le_of_ble_eq_true rfl)
                · skip
                  first | exact absurd c_67 (by decide) | exact absurd (by decide) c_67
              · skip
                first | exact absurd c_66 (by decide) | exact absurd (by decide) c_66
            · subst hr9
              have p_84 := hw
              refine lv_if_ne (tgt := 40) hx hb d_F_method_27 (by decide) (fun c_85 => ?_) (fun c_85 => ?_)
              · skip
                first | exact absurd c_85 (by decide) | exact absurd (by decide) c_85
              · skip
                obtain ⟨sa, hsa⟩ := hex.2.2.2.2.1 (81, "no such argument type") (by decide)
                exact vx_throwS (sa := sa) (names := ["java/lang/RuntimeException", "java/lang/Exception"]) hx hb hl9 hown (by decide +kernel) (by decide +kernel) (hts _ (hsub _ w_191)) (hts _ (hsub _ w_192)) hsa (xg_IllegalArgumentException_39_at hts hsub hex) xg_IllegalArgumentException_39_ot hex.1 hex.2.1 hS (hl.1.trans hml.symm) d_F_method_30 d_F_method_33 d_F_method_34 d_F_method_36 d_F_method_39 (fun x hx9 => (hnoh x hx9).elim) (Nat.le_of_ble_eq_true rfl) (Nat.le_of_ble_eq_true rfl) (Nat.le_of_ble_eq_true rfl) (Nat.le_of_ble_eq_true rfl) hlocks (fun t hal hz hk => ⟨(), by intro h; obtain ⟨h1, h2⟩ := h; first | (simp [okA, g0, g1, g2, p_56, p_84] at h1; done) | (simp [g0, g1, g2, p_56, p_84] at h2; done), rfl, Nat.le_trans hS.1 hz, fun q h1 h2 => by rw [hk q (Nat.lt_of_lt_of_le h1 hS.1)]; exact hS.2.1 q h1 h2⟩) hS.2.2 (Nat.le_of_ble_eq_true rfl) (Nat.le_of_ble_eq_true rfl)
        · skip
          first | exact absurd c_57 (by decide) | exact absurd (by decide) c_57
      · subst hr9
        have p_86 := hw
        refine lv_if_ne (tgt := 40) hx hb d_F_method_27 (by decide) (fun c_87 => ?_) (fun c_87 => ?_)
        · skip
          first | exact absurd c_87 (by decide) | exact absurd (by decide) c_87
        · skip
          obtain ⟨sa, hsa⟩ := hex.2.2.2.2.1 (81, "no such argument type") (by decide)
          exact vx_throwS (sa := sa) (names := ["java/lang/RuntimeException", "java/lang/Exception"]) hx hb hl9 hown (by decide +kernel) (by decide +kernel) (hts _ (hsub _ w_191)) (hts _ (hsub _ w_192)) hsa (xg_IllegalArgumentException_39_at hts hsub hex) xg_IllegalArgumentException_39_ot hex.1 hex.2.1 hS (hl.1.trans hml.symm) d_F_method_30 d_F_method_33 d_F_method_34 d_F_method_36 d_F_method_39 (fun x hx9 => (hnoh x hx9).elim) (Nat.le_of_ble_eq_true rfl) (Nat.le_of_ble_eq_true rfl) (Nat.le_of_ble_eq_true rfl) (Nat.le_of_ble_eq_true rfl) hlocks (fun t hal hz hk => ⟨(), by intro h; obtain ⟨h1, h2⟩ := h; first | (simp [okA, g0, g1, g2, p_86] at h1; done) | (simp [g0, g1, g2, p_86] at h2; done), rfl, Nat.le_trans hS.1 hz, fun q h1 h2 => by rw [hk q (Nat.lt_of_lt_of_le h1 hS.1)]; exact hS.2.1 q h1 h2⟩) hS.2.2 (Nat.le_of_ble_eq_true rfl) (Nat.le_of_ble_eq_true rfl)
  · obtain rfl : r_2 = 3 := hw.trans hn
    refine lv_istore_n (lv' := [(3, .int 3), (0, .ref f), (1, .int pk), (2, .int rs)]) hx hb d_F_method_4 rfl hl (by decide) rfl (fun ls hl => ?_)
    refine lv_iconst (v := 0) hx hb d_F_method_5 (by decide) ?_
    refine lv_istore (lv' := [(4, .int 0), (3, .int 3), (0, .ref f), (1, .int pk), (2, .int rs)]) hx hb d_F_method_6 hl (by decide) rfl (fun ls hl => ?_)
    refine lv_iload hx hb d_F_method_8 (lv_at hl 0 rfl) ?_
    refine lv_iload_n hx hb d_F_method_10 rfl (lv_at hl 1 rfl) ?_
    refine lv_icmp_ge (tgt := 46) hx hb d_F_method_11 (by decide) (fun c_88 => ?_) (fun c_88 => ?_)
    · skip
      first | exact absurd c_88 (by decide) | exact absurd (by decide) c_88
    · skip
      refine lv_aload_n hx hb d_F_method_14 rfl (lv_at hl 2 rfl) ?_
      refine va_get (D := (dC, dI)) (ci := 4) (v := .ref w) (C := R_F) (T := T_F) (N := 4) hx hb hts (fun w h => hsub w (uw_F w h)) hown hK hP 0 rfl rfl 0 (by decide) (hts _ (hsub _ w_181)) (fun _ h9 => h9) rfl d_F_method_15 ?_
      refine lv_iload_n hx hb d_F_method_18 rfl (lv_at hl 3 rfl) ?_
      refine lv_iload hx hb d_F_method_19 (lv_at hl 0 rfl) ?_
      have hPc := hP.sub (ws' := []) [] rfl
      have hKc := hK.sub (tys' := []) [] rfl
      refine va_calli (va_runS (As := [.int pk, .int 0]) (rest := [.ref w]) ⟨hx, hb, hml, hown, hts⟩ (k_W_argumentType l dC dI pk 0) (va_cwS 2 hts (gS hsub w_209 w_139 w_4 w_140) rfl rfl rfl (by decide +kernel) ⟨Nat.le_of_ble_eq_true rfl, Nat.le_of_ble_eq_true rfl⟩) ⟨bl_0000, fun U hU hW => ⟨rfl, by rw [hU]; exact hPc, va_K.moved hW.alike hKc⟩⟩ rfl rfl hl.1 rfl (lv_room (Nat.le_of_ble_eq_true rfl)) d_F_method_21 ⟨Nat.le_of_ble_eq_true rfl, Nat.le_of_ble_eq_true rfl⟩) hS (fun q _ h => h.elim) (fun q h => h.elim) (fun r_90 u_91 t H1 locs ht hvm hw hB hz1 hk1 hS => ?_)
      have hP := ro_keep hP hk1
      generalize H1 = H at hP hS ⊢
      refine W.widen (k := 0) (n := 0) (Nat.le_of_ble_eq_true rfl) (Nat.le_of_ble_eq_true rfl) ?_
      subst hw
      have hPc := hP.sub (ws' := [(w, .inr (3, [.ref wp, .ref wu, .ref wi, .int 2, .ref wc, .ref wt, .ref wx, .int 0, .ref wm, .int 0]))]) [1] rfl
      have hKc := hK.sub (tys' := []) [] rfl
      refine va_calli (va_runV (As := [.int (argX pk 0)]) (rest := []) ⟨hx, hb, hml, hown, hts⟩ (k_W_isValueType l dC dI w wp wu wi wc wt wx wm ((argX pk 0))) (cwV 1 hts (gV hsub w_194 w_195 w_196 w_4 w_197) rfl rfl rfl (by decide +kernel) ⟨Nat.le_of_ble_eq_true rfl, Nat.le_of_ble_eq_true rfl⟩) ⟨bl_0000, va_recv hKc hPc (ci := 3) (q0 := 0) rfl rfl, fun U hU hW => ⟨rfl, by rw [hU]; exact hPc, va_K.moved hW.alike hKc⟩⟩ rfl rfl hl.1 rfl (lv_room (Nat.le_of_ble_eq_true rfl)) d_F_method_24 ⟨Nat.le_of_ble_eq_true rfl, Nat.le_of_ble_eq_true rfl⟩) hS (fun q _ h => h.elim) (fun q h => h.elim) (fun r_93 u_94 t H1 locs ht hvm hw hB hz1 hk1 hS => ?_)
      have hP := ro_keep hP hk1
      generalize H1 = H at hP hS ⊢
      refine W.widen (k := 0) (n := 0) (Nat.le_of_ble_eq_true rfl) (Nat.le_of_ble_eq_true rfl) ?_
      rcases hw with ⟨hr9, hw⟩ | ⟨hr9, hw⟩
      · subst hr9
        have p_95 := hw
        refine lv_if_ne (tgt := 40) hx hb d_F_method_27 (by decide) (fun c_96 => ?_) (fun c_96 => ?_)
        · skip
          refine lv_iinc (v := 1) (lv' := [(4, .int 1), (3, .int 3), (0, .ref f), (1, .int pk), (2, .int rs)]) hx hb d_F_method_40 hl (k := 0) rfl (by decide) (by decide) rfl (fun ls hl => ?_)
          refine lv_goto (tgt := 8) hx hb d_F_method_43 (by decide) ?_
          refine lv_iload hx hb d_F_method_8 (lv_at hl 0 rfl) ?_
          refine lv_iload_n hx hb d_F_method_10 rfl (lv_at hl 1 rfl) ?_
          refine lv_icmp_ge (tgt := 46) hx hb d_F_method_11 (by decide) (fun c_97 => ?_) (fun c_97 => ?_)
          · skip
            first | exact absurd c_97 (by decide) | exact absurd (by decide) c_97
          · skip
            refine lv_aload_n hx hb d_F_method_14 rfl (lv_at hl 2 rfl) ?_
            refine va_get (D := (dC, dI)) (ci := 4) (v := .ref w) (C := R_F) (T := T_F) (N := 4) hx hb hts (fun w h => hsub w (uw_F w h)) hown hK hP 0 rfl rfl 0 (by decide) (hts _ (hsub _ w_181)) (fun _ h9 => h9) rfl d_F_method_15 ?_
            refine lv_iload_n hx hb d_F_method_18 rfl (lv_at hl 3 rfl) ?_
            refine lv_iload hx hb d_F_method_19 (lv_at hl 0 rfl) ?_
            have hPc := hP.sub (ws' := []) [] rfl
            have hKc := hK.sub (tys' := []) [] rfl
            refine va_calli (va_runS (As := [.int pk, .int 1]) (rest := [.ref w]) ⟨hx, hb, hml, hown, hts⟩ (k_W_argumentType l dC dI pk 1) (va_cwS 2 hts (gS hsub w_209 w_139 w_4 w_140) rfl rfl rfl (by decide +kernel) ⟨Nat.le_of_ble_eq_true rfl, Nat.le_of_ble_eq_true rfl⟩) ⟨bl_0000, fun U hU hW => ⟨rfl, by rw [hU]; exact hPc, va_K.moved hW.alike hKc⟩⟩ rfl rfl hl.1 rfl (lv_room (Nat.le_of_ble_eq_true rfl)) d_F_method_21 ⟨Nat.le_of_ble_eq_true rfl, Nat.le_of_ble_eq_true rfl⟩) hS (fun q _ h => h.elim) (fun q h => h.elim) (fun r_99 u_100 t H1 locs ht hvm hw hB hz1 hk1 hS => ?_)
            have hP := ro_keep hP hk1
            generalize H1 = H at hP hS ⊢
            refine W.widen (k := 0) (n := 0) (Nat.le_of_ble_eq_true rfl) (Nat.le_of_ble_eq_true rfl) ?_
            subst hw
            have hPc := hP.sub (ws' := [(w, .inr (3, [.ref wp, .ref wu, .ref wi, .int 2, .ref wc, .ref wt, .ref wx, .int 0, .ref wm, .int 0]))]) [1] rfl
            have hKc := hK.sub (tys' := []) [] rfl
            refine va_calli (va_runV (As := [.int (argX pk 1)]) (rest := []) ⟨hx, hb, hml, hown, hts⟩ (k_W_isValueType l dC dI w wp wu wi wc wt wx wm ((argX pk 1))) (cwV 1 hts (gV hsub w_194 w_195 w_196 w_4 w_197) rfl rfl rfl (by decide +kernel) ⟨Nat.le_of_ble_eq_true rfl, Nat.le_of_ble_eq_true rfl⟩) ⟨bl_0000, va_recv hKc hPc (ci := 3) (q0 := 0) rfl rfl, fun U hU hW => ⟨rfl, by rw [hU]; exact hPc, va_K.moved hW.alike hKc⟩⟩ rfl rfl hl.1 rfl (lv_room (Nat.le_of_ble_eq_true rfl)) d_F_method_24 ⟨Nat.le_of_ble_eq_true rfl, Nat.le_of_ble_eq_true rfl⟩) hS (fun q _ h => h.elim) (fun q h => h.elim) (fun r_102 u_103 t H1 locs ht hvm hw hB hz1 hk1 hS => ?_)
            have hP := ro_keep hP hk1
            generalize H1 = H at hP hS ⊢
            refine W.widen (k := 0) (n := 0) (Nat.le_of_ble_eq_true rfl) (Nat.le_of_ble_eq_true rfl) ?_
            rcases hw with ⟨hr9, hw⟩ | ⟨hr9, hw⟩
            · subst hr9
              have p_104 := hw
              refine lv_if_ne (tgt := 40) hx hb d_F_method_27 (by decide) (fun c_105 => ?_) (fun c_105 => ?_)
              · skip
                refine lv_iinc (v := 2) (lv' := [(4, .int 2), (3, .int 3), (0, .ref f), (1, .int pk), (2, .int rs)]) hx hb d_F_method_40 hl (k := 0) rfl (by decide) (by decide) rfl (fun ls hl => ?_)
                refine lv_goto (tgt := 8) hx hb d_F_method_43 (by decide) ?_
                refine lv_iload hx hb d_F_method_8 (lv_at hl 0 rfl) ?_
                refine lv_iload_n hx hb d_F_method_10 rfl (lv_at hl 1 rfl) ?_
                refine lv_icmp_ge (tgt := 46) hx hb d_F_method_11 (by decide) (fun c_106 => ?_) (fun c_106 => ?_)
                · skip
                  first | exact absurd c_106 (by decide) | exact absurd (by decide) c_106
                · skip
                  refine lv_aload_n hx hb d_F_method_14 rfl (lv_at hl 2 rfl) ?_
                  refine va_get (D := (dC, dI)) (ci := 4) (v := .ref w) (C := R_F) (T := T_F) (N := 4) hx hb hts (fun w h => hsub w (uw_F w h)) hown hK hP 0 rfl rfl 0 (by decide) (hts _ (hsub _ w_181)) (fun _ h9 => h9) rfl d_F_method_15 ?_
                  refine lv_iload_n hx hb d_F_method_18 rfl (lv_at hl 3 rfl) ?_
                  refine lv_iload hx hb d_F_method_19 (lv_at hl 0 rfl) ?_
                  have hPc := hP.sub (ws' := []) [] rfl
                  have hKc := hK.sub (tys' := []) [] rfl
                  refine va_calli (va_runS (As := [.int pk, .int 2]) (rest := [.ref w]) ⟨hx, hb, hml, hown, hts⟩ (k_W_argumentType l dC dI pk 2) (va_cwS 2 hts (gS hsub w_209 w_139 w_4 w_140) rfl rfl rfl (by decide +kernel) ⟨Nat.le_of_ble_eq_true rfl, Nat.le_of_ble_eq_true rfl⟩) ⟨bl_0000, fun U hU hW => ⟨rfl, by rw [hU]; exact hPc, va_K.moved hW.alike hKc⟩⟩ rfl rfl hl.1 rfl (lv_room (Nat.le_of_ble_eq_true rfl)) d_F_method_21 ⟨Nat.le_of_ble_eq_true rfl, Nat.le_of_ble_eq_true rfl⟩) hS (fun q _ h => h.elim) (fun q h => h.elim) (fun r_108 u_109 t H1 locs ht hvm hw hB hz1 hk1 hS => ?_)
                  have hP := ro_keep hP hk1
                  generalize H1 = H at hP hS ⊢
                  refine W.widen (k := 0) (n := 0) (Nat.le_of_ble_eq_true rfl) (Nat.le_of_ble_eq_true rfl) ?_
                  subst hw
                  have hPc := hP.sub (ws' := [(w, .inr (3, [.ref wp, .ref wu, .ref wi, .int 2, .ref wc, .ref wt, .ref wx, .int 0, .ref wm, .int 0]))]) [1] rfl
                  have hKc := hK.sub (tys' := []) [] rfl
                  refine va_calli (va_runV (As := [.int (argX pk 2)]) (rest := []) ⟨hx, hb, hml, hown, hts⟩ (k_W_isValueType l dC dI w wp wu wi wc wt wx wm ((argX pk 2))) (cwV 1 hts (gV hsub w_194 w_195 w_196 w_4 w_197) rfl rfl rfl (by decide +kernel) ⟨Nat.le_of_ble_eq_true rfl, Nat.le_of_ble_eq_true rfl⟩) ⟨bl_0000, va_recv hKc hPc (ci := 3) (q0 := 0) rfl rfl, fun U hU hW => ⟨rfl, by rw [hU]; exact hPc, va_K.moved hW.alike hKc⟩⟩ rfl rfl hl.1 rfl (lv_room (Nat.le_of_ble_eq_true rfl)) d_F_method_24 ⟨Nat.le_of_ble_eq_true rfl, Nat.le_of_ble_eq_true rfl⟩) hS (fun q _ h => h.elim) (fun q h => h.elim) (fun r_111 u_112 t H1 locs ht hvm hw hB hz1 hk1 hS => ?_)
                  have hP := ro_keep hP hk1
                  generalize H1 = H at hP hS ⊢
                  refine W.widen (k := 0) (n := 0) (Nat.le_of_ble_eq_true rfl) (Nat.le_of_ble_eq_true rfl) ?_
                  rcases hw with ⟨hr9, hw⟩ | ⟨hr9, hw⟩
                  · subst hr9
                    have p_113 := hw
                    refine lv_if_ne (tgt := 40) hx hb d_F_method_27 (by decide) (fun c_114 => ?_) (fun c_114 => ?_)
                    · skip
                      refine lv_iinc (v := 3) (lv' := [(4, .int 3), (3, .int 3), (0, .ref f), (1, .int pk), (2, .int rs)]) hx hb d_F_method_40 hl (k := 0) rfl (by decide) (by decide) rfl (fun ls hl => ?_)
                      refine lv_goto (tgt := 8) hx hb d_F_method_43 (by decide) ?_
                      refine lv_iload hx hb d_F_method_8 (lv_at hl 0 rfl) ?_
                      refine lv_iload_n hx hb d_F_method_10 rfl (lv_at hl 1 rfl) ?_
                      refine lv_icmp_ge (tgt := 46) hx hb d_F_method_11 (by decide) (fun c_115 => ?_) (fun c_115 => ?_)
                      · skip
                        refine lv_iload_n hx hb d_F_method_46 rfl (lv_at hl 4 rfl) ?_
                        refine lv_if_eq (tgt := 71) hx hb d_F_method_47 (by decide) (fun c_116 => ?_) (fun c_116 => ?_)
                        · skip
                          refine lv_aload_n hx hb d_F_method_71 rfl (lv_at hl 2 rfl) ?_
                          refine va_get (D := (dC, dI)) (ci := 4) (v := .ref w) (C := R_F) (T := T_F) (N := 4) hx hb hts (fun w h => hsub w (uw_F w h)) hown hK hP 0 rfl rfl 0 (by decide) (hts _ (hsub _ w_181)) (fun _ h9 => h9) rfl d_F_method_72 ?_
                          refine va_get (D := (dC, dI)) (ci := 3) (v := .int 0) (C := R_W) (T := T_W) (N := 10) hx hb hts (fun w h => hsub w (uw_W w h)) hown hK hP 1 rfl rfl 9 (by decide) (hts _ (hsub _ w_204)) (fun _ h9 => h9) rfl d_F_method_75 ?_
                          refine lv_bipush (v := 8) hx hb d_F_method_78 (by decide) ?_
                          refine lv_icmp_lt (tgt := 93) hx hb d_F_method_80 (by decide) (fun c_117 => ?_) (fun c_117 => ?_)
                          · skip
                            refine lv_aload_n hx hb d_F_method_93 rfl (lv_at hl 2 rfl) ?_
                            refine va_get (D := (dC, dI)) (ci := 4) (v := .ref w) (C := R_F) (T := T_F) (N := 4) hx hb hts (fun w h => hsub w (uw_F w h)) hown hK hP 0 rfl rfl 0 (by decide) (hts _ (hsub _ w_181)) (fun _ h9 => h9) rfl d_F_method_94 ?_
                            refine lv_iload_n hx hb d_F_method_97 rfl (lv_at hl 3 rfl) ?_
                            refine lv_iload_n hx hb d_F_method_98 rfl (lv_at hl 4 rfl) ?_
                            have hPc := hP.sub (ws' := [(w, .inr (3, [.ref wp, .ref wu, .ref wi, .int 2, .ref wc, .ref wt, .ref wx, .int 0, .ref wm, .int 0])), (wm, .inl (km, 8, .inr (.inr (.inr (.inr fm)))))]) [1, 2] rfl
                            have hKc := hK.sub (tys' := [(km, .object "MapFramer$Method")]) [0] rfl
                            have hDc := hD.sub (ws' := [(w, .inr (3, [.ref wp, .ref wu, .ref wi, .int 2, .ref wc, .ref wt, .ref wx, .int 0, .ref wm, .int 0])), (wm, .inl (km, 8, .inr (.inr (.inr (.inr fm)))))]) [1, 2] (by decide) rfl
                            have hFc := va_free (wc := [(w, .inr (3, [.ref wp, .ref wu, .ref wi, .int 2, .ref wc, .ref wt, .ref wx, .int 0, .ref wm, .int 0])), (wm, .inl (km, 8, .inr (.inr (.inr (.inr fm)))))]) hD hS hA [1, 2] rfl
                            refine va_calli (va_runV (As := [.int pk, .int rs]) (rest := []) ⟨hx, hb, hml, hown, hts⟩ (k_W_addMethod l dC dI w wp wu wi wc wt wx wm km fm pk rs H.size) (cwV 2 hts (gV hsub w_205 w_206 w_207 w_4 w_208) rfl rfl rfl (by decide +kernel) ⟨Nat.le_of_ble_eq_true rfl, Nat.le_of_ble_eq_true rfl⟩) ⟨bl_1010, va_recv hKc hPc (ci := 3) (q0 := 0) rfl rfl, fun U hU hW => ⟨rfl, by rw [hU], by rw [hU]; exact hPc, va_K.moved hW.alike hKc, hDc.weaken (fun _ _ _ _ => trivial), exP_go hex hS (fun q h => hFc q h) U hU hW⟩⟩ rfl rfl hl.1 rfl (lv_room (Nat.le_of_ble_eq_true rfl)) d_F_method_99 ⟨Nat.le_of_ble_eq_true rfl, Nat.le_of_ble_eq_true rfl⟩) hS (fun q _ h => hFc q h) hFc (fun r_119 u_120 t H1 locs ht hvm hw hB hz1 hk1 hS => ?_)
                            have hP1 : va_P (dC, dI) vwCl [] H1 := nil_P
                            have hD1 : va_D (va_A [(w, .inr (3, [.ref wp, .ref wu, .ref wi, .int 2, .ref wc, .ref wt, .ref wx, .int 0, .ref wm, .int 0])), (wm, .inl (km, 8, .inr (.inr (.inr (.inr fm)))))] H.size) [] := nil_D
                            have hK1 : va_K (dC, dI) vwCl [] s := hK.sub (tys' := []) [] rfl
                            obtain ⟨hP, hD⟩ := va_join (wr := [(f, .inr (4, [.ref w, .ref k, .ref tp, .int 0]))]) (w1 := []) hP hD [1, 2] [0] rfl rfl (by decide) (by decide) hk1 hFc hP1 hD1
                            have hK := (hK.sub (tys' := [(km, .object "MapFramer$Method")]) [0] rfl).app hK1
                            generalize H1 = H at hP hS ⊢
                            have hP : va_P (dC, dI) vwCl [(f, .inr (4, [.ref w, .ref k, .ref tp, .int 0]))] H := hP
                            have hD : va_D A [(f, .inr (4, [.ref w, .ref k, .ref tp, .int 0]))] := hD
                            have hK : va_K (dC, dI) vwCl [(km, .object "MapFramer$Method")] s := hK
                            refine W.widen (k := 6) (n := 20) (Nat.le_of_ble_eq_true rfl) (Nat.le_of_ble_eq_true rfl) ?_
                            subst hw
                            refine vx_ret ?_
                            refine W.widen (k := 6) (n := 20) (Nat.le_of_ble_eq_true rfl) (Nat.le_of_ble_eq_true rfl) ?_
                            exact W.iret (v := 0) hx hb hr (fun t ht hW => ⟨⟨0, (), rfl, ⟨⟨by simp [okA, g0, g1, g2, g3, p_95, p_104, p_113, c_116], Or.inl c_116⟩, rfl⟩, trivial⟩, hS.F ht⟩) hS.2.2 d_F_method_102
                          · skip
                            first | exact absurd c_117 (by decide) | exact absurd (by decide) c_117
                        · skip
                          refine lv_aload_n hx hb d_F_method_50 rfl (lv_at hl 2 rfl) ?_
                          refine va_get (D := (dC, dI)) (ci := 4) (v := .ref w) (C := R_F) (T := T_F) (N := 4) hx hb hts (fun w h => hsub w (uw_F w h)) hown hK hP 0 rfl rfl 0 (by decide) (hts _ (hsub _ w_181)) (fun _ h9 => h9) rfl d_F_method_51 ?_
                          refine lv_iload_n hx hb d_F_method_54 rfl (lv_at hl 4 rfl) ?_
                          have hPc := hP.sub (ws' := [(w, .inr (3, [.ref wp, .ref wu, .ref wi, .int 2, .ref wc, .ref wt, .ref wx, .int 0, .ref wm, .int 0]))]) [1] rfl
                          have hKc := hK.sub (tys' := []) [] rfl
                          refine va_calli (va_runV (As := [.int rs]) (rest := []) ⟨hx, hb, hml, hown, hts⟩ (k_W_isValueType l dC dI w wp wu wi wc wt wx wm rs) (cwV 1 hts (gV hsub w_194 w_195 w_196 w_4 w_197) rfl rfl rfl (by decide +kernel) ⟨Nat.le_of_ble_eq_true rfl, Nat.le_of_ble_eq_true rfl⟩) ⟨bl_0000, va_recv hKc hPc (ci := 3) (q0 := 0) rfl rfl, fun U hU hW => ⟨rfl, by rw [hU]; exact hPc, va_K.moved hW.alike hKc⟩⟩ rfl rfl hl.1 rfl (lv_room (Nat.le_of_ble_eq_true rfl)) d_F_method_55 ⟨Nat.le_of_ble_eq_true rfl, Nat.le_of_ble_eq_true rfl⟩) hS (fun q _ h => h.elim) (fun q h => h.elim) (fun r_122 u_123 t H1 locs ht hvm hw hB hz1 hk1 hS => ?_)
                          have hP := ro_keep hP hk1
                          generalize H1 = H at hP hS ⊢
                          refine W.widen (k := 0) (n := 0) (Nat.le_of_ble_eq_true rfl) (Nat.le_of_ble_eq_true rfl) ?_
                          rcases hw with ⟨hr9, hw⟩ | ⟨hr9, hw⟩
                          · subst hr9
                            have p_124 := hw
                            refine lv_if_ne (tgt := 71) hx hb d_F_method_58 (by decide) (fun c_125 => ?_) (fun c_125 => ?_)
                            · skip
                              refine lv_aload_n hx hb d_F_method_71 rfl (lv_at hl 2 rfl) ?_
                              refine va_get (D := (dC, dI)) (ci := 4) (v := .ref w) (C := R_F) (T := T_F) (N := 4) hx hb hts (fun w h => hsub w (uw_F w h)) hown hK hP 0 rfl rfl 0 (by decide) (hts _ (hsub _ w_181)) (fun _ h9 => h9) rfl d_F_method_72 ?_
                              refine va_get (D := (dC, dI)) (ci := 3) (v := .int 0) (C := R_W) (T := T_W) (N := 10) hx hb hts (fun w h => hsub w (uw_W w h)) hown hK hP 1 rfl rfl 9 (by decide) (hts _ (hsub _ w_204)) (fun _ h9 => h9) rfl d_F_method_75 ?_
                              refine lv_bipush (v := 8) hx hb d_F_method_78 (by decide) ?_
                              refine lv_icmp_lt (tgt := 93) hx hb d_F_method_80 (by decide) (fun c_126 => ?_) (fun c_126 => ?_)
                              · skip
                                refine lv_aload_n hx hb d_F_method_93 rfl (lv_at hl 2 rfl) ?_
                                refine va_get (D := (dC, dI)) (ci := 4) (v := .ref w) (C := R_F) (T := T_F) (N := 4) hx hb hts (fun w h => hsub w (uw_F w h)) hown hK hP 0 rfl rfl 0 (by decide) (hts _ (hsub _ w_181)) (fun _ h9 => h9) rfl d_F_method_94 ?_
                                refine lv_iload_n hx hb d_F_method_97 rfl (lv_at hl 3 rfl) ?_
                                refine lv_iload_n hx hb d_F_method_98 rfl (lv_at hl 4 rfl) ?_
                                have hPc := hP.sub (ws' := [(w, .inr (3, [.ref wp, .ref wu, .ref wi, .int 2, .ref wc, .ref wt, .ref wx, .int 0, .ref wm, .int 0])), (wm, .inl (km, 8, .inr (.inr (.inr (.inr fm)))))]) [1, 2] rfl
                                have hKc := hK.sub (tys' := [(km, .object "MapFramer$Method")]) [0] rfl
                                have hDc := hD.sub (ws' := [(w, .inr (3, [.ref wp, .ref wu, .ref wi, .int 2, .ref wc, .ref wt, .ref wx, .int 0, .ref wm, .int 0])), (wm, .inl (km, 8, .inr (.inr (.inr (.inr fm)))))]) [1, 2] (by decide) rfl
                                have hFc := va_free (wc := [(w, .inr (3, [.ref wp, .ref wu, .ref wi, .int 2, .ref wc, .ref wt, .ref wx, .int 0, .ref wm, .int 0])), (wm, .inl (km, 8, .inr (.inr (.inr (.inr fm)))))]) hD hS hA [1, 2] rfl
                                refine va_calli (va_runV (As := [.int pk, .int rs]) (rest := []) ⟨hx, hb, hml, hown, hts⟩ (k_W_addMethod l dC dI w wp wu wi wc wt wx wm km fm pk rs H.size) (cwV 2 hts (gV hsub w_205 w_206 w_207 w_4 w_208) rfl rfl rfl (by decide +kernel) ⟨Nat.le_of_ble_eq_true rfl, Nat.le_of_ble_eq_true rfl⟩) ⟨bl_1010, va_recv hKc hPc (ci := 3) (q0 := 0) rfl rfl, fun U hU hW => ⟨rfl, by rw [hU], by rw [hU]; exact hPc, va_K.moved hW.alike hKc, hDc.weaken (fun _ _ _ _ => trivial), exP_go hex hS (fun q h => hFc q h) U hU hW⟩⟩ rfl rfl hl.1 rfl (lv_room (Nat.le_of_ble_eq_true rfl)) d_F_method_99 ⟨Nat.le_of_ble_eq_true rfl, Nat.le_of_ble_eq_true rfl⟩) hS (fun q _ h => hFc q h) hFc (fun r_128 u_129 t H1 locs ht hvm hw hB hz1 hk1 hS => ?_)
                                have hP1 : va_P (dC, dI) vwCl [] H1 := nil_P
                                have hD1 : va_D (va_A [(w, .inr (3, [.ref wp, .ref wu, .ref wi, .int 2, .ref wc, .ref wt, .ref wx, .int 0, .ref wm, .int 0])), (wm, .inl (km, 8, .inr (.inr (.inr (.inr fm)))))] H.size) [] := nil_D
                                have hK1 : va_K (dC, dI) vwCl [] s := hK.sub (tys' := []) [] rfl
                                obtain ⟨hP, hD⟩ := va_join (wr := [(f, .inr (4, [.ref w, .ref k, .ref tp, .int 0]))]) (w1 := []) hP hD [1, 2] [0] rfl rfl (by decide) (by decide) hk1 hFc hP1 hD1
                                have hK := (hK.sub (tys' := [(km, .object "MapFramer$Method")]) [0] rfl).app hK1
                                generalize H1 = H at hP hS ⊢
                                have hP : va_P (dC, dI) vwCl [(f, .inr (4, [.ref w, .ref k, .ref tp, .int 0]))] H := hP
                                have hD : va_D A [(f, .inr (4, [.ref w, .ref k, .ref tp, .int 0]))] := hD
                                have hK : va_K (dC, dI) vwCl [(km, .object "MapFramer$Method")] s := hK
                                refine W.widen (k := 6) (n := 20) (Nat.le_of_ble_eq_true rfl) (Nat.le_of_ble_eq_true rfl) ?_
                                subst hw
                                refine vx_ret ?_
                                refine W.widen (k := 6) (n := 20) (Nat.le_of_ble_eq_true rfl) (Nat.le_of_ble_eq_true rfl) ?_
                                exact W.iret (v := 0) hx hb hr (fun t ht hW => ⟨⟨0, (), rfl, ⟨⟨by simp [okA, g0, g1, g2, g3, p_95, p_104, p_113, c_116, p_124], Or.inr p_124⟩, rfl⟩, trivial⟩, hS.F ht⟩) hS.2.2 d_F_method_102
                              · skip
                                first | exact absurd c_126 (by decide) | exact absurd (by decide) c_126
                            · skip
                              first | exact absurd c_125 (by decide) | exact absurd (by decide) c_125
                          · subst hr9
                            have p_130 := hw
                            refine lv_if_ne (tgt := 71) hx hb d_F_method_58 (by decide) (fun c_131 => ?_) (fun c_131 => ?_)
                            · skip
                              first | exact absurd c_131 (by decide) | exact absurd (by decide) c_131
                            · skip
                              obtain ⟨sa, hsa⟩ := hex.2.2.2.2.1 (83, "no such result type") (by decide)
                              exact vx_throwS (sa := sa) (names := ["java/lang/RuntimeException", "java/lang/Exception"]) hx hb hl9 hown (by decide +kernel) (by decide +kernel) (hts _ (hsub _ w_191)) (hts _ (hsub _ w_192)) hsa (xg_IllegalArgumentException_39_at hts hsub hex) xg_IllegalArgumentException_39_ot hex.1 hex.2.1 hS (hl.1.trans hml.symm) d_F_method_61 d_F_method_64 d_F_method_65 d_F_method_67 d_F_method_70 (fun x hx9 => (hnoh x hx9).elim) (Nat.le_of_ble_eq_true rfl) (Nat.le_of_ble_eq_true rfl) (Nat.le_of_ble_eq_true rfl) (Nat.le_of_ble_eq_true rfl) hlocks (fun t hal hz hk => ⟨(), by intro h; obtain ⟨h1, h2⟩ := h; first | (simp [okA, g0, g1, g2, g3, p_95, p_104, p_113, c_116, p_130] at h1; done) | (simp [g0, g1, g2, g3, p_95, p_104, p_113, c_116, p_130] at h2; done), rfl, Nat.le_trans hS.1 hz, fun q h1 h2 => by rw [hk q (Nat.lt_of_lt_of_le h1 hS.1)]; exact hS.2.1 q h1 h2⟩) hS.2.2 (Nat.le_of_ble_eq_true rfl) (Nat.le_of_ble_eq_true rfl)
                      · skip
                        first | exact absurd c_115 (by decide) | exact absurd (by decide) c_115
                    · skip
                      first | exact absurd c_114 (by decide) | exact absurd (by decide) c_114
                  · subst hr9
                    have p_132 := hw
                    refine lv_if_ne (tgt := 40) hx hb d_F_method_27 (by decide) (fun c_133 => ?_) (fun c_133 => ?_)
                    · skip
                      first | exact absurd c_133 (by decide) | exact absurd (by decide) c_133
                    · skip
                      obtain ⟨sa, hsa⟩ := hex.2.2.2.2.1 (81, "no such argument type") (by decide)
                      exact vx_throwS (sa := sa) (names := ["java/lang/RuntimeException", "java/lang/Exception"]) hx hb hl9 hown (by decide +kernel) (by decide +kernel) (hts _ (hsub _ w_191)) (hts _ (hsub _ w_192)) hsa (xg_IllegalArgumentException_39_at hts hsub hex) xg_IllegalArgumentException_39_ot hex.1 hex.2.1 hS (hl.1.trans hml.symm) d_F_method_30 d_F_method_33 d_F_method_34 d_F_method_36 d_F_method_39 (fun x hx9 => (hnoh x hx9).elim) (Nat.le_of_ble_eq_true rfl) (Nat.le_of_ble_eq_true rfl) (Nat.le_of_ble_eq_true rfl) (Nat.le_of_ble_eq_true rfl) hlocks (fun t hal hz hk => ⟨(), by intro h; obtain ⟨h1, h2⟩ := h; first | (simp [okA, g0, g1, g2, g3, p_95, p_104, p_132] at h1; done) | (simp [g0, g1, g2, g3, p_95, p_104, p_132] at h2; done), rfl, Nat.le_trans hS.1 hz, fun q h1 h2 => by rw [hk q (Nat.lt_of_lt_of_le h1 hS.1)]; exact hS.2.1 q h1 h2⟩) hS.2.2 (Nat.le_of_ble_eq_true rfl) (Nat.le_of_ble_eq_true rfl)
              · skip
                first | exact absurd c_105 (by decide) | exact absurd (by decide) c_105
            · subst hr9
              have p_134 := hw
              refine lv_if_ne (tgt := 40) hx hb d_F_method_27 (by decide) (fun c_135 => ?_) (fun c_135 => ?_)
              · skip
                first | exact absurd c_135 (by decide) | exact absurd (by decide) c_135
              · skip
                obtain ⟨sa, hsa⟩ := hex.2.2.2.2.1 (81, "no such argument type") (by decide)
                exact vx_throwS (sa := sa) (names := ["java/lang/RuntimeException", "java/lang/Exception"]) hx hb hl9 hown (by decide +kernel) (by decide +kernel) (hts _ (hsub _ w_191)) (hts _ (hsub _ w_192)) hsa (xg_IllegalArgumentException_39_at hts hsub hex) xg_IllegalArgumentException_39_ot hex.1 hex.2.1 hS (hl.1.trans hml.symm) d_F_method_30 d_F_method_33 d_F_method_34 d_F_method_36 d_F_method_39 (fun x hx9 => (hnoh x hx9).elim) (Nat.le_of_ble_eq_true rfl) (Nat.le_of_ble_eq_true rfl) (Nat.le_of_ble_eq_true rfl) (Nat.le_of_ble_eq_true rfl) hlocks (fun t hal hz hk => ⟨(), by intro h; obtain ⟨h1, h2⟩ := h; first | (simp [okA, g0, g1, g2, g3, p_95, p_134] at h1; done) | (simp [g0, g1, g2, g3, p_95, p_134] at h2; done), rfl, Nat.le_trans hS.1 hz, fun q h1 h2 => by rw [hk q (Nat.lt_of_lt_of_le h1 hS.1)]; exact hS.2.1 q h1 h2⟩) hS.2.2 (Nat.le_of_ble_eq_true rfl) (Nat.le_of_ble_eq_true rfl)
        · skip
          first | exact absurd c_96 (by decide) | exact absurd (by decide) c_96
      · subst hr9
        have p_136 := hw
        refine lv_if_ne (tgt := 40) hx hb d_F_method_27 (by decide) (fun c_137 => ?_) (fun c_137 => ?_)
        · skip
          first | exact absurd c_137 (by decide) | exact absurd (by decide) c_137
        · skip
          obtain ⟨sa, hsa⟩ := hex.2.2.2.2.1 (81, "no such argument type") (by decide)
          exact vx_throwS (sa := sa) (names := ["java/lang/RuntimeException", "java/lang/Exception"]) hx hb hl9 hown (by decide +kernel) (by decide +kernel) (hts _ (hsub _ w_191)) (hts _ (hsub _ w_192)) hsa (xg_IllegalArgumentException_39_at hts hsub hex) xg_IllegalArgumentException_39_ot hex.1 hex.2.1 hS (hl.1.trans hml.symm) d_F_method_30 d_F_method_33 d_F_method_34 d_F_method_36 d_F_method_39 (fun x hx9 => (hnoh x hx9).elim) (Nat.le_of_ble_eq_true rfl) (Nat.le_of_ble_eq_true rfl) (Nat.le_of_ble_eq_true rfl) (Nat.le_of_ble_eq_true rfl) hlocks (fun t hal hz hk => ⟨(), by intro h; obtain ⟨h1, h2⟩ := h; first | (simp [okA, g0, g1, g2, g3, p_136] at h1; done) | (simp [g0, g1, g2, g3, p_136] at h2; done), rfl, Nat.le_trans hS.1 hz, fun q h1 h2 => by rw [hk q (Nat.lt_of_lt_of_le h1 hS.1)]; exact hS.2.1 q h1 h2⟩) hS.2.2 (Nat.le_of_ble_eq_true rfl) (Nat.le_of_ble_eq_true rfl)
  · obtain rfl : r_2 = 4 := hw.trans hn
    refine lv_istore_n (lv' := [(3, .int 4), (0, .ref f), (1, .int pk), (2, .int rs)]) hx hb d_F_method_4 rfl hl (by decide) rfl (fun ls hl => ?_)
    refine lv_iconst (v := 0) hx hb d_F_method_5 (by decide) ?_
    refine lv_istore (lv' := [(4, .int 0), (3, .int 4), (0, .ref f), (1, .int pk), (2, .int rs)]) hx hb d_F_method_6 hl (by decide) rfl (fun ls hl => ?_)
    refine lv_iload hx hb d_F_method_8 (lv_at hl 0 rfl) ?_
    refine lv_iload_n hx hb d_F_method_10 rfl (lv_at hl 1 rfl) ?_
    refine lv_icmp_ge (tgt := 46) hx hb d_F_method_11 (by decide) (fun c_138 => ?_) (fun c_138 => ?_)
    · skip
      first | exact absurd c_138 (by decide) | exact absurd (by decide) c_138
    · skip
      refine lv_aload_n hx hb d_F_method_14 rfl (lv_at hl 2 rfl) ?_
      refine va_get (D := (dC, dI)) (ci := 4) (v := .ref w) (C := R_F) (T := T_F) (N := 4) hx hb hts (fun w h => hsub w (uw_F w h)) hown hK hP 0 rfl rfl 0 (by decide) (hts _ (hsub _ w_181)) (fun _ h9 => h9) rfl d_F_method_15 ?_
      refine lv_iload_n hx hb d_F_method_18 rfl (lv_at hl 3 rfl) ?_
      refine lv_iload hx hb d_F_method_19 (lv_at hl 0 rfl) ?_
      have hPc := hP.sub (ws' := []) [] rfl
      have hKc := hK.sub (tys' := []) [] rfl
      refine va_calli (va_runS (As := [.int pk, .int 0]) (rest := [.ref w]) ⟨hx, hb, hml, hown, hts⟩ (k_W_argumentType l dC dI pk 0) (va_cwS 2 hts (gS hsub w_209 w_139 w_4 w_140) rfl rfl rfl (by decide +kernel) ⟨Nat.le_of_ble_eq_true rfl, Nat.le_of_ble_eq_true rfl⟩) ⟨bl_0000, fun U hU hW => ⟨rfl, by rw [hU]; exact hPc, va_K.moved hW.alike hKc⟩⟩ rfl rfl hl.1 rfl (lv_room (Nat.le_of_ble_eq_true rfl)) d_F_method_21 ⟨Nat.le_of_ble_eq_true rfl, Nat.le_of_ble_eq_true rfl⟩) hS (fun q _ h => h.elim) (fun q h => h.elim) (fun r_140 u_141 t H1 locs ht hvm hw hB hz1 hk1 hS => ?_)
      have hP := ro_keep hP hk1
      generalize H1 = H at hP hS ⊢
      refine W.widen (k := 0) (n := 0) (Nat.le_of_ble_eq_true rfl) (Nat.le_of_ble_eq_true rfl) ?_
      subst hw
      have hPc := hP.sub (ws' := [(w, .inr (3, [.ref wp, .ref wu, .ref wi, .int 2, .ref wc, .ref wt, .ref wx, .int 0, .ref wm, .int 0]))]) [1] rfl
      have hKc := hK.sub (tys' := []) [] rfl
      refine va_calli (va_runV (As := [.int (argX pk 0)]) (rest := []) ⟨hx, hb, hml, hown, hts⟩ (k_W_isValueType l dC dI w wp wu wi wc wt wx wm ((argX pk 0))) (cwV 1 hts (gV hsub w_194 w_195 w_196 w_4 w_197) rfl rfl rfl (by decide +kernel) ⟨Nat.le_of_ble_eq_true rfl, Nat.le_of_ble_eq_true rfl⟩) ⟨bl_0000, va_recv hKc hPc (ci := 3) (q0 := 0) rfl rfl, fun U hU hW => ⟨rfl, by rw [hU]; exact hPc, va_K.moved hW.alike hKc⟩⟩ rfl rfl hl.1 rfl (lv_room (Nat.le_of_ble_eq_true rfl)) d_F_method_24 ⟨Nat.le_of_ble_eq_true rfl, Nat.le_of_ble_eq_true rfl⟩) hS (fun q _ h => h.elim) (fun q h => h.elim) (fun r_143 u_144 t H1 locs ht hvm hw hB hz1 hk1 hS => ?_)
      have hP := ro_keep hP hk1
      generalize H1 = H at hP hS ⊢
      refine W.widen (k := 0) (n := 0) (Nat.le_of_ble_eq_true rfl) (Nat.le_of_ble_eq_true rfl) ?_
      rcases hw with ⟨hr9, hw⟩ | ⟨hr9, hw⟩
      · subst hr9
        have p_145 := hw
        refine lv_if_ne (tgt := 40) hx hb d_F_method_27 (by decide) (fun c_146 => ?_) (fun c_146 => ?_)
        · skip
          refine lv_iinc (v := 1) (lv' := [(4, .int 1), (3, .int 4), (0, .ref f), (1, .int pk), (2, .int rs)]) hx hb d_F_method_40 hl (k := 0) rfl (by decide) (by decide) rfl (fun ls hl => ?_)
          refine lv_goto (tgt := 8) hx hb d_F_method_43 (by decide) ?_
          refine lv_iload hx hb d_F_method_8 (lv_at hl 0 rfl) ?_
          refine lv_iload_n hx hb d_F_method_10 rfl (lv_at hl 1 rfl) ?_
          refine lv_icmp_ge (tgt := 46) hx hb d_F_method_11 (by decide) (fun c_147 => ?_) (fun c_147 => ?_)
          · skip
            first | exact absurd c_147 (by decide) | exact absurd (by decide) c_147
          · skip
            refine lv_aload_n hx hb d_F_method_14 rfl (lv_at hl 2 rfl) ?_
            refine va_get (D := (dC, dI)) (ci := 4) (v := .ref w) (C := R_F) (T := T_F) (N := 4) hx hb hts (fun w h => hsub w (uw_F w h)) hown hK hP 0 rfl rfl 0 (by decide) (hts _ (hsub _ w_181)) (fun _ h9 => h9) rfl d_F_method_15 ?_
            refine lv_iload_n hx hb d_F_method_18 rfl (lv_at hl 3 rfl) ?_
            refine lv_iload hx hb d_F_method_19 (lv_at hl 0 rfl) ?_
            have hPc := hP.sub (ws' := []) [] rfl
            have hKc := hK.sub (tys' := []) [] rfl
            refine va_calli (va_runS (As := [.int pk, .int 1]) (rest := [.ref w]) ⟨hx, hb, hml, hown, hts⟩ (k_W_argumentType l dC dI pk 1) (va_cwS 2 hts (gS hsub w_209 w_139 w_4 w_140) rfl rfl rfl (by decide +kernel) ⟨Nat.le_of_ble_eq_true rfl, Nat.le_of_ble_eq_true rfl⟩) ⟨bl_0000, fun U hU hW => ⟨rfl, by rw [hU]; exact hPc, va_K.moved hW.alike hKc⟩⟩ rfl rfl hl.1 rfl (lv_room (Nat.le_of_ble_eq_true rfl)) d_F_method_21 ⟨Nat.le_of_ble_eq_true rfl, Nat.le_of_ble_eq_true rfl⟩) hS (fun q _ h => h.elim) (fun q h => h.elim) (fun r_149 u_150 t H1 locs ht hvm hw hB hz1 hk1 hS => ?_)
            have hP := ro_keep hP hk1
            generalize H1 = H at hP hS ⊢
            refine W.widen (k := 0) (n := 0) (Nat.le_of_ble_eq_true rfl) (Nat.le_of_ble_eq_true rfl) ?_
            subst hw
            have hPc := hP.sub (ws' := [(w, .inr (3, [.ref wp, .ref wu, .ref wi, .int 2, .ref wc, .ref wt, .ref wx, .int 0, .ref wm, .int 0]))]) [1] rfl
            have hKc := hK.sub (tys' := []) [] rfl
            refine va_calli (va_runV (As := [.int (argX pk 1)]) (rest := []) ⟨hx, hb, hml, hown, hts⟩ (k_W_isValueType l dC dI w wp wu wi wc wt wx wm ((argX pk 1))) (cwV 1 hts (gV hsub w_194 w_195 w_196 w_4 w_197) rfl rfl rfl (by decide +kernel) ⟨Nat.le_of_ble_eq_true rfl, Nat.le_of_ble_eq_true rfl⟩) ⟨bl_0000, va_recv hKc hPc (ci := 3) (q0 := 0) rfl rfl, fun U hU hW => ⟨rfl, by rw [hU]; exact hPc, va_K.moved hW.alike hKc⟩⟩ rfl rfl hl.1 rfl (lv_room (Nat.le_of_ble_eq_true rfl)) d_F_method_24 ⟨Nat.le_of_ble_eq_true rfl, Nat.le_of_ble_eq_true rfl⟩) hS (fun q _ h => h.elim) (fun q h => h.elim) (fun r_152 u_153 t H1 locs ht hvm hw hB hz1 hk1 hS => ?_)
            have hP := ro_keep hP hk1
            generalize H1 = H at hP hS ⊢
            refine W.widen (k := 0) (n := 0) (Nat.le_of_ble_eq_true rfl) (Nat.le_of_ble_eq_true rfl) ?_
            rcases hw with ⟨hr9, hw⟩ | ⟨hr9, hw⟩
            · subst hr9
              have p_154 := hw
              refine lv_if_ne (tgt := 40) hx hb d_F_method_27 (by decide) (fun c_155 => ?_) (fun c_155 => ?_)
              · skip
                refine lv_iinc (v := 2) (lv' := [(4, .int 2), (3, .int 4), (0, .ref f), (1, .int pk), (2, .int rs)]) hx hb d_F_method_40 hl (k := 0) rfl (by decide) (by decide) rfl (fun ls hl => ?_)
                refine lv_goto (tgt := 8) hx hb d_F_method_43 (by decide) ?_
                refine lv_iload hx hb d_F_method_8 (lv_at hl 0 rfl) ?_
                refine lv_iload_n hx hb d_F_method_10 rfl (lv_at hl 1 rfl) ?_
                refine lv_icmp_ge (tgt := 46) hx hb d_F_method_11 (by decide) (fun c_156 => ?_) (fun c_156 => ?_)
                · skip
                  first | exact absurd c_156 (by decide) | exact absurd (by decide) c_156
                · skip
                  refine lv_aload_n hx hb d_F_method_14 rfl (lv_at hl 2 rfl) ?_
                  refine va_get (D := (dC, dI)) (ci := 4) (v := .ref w) (C := R_F) (T := T_F) (N := 4) hx hb hts (fun w h => hsub w (uw_F w h)) hown hK hP 0 rfl rfl 0 (by decide) (hts _ (hsub _ w_181)) (fun _ h9 => h9) rfl d_F_method_15 ?_
                  refine lv_iload_n hx hb d_F_method_18 rfl (lv_at hl 3 rfl) ?_
                  refine lv_iload hx hb d_F_method_19 (lv_at hl 0 rfl) ?_
                  have hPc := hP.sub (ws' := []) [] rfl
                  have hKc := hK.sub (tys' := []) [] rfl
                  refine va_calli (va_runS (As := [.int pk, .int 2]) (rest := [.ref w]) ⟨hx, hb, hml, hown, hts⟩ (k_W_argumentType l dC dI pk 2) (va_cwS 2 hts (gS hsub w_209 w_139 w_4 w_140) rfl rfl rfl (by decide +kernel) ⟨Nat.le_of_ble_eq_true rfl, Nat.le_of_ble_eq_true rfl⟩) ⟨bl_0000, fun U hU hW => ⟨rfl, by rw [hU]; exact hPc, va_K.moved hW.alike hKc⟩⟩ rfl rfl hl.1 rfl (lv_room (Nat.le_of_ble_eq_true rfl)) d_F_method_21 ⟨Nat.le_of_ble_eq_true rfl, Nat.le_of_ble_eq_true rfl⟩) hS (fun q _ h => h.elim) (fun q h => h.elim) (fun r_158 u_159 t H1 locs ht hvm hw hB hz1 hk1 hS => ?_)
                  have hP := ro_keep hP hk1
                  generalize H1 = H at hP hS ⊢
                  refine W.widen (k := 0) (n := 0) (Nat.le_of_ble_eq_true rfl) (Nat.le_of_ble_eq_true rfl) ?_
                  subst hw
                  have hPc := hP.sub (ws' := [(w, .inr (3, [.ref wp, .ref wu, .ref wi, .int 2, .ref wc, .ref wt, .ref wx, .int 0, .ref wm, .int 0]))]) [1] rfl
                  have hKc := hK.sub (tys' := []) [] rfl
                  refine va_calli (va_runV (As := [.int (argX pk 2)]) (rest := []) ⟨hx, hb, hml, hown, hts⟩ (k_W_isValueType l dC dI w wp wu wi wc wt wx wm ((argX pk 2))) (cwV 1 hts (gV hsub w_194 w_195 w_196 w_4 w_197) rfl rfl rfl (by decide +kernel) ⟨Nat.le_of_ble_eq_true rfl, Nat.le_of_ble_eq_true rfl⟩) ⟨bl_0000, va_recv hKc hPc (ci := 3) (q0 := 0) rfl rfl, fun U hU hW => ⟨rfl, by rw [hU]; exact hPc, va_K.moved hW.alike hKc⟩⟩ rfl rfl hl.1 rfl (lv_room (Nat.le_of_ble_eq_true rfl)) d_F_method_24 ⟨Nat.le_of_ble_eq_true rfl, Nat.le_of_ble_eq_true rfl⟩) hS (fun q _ h => h.elim) (fun q h => h.elim) (fun r_161 u_162 t H1 locs ht hvm hw hB hz1 hk1 hS => ?_)
                  have hP := ro_keep hP hk1
                  generalize H1 = H at hP hS ⊢
                  refine W.widen (k := 0) (n := 0) (Nat.le_of_ble_eq_true rfl) (Nat.le_of_ble_eq_true rfl) ?_
                  rcases hw with ⟨hr9, hw⟩ | ⟨hr9, hw⟩
                  · subst hr9
                    have p_163 := hw
                    refine lv_if_ne (tgt := 40) hx hb d_F_method_27 (by decide) (fun c_164 => ?_) (fun c_164 => ?_)
                    · skip
                      refine lv_iinc (v := 3) (lv' := [(4, .int 3), (3, .int 4), (0, .ref f), (1, .int pk), (2, .int rs)]) hx hb d_F_method_40 hl (k := 0) rfl (by decide) (by decide) rfl (fun ls hl => ?_)
                      refine lv_goto (tgt := 8) hx hb d_F_method_43 (by decide) ?_
                      refine lv_iload hx hb d_F_method_8 (lv_at hl 0 rfl) ?_
                      refine lv_iload_n hx hb d_F_method_10 rfl (lv_at hl 1 rfl) ?_
                      refine lv_icmp_ge (tgt := 46) hx hb d_F_method_11 (by decide) (fun c_165 => ?_) (fun c_165 => ?_)
                      · skip
                        first | exact absurd c_165 (by decide) | exact absurd (by decide) c_165
                      · skip
                        refine lv_aload_n hx hb d_F_method_14 rfl (lv_at hl 2 rfl) ?_
                        refine va_get (D := (dC, dI)) (ci := 4) (v := .ref w) (C := R_F) (T := T_F) (N := 4) hx hb hts (fun w h => hsub w (uw_F w h)) hown hK hP 0 rfl rfl 0 (by decide) (hts _ (hsub _ w_181)) (fun _ h9 => h9) rfl d_F_method_15 ?_
                        refine lv_iload_n hx hb d_F_method_18 rfl (lv_at hl 3 rfl) ?_
                        refine lv_iload hx hb d_F_method_19 (lv_at hl 0 rfl) ?_
                        have hPc := hP.sub (ws' := []) [] rfl
                        have hKc := hK.sub (tys' := []) [] rfl
                        refine va_calli (va_runS (As := [.int pk, .int 3]) (rest := [.ref w]) ⟨hx, hb, hml, hown, hts⟩ (k_W_argumentType l dC dI pk 3) (va_cwS 2 hts (gS hsub w_209 w_139 w_4 w_140) rfl rfl rfl (by decide +kernel) ⟨Nat.le_of_ble_eq_true rfl, Nat.le_of_ble_eq_true rfl⟩) ⟨bl_0000, fun U hU hW => ⟨rfl, by rw [hU]; exact hPc, va_K.moved hW.alike hKc⟩⟩ rfl rfl hl.1 rfl (lv_room (Nat.le_of_ble_eq_true rfl)) d_F_method_21 ⟨Nat.le_of_ble_eq_true rfl, Nat.le_of_ble_eq_true rfl⟩) hS (fun q _ h => h.elim) (fun q h => h.elim) (fun r_167 u_168 t H1 locs ht hvm hw hB hz1 hk1 hS => ?_)
                        have hP := ro_keep hP hk1
                        generalize H1 = H at hP hS ⊢
                        refine W.widen (k := 0) (n := 0) (Nat.le_of_ble_eq_true rfl) (Nat.le_of_ble_eq_true rfl) ?_
                        subst hw
                        have hPc := hP.sub (ws' := [(w, .inr (3, [.ref wp, .ref wu, .ref wi, .int 2, .ref wc, .ref wt, .ref wx, .int 0, .ref wm, .int 0]))]) [1] rfl
                        have hKc := hK.sub (tys' := []) [] rfl
                        refine va_calli (va_runV (As := [.int (argX pk 3)]) (rest := []) ⟨hx, hb, hml, hown, hts⟩ (k_W_isValueType l dC dI w wp wu wi wc wt wx wm ((argX pk 3))) (cwV 1 hts (gV hsub w_194 w_195 w_196 w_4 w_197) rfl rfl rfl (by decide +kernel) ⟨Nat.le_of_ble_eq_true rfl, Nat.le_of_ble_eq_true rfl⟩) ⟨bl_0000, va_recv hKc hPc (ci := 3) (q0 := 0) rfl rfl, fun U hU hW => ⟨rfl, by rw [hU]; exact hPc, va_K.moved hW.alike hKc⟩⟩ rfl rfl hl.1 rfl (lv_room (Nat.le_of_ble_eq_true rfl)) d_F_method_24 ⟨Nat.le_of_ble_eq_true rfl, Nat.le_of_ble_eq_true rfl⟩) hS (fun q _ h => h.elim) (fun q h => h.elim) (fun r_170 u_171 t H1 locs ht hvm hw hB hz1 hk1 hS => ?_)
                        have hP := ro_keep hP hk1
                        generalize H1 = H at hP hS ⊢
                        refine W.widen (k := 0) (n := 0) (Nat.le_of_ble_eq_true rfl) (Nat.le_of_ble_eq_true rfl) ?_
                        rcases hw with ⟨hr9, hw⟩ | ⟨hr9, hw⟩
                        · subst hr9
                          have p_172 := hw
                          refine lv_if_ne (tgt := 40) hx hb d_F_method_27 (by decide) (fun c_173 => ?_) (fun c_173 => ?_)
                          · skip
                            refine lv_iinc (v := 4) (lv' := [(4, .int 4), (3, .int 4), (0, .ref f), (1, .int pk), (2, .int rs)]) hx hb d_F_method_40 hl (k := 0) rfl (by decide) (by decide) rfl (fun ls hl => ?_)
                            refine lv_goto (tgt := 8) hx hb d_F_method_43 (by decide) ?_
                            refine lv_iload hx hb d_F_method_8 (lv_at hl 0 rfl) ?_
                            refine lv_iload_n hx hb d_F_method_10 rfl (lv_at hl 1 rfl) ?_
                            refine lv_icmp_ge (tgt := 46) hx hb d_F_method_11 (by decide) (fun c_174 => ?_) (fun c_174 => ?_)
                            · skip
                              refine lv_iload_n hx hb d_F_method_46 rfl (lv_at hl 4 rfl) ?_
                              refine lv_if_eq (tgt := 71) hx hb d_F_method_47 (by decide) (fun c_175 => ?_) (fun c_175 => ?_)
                              · skip
                                refine lv_aload_n hx hb d_F_method_71 rfl (lv_at hl 2 rfl) ?_
                                refine va_get (D := (dC, dI)) (ci := 4) (v := .ref w) (C := R_F) (T := T_F) (N := 4) hx hb hts (fun w h => hsub w (uw_F w h)) hown hK hP 0 rfl rfl 0 (by decide) (hts _ (hsub _ w_181)) (fun _ h9 => h9) rfl d_F_method_72 ?_
                                refine va_get (D := (dC, dI)) (ci := 3) (v := .int 0) (C := R_W) (T := T_W) (N := 10) hx hb hts (fun w h => hsub w (uw_W w h)) hown hK hP 1 rfl rfl 9 (by decide) (hts _ (hsub _ w_204)) (fun _ h9 => h9) rfl d_F_method_75 ?_
                                refine lv_bipush (v := 8) hx hb d_F_method_78 (by decide) ?_
                                refine lv_icmp_lt (tgt := 93) hx hb d_F_method_80 (by decide) (fun c_176 => ?_) (fun c_176 => ?_)
                                · skip
                                  refine lv_aload_n hx hb d_F_method_93 rfl (lv_at hl 2 rfl) ?_
                                  refine va_get (D := (dC, dI)) (ci := 4) (v := .ref w) (C := R_F) (T := T_F) (N := 4) hx hb hts (fun w h => hsub w (uw_F w h)) hown hK hP 0 rfl rfl 0 (by decide) (hts _ (hsub _ w_181)) (fun _ h9 => h9) rfl d_F_method_94 ?_
                                  refine lv_iload_n hx hb d_F_method_97 rfl (lv_at hl 3 rfl) ?_
                                  refine lv_iload_n hx hb d_F_method_98 rfl (lv_at hl 4 rfl) ?_
                                  have hPc := hP.sub (ws' := [(w, .inr (3, [.ref wp, .ref wu, .ref wi, .int 2, .ref wc, .ref wt, .ref wx, .int 0, .ref wm, .int 0])), (wm, .inl (km, 8, .inr (.inr (.inr (.inr fm)))))]) [1, 2] rfl
                                  have hKc := hK.sub (tys' := [(km, .object "MapFramer$Method")]) [0] rfl
                                  have hDc := hD.sub (ws' := [(w, .inr (3, [.ref wp, .ref wu, .ref wi, .int 2, .ref wc, .ref wt, .ref wx, .int 0, .ref wm, .int 0])), (wm, .inl (km, 8, .inr (.inr (.inr (.inr fm)))))]) [1, 2] (by decide) rfl
                                  have hFc := va_free (wc := [(w, .inr (3, [.ref wp, .ref wu, .ref wi, .int 2, .ref wc, .ref wt, .ref wx, .int 0, .ref wm, .int 0])), (wm, .inl (km, 8, .inr (.inr (.inr (.inr fm)))))]) hD hS hA [1, 2] rfl
                                  refine va_calli (va_runV (As := [.int pk, .int rs]) (rest := []) ⟨hx, hb, hml, hown, hts⟩ (k_W_addMethod l dC dI w wp wu wi wc wt wx wm km fm pk rs H.size) (cwV 2 hts (gV hsub w_205 w_206 w_207 w_4 w_208) rfl rfl rfl (by decide +kernel) ⟨Nat.le_of_ble_eq_true rfl, Nat.le_of_ble_eq_true rfl⟩) ⟨bl_1010, va_recv hKc hPc (ci := 3) (q0 := 0) rfl rfl, fun U hU hW => ⟨rfl, by rw [hU], by rw [hU]; exact hPc, va_K.moved hW.alike hKc, hDc.weaken (fun _ _ _ _ => trivial), exP_go hex hS (fun q h => hFc q h) U hU hW⟩⟩ rfl rfl hl.1 rfl (lv_room (Nat.le_of_ble_eq_true rfl)) d_F_method_99 ⟨Nat.le_of_ble_eq_true rfl, Nat.le_of_ble_eq_true rfl⟩) hS (fun q _ h => hFc q h) hFc (fun r_178 u_179 t H1 locs ht hvm hw hB hz1 hk1 hS => ?_)
                                  have hP1 : va_P (dC, dI) vwCl [] H1 := nil_P
                                  have hD1 : va_D (va_A [(w, .inr (3, [.ref wp, .ref wu, .ref wi, .int 2, .ref wc, .ref wt, .ref wx, .int 0, .ref wm, .int 0])), (wm, .inl (km, 8, .inr (.inr (.inr (.inr fm)))))] H.size) [] := nil_D
                                  have hK1 : va_K (dC, dI) vwCl [] s := hK.sub (tys' := []) [] rfl
                                  obtain ⟨hP, hD⟩ := va_join (wr := [(f, .inr (4, [.ref w, .ref k, .ref tp, .int 0]))]) (w1 := []) hP hD [1, 2] [0] rfl rfl (by decide) (by decide) hk1 hFc hP1 hD1
                                  have hK := (hK.sub (tys' := [(km, .object "MapFramer$Method")]) [0] rfl).app hK1
                                  generalize H1 = H at hP hS ⊢
                                  have hP : va_P (dC, dI) vwCl [(f, .inr (4, [.ref w, .ref k, .ref tp, .int 0]))] H := hP
                                  have hD : va_D A [(f, .inr (4, [.ref w, .ref k, .ref tp, .int 0]))] := hD
                                  have hK : va_K (dC, dI) vwCl [(km, .object "MapFramer$Method")] s := hK
                                  refine W.widen (k := 6) (n := 20) (Nat.le_of_ble_eq_true rfl) (Nat.le_of_ble_eq_true rfl) ?_
                                  subst hw
                                  refine vx_ret ?_
                                  refine W.widen (k := 6) (n := 20) (Nat.le_of_ble_eq_true rfl) (Nat.le_of_ble_eq_true rfl) ?_
                                  exact W.iret (v := 0) hx hb hr (fun t ht hW => ⟨⟨0, (), rfl, ⟨⟨by simp [okA, g0, g1, g2, g3, p_145, p_154, p_163, p_172, c_175], Or.inl c_175⟩, rfl⟩, trivial⟩, hS.F ht⟩) hS.2.2 d_F_method_102
                                · skip
                                  first | exact absurd c_176 (by decide) | exact absurd (by decide) c_176
                              · skip
                                refine lv_aload_n hx hb d_F_method_50 rfl (lv_at hl 2 rfl) ?_
                                refine va_get (D := (dC, dI)) (ci := 4) (v := .ref w) (C := R_F) (T := T_F) (N := 4) hx hb hts (fun w h => hsub w (uw_F w h)) hown hK hP 0 rfl rfl 0 (by decide) (hts _ (hsub _ w_181)) (fun _ h9 => h9) rfl d_F_method_51 ?_
                                refine lv_iload_n hx hb d_F_method_54 rfl (lv_at hl 4 rfl) ?_
                                have hPc := hP.sub (ws' := [(w, .inr (3, [.ref wp, .ref wu, .ref wi, .int 2, .ref wc, .ref wt, .ref wx, .int 0, .ref wm, .int 0]))]) [1] rfl
                                have hKc := hK.sub (tys' := []) [] rfl
                                refine va_calli (va_runV (As := [.int rs]) (rest := []) ⟨hx, hb, hml, hown, hts⟩ (k_W_isValueType l dC dI w wp wu wi wc wt wx wm rs) (cwV 1 hts (gV hsub w_194 w_195 w_196 w_4 w_197) rfl rfl rfl (by decide +kernel) ⟨Nat.le_of_ble_eq_true rfl, Nat.le_of_ble_eq_true rfl⟩) ⟨bl_0000, va_recv hKc hPc (ci := 3) (q0 := 0) rfl rfl, fun U hU hW => ⟨rfl, by rw [hU]; exact hPc, va_K.moved hW.alike hKc⟩⟩ rfl rfl hl.1 rfl (lv_room (Nat.le_of_ble_eq_true rfl)) d_F_method_55 ⟨Nat.le_of_ble_eq_true rfl, Nat.le_of_ble_eq_true rfl⟩) hS (fun q _ h => h.elim) (fun q h => h.elim) (fun r_181 u_182 t H1 locs ht hvm hw hB hz1 hk1 hS => ?_)
                                have hP := ro_keep hP hk1
                                generalize H1 = H at hP hS ⊢
                                refine W.widen (k := 0) (n := 0) (Nat.le_of_ble_eq_true rfl) (Nat.le_of_ble_eq_true rfl) ?_
                                rcases hw with ⟨hr9, hw⟩ | ⟨hr9, hw⟩
                                · subst hr9
                                  have p_183 := hw
                                  refine lv_if_ne (tgt := 71) hx hb d_F_method_58 (by decide) (fun c_184 => ?_) (fun c_184 => ?_)
                                  · skip
                                    refine lv_aload_n hx hb d_F_method_71 rfl (lv_at hl 2 rfl) ?_
                                    refine va_get (D := (dC, dI)) (ci := 4) (v := .ref w) (C := R_F) (T := T_F) (N := 4) hx hb hts (fun w h => hsub w (uw_F w h)) hown hK hP 0 rfl rfl 0 (by decide) (hts _ (hsub _ w_181)) (fun _ h9 => h9) rfl d_F_method_72 ?_
                                    refine va_get (D := (dC, dI)) (ci := 3) (v := .int 0) (C := R_W) (T := T_W) (N := 10) hx hb hts (fun w h => hsub w (uw_W w h)) hown hK hP 1 rfl rfl 9 (by decide) (hts _ (hsub _ w_204)) (fun _ h9 => h9) rfl d_F_method_75 ?_
                                    refine lv_bipush (v := 8) hx hb d_F_method_78 (by decide) ?_
                                    refine lv_icmp_lt (tgt := 93) hx hb d_F_method_80 (by decide) (fun c_185 => ?_) (fun c_185 => ?_)
                                    · skip
                                      refine lv_aload_n hx hb d_F_method_93 rfl (lv_at hl 2 rfl) ?_
                                      refine va_get (D := (dC, dI)) (ci := 4) (v := .ref w) (C := R_F) (T := T_F) (N := 4) hx hb hts (fun w h => hsub w (uw_F w h)) hown hK hP 0 rfl rfl 0 (by decide) (hts _ (hsub _ w_181)) (fun _ h9 => h9) rfl d_F_method_94 ?_
                                      refine lv_iload_n hx hb d_F_method_97 rfl (lv_at hl 3 rfl) ?_
                                      refine lv_iload_n hx hb d_F_method_98 rfl (lv_at hl 4 rfl) ?_
                                      have hPc := hP.sub (ws' := [(w, .inr (3, [.ref wp, .ref wu, .ref wi, .int 2, .ref wc, .ref wt, .ref wx, .int 0, .ref wm, .int 0])), (wm, .inl (km, 8, .inr (.inr (.inr (.inr fm)))))]) [1, 2] rfl
                                      have hKc := hK.sub (tys' := [(km, .object "MapFramer$Method")]) [0] rfl
                                      have hDc := hD.sub (ws' := [(w, .inr (3, [.ref wp, .ref wu, .ref wi, .int 2, .ref wc, .ref wt, .ref wx, .int 0, .ref wm, .int 0])), (wm, .inl (km, 8, .inr (.inr (.inr (.inr fm)))))]) [1, 2] (by decide) rfl
                                      have hFc := va_free (wc := [(w, .inr (3, [.ref wp, .ref wu, .ref wi, .int 2, .ref wc, .ref wt, .ref wx, .int 0, .ref wm, .int 0])), (wm, .inl (km, 8, .inr (.inr (.inr (.inr fm)))))]) hD hS hA [1, 2] rfl
                                      refine va_calli (va_runV (As := [.int pk, .int rs]) (rest := []) ⟨hx, hb, hml, hown, hts⟩ (k_W_addMethod l dC dI w wp wu wi wc wt wx wm km fm pk rs H.size) (cwV 2 hts (gV hsub w_205 w_206 w_207 w_4 w_208) rfl rfl rfl (by decide +kernel) ⟨Nat.le_of_ble_eq_true rfl, Nat.le_of_ble_eq_true rfl⟩) ⟨bl_1010, va_recv hKc hPc (ci := 3) (q0 := 0) rfl rfl, fun U hU hW => ⟨rfl, by rw [hU], by rw [hU]; exact hPc, va_K.moved hW.alike hKc, hDc.weaken (fun _ _ _ _ => trivial), exP_go hex hS (fun q h => hFc q h) U hU hW⟩⟩ rfl rfl hl.1 rfl (lv_room (Nat.le_of_ble_eq_true rfl)) d_F_method_99 ⟨Nat.le_of_ble_eq_true rfl, Nat.le_of_ble_eq_true rfl⟩) hS (fun q _ h => hFc q h) hFc (fun r_187 u_188 t H1 locs ht hvm hw hB hz1 hk1 hS => ?_)
                                      have hP1 : va_P (dC, dI) vwCl [] H1 := nil_P
                                      have hD1 : va_D (va_A [(w, .inr (3, [.ref wp, .ref wu, .ref wi, .int 2, .ref wc, .ref wt, .ref wx, .int 0, .ref wm, .int 0])), (wm, .inl (km, 8, .inr (.inr (.inr (.inr fm)))))] H.size) [] := nil_D
                                      have hK1 : va_K (dC, dI) vwCl [] s := hK.sub (tys' := []) [] rfl
                                      obtain ⟨hP, hD⟩ := va_join (wr := [(f, .inr (4, [.ref w, .ref k, .ref tp, .int 0]))]) (w1 := []) hP hD [1, 2] [0] rfl rfl (by decide) (by decide) hk1 hFc hP1 hD1
                                      have hK := (hK.sub (tys' := [(km, .object "MapFramer$Method")]) [0] rfl).app hK1
                                      generalize H1 = H at hP hS ⊢
                                      have hP : va_P (dC, dI) vwCl [(f, .inr (4, [.ref w, .ref k, .ref tp, .int 0]))] H := hP
                                      have hD : va_D A [(f, .inr (4, [.ref w, .ref k, .ref tp, .int 0]))] := hD
                                      have hK : va_K (dC, dI) vwCl [(km, .object "MapFramer$Method")] s := hK
                                      refine W.widen (k := 6) (n := 20) (Nat.le_of_ble_eq_true rfl) (Nat.le_of_ble_eq_true rfl) ?_
                                      subst hw
                                      refine vx_ret ?_
                                      refine W.widen (k := 6) (n := 20) (Nat.le_of_ble_eq_true rfl) (Nat.le_of_ble_eq_true rfl) ?_
                                      exact W.iret (v := 0) hx hb hr (fun t ht hW => ⟨⟨0, (), rfl, ⟨⟨by simp [okA, g0, g1, g2, g3, p_145, p_154, p_163, p_172, c_175, p_183], Or.inr p_183⟩, rfl⟩, trivial⟩, hS.F ht⟩) hS.2.2 d_F_method_102
                                    · skip
                                      first | exact absurd c_185 (by decide) | exact absurd (by decide) c_185
                                  · skip
                                    first | exact absurd c_184 (by decide) | exact absurd (by decide) c_184
                                · subst hr9
                                  have p_189 := hw
                                  refine lv_if_ne (tgt := 71) hx hb d_F_method_58 (by decide) (fun c_190 => ?_) (fun c_190 => ?_)
                                  · skip
                                    first | exact absurd c_190 (by decide) | exact absurd (by decide) c_190
                                  · skip
                                    obtain ⟨sa, hsa⟩ := hex.2.2.2.2.1 (83, "no such result type") (by decide)
                                    exact vx_throwS (sa := sa) (names := ["java/lang/RuntimeException", "java/lang/Exception"]) hx hb hl9 hown (by decide +kernel) (by decide +kernel) (hts _ (hsub _ w_191)) (hts _ (hsub _ w_192)) hsa (xg_IllegalArgumentException_39_at hts hsub hex) xg_IllegalArgumentException_39_ot hex.1 hex.2.1 hS (hl.1.trans hml.symm) d_F_method_61 d_F_method_64 d_F_method_65 d_F_method_67 d_F_method_70 (fun x hx9 => (hnoh x hx9).elim) (Nat.le_of_ble_eq_true rfl) (Nat.le_of_ble_eq_true rfl) (Nat.le_of_ble_eq_true rfl) (Nat.le_of_ble_eq_true rfl) hlocks (fun t hal hz hk => ⟨(), by intro h; obtain ⟨h1, h2⟩ := h; first | (simp [okA, g0, g1, g2, g3, p_145, p_154, p_163, p_172, c_175, p_189] at h1; done) | (simp [g0, g1, g2, g3, p_145, p_154, p_163, p_172, c_175, p_189] at h2; done), rfl, Nat.le_trans hS.1 hz, fun q h1 h2 => by rw [hk q (Nat.lt_of_lt_of_le h1 hS.1)]; exact hS.2.1 q h1 h2⟩) hS.2.2 (Nat.le_of_ble_eq_true rfl) (Nat.le_of_ble_eq_true rfl)
                            · skip
                              first | exact absurd c_174 (by decide) | exact absurd (by decide) c_174
                          · skip
                            first | exact absurd c_173 (by decide) | exact absurd (by decide) c_173
                        · subst hr9
                          have p_191 := hw
                          refine lv_if_ne (tgt := 40) hx hb d_F_method_27 (by decide) (fun c_192 => ?_) (fun c_192 => ?_)
                          · skip
                            first | exact absurd c_192 (by decide) | exact absurd (by decide) c_192
                          · skip
                            obtain ⟨sa, hsa⟩ := hex.2.2.2.2.1 (81, "no such argument type") (by decide)
                            exact vx_throwS (sa := sa) (names := ["java/lang/RuntimeException", "java/lang/Exception"]) hx hb hl9 hown (by decide +kernel) (by decide +kernel) (hts _ (hsub _ w_191)) (hts _ (hsub _ w_192)) hsa (xg_IllegalArgumentException_39_at hts hsub hex) xg_IllegalArgumentException_39_ot hex.1 hex.2.1 hS (hl.1.trans hml.symm) d_F_method_30 d_F_method_33 d_F_method_34 d_F_method_36 d_F_method_39 (fun x hx9 => (hnoh x hx9).elim) (Nat.le_of_ble_eq_true rfl) (Nat.le_of_ble_eq_true rfl) (Nat.le_of_ble_eq_true rfl) (Nat.le_of_ble_eq_true rfl) hlocks (fun t hal hz hk => ⟨(), by intro h; obtain ⟨h1, h2⟩ := h; first | (simp [okA, g0, g1, g2, g3, p_145, p_154, p_163, p_191] at h1; done) | (simp [g0, g1, g2, g3, p_145, p_154, p_163, p_191] at h2; done), rfl, Nat.le_trans hS.1 hz, fun q h1 h2 => by rw [hk q (Nat.lt_of_lt_of_le h1 hS.1)]; exact hS.2.1 q h1 h2⟩) hS.2.2 (Nat.le_of_ble_eq_true rfl) (Nat.le_of_ble_eq_true rfl)
                    · skip
                      first | exact absurd c_164 (by decide) | exact absurd (by decide) c_164
                  · subst hr9
                    have p_193 := hw
                    refine lv_if_ne (tgt := 40) hx hb d_F_method_27 (by decide) (fun c_194 => ?_) (fun c_194 => ?_)
                    · skip
                      first | exact absurd c_194 (by decide) | exact absurd (by decide) c_194
                    · skip
                      obtain ⟨sa, hsa⟩ := hex.2.2.2.2.1 (81, "no such argument type") (by decide)
                      exact vx_throwS (sa := sa) (names := ["java/lang/RuntimeException", "java/lang/Exception"]) hx hb hl9 hown (by decide +kernel) (by decide +kernel) (hts _ (hsub _ w_191)) (hts _ (hsub _ w_192)) hsa (xg_IllegalArgumentException_39_at hts hsub hex) xg_IllegalArgumentException_39_ot hex.1 hex.2.1 hS (hl.1.trans hml.symm) d_F_method_30 d_F_method_33 d_F_method_34 d_F_method_36 d_F_method_39 (fun x hx9 => (hnoh x hx9).elim) (Nat.le_of_ble_eq_true rfl) (Nat.le_of_ble_eq_true rfl) (Nat.le_of_ble_eq_true rfl) (Nat.le_of_ble_eq_true rfl) hlocks (fun t hal hz hk => ⟨(), by intro h; obtain ⟨h1, h2⟩ := h; first | (simp [okA, g0, g1, g2, g3, p_145, p_154, p_193] at h1; done) | (simp [g0, g1, g2, g3, p_145, p_154, p_193] at h2; done), rfl, Nat.le_trans hS.1 hz, fun q h1 h2 => by rw [hk q (Nat.lt_of_lt_of_le h1 hS.1)]; exact hS.2.1 q h1 h2⟩) hS.2.2 (Nat.le_of_ble_eq_true rfl) (Nat.le_of_ble_eq_true rfl)
              · skip
                first | exact absurd c_155 (by decide) | exact absurd (by decide) c_155
            · subst hr9
              have p_195 := hw
              refine lv_if_ne (tgt := 40) hx hb d_F_method_27 (by decide) (fun c_196 => ?_) (fun c_196 => ?_)
              · skip
                first | exact absurd c_196 (by decide) | exact absurd (by decide) c_196
              · skip
                obtain ⟨sa, hsa⟩ := hex.2.2.2.2.1 (81, "no such argument type") (by decide)
                exact vx_throwS (sa := sa) (names := ["java/lang/RuntimeException", "java/lang/Exception"]) hx hb hl9 hown (by decide +kernel) (by decide +kernel) (hts _ (hsub _ w_191)) (hts _ (hsub _ w_192)) hsa (xg_IllegalArgumentException_39_at hts hsub hex) xg_IllegalArgumentException_39_ot hex.1 hex.2.1 hS (hl.1.trans hml.symm) d_F_method_30 d_F_method_33 d_F_method_34 d_F_method_36 d_F_method_39 (fun x hx9 => (hnoh x hx9).elim) (Nat.le_of_ble_eq_true rfl) (Nat.le_of_ble_eq_true rfl) (Nat.le_of_ble_eq_true rfl) (Nat.le_of_ble_eq_true rfl) hlocks (fun t hal hz hk => ⟨(), by intro h; obtain ⟨h1, h2⟩ := h; first | (simp [okA, g0, g1, g2, g3, p_145, p_195] at h1; done) | (simp [g0, g1, g2, g3, p_145, p_195] at h2; done), rfl, Nat.le_trans hS.1 hz, fun q h1 h2 => by rw [hk q (Nat.lt_of_lt_of_le h1 hS.1)]; exact hS.2.1 q h1 h2⟩) hS.2.2 (Nat.le_of_ble_eq_true rfl) (Nat.le_of_ble_eq_true rfl)
        · skip
          first | exact absurd c_146 (by decide) | exact absurd (by decide) c_146
      · subst hr9
        have p_197 := hw
        refine lv_if_ne (tgt := 40) hx hb d_F_method_27 (by decide) (fun c_198 => ?_) (fun c_198 => ?_)
        · skip
          first | exact absurd c_198 (by decide) | exact absurd (by decide) c_198
        · skip
          obtain ⟨sa, hsa⟩ := hex.2.2.2.2.1 (81, "no such argument type") (by decide)
          exact vx_throwS (sa := sa) (names := ["java/lang/RuntimeException", "java/lang/Exception"]) hx hb hl9 hown (by decide +kernel) (by decide +kernel) (hts _ (hsub _ w_191)) (hts _ (hsub _ w_192)) hsa (xg_IllegalArgumentException_39_at hts hsub hex) xg_IllegalArgumentException_39_ot hex.1 hex.2.1 hS (hl.1.trans hml.symm) d_F_method_30 d_F_method_33 d_F_method_34 d_F_method_36 d_F_method_39 (fun x hx9 => (hnoh x hx9).elim) (Nat.le_of_ble_eq_true rfl) (Nat.le_of_ble_eq_true rfl) (Nat.le_of_ble_eq_true rfl) (Nat.le_of_ble_eq_true rfl) hlocks (fun t hal hz hk => ⟨(), by intro h; obtain ⟨h1, h2⟩ := h; first | (simp [okA, g0, g1, g2, g3, p_197] at h1; done) | (simp [g0, g1, g2, g3, p_197] at h2; done), rfl, Nat.le_trans hS.1 hz, fun q h1 h2 => by rw [hk q (Nat.lt_of_lt_of_le h1 hS.1)]; exact hS.2.1 q h1 h2⟩) hS.2.2 (Nat.le_of_ble_eq_true rfl) (Nat.le_of_ble_eq_true rfl)

abbrev ws_k_F_feed (f w k tp : Nat) (kt9 : ClassId) : va_W := [(f, .inr (4, [.ref w, .ref k, .ref tp, .int 0])), (tp, .inl (kt9, 400, .inl (fun _ => 0)))]
set_option maxHeartbeats 4000000 in
set_option maxRecDepth 100000 in
theorem k_F_feed (l : Launch) (dC : Nat → ClassId) (dI : Nat → Nat → Nat) (f w k tp : Nat) (kt9 : ClassId) (by4 : Int32) (sz : Nat) : Met l y_F_feed (Cond.code y_F_feed prog_1_method_5_code 3 (some .boolean) :: bigW) ({ frames := 0, cells := 0, slots := 0, locals := 0 } : Room) (va_Pc [.ref f, .int by4] (fun U => U.heap.size = sz ∧ va_P (dC, dI) vwCl (ws_k_F_feed f w k tp kt9) U.heap ∧ va_K (dC, dI) vwCl [(kt9, .int)] U ∧ va_D (fun _ => True) (ws_k_F_feed f w k tp kt9))) (va_Qi (fun (r : Int32) (u : Unit) => r = 1) (fun _ _ => True) (va_A (ws_k_F_feed f w k tp kt9) sz)) 0 0 (va_A (ws_k_F_feed f w k tp kt9) sz) := by
  refine Met.ofW (cc := prog_1_method_5_code) (maxL := 3) (ret := (some .boolean)) (by decide) rfl ?_
  intro p e s m args below meth cx s₁ B hml hv
  obtain ⟨rfl, hsz, hP, hK, hD0⟩ := hv
  have hx := B.exec
  have hb := B.bytes
  have hr := B.returns
  have hts := atoms_spec (ws := (Cond.code y_F_feed prog_1_method_5_code 3 (some .boolean) :: bigW)) B.pre
  have hsub : ∀ w ∈ bigW, w ∈ (Cond.code y_F_feed prog_1_method_5_code 3 (some .boolean) :: bigW) := fun w h => List.mem_cons_of_mem _ h
  have hown : s.vm.findClass "MapFramer" = some m.cls := findClass_of_methodNamed B.named
  have hlocks := B.notSynchronized
  subst hsz
  have hD := hD0.self (sz := s.heap.size)
  generalize hAe : va_A (ws_k_F_feed f w k tp kt9) s.heap.size = A at hD ⊢
  have hA : ∀ q : Nat, s.heap.size ≤ q → A q := fun q h => by rw [← hAe]; exact Or.inr h
  have hS : va_S A s.heap s.heap [] := va_S.rf
  have hP : va_P (dC, dI) vwCl [(f, .inr (4, [.ref w, .ref k, .ref tp, .int 0])), (tp, .inl (kt9, 400, .inl (fun _ => 0)))] s.heap := hP
  have hD : va_D A [(f, .inr (4, [.ref w, .ref k, .ref tp, .int 0])), (tp, .inl (kt9, 400, .inl (fun _ => 0)))] := hD
  have hl := lv_entry ([.ref f, .int by4]) (n := 3) (Nat.le_of_ble_eq_true rfl)
  rw [lg_entry_eq]
  generalize (lg_sl ([.ref f, .int by4]) ++ List.replicate (3 - (lg_sl ([.ref f, .int by4])).length) Slot.unset).toArray = ls at hl ⊢
  have hl : lv_has ls 3 [(0, .ref f), (1, .int by4)] := hl
  refine lv_aload_n hx hb d_F_feed_0 rfl (lv_at hl 0 rfl) ?_
  refine va_get (D := (dC, dI)) (ci := 4) (v := .int 0) (C := R_F) (T := T_F) (N := 4) hx hb hts (fun w h => hsub w (uw_F w h)) hown hK hP 0 rfl rfl 3 (by decide) (hts _ (hsub _ w_210)) (fun _ h9 => h9) rfl d_F_feed_1 ?_
  refine lv_iconst (v := 4) hx hb d_F_feed_4 (by decide) ?_
  refine lv_iadd hx hb d_F_feed_5 ?_
  refine tp_i 4 (by decide) ?_
  refine lv_sipush (v := 400) hx hb d_F_feed_6 (by decide) ?_
  refine lv_icmp_le (tgt := 14) hx hb d_F_feed_9 (by decide) (fun c_1 => ?_) (fun c_1 => ?_)
  · skip
    refine lv_bipush (v := 24) hx hb d_F_feed_14 (by decide) ?_
    refine lv_istore_n (lv' := [(2, .int 24), (0, .ref f), (1, .int by4)]) hx hb d_F_feed_16 rfl hl (by decide) rfl (fun ls hl => ?_)
    refine lv_iload_n hx hb d_F_feed_17 rfl (lv_at hl 0 rfl) ?_
    refine lv_if_lt (tgt := 53) hx hb d_F_feed_18 (by decide) (fun c_2 => ?_) (fun c_2 => ?_)
    · skip
      first | exact absurd c_2 (by decide) | exact absurd (by decide) c_2
    · skip
      refine lv_aload_n hx hb d_F_feed_21 rfl (lv_at hl 1 rfl) ?_
      refine va_get (D := (dC, dI)) (ci := 4) (v := .ref tp) (C := R_F) (T := T_F) (N := 4) hx hb hts (fun w h => hsub w (uw_F w h)) hown hK hP 0 rfl rfl 2 (by decide) (hts _ (hsub _ w_211)) (fun _ h9 => h9) rfl d_F_feed_22 ?_
      refine lv_aload_n hx hb d_F_feed_25 rfl (lv_at hl 1 rfl) ?_
      refine va_get (D := (dC, dI)) (ci := 4) (v := .int 0) (C := R_F) (T := T_F) (N := 4) hx hb hts (fun w h => hsub w (uw_F w h)) hown hK hP 0 rfl rfl 3 (by decide) (hts _ (hsub _ w_210)) (fun _ h9 => h9) rfl d_F_feed_26 ?_
      refine lv_iload_n hx hb d_F_feed_29 rfl (lv_at hl 2 rfl) ?_
      refine lv_iload_n hx hb d_F_feed_30 rfl (lv_at hl 0 rfl) ?_
      refine lv_iushr (v := ((by4 : Int32).toUInt32 >>> ((24 : Int32).toUInt32 &&& Int32.toUInt32 31)).toInt32) hx hb d_F_feed_31 rfl ?_
      refine lv_topi (fun x_3 ex_3 => ?_)
      refine lv_sipush (v := 255) hx hb d_F_feed_32 (by decide) ?_
      refine lv_iand hx hb d_F_feed_35 ?_
      refine lv_topi (fun x_4 ex_4 => ?_)
      refine va_iast hx hb hK hP hD hS 1 0 rfl rfl (vp_in_iff.mpr (by decide)) d_F_feed_36 (fun H locs hP hD hS => ?_)
      have hP : va_P (dC, dI) vwCl [(f, .inr (4, [.ref w, .ref k, .ref tp, .int 0])), (tp, .inl (kt9, 400, .inl (upd (fun _ => 0) (0 : Int32).toNatClampNeg x_4)))] H := hP
      have hD : va_D A [(f, .inr (4, [.ref w, .ref k, .ref tp, .int 0])), (tp, .inl (kt9, 400, .inl (upd (fun _ => 0) (0 : Int32).toNatClampNeg x_4)))] := hD
      refine lv_aload_n hx hb d_F_feed_37 rfl (lv_at hl 1 rfl) ?_
      refine lv_dup hx hb d_F_feed_38 rfl ?_
      refine va_get (D := (dC, dI)) (ci := 4) (v := .int 0) (C := R_F) (T := T_F) (N := 4) hx hb hts (fun w h => hsub w (uw_F w h)) hown hK hP 0 rfl rfl 3 (by decide) (hts _ (hsub _ w_210)) (fun _ h9 => h9) rfl d_F_feed_39 ?_
      refine lv_iconst (v := 1) hx hb d_F_feed_42 (by decide) ?_
      refine lv_iadd hx hb d_F_feed_43 ?_
      refine tp_i 1 (by decide) ?_
      refine va_put (D := (dC, dI)) (ci := 4) (v := .int 1) (ty := .int) (C := R_F) (T := T_F) (N := 4) hx hb hts (fun w h => hsub w (uw_F w h)) ty_F tok_F nm_F hown hK hP hD hS 0 rfl rfl 3 (by decide) (hts _ (hsub _ w_210)) (fun _ h9 => h9) rfl (by decide +kernel) rfl rfl (Nat.le_of_ble_eq_true rfl) d_F_feed_44 (fun H locs hP hD hS => ?_)
      have hP : va_P (dC, dI) vwCl [(f, .inr (4, [.ref w, .ref k, .ref tp, .int 1])), (tp, .inl (kt9, 400, .inl (upd (fun _ => 0) (0 : Int32).toNatClampNeg x_4)))] H := hP
      have hD : va_D A [(f, .inr (4, [.ref w, .ref k, .ref tp, .int 1])), (tp, .inl (kt9, 400, .inl (upd (fun _ => 0) (0 : Int32).toNatClampNeg x_4)))] := hD
      refine lv_iinc (v := 16) (lv' := [(2, .int 16), (0, .ref f), (1, .int by4)]) hx hb d_F_feed_47 hl (k := 0) rfl (by decide) (by decide) rfl (fun ls hl => ?_)
      refine lv_goto (tgt := 17) hx hb d_F_feed_50 (by decide) ?_
      refine lv_iload_n hx hb d_F_feed_17 rfl (lv_at hl 0 rfl) ?_
      refine lv_if_lt (tgt := 53) hx hb d_F_feed_18 (by decide) (fun c_5 => ?_) (fun c_5 => ?_)
      · skip
        first | exact absurd c_5 (by decide) | exact absurd (by decide) c_5
      · skip
        refine lv_aload_n hx hb d_F_feed_21 rfl (lv_at hl 1 rfl) ?_
        refine va_get (D := (dC, dI)) (ci := 4) (v := .ref tp) (C := R_F) (T := T_F) (N := 4) hx hb hts (fun w h => hsub w (uw_F w h)) hown hK hP 0 rfl rfl 2 (by decide) (hts _ (hsub _ w_211)) (fun _ h9 => h9) rfl d_F_feed_22 ?_
        refine lv_aload_n hx hb d_F_feed_25 rfl (lv_at hl 1 rfl) ?_
        refine va_get (D := (dC, dI)) (ci := 4) (v := .int 1) (C := R_F) (T := T_F) (N := 4) hx hb hts (fun w h => hsub w (uw_F w h)) hown hK hP 0 rfl rfl 3 (by decide) (hts _ (hsub _ w_210)) (fun _ h9 => h9) rfl d_F_feed_26 ?_
        refine lv_iload_n hx hb d_F_feed_29 rfl (lv_at hl 2 rfl) ?_
        refine lv_iload_n hx hb d_F_feed_30 rfl (lv_at hl 0 rfl) ?_
        refine lv_iushr (v := ((by4 : Int32).toUInt32 >>> ((16 : Int32).toUInt32 &&& Int32.toUInt32 31)).toInt32) hx hb d_F_feed_31 rfl ?_
        refine lv_topi (fun x_6 ex_6 => ?_)
        refine lv_sipush (v := 255) hx hb d_F_feed_32 (by decide) ?_
        refine lv_iand hx hb d_F_feed_35 ?_
        refine lv_topi (fun x_7 ex_7 => ?_)
        refine va_iast hx hb hK hP hD hS 1 0 rfl rfl (vp_in_iff.mpr (by decide)) d_F_feed_36 (fun H locs hP hD hS => ?_)
        have hP : va_P (dC, dI) vwCl [(f, .inr (4, [.ref w, .ref k, .ref tp, .int 1])), (tp, .inl (kt9, 400, .inl (upd (upd (fun _ => 0) (0 : Int32).toNatClampNeg x_4) (1 : Int32).toNatClampNeg x_7)))] H := hP
        have hD : va_D A [(f, .inr (4, [.ref w, .ref k, .ref tp, .int 1])), (tp, .inl (kt9, 400, .inl (upd (upd (fun _ => 0) (0 : Int32).toNatClampNeg x_4) (1 : Int32).toNatClampNeg x_7)))] := hD
        refine lv_aload_n hx hb d_F_feed_37 rfl (lv_at hl 1 rfl) ?_
        refine lv_dup hx hb d_F_feed_38 rfl ?_
        refine va_get (D := (dC, dI)) (ci := 4) (v := .int 1) (C := R_F) (T := T_F) (N := 4) hx hb hts (fun w h => hsub w (uw_F w h)) hown hK hP 0 rfl rfl 3 (by decide) (hts _ (hsub _ w_210)) (fun _ h9 => h9) rfl d_F_feed_39 ?_
        refine lv_iconst (v := 1) hx hb d_F_feed_42 (by decide) ?_
        refine lv_iadd hx hb d_F_feed_43 ?_
        refine tp_i 2 (by decide) ?_
        refine va_put (D := (dC, dI)) (ci := 4) (v := .int 2) (ty := .int) (C := R_F) (T := T_F) (N := 4) hx hb hts (fun w h => hsub w (uw_F w h)) ty_F tok_F nm_F hown hK hP hD hS 0 rfl rfl 3 (by decide) (hts _ (hsub _ w_210)) (fun _ h9 => h9) rfl (by decide +kernel) rfl rfl (Nat.le_of_ble_eq_true rfl) d_F_feed_44 (fun H locs hP hD hS => ?_)
        have hP : va_P (dC, dI) vwCl [(f, .inr (4, [.ref w, .ref k, .ref tp, .int 2])), (tp, .inl (kt9, 400, .inl (upd (upd (fun _ => 0) (0 : Int32).toNatClampNeg x_4) (1 : Int32).toNatClampNeg x_7)))] H := hP
        have hD : va_D A [(f, .inr (4, [.ref w, .ref k, .ref tp, .int 2])), (tp, .inl (kt9, 400, .inl (upd (upd (fun _ => 0) (0 : Int32).toNatClampNeg x_4) (1 : Int32).toNatClampNeg x_7)))] := hD
        refine lv_iinc (v := 8) (lv' := [(2, .int 8), (0, .ref f), (1, .int by4)]) hx hb d_F_feed_47 hl (k := 0) rfl (by decide) (by decide) rfl (fun ls hl => ?_)
        refine lv_goto (tgt := 17) hx hb d_F_feed_50 (by decide) ?_
        refine lv_iload_n hx hb d_F_feed_17 rfl (lv_at hl 0 rfl) ?_
        refine lv_if_lt (tgt := 53) hx hb d_F_feed_18 (by decide) (fun c_8 => ?_) (fun c_8 => ?_)
        · skip
          first | exact absurd c_8 (by decide) | exact absurd (by decide) c_8
        · skip
          refine lv_aload_n hx hb d_F_feed_21 rfl (lv_at hl 1 rfl) ?_
          refine va_get (D := (dC, dI)) (ci := 4) (v := .ref tp) (C := R_F) (T := T_F) (N := 4) hx hb hts (fun w h => hsub w (uw_F w h)) hown hK hP 0 rfl rfl 2 (by decide) (hts _ (hsub _ w_211)) (fun _ h9 => h9) rfl d_F_feed_22 ?_
          refine lv_aload_n hx hb d_F_feed_25 rfl (lv_at hl 1 rfl) ?_
          refine va_get (D := (dC, dI)) (ci := 4) (v := .int 2) (C := R_F) (T := T_F) (N := 4) hx hb hts (fun w h => hsub w (uw_F w h)) hown hK hP 0 rfl rfl 3 (by decide) (hts _ (hsub _ w_210)) (fun _ h9 => h9) rfl d_F_feed_26 ?_
          refine lv_iload_n hx hb d_F_feed_29 rfl (lv_at hl 2 rfl) ?_
          refine lv_iload_n hx hb d_F_feed_30 rfl (lv_at hl 0 rfl) ?_
          refine lv_iushr (v := ((by4 : Int32).toUInt32 >>> ((8 : Int32).toUInt32 &&& Int32.toUInt32 31)).toInt32) hx hb d_F_feed_31 rfl ?_
          refine lv_topi (fun x_9 ex_9 => ?_)
          refine lv_sipush (v := 255) hx hb d_F_feed_32 (by decide) ?_
          refine lv_iand hx hb d_F_feed_35 ?_
          refine lv_topi (fun x_10 ex_10 => ?_)
          refine va_iast hx hb hK hP hD hS 1 0 rfl rfl (vp_in_iff.mpr (by decide)) d_F_feed_36 (fun H locs hP hD hS => ?_)
          have hP : va_P (dC, dI) vwCl [(f, .inr (4, [.ref w, .ref k, .ref tp, .int 2])), (tp, .inl (kt9, 400, .inl (upd (upd (upd (fun _ => 0) (0 : Int32).toNatClampNeg x_4) (1 : Int32).toNatClampNeg x_7) (2 : Int32).toNatClampNeg x_10)))] H := hP
          have hD : va_D A [(f, .inr (4, [.ref w, .ref k, .ref tp, .int 2])), (tp, .inl (kt9, 400, .inl (upd (upd (upd (fun _ => 0) (0 : Int32).toNatClampNeg x_4) (1 : Int32).toNatClampNeg x_7) (2 : Int32).toNatClampNeg x_10)))] := hD
          refine lv_aload_n hx hb d_F_feed_37 rfl (lv_at hl 1 rfl) ?_
          refine lv_dup hx hb d_F_feed_38 rfl ?_
          refine va_get (D := (dC, dI)) (ci := 4) (v := .int 2) (C := R_F) (T := T_F) (N := 4) hx hb hts (fun w h => hsub w (uw_F w h)) hown hK hP 0 rfl rfl 3 (by decide) (hts _ (hsub _ w_210)) (fun _ h9 => h9) rfl d_F_feed_39 ?_
          refine lv_iconst (v := 1) hx hb d_F_feed_42 (by decide) ?_
          refine lv_iadd hx hb d_F_feed_43 ?_
          refine tp_i 3 (by decide) ?_
          refine va_put (D := (dC, dI)) (ci := 4) (v := .int 3) (ty := .int) (C := R_F) (T := T_F) (N := 4) hx hb hts (fun w h => hsub w (uw_F w h)) ty_F tok_F nm_F hown hK hP hD hS 0 rfl rfl 3 (by decide) (hts _ (hsub _ w_210)) (fun _ h9 => h9) rfl (by decide +kernel) rfl rfl (Nat.le_of_ble_eq_true rfl) d_F_feed_44 (fun H locs hP hD hS => ?_)
          have hP : va_P (dC, dI) vwCl [(f, .inr (4, [.ref w, .ref k, .ref tp, .int 3])), (tp, .inl (kt9, 400, .inl (upd (upd (upd (fun _ => 0) (0 : Int32).toNatClampNeg x_4) (1 : Int32).toNatClampNeg x_7) (2 : Int32).toNatClampNeg x_10)))] H := hP
          have hD : va_D A [(f, .inr (4, [.ref w, .ref k, .ref tp, .int 3])), (tp, .inl (kt9, 400, .inl (upd (upd (upd (fun _ => 0) (0 : Int32).toNatClampNeg x_4) (1 : Int32).toNatClampNeg x_7) (2 : Int32).toNatClampNeg x_10)))] := hD
          refine lv_iinc (v := 0) (lv' := [(2, .int 0), (0, .ref f), (1, .int by4)]) hx hb d_F_feed_47 hl (k := 0) rfl (by decide) (by decide) rfl (fun ls hl => ?_)
          refine lv_goto (tgt := 17) hx hb d_F_feed_50 (by decide) ?_
          refine lv_iload_n hx hb d_F_feed_17 rfl (lv_at hl 0 rfl) ?_
          refine lv_if_lt (tgt := 53) hx hb d_F_feed_18 (by decide) (fun c_11 => ?_) (fun c_11 => ?_)
          · skip
            first | exact absurd c_11 (by decide) | exact absurd (by decide) c_11
          · skip
            refine lv_aload_n hx hb d_F_feed_21 rfl (lv_at hl 1 rfl) ?_
            refine va_get (D := (dC, dI)) (ci := 4) (v := .ref tp) (C := R_F) (T := T_F) (N := 4) hx hb hts (fun w h => hsub w (uw_F w h)) hown hK hP 0 rfl rfl 2 (by decide) (hts _ (hsub _ w_211)) (fun _ h9 => h9) rfl d_F_feed_22 ?_
            refine lv_aload_n hx hb d_F_feed_25 rfl (lv_at hl 1 rfl) ?_
            refine va_get (D := (dC, dI)) (ci := 4) (v := .int 3) (C := R_F) (T := T_F) (N := 4) hx hb hts (fun w h => hsub w (uw_F w h)) hown hK hP 0 rfl rfl 3 (by decide) (hts _ (hsub _ w_210)) (fun _ h9 => h9) rfl d_F_feed_26 ?_
            refine lv_iload_n hx hb d_F_feed_29 rfl (lv_at hl 2 rfl) ?_
            refine lv_iload_n hx hb d_F_feed_30 rfl (lv_at hl 0 rfl) ?_
            refine lv_iushr (v := ((by4 : Int32).toUInt32 >>> ((0 : Int32).toUInt32 &&& Int32.toUInt32 31)).toInt32) hx hb d_F_feed_31 rfl ?_
            refine lv_topi (fun x_12 ex_12 => ?_)
            refine lv_sipush (v := 255) hx hb d_F_feed_32 (by decide) ?_
            refine lv_iand hx hb d_F_feed_35 ?_
            refine lv_topi (fun x_13 ex_13 => ?_)
            refine va_iast hx hb hK hP hD hS 1 0 rfl rfl (vp_in_iff.mpr (by decide)) d_F_feed_36 (fun H locs hP hD hS => ?_)
            have hP : va_P (dC, dI) vwCl [(f, .inr (4, [.ref w, .ref k, .ref tp, .int 3])), (tp, .inl (kt9, 400, .inl (upd (upd (upd (upd (fun _ => 0) (0 : Int32).toNatClampNeg x_4) (1 : Int32).toNatClampNeg x_7) (2 : Int32).toNatClampNeg x_10) (3 : Int32).toNatClampNeg x_13)))] H := hP
            have hD : va_D A [(f, .inr (4, [.ref w, .ref k, .ref tp, .int 3])), (tp, .inl (kt9, 400, .inl (upd (upd (upd (upd (fun _ => 0) (0 : Int32).toNatClampNeg x_4) (1 : Int32).toNatClampNeg x_7) (2 : Int32).toNatClampNeg x_10) (3 : Int32).toNatClampNeg x_13)))] := hD
            refine lv_aload_n hx hb d_F_feed_37 rfl (lv_at hl 1 rfl) ?_
            refine lv_dup hx hb d_F_feed_38 rfl ?_
            refine va_get (D := (dC, dI)) (ci := 4) (v := .int 3) (C := R_F) (T := T_F) (N := 4) hx hb hts (fun w h => hsub w (uw_F w h)) hown hK hP 0 rfl rfl 3 (by decide) (hts _ (hsub _ w_210)) (fun _ h9 => h9) rfl d_F_feed_39 ?_
            refine lv_iconst (v := 1) hx hb d_F_feed_42 (by decide) ?_
            refine lv_iadd hx hb d_F_feed_43 ?_
            refine tp_i 4 (by decide) ?_
            refine va_put (D := (dC, dI)) (ci := 4) (v := .int 4) (ty := .int) (C := R_F) (T := T_F) (N := 4) hx hb hts (fun w h => hsub w (uw_F w h)) ty_F tok_F nm_F hown hK hP hD hS 0 rfl rfl 3 (by decide) (hts _ (hsub _ w_210)) (fun _ h9 => h9) rfl (by decide +kernel) rfl rfl (Nat.le_of_ble_eq_true rfl) d_F_feed_44 (fun H locs hP hD hS => ?_)
            have hP : va_P (dC, dI) vwCl [(f, .inr (4, [.ref w, .ref k, .ref tp, .int 4])), (tp, .inl (kt9, 400, .inl (upd (upd (upd (upd (fun _ => 0) (0 : Int32).toNatClampNeg x_4) (1 : Int32).toNatClampNeg x_7) (2 : Int32).toNatClampNeg x_10) (3 : Int32).toNatClampNeg x_13)))] H := hP
            have hD : va_D A [(f, .inr (4, [.ref w, .ref k, .ref tp, .int 4])), (tp, .inl (kt9, 400, .inl (upd (upd (upd (upd (fun _ => 0) (0 : Int32).toNatClampNeg x_4) (1 : Int32).toNatClampNeg x_7) (2 : Int32).toNatClampNeg x_10) (3 : Int32).toNatClampNeg x_13)))] := hD
            refine lv_iinc (v := (-8)) (lv' := [(2, .int (-8)), (0, .ref f), (1, .int by4)]) hx hb d_F_feed_47 hl (k := 0) rfl (by decide) (by decide) rfl (fun ls hl => ?_)
            refine lv_goto (tgt := 17) hx hb d_F_feed_50 (by decide) ?_
            refine lv_iload_n hx hb d_F_feed_17 rfl (lv_at hl 0 rfl) ?_
            refine lv_if_lt (tgt := 53) hx hb d_F_feed_18 (by decide) (fun c_14 => ?_) (fun c_14 => ?_)
            · skip
              refine lv_iconst (v := 1) hx hb d_F_feed_53 (by decide) ?_
              refine W.widen (k := 0) (n := 0) (Nat.le_of_ble_eq_true rfl) (Nat.le_of_ble_eq_true rfl) ?_
              exact W.zret (v := 1) hx hb hr rfl (fun t ht hW => ⟨⟨1, (), rfl, rfl, trivial⟩, hS.F ht⟩) hS.2.2 d_F_feed_54
            · skip
              first | exact absurd c_14 (by decide) | exact absurd (by decide) c_14
  · skip
    first | exact absurd c_1 (by decide) | exact absurd (by decide) c_1

abbrev ws_k_F_code (f w k tp wp wu wi wc wt wx wm : Nat) : va_W := [(f, .inr (4, [.ref w, .ref k, .ref tp, .int 0])), (w, .inr (3, [.ref wp, .ref wu, .ref wi, .int 2, .ref wc, .ref wt, .ref wx, .int 0, .ref wm, .int 0]))]
set_option maxHeartbeats 4000000 in
set_option maxRecDepth 100000 in
theorem k_F_code (l : Launch) (hl9 : l.stackTraces = false) (dC : Nat → ClassId) (dI : Nat → Nat → Nat) (f w k tp wp wu wi wc wt wx wm : Nat) (a1 : Int32) (a2 : Int32) (a3 : Int32) (a4 : Int32) (sz : Nat) : vx_Met l y_F_code (Cond.code y_F_code prog_1_method_6_code 7 none :: bigW) ({ frames := 6, cells := 1, slots := 6, locals := 82 } : Room) (va_Pc [.ref f, .int a1, .int a2, .int a3, .int a4] (fun U => U.heap.size = sz ∧ va_P (dC, dI) vwCl (ws_k_F_code f w k tp wp wu wi wc wt wx wm) U.heap ∧ va_K (dC, dI) vwCl [] U ∧ va_D (fun _ => True) (ws_k_F_code f w k tp wp wu wi wc wt wx wm) ∧ exP (va_A (ws_k_F_code f w k tp wp wu wi wc wt wx wm) sz) U)) (va_Qv (fun (u : Unit) => False) (fun _ _ => True) (va_A (ws_k_F_code f w k tp wp wu wi wc wt wx wm) sz)) (vx_X (S := Unit) (fun _ => True) (fun E _ _ => E = "java/lang/IllegalArgumentException") (va_A (ws_k_F_code f w k tp wp wu wi wc wt wx wm) sz)) 1 6 (va_A (ws_k_F_code f w k tp wp wu wi wc wt wx wm) sz) := by
  refine vx_ofW (cc := prog_1_method_6_code) (maxL := 7) (ret := none) (by decide) rfl ?_
  intro p e s m args below meth cx s₁ B hml hnoh hv
  obtain ⟨rfl, hsz, hP, hK, hD0, hex⟩ := hv
  have hx := B.exec
  have hb := B.bytes
  have hr := B.returns
  have hts := atoms_spec (ws := (Cond.code y_F_code prog_1_method_6_code 7 none :: bigW)) B.pre
  have hsub : ∀ w ∈ bigW, w ∈ (Cond.code y_F_code prog_1_method_6_code 7 none :: bigW) := fun w h => List.mem_cons_of_mem _ h
  have hown : s.vm.findClass "MapFramer" = some m.cls := findClass_of_methodNamed B.named
  have hlocks := B.notSynchronized
  subst hsz
  have hD := hD0.self (sz := s.heap.size)
  generalize hAe : va_A (ws_k_F_code f w k tp wp wu wi wc wt wx wm) s.heap.size = A at hD hex ⊢
  have hA : ∀ q : Nat, s.heap.size ≤ q → A q := fun q h => by rw [← hAe]; exact Or.inr h
  have hS : va_S A s.heap s.heap [] := va_S.rf
  have hP : va_P (dC, dI) vwCl [(f, .inr (4, [.ref w, .ref k, .ref tp, .int 0])), (w, .inr (3, [.ref wp, .ref wu, .ref wi, .int 2, .ref wc, .ref wt, .ref wx, .int 0, .ref wm, .int 0]))] s.heap := hP
  have hD : va_D A [(f, .inr (4, [.ref w, .ref k, .ref tp, .int 0])), (w, .inr (3, [.ref wp, .ref wu, .ref wi, .int 2, .ref wc, .ref wt, .ref wx, .int 0, .ref wm, .int 0]))] := hD
  have hl := lv_entry ([.ref f, .int a1, .int a2, .int a3, .int a4]) (n := 7) (Nat.le_of_ble_eq_true rfl)
  rw [lg_entry_eq]
  generalize (lg_sl ([.ref f, .int a1, .int a2, .int a3, .int a4]) ++ List.replicate (7 - (lg_sl ([.ref f, .int a1, .int a2, .int a3, .int a4])).length) Slot.unset).toArray = ls at hl ⊢
  have hl : lv_has ls 7 [(0, .ref f), (1, .int a1), (2, .int a2), (3, .int a3), (4, .int a4)] := hl
  refine lv_aload_n hx hb d_F_code_0 rfl (lv_at hl 0 rfl) ?_
  refine va_get (D := (dC, dI)) (ci := 4) (v := .int 0) (C := R_F) (T := T_F) (N := 4) hx hb hts (fun w h => hsub w (uw_F w h)) hown hK hP 0 rfl rfl 3 (by decide) (hts _ (hsub _ w_210)) (fun _ h9 => h9) rfl d_F_code_1 ?_
  refine lv_istore (lv' := [(5, .int 0), (0, .ref f), (1, .int a1), (2, .int a2), (3, .int a3), (4, .int a4)]) hx hb d_F_code_4 hl (by decide) rfl (fun ls hl => ?_)
  refine lv_aload_n hx hb d_F_code_6 rfl (lv_at hl 1 rfl) ?_
  refine lv_iconst (v := 0) hx hb d_F_code_7 (by decide) ?_
  refine va_put (D := (dC, dI)) (ci := 4) (v := .int 0) (ty := .int) (C := R_F) (T := T_F) (N := 4) hx hb hts (fun w h => hsub w (uw_F w h)) ty_F tok_F nm_F hown hK hP hD hS 0 rfl rfl 3 (by decide) (hts _ (hsub _ w_210)) (fun _ h9 => h9) rfl (by decide +kernel) rfl rfl (Nat.le_of_ble_eq_true rfl) d_F_code_8 (fun H locs hP hD hS => ?_)
  have hP : va_P (dC, dI) vwCl [(f, .inr (4, [.ref w, .ref k, .ref tp, .int 0])), (w, .inr (3, [.ref wp, .ref wu, .ref wi, .int 2, .ref wc, .ref wt, .ref wx, .int 0, .ref wm, .int 0]))] H := hP
  have hD : va_D A [(f, .inr (4, [.ref w, .ref k, .ref tp, .int 0])), (w, .inr (3, [.ref wp, .ref wu, .ref wi, .int 2, .ref wc, .ref wt, .ref wx, .int 0, .ref wm, .int 0]))] := hD
  refine lv_aload_n hx hb d_F_code_11 rfl (lv_at hl 1 rfl) ?_
  refine va_get (D := (dC, dI)) (ci := 4) (v := .ref w) (C := R_F) (T := T_F) (N := 4) hx hb hts (fun w h => hsub w (uw_F w h)) hown hK hP 0 rfl rfl 0 (by decide) (hts _ (hsub _ w_181)) (fun _ h9 => h9) rfl d_F_code_12 ?_
  refine lv_iload_n hx hb d_F_code_15 rfl (lv_at hl 2 rfl) ?_
  have hPc := hP.sub (ws' := [(w, .inr (3, [.ref wp, .ref wu, .ref wi, .int 2, .ref wc, .ref wt, .ref wx, .int 0, .ref wm, .int 0]))]) [1] rfl
  have hKc := hK.sub (tys' := []) [] rfl
  refine va_callq (va_runV (As := [.int a1]) (rest := []) ⟨hx, hb, hml, hown, hts⟩ (k_W_methodAt l dC dI w wp wu wi wc wt wx wm a1) (cwV 1 hts (gV hsub w_212 w_213 w_214 w_4 w_215) rfl rfl rfl (by decide +kernel) ⟨Nat.le_of_ble_eq_true rfl, Nat.le_of_ble_eq_true rfl⟩) ⟨bl_0000, va_recv hKc hPc (ci := 3) (q0 := 0) rfl rfl, fun U hU hW => ⟨rfl, by rw [hU]; exact hPc, va_K.moved hW.alike hKc⟩⟩ rfl rfl hl.1 rfl (lv_room (Nat.le_of_ble_eq_true rfl)) d_F_code_16 ⟨Nat.le_of_ble_eq_true rfl, Nat.le_of_ble_eq_true rfl⟩) hS (fun q _ h => h.elim) (fun q h => h.elim) (fun r_2 u_3 t H1 locs ht hvm hw hB hz1 hk1 hS => ?_)
  have hP := ro_keep hP hk1
  generalize H1 = H at hP hS ⊢
  refine W.widen (k := 0) (n := 0) (Nat.le_of_ble_eq_true rfl) (Nat.le_of_ble_eq_true rfl) ?_
  subst hw
  refine W.eq (g2 := F0 m 19 ls [.null]) rfl ?_
  refine lv_astoreN (lv' := [(6, .null), (5, .int 0), (0, .ref f), (1, .int a1), (2, .int a2), (3, .int a3), (4, .int a4)]) hx hb d_F_code_19 hl (by decide) rfl (fun ls hl => ?_)
  refine lv_aloadN hx hb d_F_code_21 (lv_at hl 0 rfl) ?_
  refine lv_ifnullN (tgt := 43) hx hb d_F_code_23 (by decide) ?_
  obtain ⟨sa, hsa⟩ := hex.2.2.2.2.1 (97, "no such method, or not so many bytes") (by decide)
  exact vx_throwS (sa := sa) (names := ["java/lang/RuntimeException", "java/lang/Exception"]) hx hb hl9 hown (by decide +kernel) (by decide +kernel) (hts _ (hsub _ w_191)) (hts _ (hsub _ w_192)) hsa (xg_IllegalArgumentException_39_at hts hsub hex) xg_IllegalArgumentException_39_ot hex.1 hex.2.1 hS (hl.1.trans hml.symm) d_F_code_43 d_F_code_46 d_F_code_47 d_F_code_49 d_F_code_52 (fun x hx9 => (hnoh x hx9).elim) (Nat.le_of_ble_eq_true rfl) (Nat.le_of_ble_eq_true rfl) (Nat.le_of_ble_eq_true rfl) (Nat.le_of_ble_eq_true rfl) hlocks (fun t hal hz hk => ⟨(), trivial, rfl, Nat.le_trans hS.1 hz, fun q h1 h2 => by rw [hk q (Nat.lt_of_lt_of_le h1 hS.1)]; exact hS.2.1 q h1 h2⟩) hS.2.2 (Nat.le_of_ble_eq_true rfl) (Nat.le_of_ble_eq_true rfl)

abbrev ws_k_F_handler (f w k tp wp wu wi wc wt wx wm : Nat) : va_W := [(f, .inr (4, [.ref w, .ref k, .ref tp, .int 0])), (w, .inr (3, [.ref wp, .ref wu, .ref wi, .int 2, .ref wc, .ref wt, .ref wx, .int 0, .ref wm, .int 0]))]
set_option maxHeartbeats 4000000 in
set_option maxRecDepth 100000 in
theorem k_F_handler (l : Launch) (hl9 : l.stackTraces = false) (dC : Nat → ClassId) (dI : Nat → Nat → Nat) (f w k tp wp wu wi wc wt wx wm : Nat) (a1 : Int32) (a2 : Int32) (a3 : Int32) (a4 : Int32) (a5 : Int32) : vx_Met l y_F_handler (Cond.code y_F_handler prog_1_method_7_code 8 (some .int) :: bigW) ({ frames := 6, cells := 1, slots := 6, locals := 82 } : Room) (va_Pc [.ref f, .int a1, .int a2, .int a3, .int a4, .int a5] (fun U => va_P (dC, dI) vwCl (ws_k_F_handler f w k tp wp wu wi wc wt wx wm) U.heap ∧ va_K (dC, dI) vwCl [] U ∧ exP (fun _ => False) U)) (va_Qi (fun (r : Int32) (u : Unit) => False) (fun _ _ => True) (fun _ => False)) (vx_X (S := Unit) (fun _ => True) (fun E _ _ => E = "java/lang/IllegalArgumentException") (fun _ => False)) 1 6 (fun _ => False) := by
  refine vx_ofW (cc := prog_1_method_7_code) (maxL := 8) (ret := (some .int)) (by decide) rfl ?_
  intro p e s m args below meth cx s₁ B hml hnoh hv
  obtain ⟨rfl, hP, hK, hex⟩ := hv
  have hx := B.exec
  have hb := B.bytes
  have hr := B.returns
  have hts := atoms_spec (ws := (Cond.code y_F_handler prog_1_method_7_code 8 (some .int) :: bigW)) B.pre
  have hsub : ∀ w ∈ bigW, w ∈ (Cond.code y_F_handler prog_1_method_7_code 8 (some .int) :: bigW) := fun w h => List.mem_cons_of_mem _ h
  have hown : s.vm.findClass "MapFramer" = some m.cls := findClass_of_methodNamed B.named
  have hlocks := B.notSynchronized
  have hS : va_S (fun _ => False) s.heap s.heap [] := va_S.rf
  have hP : va_P (dC, dI) vwCl [(f, .inr (4, [.ref w, .ref k, .ref tp, .int 0])), (w, .inr (3, [.ref wp, .ref wu, .ref wi, .int 2, .ref wc, .ref wt, .ref wx, .int 0, .ref wm, .int 0]))] s.heap := hP
  have hl := lv_entry ([.ref f, .int a1, .int a2, .int a3, .int a4, .int a5]) (n := 8) (Nat.le_of_ble_eq_true rfl)
  rw [lg_entry_eq]
  generalize (lg_sl ([.ref f, .int a1, .int a2, .int a3, .int a4, .int a5]) ++ List.replicate (8 - (lg_sl ([.ref f, .int a1, .int a2, .int a3, .int a4, .int a5])).length) Slot.unset).toArray = ls at hl ⊢
  have hl : lv_has ls 8 [(0, .ref f), (1, .int a1), (2, .int a2), (3, .int a3), (4, .int a4), (5, .int a5)] := hl
  refine lv_aload_n hx hb d_F_handler_0 rfl (lv_at hl 0 rfl) ?_
  refine va_get (D := (dC, dI)) (ci := 4) (v := .ref w) (C := R_F) (T := T_F) (N := 4) hx hb hts (fun w h => hsub w (uw_F w h)) hown hK hP 0 rfl rfl 0 (by decide) (hts _ (hsub _ w_181)) (fun _ h9 => h9) rfl d_F_handler_1 ?_
  refine lv_iload_n hx hb d_F_handler_4 rfl (lv_at hl 1 rfl) ?_
  have hPc := hP.sub (ws' := [(w, .inr (3, [.ref wp, .ref wu, .ref wi, .int 2, .ref wc, .ref wt, .ref wx, .int 0, .ref wm, .int 0]))]) [1] rfl
  have hKc := hK.sub (tys' := []) [] rfl
  refine va_callq (va_runV (As := [.int a1]) (rest := []) ⟨hx, hb, hml, hown, hts⟩ (k_W_methodAt l dC dI w wp wu wi wc wt wx wm a1) (cwV 1 hts (gV hsub w_212 w_213 w_214 w_4 w_215) rfl rfl rfl (by decide +kernel) ⟨Nat.le_of_ble_eq_true rfl, Nat.le_of_ble_eq_true rfl⟩) ⟨bl_0000, va_recv hKc hPc (ci := 3) (q0 := 0) rfl rfl, fun U hU hW => ⟨rfl, by rw [hU]; exact hPc, va_K.moved hW.alike hKc⟩⟩ rfl rfl hl.1 rfl (lv_room (Nat.le_of_ble_eq_true rfl)) d_F_handler_5 ⟨Nat.le_of_ble_eq_true rfl, Nat.le_of_ble_eq_true rfl⟩) hS (fun q _ h => h.elim) (fun q h => h.elim) (fun r_2 u_3 t H1 locs ht hvm hw hB hz1 hk1 hS => ?_)
  have hP := ro_keep hP hk1
  generalize H1 = H at hP hS ⊢
  refine W.widen (k := 0) (n := 0) (Nat.le_of_ble_eq_true rfl) (Nat.le_of_ble_eq_true rfl) ?_
  subst hw
  refine W.eq (g2 := F0 m 8 ls [.null]) rfl ?_
  refine lv_astoreN (lv' := [(6, .null), (0, .ref f), (1, .int a1), (2, .int a2), (3, .int a3), (4, .int a4), (5, .int a5)]) hx hb d_F_handler_8 hl (by decide) rfl (fun ls hl => ?_)
  refine lv_iload hx hb d_F_handler_10 (lv_at hl 6 rfl) ?_
  refine lv_iconst (v := (-1)) hx hb d_F_handler_12 (by decide) ?_
  refine lv_icmp_ne (tgt := 20) hx hb d_F_handler_13 (by decide) (fun c_4 => ?_) (fun c_4 => ?_)
  · skip
    refine lv_iload hx hb d_F_handler_20 (lv_at hl 6 rfl) ?_
    refine lv_istore (lv' := [(7, .int a5), (6, .null), (0, .ref f), (1, .int a1), (2, .int a2), (3, .int a3), (4, .int a4), (5, .int a5)]) hx hb d_F_handler_22 hl (by decide) rfl (fun ls hl => ?_)
    refine lv_aloadN hx hb d_F_handler_24 (lv_at hl 1 rfl) ?_
    refine lv_ifnullN (tgt := 62) hx hb d_F_handler_26 (by decide) ?_
    obtain ⟨sa, hsa⟩ := hex.2.2.2.2.1 (132, "no such method with code, or class") (by decide)
    exact vx_throwS (sa := sa) (names := ["java/lang/RuntimeException", "java/lang/Exception"]) hx hb hl9 hown (by decide +kernel) (by decide +kernel) (hts _ (hsub _ w_191)) (hts _ (hsub _ w_192)) hsa (xg_IllegalArgumentException_39_at hts hsub hex) xg_IllegalArgumentException_39_ot hex.1 hex.2.1 hS (hl.1.trans hml.symm) d_F_handler_62 d_F_handler_65 d_F_handler_66 d_F_handler_68 d_F_handler_71 (fun x hx9 => (hnoh x hx9).elim) (Nat.le_of_ble_eq_true rfl) (Nat.le_of_ble_eq_true rfl) (Nat.le_of_ble_eq_true rfl) (Nat.le_of_ble_eq_true rfl) hlocks (fun t hal hz hk => ⟨(), trivial, rfl, Nat.le_trans hS.1 hz, fun q h1 h2 => by rw [hk q (Nat.lt_of_lt_of_le h1 hS.1)]; exact hS.2.1 q h1 h2⟩) hS.2.2 (Nat.le_of_ble_eq_true rfl) (Nat.le_of_ble_eq_true rfl)
  · skip
    refine lv_iconst (v := 1) hx hb d_F_handler_16 (by decide) ?_
    refine lv_goto (tgt := 22) hx hb d_F_handler_17 (by decide) ?_
    refine lv_istore (lv' := [(7, .int 1), (6, .null), (0, .ref f), (1, .int a1), (2, .int a2), (3, .int a3), (4, .int a4), (5, .int a5)]) hx hb d_F_handler_22 hl (by decide) rfl (fun ls hl => ?_)
    refine lv_aloadN hx hb d_F_handler_24 (lv_at hl 1 rfl) ?_
    refine lv_ifnullN (tgt := 62) hx hb d_F_handler_26 (by decide) ?_
    obtain ⟨sa, hsa⟩ := hex.2.2.2.2.1 (132, "no such method with code, or class") (by decide)
    exact vx_throwS (sa := sa) (names := ["java/lang/RuntimeException", "java/lang/Exception"]) hx hb hl9 hown (by decide +kernel) (by decide +kernel) (hts _ (hsub _ w_191)) (hts _ (hsub _ w_192)) hsa (xg_IllegalArgumentException_39_at hts hsub hex) xg_IllegalArgumentException_39_ot hex.1 hex.2.1 hS (hl.1.trans hml.symm) d_F_handler_62 d_F_handler_65 d_F_handler_66 d_F_handler_68 d_F_handler_71 (fun x hx9 => (hnoh x hx9).elim) (Nat.le_of_ble_eq_true rfl) (Nat.le_of_ble_eq_true rfl) (Nat.le_of_ble_eq_true rfl) (Nat.le_of_ble_eq_true rfl) hlocks (fun t hal hz hk => ⟨(), trivial, rfl, Nat.le_trans hS.1 hz, fun q h1 h2 => by rw [hk q (Nat.lt_of_lt_of_le h1 hS.1)]; exact hS.2.1 q h1 h2⟩) hS.2.2 (Nat.le_of_ble_eq_true rfl) (Nat.le_of_ble_eq_true rfl)

abbrev ws_k_F_verify (f w k tp wp wu wi wc wt wx wm : Nat) : va_W := [(f, .inr (4, [.ref w, .ref k, .ref tp, .int 0])), (w, .inr (3, [.ref wp, .ref wu, .ref wi, .int 2, .ref wc, .ref wt, .ref wx, .int 0, .ref wm, .int 0]))]
set_option maxHeartbeats 4000000 in
set_option maxRecDepth 100000 in
theorem k_F_verify (l : Launch) (hl9 : l.stackTraces = false) (dC : Nat → ClassId) (dI : Nat → Nat → Nat) (f w k tp wp wu wi wc wt wx wm : Nat) (a1 : Int32) : vx_Met l y_F_verify (Cond.code y_F_verify prog_1_method_9_code 4 (some .int) :: bigW) ({ frames := 6, cells := 1, slots := 6, locals := 82 } : Room) (va_Pc [.ref f, .int a1] (fun U => va_P (dC, dI) vwCl (ws_k_F_verify f w k tp wp wu wi wc wt wx wm) U.heap ∧ va_K (dC, dI) vwCl [] U ∧ exP (fun _ => False) U)) (va_Qi (fun (r : Int32) (u : Unit) => False) (fun _ _ => True) (fun _ => False)) (vx_X (S := Unit) (fun _ => True) (fun E _ _ => E = "java/lang/IllegalArgumentException") (fun _ => False)) 1 6 (fun _ => False) := by
  refine vx_ofW (cc := prog_1_method_9_code) (maxL := 4) (ret := (some .int)) (by decide) rfl ?_
  intro p e s m args below meth cx s₁ B hml hnoh hv
  obtain ⟨rfl, hP, hK, hex⟩ := hv
  have hx := B.exec
  have hb := B.bytes
  have hr := B.returns
  have hts := atoms_spec (ws := (Cond.code y_F_verify prog_1_method_9_code 4 (some .int) :: bigW)) B.pre
  have hsub : ∀ w ∈ bigW, w ∈ (Cond.code y_F_verify prog_1_method_9_code 4 (some .int) :: bigW) := fun w h => List.mem_cons_of_mem _ h
  have hown : s.vm.findClass "MapFramer" = some m.cls := findClass_of_methodNamed B.named
  have hlocks := B.notSynchronized
  have hS : va_S (fun _ => False) s.heap s.heap [] := va_S.rf
  have hP : va_P (dC, dI) vwCl [(f, .inr (4, [.ref w, .ref k, .ref tp, .int 0])), (w, .inr (3, [.ref wp, .ref wu, .ref wi, .int 2, .ref wc, .ref wt, .ref wx, .int 0, .ref wm, .int 0]))] s.heap := hP
  have hl := lv_entry ([.ref f, .int a1]) (n := 4) (Nat.le_of_ble_eq_true rfl)
  rw [lg_entry_eq]
  generalize (lg_sl ([.ref f, .int a1]) ++ List.replicate (4 - (lg_sl ([.ref f, .int a1])).length) Slot.unset).toArray = ls at hl ⊢
  have hl : lv_has ls 4 [(0, .ref f), (1, .int a1)] := hl
  refine lv_aload_n hx hb d_F_verify_0 rfl (lv_at hl 0 rfl) ?_
  refine va_get (D := (dC, dI)) (ci := 4) (v := .ref w) (C := R_F) (T := T_F) (N := 4) hx hb hts (fun w h => hsub w (uw_F w h)) hown hK hP 0 rfl rfl 0 (by decide) (hts _ (hsub _ w_181)) (fun _ h9 => h9) rfl d_F_verify_1 ?_
  refine lv_iload_n hx hb d_F_verify_4 rfl (lv_at hl 1 rfl) ?_
  have hPc := hP.sub (ws' := [(w, .inr (3, [.ref wp, .ref wu, .ref wi, .int 2, .ref wc, .ref wt, .ref wx, .int 0, .ref wm, .int 0]))]) [1] rfl
  have hKc := hK.sub (tys' := []) [] rfl
  refine va_callq (va_runV (As := [.int a1]) (rest := []) ⟨hx, hb, hml, hown, hts⟩ (k_W_methodAt l dC dI w wp wu wi wc wt wx wm a1) (cwV 1 hts (gV hsub w_212 w_213 w_214 w_4 w_215) rfl rfl rfl (by decide +kernel) ⟨Nat.le_of_ble_eq_true rfl, Nat.le_of_ble_eq_true rfl⟩) ⟨bl_0000, va_recv hKc hPc (ci := 3) (q0 := 0) rfl rfl, fun U hU hW => ⟨rfl, by rw [hU]; exact hPc, va_K.moved hW.alike hKc⟩⟩ rfl rfl hl.1 rfl (lv_room (Nat.le_of_ble_eq_true rfl)) d_F_verify_5 ⟨Nat.le_of_ble_eq_true rfl, Nat.le_of_ble_eq_true rfl⟩) hS (fun q _ h => h.elim) (fun q h => h.elim) (fun r_2 u_3 t H1 locs ht hvm hw hB hz1 hk1 hS => ?_)
  have hP := ro_keep hP hk1
  generalize H1 = H at hP hS ⊢
  refine W.widen (k := 0) (n := 0) (Nat.le_of_ble_eq_true rfl) (Nat.le_of_ble_eq_true rfl) ?_
  subst hw
  refine W.eq (g2 := F0 m 8 ls [.null]) rfl ?_
  refine lv_astore_nN (lv' := [(2, .null), (0, .ref f), (1, .int a1)]) hx hb d_F_verify_8 rfl hl (by decide) rfl (fun ls hl => ?_)
  refine lv_aload_nN hx hb d_F_verify_9 rfl (lv_at hl 0 rfl) ?_
  refine lv_ifnullN (tgt := 20) hx hb d_F_verify_10 (by decide) ?_
  obtain ⟨sa, hsa⟩ := hex.2.2.2.2.1 (163, "no such method with code") (by decide)
  exact vx_throwS (sa := sa) (names := ["java/lang/RuntimeException", "java/lang/Exception"]) hx hb hl9 hown (by decide +kernel) (by decide +kernel) (hts _ (hsub _ w_191)) (hts _ (hsub _ w_192)) hsa (xg_IllegalArgumentException_39_at hts hsub hex) xg_IllegalArgumentException_39_ot hex.1 hex.2.1 hS (hl.1.trans hml.symm) d_F_verify_20 d_F_verify_23 d_F_verify_24 d_F_verify_26 d_F_verify_29 (fun x hx9 => (hnoh x hx9).elim) (Nat.le_of_ble_eq_true rfl) (Nat.le_of_ble_eq_true rfl) (Nat.le_of_ble_eq_true rfl) (Nat.le_of_ble_eq_true rfl) hlocks (fun t hal hz hk => ⟨(), trivial, rfl, Nat.le_trans hS.1 hz, fun q h1 h2 => by rw [hk q (Nat.lt_of_lt_of_le h1 hS.1)]; exact hS.2.1 q h1 h2⟩) hS.2.2 (Nat.le_of_ble_eq_true rfl) (Nat.le_of_ble_eq_true rfl)

abbrev ws_k_F_about (f w k tp wp wu wi wc wt wx wm : Nat) : va_W := [(f, .inr (4, [.ref w, .ref k, .ref tp, .int 0])), (w, .inr (3, [.ref wp, .ref wu, .ref wi, .int 2, .ref wc, .ref wt, .ref wx, .int 0, .ref wm, .int 0]))]
set_option maxHeartbeats 4000000 in
set_option maxRecDepth 100000 in
theorem k_F_about (l : Launch) (hl9 : l.stackTraces = false) (dC : Nat → ClassId) (dI : Nat → Nat → Nat) (f w k tp wp wu wi wc wt wx wm : Nat) (a1 : Int32) (a2 : Int32) : vx_Met l y_F_about (Cond.code y_F_about prog_1_method_10_code 4 (some .int) :: bigW) ({ frames := 6, cells := 1, slots := 6, locals := 82 } : Room) (va_Pc [.ref f, .int a1, .int a2] (fun U => va_P (dC, dI) vwCl (ws_k_F_about f w k tp wp wu wi wc wt wx wm) U.heap ∧ va_K (dC, dI) vwCl [] U ∧ exP (fun _ => False) U)) (va_Qi (fun (r : Int32) (u : Unit) => False) (fun _ _ => True) (fun _ => False)) (vx_X (S := Unit) (fun _ => True) (fun E _ _ => E = "java/lang/IndexOutOfBoundsException") (fun _ => False)) 1 6 (fun _ => False) := by
  refine vx_ofW (cc := prog_1_method_10_code) (maxL := 4) (ret := (some .int)) (by decide) rfl ?_
  intro p e s m args below meth cx s₁ B hml hnoh hv
  obtain ⟨rfl, hP, hK, hex⟩ := hv
  have hx := B.exec
  have hb := B.bytes
  have hr := B.returns
  have hts := atoms_spec (ws := (Cond.code y_F_about prog_1_method_10_code 4 (some .int) :: bigW)) B.pre
  have hsub : ∀ w ∈ bigW, w ∈ (Cond.code y_F_about prog_1_method_10_code 4 (some .int) :: bigW) := fun w h => List.mem_cons_of_mem _ h
  have hown : s.vm.findClass "MapFramer" = some m.cls := findClass_of_methodNamed B.named
  have hlocks := B.notSynchronized
  have hS : va_S (fun _ => False) s.heap s.heap [] := va_S.rf
  have hP : va_P (dC, dI) vwCl [(f, .inr (4, [.ref w, .ref k, .ref tp, .int 0])), (w, .inr (3, [.ref wp, .ref wu, .ref wi, .int 2, .ref wc, .ref wt, .ref wx, .int 0, .ref wm, .int 0]))] s.heap := hP
  have hl := lv_entry ([.ref f, .int a1, .int a2]) (n := 4) (Nat.le_of_ble_eq_true rfl)
  rw [lg_entry_eq]
  generalize (lg_sl ([.ref f, .int a1, .int a2]) ++ List.replicate (4 - (lg_sl ([.ref f, .int a1, .int a2])).length) Slot.unset).toArray = ls at hl ⊢
  have hl : lv_has ls 4 [(0, .ref f), (1, .int a1), (2, .int a2)] := hl
  refine lv_aload_n hx hb d_F_about_0 rfl (lv_at hl 0 rfl) ?_
  refine va_get (D := (dC, dI)) (ci := 4) (v := .ref w) (C := R_F) (T := T_F) (N := 4) hx hb hts (fun w h => hsub w (uw_F w h)) hown hK hP 0 rfl rfl 0 (by decide) (hts _ (hsub _ w_181)) (fun _ h9 => h9) rfl d_F_about_1 ?_
  refine lv_iload_n hx hb d_F_about_4 rfl (lv_at hl 1 rfl) ?_
  have hPc := hP.sub (ws' := [(w, .inr (3, [.ref wp, .ref wu, .ref wi, .int 2, .ref wc, .ref wt, .ref wx, .int 0, .ref wm, .int 0]))]) [1] rfl
  have hKc := hK.sub (tys' := []) [] rfl
  refine va_callq (va_runV (As := [.int a1]) (rest := []) ⟨hx, hb, hml, hown, hts⟩ (k_W_methodAt l dC dI w wp wu wi wc wt wx wm a1) (cwV 1 hts (gV hsub w_212 w_213 w_214 w_4 w_215) rfl rfl rfl (by decide +kernel) ⟨Nat.le_of_ble_eq_true rfl, Nat.le_of_ble_eq_true rfl⟩) ⟨bl_0000, va_recv hKc hPc (ci := 3) (q0 := 0) rfl rfl, fun U hU hW => ⟨rfl, by rw [hU]; exact hPc, va_K.moved hW.alike hKc⟩⟩ rfl rfl hl.1 rfl (lv_room (Nat.le_of_ble_eq_true rfl)) d_F_about_5 ⟨Nat.le_of_ble_eq_true rfl, Nat.le_of_ble_eq_true rfl⟩) hS (fun q _ h => h.elim) (fun q h => h.elim) (fun r_2 u_3 t H1 locs ht hvm hw hB hz1 hk1 hS => ?_)
  have hP := ro_keep hP hk1
  generalize H1 = H at hP hS ⊢
  refine W.widen (k := 0) (n := 0) (Nat.le_of_ble_eq_true rfl) (Nat.le_of_ble_eq_true rfl) ?_
  subst hw
  refine W.eq (g2 := F0 m 8 ls [.null]) rfl ?_
  refine lv_astore_nN (lv' := [(3, .null), (0, .ref f), (1, .int a1), (2, .int a2)]) hx hb d_F_about_8 rfl hl (by decide) rfl (fun ls hl => ?_)
  refine lv_aload_nN hx hb d_F_about_9 rfl (lv_at hl 0 rfl) ?_
  refine lv_ifnullN (tgt := 23) hx hb d_F_about_10 (by decide) ?_
  obtain ⟨sa, hsa⟩ := hex.2.2.2.2.1 (206, "no such method, or nothing so numbered about it") (by decide)
  exact vx_throwS (sa := sa) (names := ["java/lang/RuntimeException", "java/lang/Exception"]) hx hb hl9 hown (by decide +kernel) (by decide +kernel) (hts _ (hsub _ w_216)) (hts _ (hsub _ w_217)) hsa (xg_IndexOutOfBoundsException_208_at hts hsub hex) xg_IndexOutOfBoundsException_208_ot hex.1 hex.2.1 hS (hl.1.trans hml.symm) d_F_about_23 d_F_about_26 d_F_about_27 d_F_about_29 d_F_about_32 (fun x hx9 => (hnoh x hx9).elim) (Nat.le_of_ble_eq_true rfl) (Nat.le_of_ble_eq_true rfl) (Nat.le_of_ble_eq_true rfl) (Nat.le_of_ble_eq_true rfl) hlocks (fun t hal hz hk => ⟨(), trivial, rfl, Nat.le_trans hS.1 hz, fun q h1 h2 => by rw [hk q (Nat.lt_of_lt_of_le h1 hS.1)]; exact hS.2.1 q h1 h2⟩) hS.2.2 (Nat.le_of_ble_eq_true rfl) (Nat.le_of_ble_eq_true rfl)

abbrev ws_k_F_codeAt (f w k tp wp wu wi wc wt wx wm : Nat) : va_W := [(f, .inr (4, [.ref w, .ref k, .ref tp, .int 0])), (w, .inr (3, [.ref wp, .ref wu, .ref wi, .int 2, .ref wc, .ref wt, .ref wx, .int 0, .ref wm, .int 0]))]
set_option maxHeartbeats 4000000 in
set_option maxRecDepth 100000 in
theorem k_F_codeAt (l : Launch) (hl9 : l.stackTraces = false) (dC : Nat → ClassId) (dI : Nat → Nat → Nat) (f w k tp wp wu wi wc wt wx wm : Nat) (a1 : Int32) (a2 : Int32) : vx_Met l y_F_codeAt (Cond.code y_F_codeAt prog_1_method_11_code 4 (some .int) :: bigW) ({ frames := 6, cells := 1, slots := 6, locals := 82 } : Room) (va_Pc [.ref f, .int a1, .int a2] (fun U => va_P (dC, dI) vwCl (ws_k_F_codeAt f w k tp wp wu wi wc wt wx wm) U.heap ∧ va_K (dC, dI) vwCl [] U ∧ exP (fun _ => False) U)) (va_Qi (fun (r : Int32) (u : Unit) => False) (fun _ _ => True) (fun _ => False)) (vx_X (S := Unit) (fun _ => True) (fun E _ _ => E = "java/lang/IndexOutOfBoundsException") (fun _ => False)) 1 6 (fun _ => False) := by
  refine vx_ofW (cc := prog_1_method_11_code) (maxL := 4) (ret := (some .int)) (by decide) rfl ?_
  intro p e s m args below meth cx s₁ B hml hnoh hv
  obtain ⟨rfl, hP, hK, hex⟩ := hv
  have hx := B.exec
  have hb := B.bytes
  have hr := B.returns
  have hts := atoms_spec (ws := (Cond.code y_F_codeAt prog_1_method_11_code 4 (some .int) :: bigW)) B.pre
  have hsub : ∀ w ∈ bigW, w ∈ (Cond.code y_F_codeAt prog_1_method_11_code 4 (some .int) :: bigW) := fun w h => List.mem_cons_of_mem _ h
  have hown : s.vm.findClass "MapFramer" = some m.cls := findClass_of_methodNamed B.named
  have hlocks := B.notSynchronized
  have hS : va_S (fun _ => False) s.heap s.heap [] := va_S.rf
  have hP : va_P (dC, dI) vwCl [(f, .inr (4, [.ref w, .ref k, .ref tp, .int 0])), (w, .inr (3, [.ref wp, .ref wu, .ref wi, .int 2, .ref wc, .ref wt, .ref wx, .int 0, .ref wm, .int 0]))] s.heap := hP
  have hl := lv_entry ([.ref f, .int a1, .int a2]) (n := 4) (Nat.le_of_ble_eq_true rfl)
  rw [lg_entry_eq]
  generalize (lg_sl ([.ref f, .int a1, .int a2]) ++ List.replicate (4 - (lg_sl ([.ref f, .int a1, .int a2])).length) Slot.unset).toArray = ls at hl ⊢
  have hl : lv_has ls 4 [(0, .ref f), (1, .int a1), (2, .int a2)] := hl
  refine lv_aload_n hx hb d_F_codeAt_0 rfl (lv_at hl 0 rfl) ?_
  refine va_get (D := (dC, dI)) (ci := 4) (v := .ref w) (C := R_F) (T := T_F) (N := 4) hx hb hts (fun w h => hsub w (uw_F w h)) hown hK hP 0 rfl rfl 0 (by decide) (hts _ (hsub _ w_181)) (fun _ h9 => h9) rfl d_F_codeAt_1 ?_
  refine lv_iload_n hx hb d_F_codeAt_4 rfl (lv_at hl 1 rfl) ?_
  have hPc := hP.sub (ws' := [(w, .inr (3, [.ref wp, .ref wu, .ref wi, .int 2, .ref wc, .ref wt, .ref wx, .int 0, .ref wm, .int 0]))]) [1] rfl
  have hKc := hK.sub (tys' := []) [] rfl
  refine va_callq (va_runV (As := [.int a1]) (rest := []) ⟨hx, hb, hml, hown, hts⟩ (k_W_methodAt l dC dI w wp wu wi wc wt wx wm a1) (cwV 1 hts (gV hsub w_212 w_213 w_214 w_4 w_215) rfl rfl rfl (by decide +kernel) ⟨Nat.le_of_ble_eq_true rfl, Nat.le_of_ble_eq_true rfl⟩) ⟨bl_0000, va_recv hKc hPc (ci := 3) (q0 := 0) rfl rfl, fun U hU hW => ⟨rfl, by rw [hU]; exact hPc, va_K.moved hW.alike hKc⟩⟩ rfl rfl hl.1 rfl (lv_room (Nat.le_of_ble_eq_true rfl)) d_F_codeAt_5 ⟨Nat.le_of_ble_eq_true rfl, Nat.le_of_ble_eq_true rfl⟩) hS (fun q _ h => h.elim) (fun q h => h.elim) (fun r_2 u_3 t H1 locs ht hvm hw hB hz1 hk1 hS => ?_)
  have hP := ro_keep hP hk1
  generalize H1 = H at hP hS ⊢
  refine W.widen (k := 0) (n := 0) (Nat.le_of_ble_eq_true rfl) (Nat.le_of_ble_eq_true rfl) ?_
  subst hw
  refine W.eq (g2 := F0 m 8 ls [.null]) rfl ?_
  refine lv_astore_nN (lv' := [(3, .null), (0, .ref f), (1, .int a1), (2, .int a2)]) hx hb d_F_codeAt_8 rfl hl (by decide) rfl (fun ls hl => ?_)
  refine lv_aload_nN hx hb d_F_codeAt_9 rfl (lv_at hl 0 rfl) ?_
  refine lv_ifnullN (tgt := 26) hx hb d_F_codeAt_10 (by decide) ?_
  obtain ⟨sa, hsa⟩ := hex.2.2.2.2.1 (215, "no such byte of code") (by decide)
  exact vx_throwS (sa := sa) (names := ["java/lang/RuntimeException", "java/lang/Exception"]) hx hb hl9 hown (by decide +kernel) (by decide +kernel) (hts _ (hsub _ w_216)) (hts _ (hsub _ w_217)) hsa (xg_IndexOutOfBoundsException_208_at hts hsub hex) xg_IndexOutOfBoundsException_208_ot hex.1 hex.2.1 hS (hl.1.trans hml.symm) d_F_codeAt_26 d_F_codeAt_29 d_F_codeAt_30 d_F_codeAt_32 d_F_codeAt_35 (fun x hx9 => (hnoh x hx9).elim) (Nat.le_of_ble_eq_true rfl) (Nat.le_of_ble_eq_true rfl) (Nat.le_of_ble_eq_true rfl) (Nat.le_of_ble_eq_true rfl) hlocks (fun t hal hz hk => ⟨(), trivial, rfl, Nat.le_trans hS.1 hz, fun q h1 h2 => by rw [hk q (Nat.lt_of_lt_of_le h1 hS.1)]; exact hS.2.1 q h1 h2⟩) hS.2.2 (Nat.le_of_ble_eq_true rfl) (Nat.le_of_ble_eq_true rfl)

abbrev ws_k_F_frameAt (f w k tp wp wu wi wc wt wx wm : Nat) : va_W := [(f, .inr (4, [.ref w, .ref k, .ref tp, .int 0])), (w, .inr (3, [.ref wp, .ref wu, .ref wi, .int 2, .ref wc, .ref wt, .ref wx, .int 0, .ref wm, .int 0]))]
set_option maxHeartbeats 4000000 in
set_option maxRecDepth 100000 in
theorem k_F_frameAt (l : Launch) (hl9 : l.stackTraces = false) (dC : Nat → ClassId) (dI : Nat → Nat → Nat) (f w k tp wp wu wi wc wt wx wm : Nat) (a1 : Int32) (a2 : Int32) : vx_Met l y_F_frameAt (Cond.code y_F_frameAt prog_1_method_12_code 4 (some .int) :: bigW) ({ frames := 6, cells := 1, slots := 6, locals := 82 } : Room) (va_Pc [.ref f, .int a1, .int a2] (fun U => va_P (dC, dI) vwCl (ws_k_F_frameAt f w k tp wp wu wi wc wt wx wm) U.heap ∧ va_K (dC, dI) vwCl [] U ∧ exP (fun _ => False) U)) (va_Qi (fun (r : Int32) (u : Unit) => False) (fun _ _ => True) (fun _ => False)) (vx_X (S := Unit) (fun _ => True) (fun E _ _ => E = "java/lang/IndexOutOfBoundsException") (fun _ => False)) 1 6 (fun _ => False) := by
  refine vx_ofW (cc := prog_1_method_12_code) (maxL := 4) (ret := (some .int)) (by decide) rfl ?_
  intro p e s m args below meth cx s₁ B hml hnoh hv
  obtain ⟨rfl, hP, hK, hex⟩ := hv
  have hx := B.exec
  have hb := B.bytes
  have hr := B.returns
  have hts := atoms_spec (ws := (Cond.code y_F_frameAt prog_1_method_12_code 4 (some .int) :: bigW)) B.pre
  have hsub : ∀ w ∈ bigW, w ∈ (Cond.code y_F_frameAt prog_1_method_12_code 4 (some .int) :: bigW) := fun w h => List.mem_cons_of_mem _ h
  have hown : s.vm.findClass "MapFramer" = some m.cls := findClass_of_methodNamed B.named
  have hlocks := B.notSynchronized
  have hS : va_S (fun _ => False) s.heap s.heap [] := va_S.rf
  have hP : va_P (dC, dI) vwCl [(f, .inr (4, [.ref w, .ref k, .ref tp, .int 0])), (w, .inr (3, [.ref wp, .ref wu, .ref wi, .int 2, .ref wc, .ref wt, .ref wx, .int 0, .ref wm, .int 0]))] s.heap := hP
  have hl := lv_entry ([.ref f, .int a1, .int a2]) (n := 4) (Nat.le_of_ble_eq_true rfl)
  rw [lg_entry_eq]
  generalize (lg_sl ([.ref f, .int a1, .int a2]) ++ List.replicate (4 - (lg_sl ([.ref f, .int a1, .int a2])).length) Slot.unset).toArray = ls at hl ⊢
  have hl : lv_has ls 4 [(0, .ref f), (1, .int a1), (2, .int a2)] := hl
  refine lv_aload_n hx hb d_F_frameAt_0 rfl (lv_at hl 0 rfl) ?_
  refine va_get (D := (dC, dI)) (ci := 4) (v := .ref w) (C := R_F) (T := T_F) (N := 4) hx hb hts (fun w h => hsub w (uw_F w h)) hown hK hP 0 rfl rfl 0 (by decide) (hts _ (hsub _ w_181)) (fun _ h9 => h9) rfl d_F_frameAt_1 ?_
  refine lv_iload_n hx hb d_F_frameAt_4 rfl (lv_at hl 1 rfl) ?_
  have hPc := hP.sub (ws' := [(w, .inr (3, [.ref wp, .ref wu, .ref wi, .int 2, .ref wc, .ref wt, .ref wx, .int 0, .ref wm, .int 0]))]) [1] rfl
  have hKc := hK.sub (tys' := []) [] rfl
  refine va_callq (va_runV (As := [.int a1]) (rest := []) ⟨hx, hb, hml, hown, hts⟩ (k_W_methodAt l dC dI w wp wu wi wc wt wx wm a1) (cwV 1 hts (gV hsub w_212 w_213 w_214 w_4 w_215) rfl rfl rfl (by decide +kernel) ⟨Nat.le_of_ble_eq_true rfl, Nat.le_of_ble_eq_true rfl⟩) ⟨bl_0000, va_recv hKc hPc (ci := 3) (q0 := 0) rfl rfl, fun U hU hW => ⟨rfl, by rw [hU]; exact hPc, va_K.moved hW.alike hKc⟩⟩ rfl rfl hl.1 rfl (lv_room (Nat.le_of_ble_eq_true rfl)) d_F_frameAt_5 ⟨Nat.le_of_ble_eq_true rfl, Nat.le_of_ble_eq_true rfl⟩) hS (fun q _ h => h.elim) (fun q h => h.elim) (fun r_2 u_3 t H1 locs ht hvm hw hB hz1 hk1 hS => ?_)
  have hP := ro_keep hP hk1
  generalize H1 = H at hP hS ⊢
  refine W.widen (k := 0) (n := 0) (Nat.le_of_ble_eq_true rfl) (Nat.le_of_ble_eq_true rfl) ?_
  subst hw
  refine W.eq (g2 := F0 m 8 ls [.null]) rfl ?_
  refine lv_astore_nN (lv' := [(3, .null), (0, .ref f), (1, .int a1), (2, .int a2)]) hx hb d_F_frameAt_8 rfl hl (by decide) rfl (fun ls hl => ?_)
  refine lv_aload_nN hx hb d_F_frameAt_9 rfl (lv_at hl 0 rfl) ?_
  refine lv_ifnullN (tgt := 26) hx hb d_F_frameAt_10 (by decide) ?_
  obtain ⟨sa, hsa⟩ := hex.2.2.2.2.1 (217, "no such byte of frames") (by decide)
  exact vx_throwS (sa := sa) (names := ["java/lang/RuntimeException", "java/lang/Exception"]) hx hb hl9 hown (by decide +kernel) (by decide +kernel) (hts _ (hsub _ w_216)) (hts _ (hsub _ w_217)) hsa (xg_IndexOutOfBoundsException_208_at hts hsub hex) xg_IndexOutOfBoundsException_208_ot hex.1 hex.2.1 hS (hl.1.trans hml.symm) d_F_frameAt_26 d_F_frameAt_29 d_F_frameAt_30 d_F_frameAt_32 d_F_frameAt_35 (fun x hx9 => (hnoh x hx9).elim) (Nat.le_of_ble_eq_true rfl) (Nat.le_of_ble_eq_true rfl) (Nat.le_of_ble_eq_true rfl) (Nat.le_of_ble_eq_true rfl) hlocks (fun t hal hz hk => ⟨(), trivial, rfl, Nat.le_trans hS.1 hz, fun q h1 h2 => by rw [hk q (Nat.lt_of_lt_of_le h1 hS.1)]; exact hS.2.1 q h1 h2⟩) hS.2.2 (Nat.le_of_ble_eq_true rfl) (Nat.le_of_ble_eq_true rfl)

abbrev ws_k_F_handlerAt (f w k tp wp wu wi wc wt wx wm : Nat) : va_W := [(f, .inr (4, [.ref w, .ref k, .ref tp, .int 0])), (w, .inr (3, [.ref wp, .ref wu, .ref wi, .int 2, .ref wc, .ref wt, .ref wx, .int 0, .ref wm, .int 0]))]
set_option maxHeartbeats 4000000 in
set_option maxRecDepth 100000 in
theorem k_F_handlerAt (l : Launch) (hl9 : l.stackTraces = false) (dC : Nat → ClassId) (dI : Nat → Nat → Nat) (f w k tp wp wu wi wc wt wx wm : Nat) (a1 : Int32) (a2 : Int32) (a3 : Int32) : vx_Met l y_F_handlerAt (Cond.code y_F_handlerAt prog_1_method_13_code 6 (some .int) :: bigW) ({ frames := 6, cells := 1, slots := 6, locals := 82 } : Room) (va_Pc [.ref f, .int a1, .int a2, .int a3] (fun U => va_P (dC, dI) vwCl (ws_k_F_handlerAt f w k tp wp wu wi wc wt wx wm) U.heap ∧ va_K (dC, dI) vwCl [] U ∧ exP (fun _ => False) U)) (va_Qi (fun (r : Int32) (u : Unit) => False) (fun _ _ => True) (fun _ => False)) (vx_X (S := Unit) (fun _ => True) (fun E _ _ => E = "java/lang/IndexOutOfBoundsException") (fun _ => False)) 1 6 (fun _ => False) := by
  refine vx_ofW (cc := prog_1_method_13_code) (maxL := 6) (ret := (some .int)) (by decide) rfl ?_
  intro p e s m args below meth cx s₁ B hml hnoh hv
  obtain ⟨rfl, hP, hK, hex⟩ := hv
  have hx := B.exec
  have hb := B.bytes
  have hr := B.returns
  have hts := atoms_spec (ws := (Cond.code y_F_handlerAt prog_1_method_13_code 6 (some .int) :: bigW)) B.pre
  have hsub : ∀ w ∈ bigW, w ∈ (Cond.code y_F_handlerAt prog_1_method_13_code 6 (some .int) :: bigW) := fun w h => List.mem_cons_of_mem _ h
  have hown : s.vm.findClass "MapFramer" = some m.cls := findClass_of_methodNamed B.named
  have hlocks := B.notSynchronized
  have hS : va_S (fun _ => False) s.heap s.heap [] := va_S.rf
  have hP : va_P (dC, dI) vwCl [(f, .inr (4, [.ref w, .ref k, .ref tp, .int 0])), (w, .inr (3, [.ref wp, .ref wu, .ref wi, .int 2, .ref wc, .ref wt, .ref wx, .int 0, .ref wm, .int 0]))] s.heap := hP
  have hl := lv_entry ([.ref f, .int a1, .int a2, .int a3]) (n := 6) (Nat.le_of_ble_eq_true rfl)
  rw [lg_entry_eq]
  generalize (lg_sl ([.ref f, .int a1, .int a2, .int a3]) ++ List.replicate (6 - (lg_sl ([.ref f, .int a1, .int a2, .int a3])).length) Slot.unset).toArray = ls at hl ⊢
  have hl : lv_has ls 6 [(0, .ref f), (1, .int a1), (2, .int a2), (3, .int a3)] := hl
  refine lv_aload_n hx hb d_F_handlerAt_0 rfl (lv_at hl 0 rfl) ?_
  refine va_get (D := (dC, dI)) (ci := 4) (v := .ref w) (C := R_F) (T := T_F) (N := 4) hx hb hts (fun w h => hsub w (uw_F w h)) hown hK hP 0 rfl rfl 0 (by decide) (hts _ (hsub _ w_181)) (fun _ h9 => h9) rfl d_F_handlerAt_1 ?_
  refine lv_iload_n hx hb d_F_handlerAt_4 rfl (lv_at hl 1 rfl) ?_
  have hPc := hP.sub (ws' := [(w, .inr (3, [.ref wp, .ref wu, .ref wi, .int 2, .ref wc, .ref wt, .ref wx, .int 0, .ref wm, .int 0]))]) [1] rfl
  have hKc := hK.sub (tys' := []) [] rfl
  refine va_callq (va_runV (As := [.int a1]) (rest := []) ⟨hx, hb, hml, hown, hts⟩ (k_W_methodAt l dC dI w wp wu wi wc wt wx wm a1) (cwV 1 hts (gV hsub w_212 w_213 w_214 w_4 w_215) rfl rfl rfl (by decide +kernel) ⟨Nat.le_of_ble_eq_true rfl, Nat.le_of_ble_eq_true rfl⟩) ⟨bl_0000, va_recv hKc hPc (ci := 3) (q0 := 0) rfl rfl, fun U hU hW => ⟨rfl, by rw [hU]; exact hPc, va_K.moved hW.alike hKc⟩⟩ rfl rfl hl.1 rfl (lv_room (Nat.le_of_ble_eq_true rfl)) d_F_handlerAt_5 ⟨Nat.le_of_ble_eq_true rfl, Nat.le_of_ble_eq_true rfl⟩) hS (fun q _ h => h.elim) (fun q h => h.elim) (fun r_2 u_3 t H1 locs ht hvm hw hB hz1 hk1 hS => ?_)
  have hP := ro_keep hP hk1
  generalize H1 = H at hP hS ⊢
  refine W.widen (k := 0) (n := 0) (Nat.le_of_ble_eq_true rfl) (Nat.le_of_ble_eq_true rfl) ?_
  subst hw
  refine W.eq (g2 := F0 m 8 ls [.null]) rfl ?_
  refine lv_astoreN (lv' := [(4, .null), (0, .ref f), (1, .int a1), (2, .int a2), (3, .int a3)]) hx hb d_F_handlerAt_8 hl (by decide) rfl (fun ls hl => ?_)
  refine lv_aloadN hx hb d_F_handlerAt_10 (lv_at hl 0 rfl) ?_
  refine lv_ifnullN (tgt := 40) hx hb d_F_handlerAt_12 (by decide) ?_
  obtain ⟨sa, hsa⟩ := hex.2.2.2.2.1 (219, "no such handler, or nothing so numbered of it") (by decide)
  exact vx_throwS (sa := sa) (names := ["java/lang/RuntimeException", "java/lang/Exception"]) hx hb hl9 hown (by decide +kernel) (by decide +kernel) (hts _ (hsub _ w_216)) (hts _ (hsub _ w_217)) hsa (xg_IndexOutOfBoundsException_208_at hts hsub hex) xg_IndexOutOfBoundsException_208_ot hex.1 hex.2.1 hS (hl.1.trans hml.symm) d_F_handlerAt_40 d_F_handlerAt_43 d_F_handlerAt_44 d_F_handlerAt_46 d_F_handlerAt_49 (fun x hx9 => (hnoh x hx9).elim) (Nat.le_of_ble_eq_true rfl) (Nat.le_of_ble_eq_true rfl) (Nat.le_of_ble_eq_true rfl) (Nat.le_of_ble_eq_true rfl) hlocks (fun t hal hz hk => ⟨(), trivial, rfl, Nat.le_trans hS.1 hz, fun q h1 h2 => by rw [hk q (Nat.lt_of_lt_of_le h1 hS.1)]; exact hS.2.1 q h1 h2⟩) hS.2.2 (Nat.le_of_ble_eq_true rfl) (Nat.le_of_ble_eq_true rfl)

abbrev ws_k_F_typeAt (f w k tp wp wu wi wc wt wx wm : Nat) : va_W := [(f, .inr (4, [.ref w, .ref k, .ref tp, .int 0])), (w, .inr (3, [.ref wp, .ref wu, .ref wi, .int 2, .ref wc, .ref wt, .ref wx, .int 0, .ref wm, .int 0]))]
set_option maxHeartbeats 4000000 in
set_option maxRecDepth 100000 in
theorem k_F_typeAt (l : Launch) (hl9 : l.stackTraces = false) (dC : Nat → ClassId) (dI : Nat → Nat → Nat) (f w k tp wp wu wi wc wt wx wm : Nat) (a1 : Int32) (a2 : Int32) (a3 : Int32) : vx_Met l y_F_typeAt (Cond.code y_F_typeAt prog_1_method_14_code 6 (some .int) :: bigW) ({ frames := 6, cells := 1, slots := 6, locals := 82 } : Room) (va_Pc [.ref f, .int a1, .int a2, .int a3] (fun U => va_P (dC, dI) vwCl (ws_k_F_typeAt f w k tp wp wu wi wc wt wx wm) U.heap ∧ va_K (dC, dI) vwCl [] U ∧ exP (fun _ => False) U)) (va_Qi (fun (r : Int32) (u : Unit) => False) (fun _ _ => True) (fun _ => False)) (vx_X (S := Unit) (fun _ => True) (fun E _ _ => E = "java/lang/IndexOutOfBoundsException") (fun _ => False)) 1 6 (fun _ => False) := by
  refine vx_ofW (cc := prog_1_method_14_code) (maxL := 6) (ret := (some .int)) (by decide) rfl ?_
  intro p e s m args below meth cx s₁ B hml hnoh hv
  obtain ⟨rfl, hP, hK, hex⟩ := hv
  have hx := B.exec
  have hb := B.bytes
  have hr := B.returns
  have hts := atoms_spec (ws := (Cond.code y_F_typeAt prog_1_method_14_code 6 (some .int) :: bigW)) B.pre
  have hsub : ∀ w ∈ bigW, w ∈ (Cond.code y_F_typeAt prog_1_method_14_code 6 (some .int) :: bigW) := fun w h => List.mem_cons_of_mem _ h
  have hown : s.vm.findClass "MapFramer" = some m.cls := findClass_of_methodNamed B.named
  have hlocks := B.notSynchronized
  have hS : va_S (fun _ => False) s.heap s.heap [] := va_S.rf
  have hP : va_P (dC, dI) vwCl [(f, .inr (4, [.ref w, .ref k, .ref tp, .int 0])), (w, .inr (3, [.ref wp, .ref wu, .ref wi, .int 2, .ref wc, .ref wt, .ref wx, .int 0, .ref wm, .int 0]))] s.heap := hP
  have hl := lv_entry ([.ref f, .int a1, .int a2, .int a3]) (n := 6) (Nat.le_of_ble_eq_true rfl)
  rw [lg_entry_eq]
  generalize (lg_sl ([.ref f, .int a1, .int a2, .int a3]) ++ List.replicate (6 - (lg_sl ([.ref f, .int a1, .int a2, .int a3])).length) Slot.unset).toArray = ls at hl ⊢
  have hl : lv_has ls 6 [(0, .ref f), (1, .int a1), (2, .int a2), (3, .int a3)] := hl
  refine lv_aload_n hx hb d_F_typeAt_0 rfl (lv_at hl 0 rfl) ?_
  refine va_get (D := (dC, dI)) (ci := 4) (v := .ref w) (C := R_F) (T := T_F) (N := 4) hx hb hts (fun w h => hsub w (uw_F w h)) hown hK hP 0 rfl rfl 0 (by decide) (hts _ (hsub _ w_181)) (fun _ h9 => h9) rfl d_F_typeAt_1 ?_
  refine lv_iload_n hx hb d_F_typeAt_4 rfl (lv_at hl 1 rfl) ?_
  have hPc := hP.sub (ws' := [(w, .inr (3, [.ref wp, .ref wu, .ref wi, .int 2, .ref wc, .ref wt, .ref wx, .int 0, .ref wm, .int 0]))]) [1] rfl
  have hKc := hK.sub (tys' := []) [] rfl
  refine va_callq (va_runV (As := [.int a1]) (rest := []) ⟨hx, hb, hml, hown, hts⟩ (k_W_methodAt l dC dI w wp wu wi wc wt wx wm a1) (cwV 1 hts (gV hsub w_212 w_213 w_214 w_4 w_215) rfl rfl rfl (by decide +kernel) ⟨Nat.le_of_ble_eq_true rfl, Nat.le_of_ble_eq_true rfl⟩) ⟨bl_0000, va_recv hKc hPc (ci := 3) (q0 := 0) rfl rfl, fun U hU hW => ⟨rfl, by rw [hU]; exact hPc, va_K.moved hW.alike hKc⟩⟩ rfl rfl hl.1 rfl (lv_room (Nat.le_of_ble_eq_true rfl)) d_F_typeAt_5 ⟨Nat.le_of_ble_eq_true rfl, Nat.le_of_ble_eq_true rfl⟩) hS (fun q _ h => h.elim) (fun q h => h.elim) (fun r_2 u_3 t H1 locs ht hvm hw hB hz1 hk1 hS => ?_)
  have hP := ro_keep hP hk1
  generalize H1 = H at hP hS ⊢
  refine W.widen (k := 0) (n := 0) (Nat.le_of_ble_eq_true rfl) (Nat.le_of_ble_eq_true rfl) ?_
  subst hw
  refine W.eq (g2 := F0 m 8 ls [.null]) rfl ?_
  refine lv_astoreN (lv' := [(4, .null), (0, .ref f), (1, .int a1), (2, .int a2), (3, .int a3)]) hx hb d_F_typeAt_8 hl (by decide) rfl (fun ls hl => ?_)
  refine lv_aloadN hx hb d_F_typeAt_10 (lv_at hl 0 rfl) ?_
  refine lv_ifnonnullN hx hb d_F_typeAt_12 ?_
  refine lv_null hx hb d_F_typeAt_15 ?_
  refine lv_goto (tgt := 25) hx hb d_F_typeAt_16 (by decide) ?_
  refine lv_astoreN (lv' := [(5, .null), (4, .null), (0, .ref f), (1, .int a1), (2, .int a2), (3, .int a3)]) hx hb d_F_typeAt_25 hl (by decide) rfl (fun ls hl => ?_)
  refine lv_aloadN hx hb d_F_typeAt_27 (lv_at hl 0 rfl) ?_
  refine lv_ifnullN (tgt := 36) hx hb d_F_typeAt_29 (by decide) ?_
  obtain ⟨sa, hsa⟩ := hex.2.2.2.2.1 (241, "no state there") (by decide)
  exact vx_throwS (sa := sa) (names := ["java/lang/RuntimeException", "java/lang/Exception"]) hx hb hl9 hown (by decide +kernel) (by decide +kernel) (hts _ (hsub _ w_216)) (hts _ (hsub _ w_217)) hsa (xg_IndexOutOfBoundsException_208_at hts hsub hex) xg_IndexOutOfBoundsException_208_ot hex.1 hex.2.1 hS (hl.1.trans hml.symm) d_F_typeAt_36 d_F_typeAt_39 d_F_typeAt_40 d_F_typeAt_42 d_F_typeAt_45 (fun x hx9 => (hnoh x hx9).elim) (Nat.le_of_ble_eq_true rfl) (Nat.le_of_ble_eq_true rfl) (Nat.le_of_ble_eq_true rfl) (Nat.le_of_ble_eq_true rfl) hlocks (fun t hal hz hk => ⟨(), trivial, rfl, Nat.le_trans hS.1 hz, fun q h1 h2 => by rw [hk q (Nat.lt_of_lt_of_le h1 hS.1)]; exact hS.2.1 q h1 h2⟩) hS.2.2 (Nat.le_of_ble_eq_true rfl) (Nat.le_of_ble_eq_true rfl)

abbrev ws_k_F_run (f w k tp wp wu wi wc wt wx wm : Nat) : va_W := [(f, .inr (4, [.ref w, .ref k, .ref tp, .int 0])), (w, .inr (3, [.ref wp, .ref wu, .ref wi, .int 2, .ref wc, .ref wt, .ref wx, .int 0, .ref wm, .int 0]))]
set_option maxHeartbeats 4000000 in
set_option maxRecDepth 100000 in
theorem k_F_run (l : Launch) (hl9 : l.stackTraces = false) (dC : Nat → ClassId) (dI : Nat → Nat → Nat) (f w k tp wp wu wi wc wt wx wm : Nat) (a1 : Int32) (a2 : Int64) (a3 : Int64) (a4 : Int32) : vx_Met l y_F_run (Cond.code y_F_run prog_1_method_15_code 8 (some .long) :: bigW) ({ frames := 6, cells := 1, slots := 6, locals := 82 } : Room) (va_Pc [.ref f, .int a1, .long a2, .long a3, .int a4] (fun U => va_P (dC, dI) vwCl (ws_k_F_run f w k tp wp wu wi wc wt wx wm) U.heap ∧ va_K (dC, dI) vwCl [] U ∧ exP (fun _ => False) U)) (va_Ql (fun (r : Int64) (u : Unit) => False) (fun _ _ => True) (fun _ => False)) (vx_X (S := Unit) (fun _ => True) (fun E _ _ => E = "java/lang/IllegalArgumentException") (fun _ => False)) 1 6 (fun _ => False) := by
  refine vx_ofW (cc := prog_1_method_15_code) (maxL := 8) (ret := (some .long)) (by decide) rfl ?_
  intro p e s m args below meth cx s₁ B hml hnoh hv
  obtain ⟨rfl, hP, hK, hex⟩ := hv
  have hx := B.exec
  have hb := B.bytes
  have hr := B.returns
  have hts := atoms_spec (ws := (Cond.code y_F_run prog_1_method_15_code 8 (some .long) :: bigW)) B.pre
  have hsub : ∀ w ∈ bigW, w ∈ (Cond.code y_F_run prog_1_method_15_code 8 (some .long) :: bigW) := fun w h => List.mem_cons_of_mem _ h
  have hown : s.vm.findClass "MapFramer" = some m.cls := findClass_of_methodNamed B.named
  have hlocks := B.notSynchronized
  have hS : va_S (fun _ => False) s.heap s.heap [] := va_S.rf
  have hP : va_P (dC, dI) vwCl [(f, .inr (4, [.ref w, .ref k, .ref tp, .int 0])), (w, .inr (3, [.ref wp, .ref wu, .ref wi, .int 2, .ref wc, .ref wt, .ref wx, .int 0, .ref wm, .int 0]))] s.heap := hP
  have hl := lv_entry ([.ref f, .int a1, .long a2, .long a3, .int a4]) (n := 8) (Nat.le_of_ble_eq_true rfl)
  rw [lg_entry_eq]
  generalize (lg_sl ([.ref f, .int a1, .long a2, .long a3, .int a4]) ++ List.replicate (8 - (lg_sl ([.ref f, .int a1, .long a2, .long a3, .int a4])).length) Slot.unset).toArray = ls at hl ⊢
  have hl : lv_has ls 8 [(0, .ref f), (1, .int a1), (2, .long a2), (4, .long a3), (6, .int a4)] := hl
  refine lv_aload_n hx hb d_F_run_0 rfl (lv_at hl 0 rfl) ?_
  refine va_get (D := (dC, dI)) (ci := 4) (v := .ref w) (C := R_F) (T := T_F) (N := 4) hx hb hts (fun w h => hsub w (uw_F w h)) hown hK hP 0 rfl rfl 0 (by decide) (hts _ (hsub _ w_181)) (fun _ h9 => h9) rfl d_F_run_1 ?_
  refine lv_iload_n hx hb d_F_run_4 rfl (lv_at hl 1 rfl) ?_
  have hPc := hP.sub (ws' := [(w, .inr (3, [.ref wp, .ref wu, .ref wi, .int 2, .ref wc, .ref wt, .ref wx, .int 0, .ref wm, .int 0]))]) [1] rfl
  have hKc := hK.sub (tys' := []) [] rfl
  refine va_callq (va_runV (As := [.int a1]) (rest := []) ⟨hx, hb, hml, hown, hts⟩ (k_W_methodAt l dC dI w wp wu wi wc wt wx wm a1) (cwV 1 hts (gV hsub w_212 w_213 w_214 w_4 w_215) rfl rfl rfl (by decide +kernel) ⟨Nat.le_of_ble_eq_true rfl, Nat.le_of_ble_eq_true rfl⟩) ⟨bl_0000, va_recv hKc hPc (ci := 3) (q0 := 0) rfl rfl, fun U hU hW => ⟨rfl, by rw [hU]; exact hPc, va_K.moved hW.alike hKc⟩⟩ rfl rfl hl.1 rfl (lv_room (Nat.le_of_ble_eq_true rfl)) d_F_run_5 ⟨Nat.le_of_ble_eq_true rfl, Nat.le_of_ble_eq_true rfl⟩) hS (fun q _ h => h.elim) (fun q h => h.elim) (fun r_2 u_3 t H1 locs ht hvm hw hB hz1 hk1 hS => ?_)
  have hP := ro_keep hP hk1
  generalize H1 = H at hP hS ⊢
  refine W.widen (k := 0) (n := 0) (Nat.le_of_ble_eq_true rfl) (Nat.le_of_ble_eq_true rfl) ?_
  subst hw
  refine W.eq (g2 := F0 m 8 ls [.null]) rfl ?_
  refine lv_astoreN (lv' := [(7, .null), (0, .ref f), (1, .int a1), (2, .long a2), (4, .long a3), (6, .int a4)]) hx hb d_F_run_8 hl (by decide) rfl (fun ls hl => ?_)
  refine lv_aloadN hx hb d_F_run_10 (lv_at hl 0 rfl) ?_
  refine lv_ifnullN (tgt := 45) hx hb d_F_run_12 (by decide) ?_
  obtain ⟨sa, hsa⟩ := hex.2.2.2.2.1 (261, "no such method to run, or no such fuel") (by decide)
  exact vx_throwSW (sa := sa) (names := ["java/lang/RuntimeException", "java/lang/Exception"]) hx hb hl9 hown (by decide +kernel) (by decide +kernel) (hts _ (hsub _ w_191)) (hts _ (hsub _ w_192)) hsa (xg_IllegalArgumentException_39_at hts hsub hex) xg_IllegalArgumentException_39_ot hex.1 hex.2.1 hS (hl.1.trans hml.symm) d_F_run_45 d_F_run_48 d_F_run_49 d_F_run_52 d_F_run_55 (fun x hx9 => (hnoh x hx9).elim) (Nat.le_of_ble_eq_true rfl) (Nat.le_of_ble_eq_true rfl) (Nat.le_of_ble_eq_true rfl) (Nat.le_of_ble_eq_true rfl) hlocks (fun t hal hz hk => ⟨(), trivial, rfl, Nat.le_trans hS.1 hz, fun q h1 h2 => by rw [hk q (Nat.lt_of_lt_of_le h1 hS.1)]; exact hS.2.1 q h1 h2⟩) hS.2.2 (Nat.le_of_ble_eq_true rfl) (Nat.le_of_ble_eq_true rfl)

abbrev ws_k_F_end (f w tp k kh ks kc9 : Nat) : va_W := [(f, .inr (4, [.ref w, .ref k, .ref tp, .int 0])), (k, .inr (2, [.ref kh, .ref ks, .ref kc9, .null, .int 0, .null, .int 0, .int 0, .int 0, .int 0, .long 0, .int (-1), .int 0, .int (-1)]))]
set_option maxHeartbeats 4000000 in
set_option maxRecDepth 100000 in
theorem k_F_end (l : Launch) (dC : Nat → ClassId) (dI : Nat → Nat → Nat) (f w tp k kh ks kc9 : Nat) (wh : Int32) : Met l y_F_end (Cond.code y_F_end prog_1_method_16_code 2 (some .int) :: bigW) ({ frames := 0, cells := 0, slots := 0, locals := 0 } : Room) (va_Pc [.ref f, .int wh] (fun U => va_P (dC, dI) vwCl (ws_k_F_end f w tp k kh ks kc9) U.heap ∧ va_K (dC, dI) vwCl [] U)) (va_Qi (fun (r : Int32) (u : Unit) => r = -1) (fun _ _ => True) (fun _ => False)) 0 0 (fun _ => False) := by
  refine Met.ofW (cc := prog_1_method_16_code) (maxL := 2) (ret := (some .int)) (by decide) rfl ?_
  intro p e s m args below meth cx s₁ B hml hv
  obtain ⟨rfl, hP, hK⟩ := hv
  have hx := B.exec
  have hb := B.bytes
  have hr := B.returns
  have hts := atoms_spec (ws := (Cond.code y_F_end prog_1_method_16_code 2 (some .int) :: bigW)) B.pre
  have hsub : ∀ w ∈ bigW, w ∈ (Cond.code y_F_end prog_1_method_16_code 2 (some .int) :: bigW) := fun w h => List.mem_cons_of_mem _ h
  have hown : s.vm.findClass "MapFramer" = some m.cls := findClass_of_methodNamed B.named
  have hlocks := B.notSynchronized
  have hS : va_S (fun _ => False) s.heap s.heap [] := va_S.rf
  have hP : va_P (dC, dI) vwCl [(f, .inr (4, [.ref w, .ref k, .ref tp, .int 0])), (k, .inr (2, [.ref kh, .ref ks, .ref kc9, .null, .int 0, .null, .int 0, .int 0, .int 0, .int 0, .long 0, .int (-1), .int 0, .int (-1)]))] s.heap := hP
  have hl := lv_entry ([.ref f, .int wh]) (n := 2) (Nat.le_of_ble_eq_true rfl)
  rw [lg_entry_eq]
  generalize (lg_sl ([.ref f, .int wh]) ++ List.replicate (2 - (lg_sl ([.ref f, .int wh])).length) Slot.unset).toArray = ls at hl ⊢
  have hl : lv_has ls 2 [(0, .ref f), (1, .int wh)] := hl
  refine lv_aload_n hx hb d_F_end_0 rfl (lv_at hl 0 rfl) ?_
  refine va_get (D := (dC, dI)) (ci := 4) (v := .ref k) (C := R_F) (T := T_F) (N := 4) hx hb hts (fun w h => hsub w (uw_F w h)) hown hK hP 0 rfl rfl 1 (by decide) (hts _ (hsub _ w_218)) (fun _ h9 => h9) rfl d_F_end_1 ?_
  refine va_get (D := (dC, dI)) (ci := 2) (v := .int (-1)) (C := R_K) (T := T_K) (N := 14) hx hb hts (fun w h => hsub w (uw_K w h)) hown hK hP 1 rfl rfl 11 (by decide) (hts _ (hsub _ w_219)) (fun _ h9 => h9) rfl d_F_end_4 ?_
  refine lv_iconst (v := (-1)) hx hb d_F_end_7 (by decide) ?_
  refine lv_icmp_ne (tgt := 13) hx hb d_F_end_8 (by decide) (fun c_1 => ?_) (fun c_1 => ?_)
  · skip
    first | exact absurd c_1 (by decide) | exact absurd (by decide) c_1
  · skip
    refine lv_iconst (v := (-1)) hx hb d_F_end_11 (by decide) ?_
    refine W.widen (k := 0) (n := 0) (Nat.le_of_ble_eq_true rfl) (Nat.le_of_ble_eq_true rfl) ?_
    exact W.iret (v := (-1)) hx hb hr (fun t ht hW => ⟨⟨(-1), (), rfl, rfl, trivial⟩, hS.F ht⟩) hS.2.2 d_F_end_12

abbrev ws_k_F_count (f w k tp wp wu wi wc wt wx wm : Nat) : va_W := [(f, .inr (4, [.ref w, .ref k, .ref tp, .int 0])), (w, .inr (3, [.ref wp, .ref wu, .ref wi, .int 2, .ref wc, .ref wt, .ref wx, .int 0, .ref wm, .int 0]))]
set_option maxHeartbeats 4000000 in
set_option maxRecDepth 100000 in
theorem k_F_count (l : Launch) (dC : Nat → ClassId) (dI : Nat → Nat → Nat) (f w k tp wp wu wi wc wt wx wm : Nat) (wh : Int32) : Met l y_F_count (Cond.code y_F_count prog_1_method_17_code 2 (some .int) :: bigW) ({ frames := 0, cells := 0, slots := 0, locals := 0 } : Room) (va_Pc [.ref f, .int wh] (fun U => va_P (dC, dI) vwCl (ws_k_F_count f w k tp wp wu wi wc wt wx wm) U.heap ∧ va_K (dC, dI) vwCl [] U)) (va_Qi (fun (r : Int32) (u : Unit) => r = cntF wh) (fun _ _ => True) (fun _ => False)) 0 0 (fun _ => False) := by
  refine Met.ofW (cc := prog_1_method_17_code) (maxL := 2) (ret := (some .int)) (by decide) rfl ?_
  intro p e s m args below meth cx s₁ B hml hv
  obtain ⟨rfl, hP, hK⟩ := hv
  have hx := B.exec
  have hb := B.bytes
  have hr := B.returns
  have hts := atoms_spec (ws := (Cond.code y_F_count prog_1_method_17_code 2 (some .int) :: bigW)) B.pre
  have hsub : ∀ w ∈ bigW, w ∈ (Cond.code y_F_count prog_1_method_17_code 2 (some .int) :: bigW) := fun w h => List.mem_cons_of_mem _ h
  have hown : s.vm.findClass "MapFramer" = some m.cls := findClass_of_methodNamed B.named
  have hlocks := B.notSynchronized
  have hS : va_S (fun _ => False) s.heap s.heap [] := va_S.rf
  have hP : va_P (dC, dI) vwCl [(f, .inr (4, [.ref w, .ref k, .ref tp, .int 0])), (w, .inr (3, [.ref wp, .ref wu, .ref wi, .int 2, .ref wc, .ref wt, .ref wx, .int 0, .ref wm, .int 0]))] s.heap := hP
  have hl := lv_entry ([.ref f, .int wh]) (n := 2) (Nat.le_of_ble_eq_true rfl)
  rw [lg_entry_eq]
  generalize (lg_sl ([.ref f, .int wh]) ++ List.replicate (2 - (lg_sl ([.ref f, .int wh])).length) Slot.unset).toArray = ls at hl ⊢
  have hl : lv_has ls 2 [(0, .ref f), (1, .int wh)] := hl
  refine lv_iload_n hx hb d_F_count_0 rfl (lv_at hl 1 rfl) ?_
  rcases sw_4 wh with h9 | h9 | h9 | h9 | h9
  · subst h9
    refine lv_tableIn (off := 31) (tgt := 32) hx hb d_F_count_1 (by decide) (by decide) (by decide) (by decide) ?_
    refine lv_aload_n hx hb d_F_count_32 rfl (lv_at hl 0 rfl) ?_
    refine va_get (D := (dC, dI)) (ci := 4) (v := .ref w) (C := R_F) (T := T_F) (N := 4) hx hb hts (fun w h => hsub w (uw_F w h)) hown hK hP 0 rfl rfl 0 (by decide) (hts _ (hsub _ w_181)) (fun _ h9 => h9) rfl d_F_count_33 ?_
    refine va_get (D := (dC, dI)) (ci := 3) (v := .int 2) (C := R_W) (T := T_W) (N := 10) hx hb hts (fun w h => hsub w (uw_W w h)) hown hK hP 1 rfl rfl 3 (by decide) (hts _ (hsub _ w_182)) (fun _ h9 => h9) rfl d_F_count_36 ?_
    refine W.widen (k := 0) (n := 0) (Nat.le_of_ble_eq_true rfl) (Nat.le_of_ble_eq_true rfl) ?_
    exact W.iret (v := 2) hx hb hr (fun t ht hW => ⟨⟨2, (), rfl, by decide, trivial⟩, hS.F ht⟩) hS.2.2 d_F_count_39
  · subst h9
    refine lv_tableIn (off := 39) (tgt := 40) hx hb d_F_count_1 (by decide) (by decide) (by decide) (by decide) ?_
    refine lv_aload_n hx hb d_F_count_40 rfl (lv_at hl 0 rfl) ?_
    refine va_get (D := (dC, dI)) (ci := 4) (v := .ref w) (C := R_F) (T := T_F) (N := 4) hx hb hts (fun w h => hsub w (uw_F w h)) hown hK hP 0 rfl rfl 0 (by decide) (hts _ (hsub _ w_181)) (fun _ h9 => h9) rfl d_F_count_41 ?_
    refine va_get (D := (dC, dI)) (ci := 3) (v := .int 0) (C := R_W) (T := T_W) (N := 10) hx hb hts (fun w h => hsub w (uw_W w h)) hown hK hP 1 rfl rfl 7 (by decide) (hts _ (hsub _ w_198)) (fun _ h9 => h9) rfl d_F_count_44 ?_
    refine W.widen (k := 0) (n := 0) (Nat.le_of_ble_eq_true rfl) (Nat.le_of_ble_eq_true rfl) ?_
    exact W.iret (v := 0) hx hb hr (fun t ht hW => ⟨⟨0, (), rfl, by decide, trivial⟩, hS.F ht⟩) hS.2.2 d_F_count_47
  · subst h9
    refine lv_tableIn (off := 47) (tgt := 48) hx hb d_F_count_1 (by decide) (by decide) (by decide) (by decide) ?_
    refine lv_aload_n hx hb d_F_count_48 rfl (lv_at hl 0 rfl) ?_
    refine va_get (D := (dC, dI)) (ci := 4) (v := .ref w) (C := R_F) (T := T_F) (N := 4) hx hb hts (fun w h => hsub w (uw_F w h)) hown hK hP 0 rfl rfl 0 (by decide) (hts _ (hsub _ w_181)) (fun _ h9 => h9) rfl d_F_count_49 ?_
    refine va_get (D := (dC, dI)) (ci := 3) (v := .int 0) (C := R_W) (T := T_W) (N := 10) hx hb hts (fun w h => hsub w (uw_W w h)) hown hK hP 1 rfl rfl 9 (by decide) (hts _ (hsub _ w_204)) (fun _ h9 => h9) rfl d_F_count_52 ?_
    refine W.widen (k := 0) (n := 0) (Nat.le_of_ble_eq_true rfl) (Nat.le_of_ble_eq_true rfl) ?_
    exact W.iret (v := 0) hx hb hr (fun t ht hW => ⟨⟨0, (), rfl, by decide, trivial⟩, hS.F ht⟩) hS.2.2 d_F_count_55
  · subst h9
    refine lv_tableIn (off := 55) (tgt := 56) hx hb d_F_count_1 (by decide) (by decide) (by decide) (by decide) ?_
    refine lv_aload_n hx hb d_F_count_56 rfl (lv_at hl 0 rfl) ?_
    refine va_get (D := (dC, dI)) (ci := 4) (v := .int 0) (C := R_F) (T := T_F) (N := 4) hx hb hts (fun w h => hsub w (uw_F w h)) hown hK hP 0 rfl rfl 3 (by decide) (hts _ (hsub _ w_210)) (fun _ h9 => h9) rfl d_F_count_57 ?_
    refine W.widen (k := 0) (n := 0) (Nat.le_of_ble_eq_true rfl) (Nat.le_of_ble_eq_true rfl) ?_
    exact W.iret (v := 0) hx hb hr (fun t ht hW => ⟨⟨0, (), rfl, by decide, trivial⟩, hS.F ht⟩) hS.2.2 d_F_count_60
  · skip
    refine lv_tableOut (tgt := 61) hx hb d_F_count_1 h9 (by decide) ?_
    refine lv_iconst (v := (-1)) hx hb d_F_count_61 (by decide) ?_
    refine W.widen (k := 0) (n := 0) (Nat.le_of_ble_eq_true rfl) (Nat.le_of_ble_eq_true rfl) ?_
    exact W.iret (v := (-1)) hx hb hr (fun t ht hW => ⟨⟨(-1), (), rfl, (cnt_out h9).symm, trivial⟩, hS.F ht⟩) hS.2.2 d_F_count_62

