abbrev y_W_addClass : MethodName := ⟨"MapFramer$World", "addClass", "(IZ)I"⟩
abbrev y_W_addField : MethodName := ⟨"MapFramer$World", "addField", "(IIZ)I"⟩
abbrev y_W_argumentType : MethodName := ⟨"MapFramer$World", "argumentType", "(II)I"⟩
abbrev y_W_argumentCount : MethodName := ⟨"MapFramer$World", "argumentCount", "(I)I"⟩
abbrev y_java_util_AbstractCollection_init : MethodName := ⟨"java/util/AbstractCollection", "<init>", "()V"⟩
abbrev y_java_util_AbstractList_init : MethodName := ⟨"java/util/AbstractList", "<init>", "()V"⟩
abbrev y_java_util_ArrayList_init : MethodName := ⟨"java/util/ArrayList", "<init>", "()V"⟩
abbrev y_E_init : MethodName := ⟨"MapFramer$Method", "<init>", "([II)V"⟩
abbrev y_W_addMethod : MethodName := ⟨"MapFramer$World", "addMethod", "(II)I"⟩
theorem w_132 : (Cond.fieldLink "MapFramer$World" 11 "MapFramer$World" "parents" "[I" : Cond) ∈ bigW := inB_1 53 (by decide +kernel) rfl
theorem w_133 : (Cond.fieldLink "MapFramer$World" 15 "MapFramer$World" "supers" "[I" : Cond) ∈ bigW := inB_1 54 (by decide +kernel) rfl
theorem w_134 : (Cond.fieldLink "MapFramer$World" 22 "MapFramer$World" "fieldClasses" "[I" : Cond) ∈ bigW := inB_1 58 (by decide +kernel) rfl
theorem w_135 : (Cond.fieldLink "MapFramer$World" 41 "MapFramer$World" "fieldCount" "I" : Cond) ∈ bigW := inB_1 61 (by decide +kernel) rfl
theorem w_136 : (Cond.fieldLink "MapFramer$World" 25 "MapFramer$World" "fieldTypes" "[I" : Cond) ∈ bigW := inB_1 59 (by decide +kernel) rfl
theorem w_137 : (Cond.fieldLink "MapFramer$World" 28 "MapFramer$World" "fieldStatics" "[Z" : Cond) ∈ bigW := inB_1 60 (by decide +kernel) rfl
theorem w_138 : (Cond.methodLink "MapFramer$World" 48 ⟨"MapFramer$World", "argumentType", "(II)I"⟩ : Cond) ∈ bigW := inB_2 111 (by decide +kernel) rfl
theorem w_139 : (Cond.static ⟨"MapFramer$World", "argumentType", "(II)I"⟩ : Cond) ∈ bigW := inB_2 112 (by decide +kernel) rfl
theorem w_140 : (Cond.code ⟨"MapFramer$World", "argumentType", "(II)I"⟩ prog_12_method_5_code 2 (some .int) : Cond) ∈ bigW := inB_2 113 rfl rfl
theorem w_141 : (Cond.methodLink "java/util/AbstractCollection" 1 ⟨"java/lang/Object", "<init>", "()V"⟩ : Cond) ∈ bigW := inB_2 139 (by decide +kernel) rfl
theorem w_142 : (Cond.instanceMethod ⟨"java/lang/Object", "<init>", "()V"⟩ : Cond) ∈ bigW := inB_1 43 (by decide +kernel) rfl
theorem w_143 : (Cond.code ⟨"java/lang/Object", "<init>", "()V"⟩ object_method_1_code 1 none : Cond) ∈ bigW := inB_1 44 rfl rfl
theorem w_144 : (Cond.methodLink "java/util/AbstractList" 1 ⟨"java/util/AbstractCollection", "<init>", "()V"⟩ : Cond) ∈ bigW := inB_2 136 (by decide +kernel) rfl
theorem w_145 : (Cond.code ⟨"java/util/AbstractCollection", "<init>", "()V"⟩ prog_34_method_1_code 1 none : Cond) ∈ bigW := inB_2 138 rfl rfl
theorem w_146 : (Cond.initialized "java/util/AbstractCollection" : Cond) ∈ bigW := inB_1 13 (by decide +kernel) rfl
theorem w_147 : (Cond.instanceMethod ⟨"java/util/AbstractCollection", "<init>", "()V"⟩ : Cond) ∈ bigW := inB_2 137 (by decide +kernel) rfl
theorem w_148 : (Cond.fieldLink "java/util/AbstractList" 7 "java/util/AbstractList" "modCount" "I" : Cond) ∈ bigW := inB_2 144 (by decide +kernel) rfl
theorem w_149 : (Cond.methodLink "java/util/ArrayList" 1 ⟨"java/util/AbstractList", "<init>", "()V"⟩ : Cond) ∈ bigW := inB_2 133 (by decide +kernel) rfl
theorem w_150 : (Cond.code ⟨"java/util/AbstractList", "<init>", "()V"⟩ prog_35_method_1_code 1 none : Cond) ∈ bigW := inB_2 135 rfl rfl
theorem w_151 : (Cond.initialized "java/util/AbstractList" : Cond) ∈ bigW := inB_1 14 (by decide +kernel) rfl
theorem w_152 : (Cond.instanceMethod ⟨"java/util/AbstractList", "<init>", "()V"⟩ : Cond) ∈ bigW := inB_2 134 (by decide +kernel) rfl
theorem w_153 : (Cond.fieldLink "java/util/ArrayList" 39 "java/util/ArrayList" "DEFAULTCAPACITY_EMPTY_ELEMENTDATA" "[Ljava/lang/Object;" : Cond) ∈ bigW := inB_2 140 (by decide +kernel) rfl
theorem w_154 : (Cond.fieldLink "java/util/ArrayList" 9 "java/util/ArrayList" "elementData" "[Ljava/lang/Object;" : Cond) ∈ bigW := inB_2 142 (by decide +kernel) rfl
theorem w_155 : (Cond.methodLink "MapFramer$Method" 3 ⟨"java/lang/Object", "<init>", "()V"⟩ : Cond) ∈ bigW := inB_2 127 (by decide +kernel) rfl
theorem w_156 : (Cond.arrayClass .int : Cond) ∈ bigW := inB_1 87 (by decide +kernel) rfl
theorem w_157 : (Cond.fieldLink "MapFramer$Method" 9 "MapFramer$Method" "code" "[I" : Cond) ∈ bigW := inB_2 164 (by decide +kernel) rfl
theorem w_158 : (Cond.classLink "MapFramer$Method" 15 "java/util/ArrayList" : Cond) ∈ bigW := inB_2 128 (by decide +kernel) rfl
theorem w_159 : (Cond.instantiable "java/util/ArrayList" 3 : Cond) ∈ bigW := inB_2 129 (by decide +kernel) rfl
theorem w_160 : (Cond.initialized "java/util/ArrayList" : Cond) ∈ bigW := inB_1 15 (by decide +kernel) rfl
theorem w_161 : (Cond.methodLink "MapFramer$Method" 17 ⟨"java/util/ArrayList", "<init>", "()V"⟩ : Cond) ∈ bigW := inB_2 130 (by decide +kernel) rfl
theorem w_162 : (Cond.code ⟨"java/util/ArrayList", "<init>", "()V"⟩ prog_36_method_2_code 1 none : Cond) ∈ bigW := inB_2 132 rfl rfl
theorem w_163 : (Cond.instanceMethod ⟨"java/util/ArrayList", "<init>", "()V"⟩ : Cond) ∈ bigW := inB_2 131 (by decide +kernel) rfl
theorem w_164 : (Cond.fieldLink "MapFramer$Method" 18 "MapFramer$Method" "handlers" "Ljava/util/ArrayList;" : Cond) ∈ bigW := inB_2 172 (by decide +kernel) rfl
theorem w_165 : (Cond.fieldLink "MapFramer$Method" 22 "MapFramer$Method" "faultAt" "I" : Cond) ∈ bigW := inB_2 181 (by decide +kernel) rfl
theorem w_166 : (Cond.classLink "MapFramer$Method" 26 "MapFramer$State" : Cond) ∈ bigW := inB_2 154 (by decide +kernel) rfl
theorem w_167 : (Cond.fieldLink "MapFramer$Method" 28 "MapFramer$Method" "states" "[LMapFramer$State;" : Cond) ∈ bigW := inB_2 183 (by decide +kernel) rfl
theorem w_168 : (Cond.fieldLink "MapFramer$Method" 32 "MapFramer$Method" "frames" "[I" : Cond) ∈ bigW := inB_2 185 (by decide +kernel) rfl
theorem w_169 : (Cond.fieldLink "MapFramer$Method" 35 "MapFramer$Method" "arguments" "[I" : Cond) ∈ bigW := inB_2 157 (by decide +kernel) rfl
theorem w_170 : (Cond.fieldLink "MapFramer$Method" 38 "MapFramer$Method" "result" "I" : Cond) ∈ bigW := inB_2 161 (by decide +kernel) rfl
theorem w_171 : (Cond.methodLink "MapFramer$World" 44 ⟨"MapFramer$World", "argumentCount", "(I)I"⟩ : Cond) ∈ bigW := inB_2 122 (by decide +kernel) rfl
theorem w_172 : (Cond.static ⟨"MapFramer$World", "argumentCount", "(I)I"⟩ : Cond) ∈ bigW := inB_2 109 (by decide +kernel) rfl
theorem w_173 : (Cond.code ⟨"MapFramer$World", "argumentCount", "(I)I"⟩ prog_12_method_6_code 2 (some .int) : Cond) ∈ bigW := inB_2 110 rfl rfl
theorem w_174 : (Cond.fieldLink "MapFramer$World" 33 "MapFramer$World" "methods" "[LMapFramer$Method;" : Cond) ∈ bigW := inB_1 63 (by decide +kernel) rfl
theorem w_175 : (Cond.classLink "MapFramer$World" 31 "MapFramer$Method" : Cond) ∈ bigW := inB_1 51 (by decide +kernel) rfl
theorem w_176 : (Cond.instantiable "MapFramer$Method" 13 : Cond) ∈ bigW := inB_2 123 (by decide +kernel) rfl
theorem w_177 : (Cond.initialized "MapFramer$Method" : Cond) ∈ bigW := inB_1 12 (by decide +kernel) rfl
theorem w_178 : (Cond.methodLink "MapFramer$World" 55 ⟨"MapFramer$Method", "<init>", "([II)V"⟩ : Cond) ∈ bigW := inB_2 124 (by decide +kernel) rfl
theorem w_179 : (Cond.code ⟨"MapFramer$Method", "<init>", "([II)V"⟩ prog_7_method_1_code 3 none : Cond) ∈ bigW := inB_2 126 rfl rfl
theorem w_180 : (Cond.instanceMethod ⟨"MapFramer$Method", "<init>", "([II)V"⟩ : Cond) ∈ bigW := inB_2 125 (by decide +kernel) rfl
theorem d_W_addClass_0 : decode prog_12_method_2_code 0 = .ok (.aload_n 0, 1) := by decide +kernel
theorem d_W_addClass_1 : decode prog_12_method_2_code 1 = .ok (.getfield 11, 3) := by decide +kernel
theorem d_W_addClass_4 : decode prog_12_method_2_code 4 = .ok (.aload_n 0, 1) := by decide +kernel
theorem d_W_addClass_5 : decode prog_12_method_2_code 5 = .ok (.getfield 37, 3) := by decide +kernel
theorem d_W_addClass_8 : decode prog_12_method_2_code 8 = .ok (.iload_n 1, 1) := by decide +kernel
theorem d_W_addClass_9 : decode prog_12_method_2_code 9 = .ok (.iastore, 1) := by decide +kernel
theorem d_W_addClass_10 : decode prog_12_method_2_code 10 = .ok (.aload_n 0, 1) := by decide +kernel
theorem d_W_addClass_11 : decode prog_12_method_2_code 11 = .ok (.getfield 15, 3) := by decide +kernel
theorem d_W_addClass_14 : decode prog_12_method_2_code 14 = .ok (.aload_n 0, 1) := by decide +kernel
theorem d_W_addClass_15 : decode prog_12_method_2_code 15 = .ok (.getfield 37, 3) := by decide +kernel
theorem d_W_addClass_18 : decode prog_12_method_2_code 18 = .ok (.aload_n 0, 1) := by decide +kernel
theorem d_W_addClass_19 : decode prog_12_method_2_code 19 = .ok (.getfield 15, 3) := by decide +kernel
theorem d_W_addClass_22 : decode prog_12_method_2_code 22 = .ok (.iload_n 1, 1) := by decide +kernel
theorem d_W_addClass_23 : decode prog_12_method_2_code 23 = .ok (.iaload, 1) := by decide +kernel
theorem d_W_addClass_24 : decode prog_12_method_2_code 24 = .ok (.iconst 1, 1) := by decide +kernel
theorem d_W_addClass_25 : decode prog_12_method_2_code 25 = .ok (.aload_n 0, 1) := by decide +kernel
theorem d_W_addClass_26 : decode prog_12_method_2_code 26 = .ok (.getfield 37, 3) := by decide +kernel
theorem d_W_addClass_29 : decode prog_12_method_2_code 29 = .ok (.ishl, 1) := by decide +kernel
theorem d_W_addClass_30 : decode prog_12_method_2_code 30 = .ok (.ior, 1) := by decide +kernel
theorem d_W_addClass_31 : decode prog_12_method_2_code 31 = .ok (.iastore, 1) := by decide +kernel
theorem d_W_addClass_32 : decode prog_12_method_2_code 32 = .ok (.aload_n 0, 1) := by decide +kernel
theorem d_W_addClass_33 : decode prog_12_method_2_code 33 = .ok (.getfield 18, 3) := by decide +kernel
theorem d_W_addClass_36 : decode prog_12_method_2_code 36 = .ok (.aload_n 0, 1) := by decide +kernel
theorem d_W_addClass_37 : decode prog_12_method_2_code 37 = .ok (.getfield 37, 3) := by decide +kernel
theorem d_W_addClass_40 : decode prog_12_method_2_code 40 = .ok (.iload_n 2, 1) := by decide +kernel
theorem d_W_addClass_41 : decode prog_12_method_2_code 41 = .ok (.bastore, 1) := by decide +kernel
theorem d_W_addClass_42 : decode prog_12_method_2_code 42 = .ok (.aload_n 0, 1) := by decide +kernel
theorem d_W_addClass_43 : decode prog_12_method_2_code 43 = .ok (.dup, 1) := by decide +kernel
theorem d_W_addClass_44 : decode prog_12_method_2_code 44 = .ok (.getfield 37, 3) := by decide +kernel
theorem d_W_addClass_47 : decode prog_12_method_2_code 47 = .ok (.iconst 1, 1) := by decide +kernel
theorem d_W_addClass_48 : decode prog_12_method_2_code 48 = .ok (.iadd, 1) := by decide +kernel
theorem d_W_addClass_49 : decode prog_12_method_2_code 49 = .ok (.putfield 37, 3) := by decide +kernel
theorem d_W_addClass_52 : decode prog_12_method_2_code 52 = .ok (.aload_n 0, 1) := by decide +kernel
theorem d_W_addClass_53 : decode prog_12_method_2_code 53 = .ok (.getfield 37, 3) := by decide +kernel
theorem d_W_addClass_56 : decode prog_12_method_2_code 56 = .ok (.iconst 1, 1) := by decide +kernel
theorem d_W_addClass_57 : decode prog_12_method_2_code 57 = .ok (.isub, 1) := by decide +kernel
theorem d_W_addClass_58 : decode prog_12_method_2_code 58 = .ok (.ireturn, 1) := by decide +kernel
theorem d_W_addField_0 : decode prog_12_method_3_code 0 = .ok (.aload_n 0, 1) := by decide +kernel
theorem d_W_addField_1 : decode prog_12_method_3_code 1 = .ok (.getfield 22, 3) := by decide +kernel
theorem d_W_addField_4 : decode prog_12_method_3_code 4 = .ok (.aload_n 0, 1) := by decide +kernel
theorem d_W_addField_5 : decode prog_12_method_3_code 5 = .ok (.getfield 41, 3) := by decide +kernel
theorem d_W_addField_8 : decode prog_12_method_3_code 8 = .ok (.iload_n 1, 1) := by decide +kernel
theorem d_W_addField_9 : decode prog_12_method_3_code 9 = .ok (.iastore, 1) := by decide +kernel
theorem d_W_addField_10 : decode prog_12_method_3_code 10 = .ok (.aload_n 0, 1) := by decide +kernel
theorem d_W_addField_11 : decode prog_12_method_3_code 11 = .ok (.getfield 25, 3) := by decide +kernel
theorem d_W_addField_14 : decode prog_12_method_3_code 14 = .ok (.aload_n 0, 1) := by decide +kernel
theorem d_W_addField_15 : decode prog_12_method_3_code 15 = .ok (.getfield 41, 3) := by decide +kernel
theorem d_W_addField_18 : decode prog_12_method_3_code 18 = .ok (.iload_n 2, 1) := by decide +kernel
theorem d_W_addField_19 : decode prog_12_method_3_code 19 = .ok (.iastore, 1) := by decide +kernel
theorem d_W_addField_20 : decode prog_12_method_3_code 20 = .ok (.aload_n 0, 1) := by decide +kernel
theorem d_W_addField_21 : decode prog_12_method_3_code 21 = .ok (.getfield 28, 3) := by decide +kernel
theorem d_W_addField_24 : decode prog_12_method_3_code 24 = .ok (.aload_n 0, 1) := by decide +kernel
theorem d_W_addField_25 : decode prog_12_method_3_code 25 = .ok (.getfield 41, 3) := by decide +kernel
theorem d_W_addField_28 : decode prog_12_method_3_code 28 = .ok (.iload_n 3, 1) := by decide +kernel
theorem d_W_addField_29 : decode prog_12_method_3_code 29 = .ok (.bastore, 1) := by decide +kernel
theorem d_W_addField_30 : decode prog_12_method_3_code 30 = .ok (.aload_n 0, 1) := by decide +kernel
theorem d_W_addField_31 : decode prog_12_method_3_code 31 = .ok (.dup, 1) := by decide +kernel
theorem d_W_addField_32 : decode prog_12_method_3_code 32 = .ok (.getfield 41, 3) := by decide +kernel
theorem d_W_addField_35 : decode prog_12_method_3_code 35 = .ok (.iconst 1, 1) := by decide +kernel
theorem d_W_addField_36 : decode prog_12_method_3_code 36 = .ok (.iadd, 1) := by decide +kernel
theorem d_W_addField_37 : decode prog_12_method_3_code 37 = .ok (.putfield 41, 3) := by decide +kernel
theorem d_W_addField_40 : decode prog_12_method_3_code 40 = .ok (.aload_n 0, 1) := by decide +kernel
theorem d_W_addField_41 : decode prog_12_method_3_code 41 = .ok (.getfield 41, 3) := by decide +kernel
theorem d_W_addField_44 : decode prog_12_method_3_code 44 = .ok (.iconst 1, 1) := by decide +kernel
theorem d_W_addField_45 : decode prog_12_method_3_code 45 = .ok (.isub, 1) := by decide +kernel
theorem d_W_addField_46 : decode prog_12_method_3_code 46 = .ok (.ireturn, 1) := by decide +kernel
theorem d_W_argumentType_0 : decode prog_12_method_5_code 0 = .ok (.iload_n 0, 1) := by decide +kernel
theorem d_W_argumentType_1 : decode prog_12_method_5_code 1 = .ok (.bipush 8, 2) := by decide +kernel
theorem d_W_argumentType_3 : decode prog_12_method_5_code 3 = .ok (.iload_n 1, 1) := by decide +kernel
theorem d_W_argumentType_4 : decode prog_12_method_5_code 4 = .ok (.imul, 1) := by decide +kernel
theorem d_W_argumentType_5 : decode prog_12_method_5_code 5 = .ok (.iushr, 1) := by decide +kernel
theorem d_W_argumentType_6 : decode prog_12_method_5_code 6 = .ok (.sipush 255, 3) := by decide +kernel
theorem d_W_argumentType_9 : decode prog_12_method_5_code 9 = .ok (.iand, 1) := by decide +kernel
theorem d_W_argumentType_10 : decode prog_12_method_5_code 10 = .ok (.ireturn, 1) := by decide +kernel
theorem d_W_argumentCount_0 : decode prog_12_method_6_code 0 = .ok (.iconst 0, 1) := by decide +kernel
theorem d_W_argumentCount_1 : decode prog_12_method_6_code 1 = .ok (.istore_n 1, 1) := by decide +kernel
theorem d_W_argumentCount_2 : decode prog_12_method_6_code 2 = .ok (.iload_n 1, 1) := by decide +kernel
theorem d_W_argumentCount_3 : decode prog_12_method_6_code 3 = .ok (.iconst 4, 1) := by decide +kernel
theorem d_W_argumentCount_4 : decode prog_12_method_6_code 4 = .ok (.if_icmp .ge 17, 3) := by decide +kernel
theorem d_W_argumentCount_7 : decode prog_12_method_6_code 7 = .ok (.iload_n 0, 1) := by decide +kernel
theorem d_W_argumentCount_8 : decode prog_12_method_6_code 8 = .ok (.iload_n 1, 1) := by decide +kernel
theorem d_W_argumentCount_9 : decode prog_12_method_6_code 9 = .ok (.invokestatic 48, 3) := by decide +kernel
theorem d_W_argumentCount_12 : decode prog_12_method_6_code 12 = .ok (.ifCond .eq 9, 3) := by decide +kernel
theorem d_W_argumentCount_15 : decode prog_12_method_6_code 15 = .ok (.iinc 1 1, 3) := by decide +kernel
theorem d_W_argumentCount_18 : decode prog_12_method_6_code 18 = .ok (.goto (-16), 3) := by decide +kernel
theorem d_W_argumentCount_21 : decode prog_12_method_6_code 21 = .ok (.iload_n 1, 1) := by decide +kernel
theorem d_W_argumentCount_22 : decode prog_12_method_6_code 22 = .ok (.ireturn, 1) := by decide +kernel
theorem d_java_util_AbstractCollection_init_0 : decode prog_34_method_1_code 0 = .ok (.aload_n 0, 1) := by decide +kernel
theorem d_java_util_AbstractCollection_init_1 : decode prog_34_method_1_code 1 = .ok (.invokespecial 1, 3) := by decide +kernel
theorem d_java_util_AbstractCollection_init_4 : decode prog_34_method_1_code 4 = .ok (.return_, 1) := by decide +kernel
theorem d_java_util_AbstractList_init_0 : decode prog_35_method_1_code 0 = .ok (.aload_n 0, 1) := by decide +kernel
theorem d_java_util_AbstractList_init_1 : decode prog_35_method_1_code 1 = .ok (.invokespecial 1, 3) := by decide +kernel
theorem d_java_util_AbstractList_init_4 : decode prog_35_method_1_code 4 = .ok (.aload_n 0, 1) := by decide +kernel
theorem d_java_util_AbstractList_init_5 : decode prog_35_method_1_code 5 = .ok (.iconst 0, 1) := by decide +kernel
theorem d_java_util_AbstractList_init_6 : decode prog_35_method_1_code 6 = .ok (.putfield 7, 3) := by decide +kernel
theorem d_java_util_AbstractList_init_9 : decode prog_35_method_1_code 9 = .ok (.return_, 1) := by decide +kernel
theorem d_java_util_ArrayList_init_0 : decode prog_36_method_2_code 0 = .ok (.aload_n 0, 1) := by decide +kernel
theorem d_java_util_ArrayList_init_1 : decode prog_36_method_2_code 1 = .ok (.invokespecial 1, 3) := by decide +kernel
theorem d_java_util_ArrayList_init_4 : decode prog_36_method_2_code 4 = .ok (.aload_n 0, 1) := by decide +kernel
theorem d_java_util_ArrayList_init_5 : decode prog_36_method_2_code 5 = .ok (.getstatic 39, 3) := by decide +kernel
theorem d_java_util_ArrayList_init_8 : decode prog_36_method_2_code 8 = .ok (.putfield 9, 3) := by decide +kernel
theorem d_java_util_ArrayList_init_11 : decode prog_36_method_2_code 11 = .ok (.return_, 1) := by decide +kernel
theorem d_E_init_0 : decode prog_7_method_1_code 0 = .ok (.aload_n 0, 1) := by decide +kernel
theorem d_E_init_1 : decode prog_7_method_1_code 1 = .ok (.invokespecial 3, 3) := by decide +kernel
theorem d_E_init_4 : decode prog_7_method_1_code 4 = .ok (.aload_n 0, 1) := by decide +kernel
theorem d_E_init_5 : decode prog_7_method_1_code 5 = .ok (.iconst 0, 1) := by decide +kernel
theorem d_E_init_6 : decode prog_7_method_1_code 6 = .ok (.newarray .int, 2) := by decide +kernel
theorem d_E_init_8 : decode prog_7_method_1_code 8 = .ok (.putfield 9, 3) := by decide +kernel
theorem d_E_init_11 : decode prog_7_method_1_code 11 = .ok (.aload_n 0, 1) := by decide +kernel
theorem d_E_init_12 : decode prog_7_method_1_code 12 = .ok (.new 15, 3) := by decide +kernel
theorem d_E_init_15 : decode prog_7_method_1_code 15 = .ok (.dup, 1) := by decide +kernel
theorem d_E_init_16 : decode prog_7_method_1_code 16 = .ok (.invokespecial 17, 3) := by decide +kernel
theorem d_E_init_19 : decode prog_7_method_1_code 19 = .ok (.putfield 18, 3) := by decide +kernel
theorem d_E_init_22 : decode prog_7_method_1_code 22 = .ok (.aload_n 0, 1) := by decide +kernel
theorem d_E_init_23 : decode prog_7_method_1_code 23 = .ok (.iconst (-1), 1) := by decide +kernel
theorem d_E_init_24 : decode prog_7_method_1_code 24 = .ok (.putfield 22, 3) := by decide +kernel
theorem d_E_init_27 : decode prog_7_method_1_code 27 = .ok (.aload_n 0, 1) := by decide +kernel
theorem d_E_init_28 : decode prog_7_method_1_code 28 = .ok (.iconst 0, 1) := by decide +kernel
theorem d_E_init_29 : decode prog_7_method_1_code 29 = .ok (.anewarray 26, 3) := by decide +kernel
theorem d_E_init_32 : decode prog_7_method_1_code 32 = .ok (.putfield 28, 3) := by decide +kernel
theorem d_E_init_35 : decode prog_7_method_1_code 35 = .ok (.aload_n 0, 1) := by decide +kernel
theorem d_E_init_36 : decode prog_7_method_1_code 36 = .ok (.iconst 0, 1) := by decide +kernel
theorem d_E_init_37 : decode prog_7_method_1_code 37 = .ok (.newarray .int, 2) := by decide +kernel
theorem d_E_init_39 : decode prog_7_method_1_code 39 = .ok (.putfield 32, 3) := by decide +kernel
theorem d_E_init_42 : decode prog_7_method_1_code 42 = .ok (.aload_n 0, 1) := by decide +kernel
theorem d_E_init_43 : decode prog_7_method_1_code 43 = .ok (.aload_n 1, 1) := by decide +kernel
theorem d_E_init_44 : decode prog_7_method_1_code 44 = .ok (.putfield 35, 3) := by decide +kernel
theorem d_E_init_47 : decode prog_7_method_1_code 47 = .ok (.aload_n 0, 1) := by decide +kernel
theorem d_E_init_48 : decode prog_7_method_1_code 48 = .ok (.iload_n 2, 1) := by decide +kernel
theorem d_E_init_49 : decode prog_7_method_1_code 49 = .ok (.putfield 38, 3) := by decide +kernel
theorem d_E_init_52 : decode prog_7_method_1_code 52 = .ok (.return_, 1) := by decide +kernel
theorem d_W_addMethod_0 : decode prog_12_method_4_code 0 = .ok (.iload_n 1, 1) := by decide +kernel
theorem d_W_addMethod_1 : decode prog_12_method_4_code 1 = .ok (.invokestatic 44, 3) := by decide +kernel
theorem d_W_addMethod_4 : decode prog_12_method_4_code 4 = .ok (.newarray .int, 2) := by decide +kernel
theorem d_W_addMethod_6 : decode prog_12_method_4_code 6 = .ok (.astore_n 3, 1) := by decide +kernel
theorem d_W_addMethod_7 : decode prog_12_method_4_code 7 = .ok (.iconst 0, 1) := by decide +kernel
theorem d_W_addMethod_8 : decode prog_12_method_4_code 8 = .ok (.istore 4, 2) := by decide +kernel
theorem d_W_addMethod_10 : decode prog_12_method_4_code 10 = .ok (.iload 4, 2) := by decide +kernel
theorem d_W_addMethod_12 : decode prog_12_method_4_code 12 = .ok (.aload_n 3, 1) := by decide +kernel
theorem d_W_addMethod_13 : decode prog_12_method_4_code 13 = .ok (.arraylength, 1) := by decide +kernel
theorem d_W_addMethod_14 : decode prog_12_method_4_code 14 = .ok (.if_icmp .ge 19, 3) := by decide +kernel
theorem d_W_addMethod_17 : decode prog_12_method_4_code 17 = .ok (.aload_n 3, 1) := by decide +kernel
theorem d_W_addMethod_18 : decode prog_12_method_4_code 18 = .ok (.iload 4, 2) := by decide +kernel
theorem d_W_addMethod_20 : decode prog_12_method_4_code 20 = .ok (.iload_n 1, 1) := by decide +kernel
theorem d_W_addMethod_21 : decode prog_12_method_4_code 21 = .ok (.iload 4, 2) := by decide +kernel
theorem d_W_addMethod_23 : decode prog_12_method_4_code 23 = .ok (.invokestatic 48, 3) := by decide +kernel
theorem d_W_addMethod_26 : decode prog_12_method_4_code 26 = .ok (.iastore, 1) := by decide +kernel
theorem d_W_addMethod_27 : decode prog_12_method_4_code 27 = .ok (.iinc 4 1, 3) := by decide +kernel
theorem d_W_addMethod_30 : decode prog_12_method_4_code 30 = .ok (.goto (-20), 3) := by decide +kernel
theorem d_W_addMethod_33 : decode prog_12_method_4_code 33 = .ok (.aload_n 0, 1) := by decide +kernel
theorem d_W_addMethod_34 : decode prog_12_method_4_code 34 = .ok (.getfield 33, 3) := by decide +kernel
theorem d_W_addMethod_37 : decode prog_12_method_4_code 37 = .ok (.aload_n 0, 1) := by decide +kernel
theorem d_W_addMethod_38 : decode prog_12_method_4_code 38 = .ok (.getfield 52, 3) := by decide +kernel
theorem d_W_addMethod_41 : decode prog_12_method_4_code 41 = .ok (.new 31, 3) := by decide +kernel
theorem d_W_addMethod_44 : decode prog_12_method_4_code 44 = .ok (.dup, 1) := by decide +kernel
theorem d_W_addMethod_45 : decode prog_12_method_4_code 45 = .ok (.aload_n 3, 1) := by decide +kernel
theorem d_W_addMethod_46 : decode prog_12_method_4_code 46 = .ok (.iload_n 2, 1) := by decide +kernel
theorem d_W_addMethod_47 : decode prog_12_method_4_code 47 = .ok (.invokespecial 55, 3) := by decide +kernel
theorem d_W_addMethod_50 : decode prog_12_method_4_code 50 = .ok (.aastore, 1) := by decide +kernel
theorem d_W_addMethod_51 : decode prog_12_method_4_code 51 = .ok (.aload_n 0, 1) := by decide +kernel
theorem d_W_addMethod_52 : decode prog_12_method_4_code 52 = .ok (.dup, 1) := by decide +kernel
theorem d_W_addMethod_53 : decode prog_12_method_4_code 53 = .ok (.getfield 52, 3) := by decide +kernel
theorem d_W_addMethod_56 : decode prog_12_method_4_code 56 = .ok (.iconst 1, 1) := by decide +kernel
theorem d_W_addMethod_57 : decode prog_12_method_4_code 57 = .ok (.iadd, 1) := by decide +kernel
theorem d_W_addMethod_58 : decode prog_12_method_4_code 58 = .ok (.putfield 52, 3) := by decide +kernel
theorem d_W_addMethod_61 : decode prog_12_method_4_code 61 = .ok (.aload_n 0, 1) := by decide +kernel
theorem d_W_addMethod_62 : decode prog_12_method_4_code 62 = .ok (.getfield 52, 3) := by decide +kernel
theorem d_W_addMethod_65 : decode prog_12_method_4_code 65 = .ok (.iconst 1, 1) := by decide +kernel
theorem d_W_addMethod_66 : decode prog_12_method_4_code 66 = .ok (.isub, 1) := by decide +kernel
theorem d_W_addMethod_67 : decode prog_12_method_4_code 67 = .ok (.ireturn, 1) := by decide +kernel

abbrev ws_k_W_addClass (w wp wu wi wc wt wx wm : Nat) (kp ku ki : ClassId) (fp fu : Nat → Int32) : va_W := [(w, .inr (3, [.ref wp, .ref wu, .ref wi, .int 2, .ref wc, .ref wt, .ref wx, .int 0, .ref wm, .int 0])), (wp, .inl (kp, 16, .inl fp)), (wu, .inl (ku, 16, .inl fu)), (wi, .inl (ki, 16, .inl (fun _ => 0)))]
set_option maxHeartbeats 4000000 in
set_option maxRecDepth 100000 in
theorem k_W_addClass (l : Launch) (dC : Nat → ClassId) (dI : Nat → Nat → Nat) (w wp wu wi wc wt wx wm : Nat) (kp ku ki : ClassId) (fp fu : Nat → Int32) (pr bz : Int32) (hpr : hasC pr) (sz : Nat) : Met l y_W_addClass (Cond.code y_W_addClass prog_12_method_2_code 3 (some .int) :: bigW) ({ frames := 0, cells := 0, slots := 0, locals := 0 } : Room) (va_Pc [.ref w, .int pr, .int bz] (fun U => U.heap.size = sz ∧ va_P (dC, dI) vwCl (ws_k_W_addClass w wp wu wi wc wt wx wm kp ku ki fp fu) U.heap ∧ va_K (dC, dI) vwCl [(kp, .int), (ku, .int), (ki, .boolean)] U ∧ va_D (fun _ => True) (ws_k_W_addClass w wp wu wi wc wt wx wm kp ku ki fp fu))) (va_Qi (fun (r : Int32) (u : Unit) => r = 2) (fun _ _ => True) (va_A (ws_k_W_addClass w wp wu wi wc wt wx wm kp ku ki fp fu) sz)) 0 0 (va_A (ws_k_W_addClass w wp wu wi wc wt wx wm kp ku ki fp fu) sz) := by
  refine Met.ofW (cc := prog_12_method_2_code) (maxL := 3) (ret := (some .int)) (by decide) rfl ?_
  intro p e s m args below meth cx s₁ B hml hv
  obtain ⟨rfl, hsz, hP, hK, hD0⟩ := hv
  have hx := B.exec
  have hb := B.bytes
  have hr := B.returns
  have hts := atoms_spec (ws := (Cond.code y_W_addClass prog_12_method_2_code 3 (some .int) :: bigW)) B.pre
  have hsub : ∀ w ∈ bigW, w ∈ (Cond.code y_W_addClass prog_12_method_2_code 3 (some .int) :: bigW) := fun w h => List.mem_cons_of_mem _ h
  have hown : s.vm.findClass "MapFramer$World" = some m.cls := findClass_of_methodNamed B.named
  have hlocks := B.notSynchronized
  subst hsz
  have hD := hD0.self (sz := s.heap.size)
  generalize hAe : va_A (ws_k_W_addClass w wp wu wi wc wt wx wm kp ku ki fp fu) s.heap.size = A at hD ⊢
  have hA : ∀ q : Nat, s.heap.size ≤ q → A q := fun q h => by rw [← hAe]; exact Or.inr h
  have hS : va_S A s.heap s.heap [] := va_S.rf
  have hP : va_P (dC, dI) vwCl [(w, .inr (3, [.ref wp, .ref wu, .ref wi, .int 2, .ref wc, .ref wt, .ref wx, .int 0, .ref wm, .int 0])), (wp, .inl (kp, 16, .inl fp)), (wu, .inl (ku, 16, .inl fu)), (wi, .inl (ki, 16, .inl (fun _ => 0)))] s.heap := hP
  have hD : va_D A [(w, .inr (3, [.ref wp, .ref wu, .ref wi, .int 2, .ref wc, .ref wt, .ref wx, .int 0, .ref wm, .int 0])), (wp, .inl (kp, 16, .inl fp)), (wu, .inl (ku, 16, .inl fu)), (wi, .inl (ki, 16, .inl (fun _ => 0)))] := hD
  have hl := lv_entry ([.ref w, .int pr, .int bz]) (n := 3) (Nat.le_of_ble_eq_true rfl)
  rw [lg_entry_eq]
  generalize (lg_sl ([.ref w, .int pr, .int bz]) ++ List.replicate (3 - (lg_sl ([.ref w, .int pr, .int bz])).length) Slot.unset).toArray = ls at hl ⊢
  have hl : lv_has ls 3 [(0, .ref w), (1, .int pr), (2, .int bz)] := hl
  refine lv_aload_n hx hb d_W_addClass_0 rfl (lv_at hl 0 rfl) ?_
  refine va_get (D := (dC, dI)) (ci := 3) (v := .ref wp) (C := R_W) (T := T_W) (N := 10) hx hb hts (fun w h => hsub w (uw_W w h)) hown hK hP 0 rfl rfl 0 (by decide) (hts _ (hsub _ w_132)) (fun _ h9 => h9) rfl d_W_addClass_1 ?_
  refine lv_aload_n hx hb d_W_addClass_4 rfl (lv_at hl 0 rfl) ?_
  refine va_get (D := (dC, dI)) (ci := 3) (v := .int 2) (C := R_W) (T := T_W) (N := 10) hx hb hts (fun w h => hsub w (uw_W w h)) hown hK hP 0 rfl rfl 3 (by decide) (hts _ (hsub _ w_0)) (fun _ h9 => h9) rfl d_W_addClass_5 ?_
  refine lv_iload_n hx hb d_W_addClass_8 rfl (lv_at hl 1 rfl) ?_
  refine va_iast hx hb hK hP hD hS 1 0 rfl rfl (vp_in_iff.mpr (by decide)) d_W_addClass_9 (fun H locs hP hD hS => ?_)
  have hP : va_P (dC, dI) vwCl [(w, .inr (3, [.ref wp, .ref wu, .ref wi, .int 2, .ref wc, .ref wt, .ref wx, .int 0, .ref wm, .int 0])), (wp, .inl (kp, 16, .inl (upd fp (2 : Int32).toNatClampNeg pr))), (wu, .inl (ku, 16, .inl fu)), (wi, .inl (ki, 16, .inl (fun _ => 0)))] H := hP
  have hD : va_D A [(w, .inr (3, [.ref wp, .ref wu, .ref wi, .int 2, .ref wc, .ref wt, .ref wx, .int 0, .ref wm, .int 0])), (wp, .inl (kp, 16, .inl (upd fp (2 : Int32).toNatClampNeg pr))), (wu, .inl (ku, 16, .inl fu)), (wi, .inl (ki, 16, .inl (fun _ => 0)))] := hD
  refine lv_aload_n hx hb d_W_addClass_10 rfl (lv_at hl 0 rfl) ?_
  refine va_get (D := (dC, dI)) (ci := 3) (v := .ref wu) (C := R_W) (T := T_W) (N := 10) hx hb hts (fun w h => hsub w (uw_W w h)) hown hK hP 0 rfl rfl 1 (by decide) (hts _ (hsub _ w_133)) (fun _ h9 => h9) rfl d_W_addClass_11 ?_
  refine lv_aload_n hx hb d_W_addClass_14 rfl (lv_at hl 0 rfl) ?_
  refine va_get (D := (dC, dI)) (ci := 3) (v := .int 2) (C := R_W) (T := T_W) (N := 10) hx hb hts (fun w h => hsub w (uw_W w h)) hown hK hP 0 rfl rfl 3 (by decide) (hts _ (hsub _ w_0)) (fun _ h9 => h9) rfl d_W_addClass_15 ?_
  refine lv_aload_n hx hb d_W_addClass_18 rfl (lv_at hl 0 rfl) ?_
  refine va_get (D := (dC, dI)) (ci := 3) (v := .ref wu) (C := R_W) (T := T_W) (N := 10) hx hb hts (fun w h => hsub w (uw_W w h)) hown hK hP 0 rfl rfl 1 (by decide) (hts _ (hsub _ w_133)) (fun _ h9 => h9) rfl d_W_addClass_19 ?_
  refine lv_iload_n hx hb d_W_addClass_22 rfl (lv_at hl 1 rfl) ?_
  refine va_iald hx hb hK hP 2 1 rfl rfl (vp_in_iff.mpr (by have h9 := hpr; unfold hasC at h9; omega)) d_W_addClass_23 ?_
  refine lv_topi (fun x_1 ex_1 => ?_)
  refine lv_iconst (v := 1) hx hb d_W_addClass_24 (by decide) ?_
  refine lv_aload_n hx hb d_W_addClass_25 rfl (lv_at hl 0 rfl) ?_
  refine va_get (D := (dC, dI)) (ci := 3) (v := .int 2) (C := R_W) (T := T_W) (N := 10) hx hb hts (fun w h => hsub w (uw_W w h)) hown hK hP 0 rfl rfl 3 (by decide) (hts _ (hsub _ w_0)) (fun _ h9 => h9) rfl d_W_addClass_26 ?_
  refine lv_ishl hx hb d_W_addClass_29 ?_
  refine tp_i 4 (by decide) ?_
  refine lv_ior hx hb d_W_addClass_30 ?_
  refine lv_topi (fun x_2 ex_2 => ?_)
  refine va_iast hx hb hK hP hD hS 2 1 rfl rfl (vp_in_iff.mpr (by decide)) d_W_addClass_31 (fun H locs hP hD hS => ?_)
  have hP : va_P (dC, dI) vwCl [(w, .inr (3, [.ref wp, .ref wu, .ref wi, .int 2, .ref wc, .ref wt, .ref wx, .int 0, .ref wm, .int 0])), (wp, .inl (kp, 16, .inl (upd fp (2 : Int32).toNatClampNeg pr))), (wu, .inl (ku, 16, .inl (upd fu (2 : Int32).toNatClampNeg x_2))), (wi, .inl (ki, 16, .inl (fun _ => 0)))] H := hP
  have hD : va_D A [(w, .inr (3, [.ref wp, .ref wu, .ref wi, .int 2, .ref wc, .ref wt, .ref wx, .int 0, .ref wm, .int 0])), (wp, .inl (kp, 16, .inl (upd fp (2 : Int32).toNatClampNeg pr))), (wu, .inl (ku, 16, .inl (upd fu (2 : Int32).toNatClampNeg x_2))), (wi, .inl (ki, 16, .inl (fun _ => 0)))] := hD
  refine lv_aload_n hx hb d_W_addClass_32 rfl (lv_at hl 0 rfl) ?_
  refine va_get (D := (dC, dI)) (ci := 3) (v := .ref wi) (C := R_W) (T := T_W) (N := 10) hx hb hts (fun w h => hsub w (uw_W w h)) hown hK hP 0 rfl rfl 2 (by decide) (hts _ (hsub _ w_6)) (fun _ h9 => h9) rfl d_W_addClass_33 ?_
  refine lv_aload_n hx hb d_W_addClass_36 rfl (lv_at hl 0 rfl) ?_
  refine va_get (D := (dC, dI)) (ci := 3) (v := .int 2) (C := R_W) (T := T_W) (N := 10) hx hb hts (fun w h => hsub w (uw_W w h)) hown hK hP 0 rfl rfl 3 (by decide) (hts _ (hsub _ w_0)) (fun _ h9 => h9) rfl d_W_addClass_37 ?_
  refine lv_iload_n hx hb d_W_addClass_40 rfl (lv_at hl 2 rfl) ?_
  refine va_zast hx hb hK hP hD hS 3 2 rfl rfl (vp_in_iff.mpr (by decide)) d_W_addClass_41 (fun H locs hP hD hS => ?_)
  have hP : va_P (dC, dI) vwCl [(w, .inr (3, [.ref wp, .ref wu, .ref wi, .int 2, .ref wc, .ref wt, .ref wx, .int 0, .ref wm, .int 0])), (wp, .inl (kp, 16, .inl (upd fp (2 : Int32).toNatClampNeg pr))), (wu, .inl (ku, 16, .inl (upd fu (2 : Int32).toNatClampNeg x_2))), (wi, .inl (ki, 16, .inl (upd (fun _ => 0) (2 : Int32).toNatClampNeg (vp_nar .boolean bz))))] H := hP
  have hD : va_D A [(w, .inr (3, [.ref wp, .ref wu, .ref wi, .int 2, .ref wc, .ref wt, .ref wx, .int 0, .ref wm, .int 0])), (wp, .inl (kp, 16, .inl (upd fp (2 : Int32).toNatClampNeg pr))), (wu, .inl (ku, 16, .inl (upd fu (2 : Int32).toNatClampNeg x_2))), (wi, .inl (ki, 16, .inl (upd (fun _ => 0) (2 : Int32).toNatClampNeg (vp_nar .boolean bz))))] := hD
  refine lv_aload_n hx hb d_W_addClass_42 rfl (lv_at hl 0 rfl) ?_
  refine lv_dup hx hb d_W_addClass_43 rfl ?_
  refine va_get (D := (dC, dI)) (ci := 3) (v := .int 2) (C := R_W) (T := T_W) (N := 10) hx hb hts (fun w h => hsub w (uw_W w h)) hown hK hP 0 rfl rfl 3 (by decide) (hts _ (hsub _ w_0)) (fun _ h9 => h9) rfl d_W_addClass_44 ?_
  refine lv_iconst (v := 1) hx hb d_W_addClass_47 (by decide) ?_
  refine lv_iadd hx hb d_W_addClass_48 ?_
  refine tp_i 3 (by decide) ?_
  refine va_put (D := (dC, dI)) (ci := 3) (v := .int 3) (ty := .int) (C := R_W) (T := T_W) (N := 10) hx hb hts (fun w h => hsub w (uw_W w h)) ty_W tok_W nm_W hown hK hP hD hS 0 rfl rfl 3 (by decide) (hts _ (hsub _ w_0)) (fun _ h9 => h9) rfl (by decide +kernel) rfl rfl (Nat.le_of_ble_eq_true rfl) d_W_addClass_49 (fun H locs hP hD hS => ?_)
  have hP : va_P (dC, dI) vwCl [(w, .inr (3, [.ref wp, .ref wu, .ref wi, .int 3, .ref wc, .ref wt, .ref wx, .int 0, .ref wm, .int 0])), (wp, .inl (kp, 16, .inl (upd fp (2 : Int32).toNatClampNeg pr))), (wu, .inl (ku, 16, .inl (upd fu (2 : Int32).toNatClampNeg x_2))), (wi, .inl (ki, 16, .inl (upd (fun _ => 0) (2 : Int32).toNatClampNeg (vp_nar .boolean bz))))] H := hP
  have hD : va_D A [(w, .inr (3, [.ref wp, .ref wu, .ref wi, .int 3, .ref wc, .ref wt, .ref wx, .int 0, .ref wm, .int 0])), (wp, .inl (kp, 16, .inl (upd fp (2 : Int32).toNatClampNeg pr))), (wu, .inl (ku, 16, .inl (upd fu (2 : Int32).toNatClampNeg x_2))), (wi, .inl (ki, 16, .inl (upd (fun _ => 0) (2 : Int32).toNatClampNeg (vp_nar .boolean bz))))] := hD
  refine lv_aload_n hx hb d_W_addClass_52 rfl (lv_at hl 0 rfl) ?_
  refine va_get (D := (dC, dI)) (ci := 3) (v := .int 3) (C := R_W) (T := T_W) (N := 10) hx hb hts (fun w h => hsub w (uw_W w h)) hown hK hP 0 rfl rfl 3 (by decide) (hts _ (hsub _ w_0)) (fun _ h9 => h9) rfl d_W_addClass_53 ?_
  refine lv_iconst (v := 1) hx hb d_W_addClass_56 (by decide) ?_
  refine lv_isub hx hb d_W_addClass_57 ?_
  refine tp_i 2 (by decide) ?_
  refine W.widen (k := 0) (n := 0) (Nat.le_of_ble_eq_true rfl) (Nat.le_of_ble_eq_true rfl) ?_
  exact W.iret (v := 2) hx hb hr (fun t ht hW => ⟨⟨2, (), rfl, rfl, trivial⟩, hS.F ht⟩) hS.2.2 d_W_addClass_58

abbrev ws_k_W_addField (w wp wu wi wc wt wx wm : Nat) (kc kt kx : ClassId) : va_W := [(w, .inr (3, [.ref wp, .ref wu, .ref wi, .int 2, .ref wc, .ref wt, .ref wx, .int 0, .ref wm, .int 0])), (wc, .inl (kc, 16, .inl (fun _ => 0))), (wt, .inl (kt, 16, .inl (fun _ => 0))), (wx, .inl (kx, 16, .inl (fun _ => 0)))]
set_option maxHeartbeats 4000000 in
set_option maxRecDepth 100000 in
theorem k_W_addField (l : Launch) (dC : Nat → ClassId) (dI : Nat → Nat → Nat) (w wp wu wi wc wt wx wm : Nat) (kc kt kx : ClassId) (ow ty bz : Int32) (sz : Nat) : Met l y_W_addField (Cond.code y_W_addField prog_12_method_3_code 4 (some .int) :: bigW) ({ frames := 0, cells := 0, slots := 0, locals := 0 } : Room) (va_Pc [.ref w, .int ow, .int ty, .int bz] (fun U => U.heap.size = sz ∧ va_P (dC, dI) vwCl (ws_k_W_addField w wp wu wi wc wt wx wm kc kt kx) U.heap ∧ va_K (dC, dI) vwCl [(kc, .int), (kt, .int), (kx, .boolean)] U ∧ va_D (fun _ => True) (ws_k_W_addField w wp wu wi wc wt wx wm kc kt kx))) (va_Qi (fun (r : Int32) (u : Unit) => r = 0) (fun _ _ => True) (va_A (ws_k_W_addField w wp wu wi wc wt wx wm kc kt kx) sz)) 0 0 (va_A (ws_k_W_addField w wp wu wi wc wt wx wm kc kt kx) sz) := by
  refine Met.ofW (cc := prog_12_method_3_code) (maxL := 4) (ret := (some .int)) (by decide) rfl ?_
  intro p e s m args below meth cx s₁ B hml hv
  obtain ⟨rfl, hsz, hP, hK, hD0⟩ := hv
  have hx := B.exec
  have hb := B.bytes
  have hr := B.returns
  have hts := atoms_spec (ws := (Cond.code y_W_addField prog_12_method_3_code 4 (some .int) :: bigW)) B.pre
  have hsub : ∀ w ∈ bigW, w ∈ (Cond.code y_W_addField prog_12_method_3_code 4 (some .int) :: bigW) := fun w h => List.mem_cons_of_mem _ h
  have hown : s.vm.findClass "MapFramer$World" = some m.cls := findClass_of_methodNamed B.named
  have hlocks := B.notSynchronized
  subst hsz
  have hD := hD0.self (sz := s.heap.size)
  generalize hAe : va_A (ws_k_W_addField w wp wu wi wc wt wx wm kc kt kx) s.heap.size = A at hD ⊢
  have hA : ∀ q : Nat, s.heap.size ≤ q → A q := fun q h => by rw [← hAe]; exact Or.inr h
  have hS : va_S A s.heap s.heap [] := va_S.rf
  have hP : va_P (dC, dI) vwCl [(w, .inr (3, [.ref wp, .ref wu, .ref wi, .int 2, .ref wc, .ref wt, .ref wx, .int 0, .ref wm, .int 0])), (wc, .inl (kc, 16, .inl (fun _ => 0))), (wt, .inl (kt, 16, .inl (fun _ => 0))), (wx, .inl (kx, 16, .inl (fun _ => 0)))] s.heap := hP
  have hD : va_D A [(w, .inr (3, [.ref wp, .ref wu, .ref wi, .int 2, .ref wc, .ref wt, .ref wx, .int 0, .ref wm, .int 0])), (wc, .inl (kc, 16, .inl (fun _ => 0))), (wt, .inl (kt, 16, .inl (fun _ => 0))), (wx, .inl (kx, 16, .inl (fun _ => 0)))] := hD
  have hl := lv_entry ([.ref w, .int ow, .int ty, .int bz]) (n := 4) (Nat.le_of_ble_eq_true rfl)
  rw [lg_entry_eq]
  generalize (lg_sl ([.ref w, .int ow, .int ty, .int bz]) ++ List.replicate (4 - (lg_sl ([.ref w, .int ow, .int ty, .int bz])).length) Slot.unset).toArray = ls at hl ⊢
  have hl : lv_has ls 4 [(0, .ref w), (1, .int ow), (2, .int ty), (3, .int bz)] := hl
  refine lv_aload_n hx hb d_W_addField_0 rfl (lv_at hl 0 rfl) ?_
  refine va_get (D := (dC, dI)) (ci := 3) (v := .ref wc) (C := R_W) (T := T_W) (N := 10) hx hb hts (fun w h => hsub w (uw_W w h)) hown hK hP 0 rfl rfl 4 (by decide) (hts _ (hsub _ w_134)) (fun _ h9 => h9) rfl d_W_addField_1 ?_
  refine lv_aload_n hx hb d_W_addField_4 rfl (lv_at hl 0 rfl) ?_
  refine va_get (D := (dC, dI)) (ci := 3) (v := .int 0) (C := R_W) (T := T_W) (N := 10) hx hb hts (fun w h => hsub w (uw_W w h)) hown hK hP 0 rfl rfl 7 (by decide) (hts _ (hsub _ w_135)) (fun _ h9 => h9) rfl d_W_addField_5 ?_
  refine lv_iload_n hx hb d_W_addField_8 rfl (lv_at hl 1 rfl) ?_
  refine va_iast hx hb hK hP hD hS 1 0 rfl rfl (vp_in_iff.mpr (by decide)) d_W_addField_9 (fun H locs hP hD hS => ?_)
  have hP : va_P (dC, dI) vwCl [(w, .inr (3, [.ref wp, .ref wu, .ref wi, .int 2, .ref wc, .ref wt, .ref wx, .int 0, .ref wm, .int 0])), (wc, .inl (kc, 16, .inl (upd (fun _ => 0) (0 : Int32).toNatClampNeg ow))), (wt, .inl (kt, 16, .inl (fun _ => 0))), (wx, .inl (kx, 16, .inl (fun _ => 0)))] H := hP
  have hD : va_D A [(w, .inr (3, [.ref wp, .ref wu, .ref wi, .int 2, .ref wc, .ref wt, .ref wx, .int 0, .ref wm, .int 0])), (wc, .inl (kc, 16, .inl (upd (fun _ => 0) (0 : Int32).toNatClampNeg ow))), (wt, .inl (kt, 16, .inl (fun _ => 0))), (wx, .inl (kx, 16, .inl (fun _ => 0)))] := hD
  refine lv_aload_n hx hb d_W_addField_10 rfl (lv_at hl 0 rfl) ?_
  refine va_get (D := (dC, dI)) (ci := 3) (v := .ref wt) (C := R_W) (T := T_W) (N := 10) hx hb hts (fun w h => hsub w (uw_W w h)) hown hK hP 0 rfl rfl 5 (by decide) (hts _ (hsub _ w_136)) (fun _ h9 => h9) rfl d_W_addField_11 ?_
  refine lv_aload_n hx hb d_W_addField_14 rfl (lv_at hl 0 rfl) ?_
  refine va_get (D := (dC, dI)) (ci := 3) (v := .int 0) (C := R_W) (T := T_W) (N := 10) hx hb hts (fun w h => hsub w (uw_W w h)) hown hK hP 0 rfl rfl 7 (by decide) (hts _ (hsub _ w_135)) (fun _ h9 => h9) rfl d_W_addField_15 ?_
  refine lv_iload_n hx hb d_W_addField_18 rfl (lv_at hl 2 rfl) ?_
  refine va_iast hx hb hK hP hD hS 2 1 rfl rfl (vp_in_iff.mpr (by decide)) d_W_addField_19 (fun H locs hP hD hS => ?_)
  have hP : va_P (dC, dI) vwCl [(w, .inr (3, [.ref wp, .ref wu, .ref wi, .int 2, .ref wc, .ref wt, .ref wx, .int 0, .ref wm, .int 0])), (wc, .inl (kc, 16, .inl (upd (fun _ => 0) (0 : Int32).toNatClampNeg ow))), (wt, .inl (kt, 16, .inl (upd (fun _ => 0) (0 : Int32).toNatClampNeg ty))), (wx, .inl (kx, 16, .inl (fun _ => 0)))] H := hP
  have hD : va_D A [(w, .inr (3, [.ref wp, .ref wu, .ref wi, .int 2, .ref wc, .ref wt, .ref wx, .int 0, .ref wm, .int 0])), (wc, .inl (kc, 16, .inl (upd (fun _ => 0) (0 : Int32).toNatClampNeg ow))), (wt, .inl (kt, 16, .inl (upd (fun _ => 0) (0 : Int32).toNatClampNeg ty))), (wx, .inl (kx, 16, .inl (fun _ => 0)))] := hD
  refine lv_aload_n hx hb d_W_addField_20 rfl (lv_at hl 0 rfl) ?_
  refine va_get (D := (dC, dI)) (ci := 3) (v := .ref wx) (C := R_W) (T := T_W) (N := 10) hx hb hts (fun w h => hsub w (uw_W w h)) hown hK hP 0 rfl rfl 6 (by decide) (hts _ (hsub _ w_137)) (fun _ h9 => h9) rfl d_W_addField_21 ?_
  refine lv_aload_n hx hb d_W_addField_24 rfl (lv_at hl 0 rfl) ?_
  refine va_get (D := (dC, dI)) (ci := 3) (v := .int 0) (C := R_W) (T := T_W) (N := 10) hx hb hts (fun w h => hsub w (uw_W w h)) hown hK hP 0 rfl rfl 7 (by decide) (hts _ (hsub _ w_135)) (fun _ h9 => h9) rfl d_W_addField_25 ?_
  refine lv_iload_n hx hb d_W_addField_28 rfl (lv_at hl 3 rfl) ?_
  refine va_zast hx hb hK hP hD hS 3 2 rfl rfl (vp_in_iff.mpr (by decide)) d_W_addField_29 (fun H locs hP hD hS => ?_)
  have hP : va_P (dC, dI) vwCl [(w, .inr (3, [.ref wp, .ref wu, .ref wi, .int 2, .ref wc, .ref wt, .ref wx, .int 0, .ref wm, .int 0])), (wc, .inl (kc, 16, .inl (upd (fun _ => 0) (0 : Int32).toNatClampNeg ow))), (wt, .inl (kt, 16, .inl (upd (fun _ => 0) (0 : Int32).toNatClampNeg ty))), (wx, .inl (kx, 16, .inl (upd (fun _ => 0) (0 : Int32).toNatClampNeg (vp_nar .boolean bz))))] H := hP
  have hD : va_D A [(w, .inr (3, [.ref wp, .ref wu, .ref wi, .int 2, .ref wc, .ref wt, .ref wx, .int 0, .ref wm, .int 0])), (wc, .inl (kc, 16, .inl (upd (fun _ => 0) (0 : Int32).toNatClampNeg ow))), (wt, .inl (kt, 16, .inl (upd (fun _ => 0) (0 : Int32).toNatClampNeg ty))), (wx, .inl (kx, 16, .inl (upd (fun _ => 0) (0 : Int32).toNatClampNeg (vp_nar .boolean bz))))] := hD
  refine lv_aload_n hx hb d_W_addField_30 rfl (lv_at hl 0 rfl) ?_
  refine lv_dup hx hb d_W_addField_31 rfl ?_
  refine va_get (D := (dC, dI)) (ci := 3) (v := .int 0) (C := R_W) (T := T_W) (N := 10) hx hb hts (fun w h => hsub w (uw_W w h)) hown hK hP 0 rfl rfl 7 (by decide) (hts _ (hsub _ w_135)) (fun _ h9 => h9) rfl d_W_addField_32 ?_
  refine lv_iconst (v := 1) hx hb d_W_addField_35 (by decide) ?_
  refine lv_iadd hx hb d_W_addField_36 ?_
  refine tp_i 1 (by decide) ?_
  refine va_put (D := (dC, dI)) (ci := 3) (v := .int 1) (ty := .int) (C := R_W) (T := T_W) (N := 10) hx hb hts (fun w h => hsub w (uw_W w h)) ty_W tok_W nm_W hown hK hP hD hS 0 rfl rfl 7 (by decide) (hts _ (hsub _ w_135)) (fun _ h9 => h9) rfl (by decide +kernel) rfl rfl (Nat.le_of_ble_eq_true rfl) d_W_addField_37 (fun H locs hP hD hS => ?_)
  have hP : va_P (dC, dI) vwCl [(w, .inr (3, [.ref wp, .ref wu, .ref wi, .int 2, .ref wc, .ref wt, .ref wx, .int 1, .ref wm, .int 0])), (wc, .inl (kc, 16, .inl (upd (fun _ => 0) (0 : Int32).toNatClampNeg ow))), (wt, .inl (kt, 16, .inl (upd (fun _ => 0) (0 : Int32).toNatClampNeg ty))), (wx, .inl (kx, 16, .inl (upd (fun _ => 0) (0 : Int32).toNatClampNeg (vp_nar .boolean bz))))] H := hP
  have hD : va_D A [(w, .inr (3, [.ref wp, .ref wu, .ref wi, .int 2, .ref wc, .ref wt, .ref wx, .int 1, .ref wm, .int 0])), (wc, .inl (kc, 16, .inl (upd (fun _ => 0) (0 : Int32).toNatClampNeg ow))), (wt, .inl (kt, 16, .inl (upd (fun _ => 0) (0 : Int32).toNatClampNeg ty))), (wx, .inl (kx, 16, .inl (upd (fun _ => 0) (0 : Int32).toNatClampNeg (vp_nar .boolean bz))))] := hD
  refine lv_aload_n hx hb d_W_addField_40 rfl (lv_at hl 0 rfl) ?_
  refine va_get (D := (dC, dI)) (ci := 3) (v := .int 1) (C := R_W) (T := T_W) (N := 10) hx hb hts (fun w h => hsub w (uw_W w h)) hown hK hP 0 rfl rfl 7 (by decide) (hts _ (hsub _ w_135)) (fun _ h9 => h9) rfl d_W_addField_41 ?_
  refine lv_iconst (v := 1) hx hb d_W_addField_44 (by decide) ?_
  refine lv_isub hx hb d_W_addField_45 ?_
  refine tp_i 0 (by decide) ?_
  refine W.widen (k := 0) (n := 0) (Nat.le_of_ble_eq_true rfl) (Nat.le_of_ble_eq_true rfl) ?_
  exact W.iret (v := 0) hx hb hr (fun t ht hW => ⟨⟨0, (), rfl, rfl, trivial⟩, hS.F ht⟩) hS.2.2 d_W_addField_46

abbrev ws_k_W_argumentType : va_W := []
set_option maxHeartbeats 4000000 in
set_option maxRecDepth 100000 in
theorem k_W_argumentType (l : Launch) (dC : Nat → ClassId) (dI : Nat → Nat → Nat) (pk ix : Int32) : Met l y_W_argumentType (Cond.code y_W_argumentType prog_12_method_5_code 2 (some .int) :: bigW) ({ frames := 0, cells := 0, slots := 0, locals := 0 } : Room) (va_Pc [.int pk, .int ix] (fun U => va_P (dC, dI) vwCl (ws_k_W_argumentType) U.heap ∧ va_K (dC, dI) vwCl [] U)) (va_Qi (fun (r : Int32) (u : Unit) => r = argX pk ix) (fun _ _ => True) (fun _ => False)) 0 0 (fun _ => False) := by
  refine Met.ofW (cc := prog_12_method_5_code) (maxL := 2) (ret := (some .int)) (by decide) rfl ?_
  intro p e s m args below meth cx s₁ B hml hv
  obtain ⟨rfl, hP, hK⟩ := hv
  have hx := B.exec
  have hb := B.bytes
  have hr := B.returns
  have hts := atoms_spec (ws := (Cond.code y_W_argumentType prog_12_method_5_code 2 (some .int) :: bigW)) B.pre
  have hsub : ∀ w ∈ bigW, w ∈ (Cond.code y_W_argumentType prog_12_method_5_code 2 (some .int) :: bigW) := fun w h => List.mem_cons_of_mem _ h
  have hown : s.vm.findClass "MapFramer$World" = some m.cls := findClass_of_methodNamed B.named
  have hlocks := B.notSynchronized
  have hS : va_S (fun _ => False) s.heap s.heap [] := va_S.rf
  have hP : va_P (dC, dI) vwCl [] s.heap := hP
  have hl := lv_entry ([.int pk, .int ix]) (n := 2) (Nat.le_of_ble_eq_true rfl)
  rw [lg_entry_eq]
  generalize (lg_sl ([.int pk, .int ix]) ++ List.replicate (2 - (lg_sl ([.int pk, .int ix])).length) Slot.unset).toArray = ls at hl ⊢
  have hl : lv_has ls 2 [(0, .int pk), (1, .int ix)] := hl
  refine lv_iload_n hx hb d_W_argumentType_0 rfl (lv_at hl 0 rfl) ?_
  refine lv_bipush (v := 8) hx hb d_W_argumentType_1 (by decide) ?_
  refine lv_iload_n hx hb d_W_argumentType_3 rfl (lv_at hl 1 rfl) ?_
  refine lv_imul hx hb d_W_argumentType_4 ?_
  refine lv_topi (fun x_1 ex_1 => ?_)
  refine lv_iushr (v := ((pk : Int32).toUInt32 >>> ((x_1 : Int32).toUInt32 &&& Int32.toUInt32 31)).toInt32) hx hb d_W_argumentType_5 rfl ?_
  refine lv_topi (fun x_2 ex_2 => ?_)
  refine lv_sipush (v := 255) hx hb d_W_argumentType_6 (by decide) ?_
  refine lv_iand hx hb d_W_argumentType_9 ?_
  refine lv_topi (fun x_3 ex_3 => ?_)
  refine W.widen (k := 0) (n := 0) (Nat.le_of_ble_eq_true rfl) (Nat.le_of_ble_eq_true rfl) ?_
  exact W.iret (v := x_3) hx hb hr (fun t ht hW => ⟨⟨x_3, (), rfl, by rw [ex_3, ex_2, ex_1]; rfl, trivial⟩, hS.F ht⟩) hS.2.2 d_W_argumentType_10

abbrev ws_k_W_argumentCount : va_W := []
set_option maxHeartbeats 4000000 in
set_option maxRecDepth 100000 in
theorem k_W_argumentCount (l : Launch) (dC : Nat → ClassId) (dI : Nat → Nat → Nat) (pk : Int32) : Met l y_W_argumentCount (Cond.code y_W_argumentCount prog_12_method_6_code 2 (some .int) :: bigW) ({ frames := 1, cells := 0, slots := 0, locals := 21 } : Room) (va_Pc [.int pk] (fun U => va_P (dC, dI) vwCl (ws_k_W_argumentCount) U.heap ∧ va_K (dC, dI) vwCl [] U)) (va_Qi (fun (r : Int32) (u : Unit) => r = argI pk) (fun _ _ => True) (fun _ => False)) 0 0 (fun _ => False) := by
  refine Met.ofW (cc := prog_12_method_6_code) (maxL := 2) (ret := (some .int)) (by decide) rfl ?_
  intro p e s m args below meth cx s₁ B hml hv
  obtain ⟨rfl, hP, hK⟩ := hv
  have hx := B.exec
  have hb := B.bytes
  have hr := B.returns
  have hts := atoms_spec (ws := (Cond.code y_W_argumentCount prog_12_method_6_code 2 (some .int) :: bigW)) B.pre
  have hsub : ∀ w ∈ bigW, w ∈ (Cond.code y_W_argumentCount prog_12_method_6_code 2 (some .int) :: bigW) := fun w h => List.mem_cons_of_mem _ h
  have hown : s.vm.findClass "MapFramer$World" = some m.cls := findClass_of_methodNamed B.named
  have hlocks := B.notSynchronized
  have hS : va_S (fun _ => False) s.heap s.heap [] := va_S.rf
  have hP : va_P (dC, dI) vwCl [] s.heap := hP
  have hl := lv_entry ([.int pk]) (n := 2) (Nat.le_of_ble_eq_true rfl)
  rw [lg_entry_eq]
  generalize (lg_sl ([.int pk]) ++ List.replicate (2 - (lg_sl ([.int pk])).length) Slot.unset).toArray = ls at hl ⊢
  have hl : lv_has ls 2 [(0, .int pk)] := hl
  refine lv_iconst (v := 0) hx hb d_W_argumentCount_0 (by decide) ?_
  refine lv_istore_n (lv' := [(1, .int 0), (0, .int pk)]) hx hb d_W_argumentCount_1 rfl hl (by decide) rfl (fun ls hl => ?_)
  refine lv_iload_n hx hb d_W_argumentCount_2 rfl (lv_at hl 0 rfl) ?_
  refine lv_iconst (v := 4) hx hb d_W_argumentCount_3 (by decide) ?_
  refine lv_icmp_ge (tgt := 21) hx hb d_W_argumentCount_4 (by decide) (fun c_1 => ?_) (fun c_1 => ?_)
  · skip
    first | exact absurd c_1 (by decide) | exact absurd (by decide) c_1
  · skip
    refine lv_iload_n hx hb d_W_argumentCount_7 rfl (lv_at hl 1 rfl) ?_
    refine lv_iload_n hx hb d_W_argumentCount_8 rfl (lv_at hl 0 rfl) ?_
    have hPc := hP.sub (ws' := []) [] rfl
    have hKc := hK.sub (tys' := []) [] rfl
    refine va_calli (va_runS (As := [.int pk, .int 0]) (rest := []) ⟨hx, hb, hml, hown, hts⟩ (k_W_argumentType l dC dI pk 0) (va_cwS 2 hts (gS hsub w_138 w_139 w_4 w_140) rfl rfl rfl (by decide +kernel) ⟨Nat.le_of_ble_eq_true rfl, Nat.le_of_ble_eq_true rfl⟩) ⟨bl_0000, fun U hU hW => ⟨rfl, by rw [hU]; exact hPc, va_K.moved hW.alike hKc⟩⟩ rfl rfl hl.1 rfl (lv_room (Nat.le_of_ble_eq_true rfl)) d_W_argumentCount_9 ⟨Nat.le_of_ble_eq_true rfl, Nat.le_of_ble_eq_true rfl⟩) hS (fun q _ h => h.elim) (fun q h => h.elim) (fun r_3 u_4 t H1 locs ht hvm hw hB hz1 hk1 hS => ?_)
    have hP := ro_keep hP hk1
    generalize H1 = H at hP hS ⊢
    refine W.widen (k := 0) (n := 0) (Nat.le_of_ble_eq_true rfl) (Nat.le_of_ble_eq_true rfl) ?_
    subst hw
    refine lv_if_eq (tgt := 21) hx hb d_W_argumentCount_12 (by decide) (fun c_5 => ?_) (fun c_5 => ?_)
    · skip
      refine lv_iload_n hx hb d_W_argumentCount_21 rfl (lv_at hl 0 rfl) ?_
      refine W.widen (k := 0) (n := 0) (Nat.le_of_ble_eq_true rfl) (Nat.le_of_ble_eq_true rfl) ?_
      exact W.iret (v := 0) hx hb hr (fun t ht hW => ⟨⟨0, (), rfl, by simp [argI, c_5], trivial⟩, hS.F ht⟩) hS.2.2 d_W_argumentCount_22
    · skip
      refine lv_iinc (v := 1) (lv' := [(1, .int 1), (0, .int pk)]) hx hb d_W_argumentCount_15 hl (k := 0) rfl (by decide) (by decide) rfl (fun ls hl => ?_)
      refine lv_goto (tgt := 2) hx hb d_W_argumentCount_18 (by decide) ?_
      refine lv_iload_n hx hb d_W_argumentCount_2 rfl (lv_at hl 0 rfl) ?_
      refine lv_iconst (v := 4) hx hb d_W_argumentCount_3 (by decide) ?_
      refine lv_icmp_ge (tgt := 21) hx hb d_W_argumentCount_4 (by decide) (fun c_6 => ?_) (fun c_6 => ?_)
      · skip
        first | exact absurd c_6 (by decide) | exact absurd (by decide) c_6
      · skip
        refine lv_iload_n hx hb d_W_argumentCount_7 rfl (lv_at hl 1 rfl) ?_
        refine lv_iload_n hx hb d_W_argumentCount_8 rfl (lv_at hl 0 rfl) ?_
        have hPc := hP.sub (ws' := []) [] rfl
        have hKc := hK.sub (tys' := []) [] rfl
        refine va_calli (va_runS (As := [.int pk, .int 1]) (rest := []) ⟨hx, hb, hml, hown, hts⟩ (k_W_argumentType l dC dI pk 1) (va_cwS 2 hts (gS hsub w_138 w_139 w_4 w_140) rfl rfl rfl (by decide +kernel) ⟨Nat.le_of_ble_eq_true rfl, Nat.le_of_ble_eq_true rfl⟩) ⟨bl_0000, fun U hU hW => ⟨rfl, by rw [hU]; exact hPc, va_K.moved hW.alike hKc⟩⟩ rfl rfl hl.1 rfl (lv_room (Nat.le_of_ble_eq_true rfl)) d_W_argumentCount_9 ⟨Nat.le_of_ble_eq_true rfl, Nat.le_of_ble_eq_true rfl⟩) hS (fun q _ h => h.elim) (fun q h => h.elim) (fun r_8 u_9 t H1 locs ht hvm hw hB hz1 hk1 hS => ?_)
        have hP := ro_keep hP hk1
        generalize H1 = H at hP hS ⊢
        refine W.widen (k := 0) (n := 0) (Nat.le_of_ble_eq_true rfl) (Nat.le_of_ble_eq_true rfl) ?_
        subst hw
        refine lv_if_eq (tgt := 21) hx hb d_W_argumentCount_12 (by decide) (fun c_10 => ?_) (fun c_10 => ?_)
        · skip
          refine lv_iload_n hx hb d_W_argumentCount_21 rfl (lv_at hl 0 rfl) ?_
          refine W.widen (k := 0) (n := 0) (Nat.le_of_ble_eq_true rfl) (Nat.le_of_ble_eq_true rfl) ?_
          exact W.iret (v := 1) hx hb hr (fun t ht hW => ⟨⟨1, (), rfl, by simp [argI, c_5, c_10], trivial⟩, hS.F ht⟩) hS.2.2 d_W_argumentCount_22
        · skip
          refine lv_iinc (v := 2) (lv' := [(1, .int 2), (0, .int pk)]) hx hb d_W_argumentCount_15 hl (k := 0) rfl (by decide) (by decide) rfl (fun ls hl => ?_)
          refine lv_goto (tgt := 2) hx hb d_W_argumentCount_18 (by decide) ?_
          refine lv_iload_n hx hb d_W_argumentCount_2 rfl (lv_at hl 0 rfl) ?_
          refine lv_iconst (v := 4) hx hb d_W_argumentCount_3 (by decide) ?_
          refine lv_icmp_ge (tgt := 21) hx hb d_W_argumentCount_4 (by decide) (fun c_11 => ?_) (fun c_11 => ?_)
          · skip
            first | exact absurd c_11 (by decide) | exact absurd (by decide) c_11
          · skip
            refine lv_iload_n hx hb d_W_argumentCount_7 rfl (lv_at hl 1 rfl) ?_
            refine lv_iload_n hx hb d_W_argumentCount_8 rfl (lv_at hl 0 rfl) ?_
            have hPc := hP.sub (ws' := []) [] rfl
            have hKc := hK.sub (tys' := []) [] rfl
            refine va_calli (va_runS (As := [.int pk, .int 2]) (rest := []) ⟨hx, hb, hml, hown, hts⟩ (k_W_argumentType l dC dI pk 2) (va_cwS 2 hts (gS hsub w_138 w_139 w_4 w_140) rfl rfl rfl (by decide +kernel) ⟨Nat.le_of_ble_eq_true rfl, Nat.le_of_ble_eq_true rfl⟩) ⟨bl_0000, fun U hU hW => ⟨rfl, by rw [hU]; exact hPc, va_K.moved hW.alike hKc⟩⟩ rfl rfl hl.1 rfl (lv_room (Nat.le_of_ble_eq_true rfl)) d_W_argumentCount_9 ⟨Nat.le_of_ble_eq_true rfl, Nat.le_of_ble_eq_true rfl⟩) hS (fun q _ h => h.elim) (fun q h => h.elim) (fun r_13 u_14 t H1 locs ht hvm hw hB hz1 hk1 hS => ?_)
            have hP := ro_keep hP hk1
            generalize H1 = H at hP hS ⊢
            refine W.widen (k := 0) (n := 0) (Nat.le_of_ble_eq_true rfl) (Nat.le_of_ble_eq_true rfl) ?_
            subst hw
            refine lv_if_eq (tgt := 21) hx hb d_W_argumentCount_12 (by decide) (fun c_15 => ?_) (fun c_15 => ?_)
            · skip
              refine lv_iload_n hx hb d_W_argumentCount_21 rfl (lv_at hl 0 rfl) ?_
              refine W.widen (k := 0) (n := 0) (Nat.le_of_ble_eq_true rfl) (Nat.le_of_ble_eq_true rfl) ?_
              exact W.iret (v := 2) hx hb hr (fun t ht hW => ⟨⟨2, (), rfl, by simp [argI, c_5, c_10, c_15], trivial⟩, hS.F ht⟩) hS.2.2 d_W_argumentCount_22
            · skip
              refine lv_iinc (v := 3) (lv' := [(1, .int 3), (0, .int pk)]) hx hb d_W_argumentCount_15 hl (k := 0) rfl (by decide) (by decide) rfl (fun ls hl => ?_)
              refine lv_goto (tgt := 2) hx hb d_W_argumentCount_18 (by decide) ?_
              refine lv_iload_n hx hb d_W_argumentCount_2 rfl (lv_at hl 0 rfl) ?_
              refine lv_iconst (v := 4) hx hb d_W_argumentCount_3 (by decide) ?_
              refine lv_icmp_ge (tgt := 21) hx hb d_W_argumentCount_4 (by decide) (fun c_16 => ?_) (fun c_16 => ?_)
              · skip
                first | exact absurd c_16 (by decide) | exact absurd (by decide) c_16
              · skip
                refine lv_iload_n hx hb d_W_argumentCount_7 rfl (lv_at hl 1 rfl) ?_
                refine lv_iload_n hx hb d_W_argumentCount_8 rfl (lv_at hl 0 rfl) ?_
                have hPc := hP.sub (ws' := []) [] rfl
                have hKc := hK.sub (tys' := []) [] rfl
                refine va_calli (va_runS (As := [.int pk, .int 3]) (rest := []) ⟨hx, hb, hml, hown, hts⟩ (k_W_argumentType l dC dI pk 3) (va_cwS 2 hts (gS hsub w_138 w_139 w_4 w_140) rfl rfl rfl (by decide +kernel) ⟨Nat.le_of_ble_eq_true rfl, Nat.le_of_ble_eq_true rfl⟩) ⟨bl_0000, fun U hU hW => ⟨rfl, by rw [hU]; exact hPc, va_K.moved hW.alike hKc⟩⟩ rfl rfl hl.1 rfl (lv_room (Nat.le_of_ble_eq_true rfl)) d_W_argumentCount_9 ⟨Nat.le_of_ble_eq_true rfl, Nat.le_of_ble_eq_true rfl⟩) hS (fun q _ h => h.elim) (fun q h => h.elim) (fun r_18 u_19 t H1 locs ht hvm hw hB hz1 hk1 hS => ?_)
                have hP := ro_keep hP hk1
                generalize H1 = H at hP hS ⊢
                refine W.widen (k := 0) (n := 0) (Nat.le_of_ble_eq_true rfl) (Nat.le_of_ble_eq_true rfl) ?_
                subst hw
                refine lv_if_eq (tgt := 21) hx hb d_W_argumentCount_12 (by decide) (fun c_20 => ?_) (fun c_20 => ?_)
                · skip
                  refine lv_iload_n hx hb d_W_argumentCount_21 rfl (lv_at hl 0 rfl) ?_
                  refine W.widen (k := 0) (n := 0) (Nat.le_of_ble_eq_true rfl) (Nat.le_of_ble_eq_true rfl) ?_
                  exact W.iret (v := 3) hx hb hr (fun t ht hW => ⟨⟨3, (), rfl, by simp [argI, c_5, c_10, c_15, c_20], trivial⟩, hS.F ht⟩) hS.2.2 d_W_argumentCount_22
                · skip
                  refine lv_iinc (v := 4) (lv' := [(1, .int 4), (0, .int pk)]) hx hb d_W_argumentCount_15 hl (k := 0) rfl (by decide) (by decide) rfl (fun ls hl => ?_)
                  refine lv_goto (tgt := 2) hx hb d_W_argumentCount_18 (by decide) ?_
                  refine lv_iload_n hx hb d_W_argumentCount_2 rfl (lv_at hl 0 rfl) ?_
                  refine lv_iconst (v := 4) hx hb d_W_argumentCount_3 (by decide) ?_
                  refine lv_icmp_ge (tgt := 21) hx hb d_W_argumentCount_4 (by decide) (fun c_21 => ?_) (fun c_21 => ?_)
                  · skip
                    refine lv_iload_n hx hb d_W_argumentCount_21 rfl (lv_at hl 0 rfl) ?_
                    refine W.widen (k := 0) (n := 0) (Nat.le_of_ble_eq_true rfl) (Nat.le_of_ble_eq_true rfl) ?_
                    exact W.iret (v := 4) hx hb hr (fun t ht hW => ⟨⟨4, (), rfl, by simp [argI, c_5, c_10, c_15, c_20], trivial⟩, hS.F ht⟩) hS.2.2 d_W_argumentCount_22
                  · skip
                    first | exact absurd c_21 (by decide) | exact absurd (by decide) c_21

abbrev ws_k_java_util_AbstractCollection_init : va_W := []
set_option maxHeartbeats 4000000 in
set_option maxRecDepth 100000 in
theorem k_java_util_AbstractCollection_init (l : Launch) (dC : Nat → ClassId) (dI : Nat → Nat → Nat) (q : Nat) : Met l y_java_util_AbstractCollection_init (Cond.code y_java_util_AbstractCollection_init prog_34_method_1_code 1 none :: bigW) ({ frames := 1, cells := 0, slots := 0, locals := 12 } : Room) (va_Pc [.ref q] (fun U => va_P (dC, dI) vwCl (ws_k_java_util_AbstractCollection_init) U.heap ∧ va_K (dC, dI) vwCl [] U)) (va_Qv (fun (u : Unit) => True) (fun _ _ => True) (fun _ => False)) 0 0 (fun _ => False) := by
  refine Met.ofW (cc := prog_34_method_1_code) (maxL := 1) (ret := none) (by decide) rfl ?_
  intro p e s m args below meth cx s₁ B hml hv
  obtain ⟨rfl, hP, hK⟩ := hv
  have hx := B.exec
  have hb := B.bytes
  have hr := B.returns
  have hts := atoms_spec (ws := (Cond.code y_java_util_AbstractCollection_init prog_34_method_1_code 1 none :: bigW)) B.pre
  have hsub : ∀ w ∈ bigW, w ∈ (Cond.code y_java_util_AbstractCollection_init prog_34_method_1_code 1 none :: bigW) := fun w h => List.mem_cons_of_mem _ h
  have hown : s.vm.findClass "java/util/AbstractCollection" = some m.cls := findClass_of_methodNamed B.named
  have hlocks := B.notSynchronized
  have hin : meth.name = "<init>" := (name_of_methodNamed B.named B.method).1
  have hS : va_S (fun _ => False) s.heap s.heap [] := va_S.rf
  have hP : va_P (dC, dI) vwCl [] s.heap := hP
  have hl := lv_entry ([.ref q]) (n := 1) (Nat.le_of_ble_eq_true rfl)
  rw [lg_entry_eq]
  generalize (lg_sl ([.ref q]) ++ List.replicate (1 - (lg_sl ([.ref q])).length) Slot.unset).toArray = ls at hl ⊢
  have hl : lv_has ls 1 [(0, .ref q)] := hl
  refine lv_aload_n hx hb d_java_util_AbstractCollection_init_0 rfl (lv_at hl 0 rfl) ?_
  refine W.objInit hx hb hown (hts _ (hsub _ w_141)) (hts _ (hsub _ w_142)) (hts _ (hsub _ w_143)) rfl (by rw [hml]; exact hl.1) rfl d_java_util_AbstractCollection_init_1 (Nat.le_of_ble_eq_true rfl) (Nat.le_of_ble_eq_true rfl) ?_
  refine W.eq (g2 := F0 m 4 ls []) rfl ?_
  refine W.widen (k := 0) (n := 0) (Nat.le_of_ble_eq_true rfl) (Nat.le_of_ble_eq_true rfl) ?_
  exact W.vret hx hb hr (fun t ht hW => ⟨⟨(), rfl, trivial, trivial⟩, hS.F ht⟩) hS.2.2 d_java_util_AbstractCollection_init_4

abbrev ws_k_java_util_AbstractList_init (q : Nat) : va_W := [(q, .inr (7, [.int 0, .null, .int 0]))]
set_option maxHeartbeats 4000000 in
set_option maxRecDepth 100000 in
theorem k_java_util_AbstractList_init (l : Launch) (dC : Nat → ClassId) (dI : Nat → Nat → Nat) (q : Nat) (sz : Nat) : Met l y_java_util_AbstractList_init (Cond.code y_java_util_AbstractList_init prog_35_method_1_code 1 none :: bigW) ({ frames := 2, cells := 0, slots := 0, locals := 32 } : Room) (va_Pc [.ref q] (fun U => U.heap.size = sz ∧ va_P (dC, dI) vwCl (ws_k_java_util_AbstractList_init q) U.heap ∧ va_K (dC, dI) vwCl [] U ∧ va_D (fun _ => True) (ws_k_java_util_AbstractList_init q))) (va_Qv (fun (u : Unit) => True) (fun _ t => va_P (dC, dI) vwCl (ws_k_java_util_AbstractList_init q) t.heap ∧ va_K (dC, dI) vwCl [] t ∧ va_D (va_A (ws_k_java_util_AbstractList_init q) sz) (ws_k_java_util_AbstractList_init q)) (va_A (ws_k_java_util_AbstractList_init q) sz)) 0 0 (va_A (ws_k_java_util_AbstractList_init q) sz) := by
  refine Met.ofW (cc := prog_35_method_1_code) (maxL := 1) (ret := none) (by decide) rfl ?_
  intro p e s m args below meth cx s₁ B hml hv
  obtain ⟨rfl, hsz, hP, hK, hD0⟩ := hv
  have hx := B.exec
  have hb := B.bytes
  have hr := B.returns
  have hts := atoms_spec (ws := (Cond.code y_java_util_AbstractList_init prog_35_method_1_code 1 none :: bigW)) B.pre
  have hsub : ∀ w ∈ bigW, w ∈ (Cond.code y_java_util_AbstractList_init prog_35_method_1_code 1 none :: bigW) := fun w h => List.mem_cons_of_mem _ h
  have hown : s.vm.findClass "java/util/AbstractList" = some m.cls := findClass_of_methodNamed B.named
  have hlocks := B.notSynchronized
  have hin : meth.name = "<init>" := (name_of_methodNamed B.named B.method).1
  subst hsz
  have hD := hD0.self (sz := s.heap.size)
  generalize hAe : va_A (ws_k_java_util_AbstractList_init q) s.heap.size = A at hD ⊢
  have hA : ∀ q : Nat, s.heap.size ≤ q → A q := fun q h => by rw [← hAe]; exact Or.inr h
  have hS : va_S A s.heap s.heap [] := va_S.rf
  have hP : va_P (dC, dI) vwCl [(q, .inr (7, [.int 0, .null, .int 0]))] s.heap := hP
  have hD : va_D A [(q, .inr (7, [.int 0, .null, .int 0]))] := hD
  have hl := lv_entry ([.ref q]) (n := 1) (Nat.le_of_ble_eq_true rfl)
  rw [lg_entry_eq]
  generalize (lg_sl ([.ref q]) ++ List.replicate (1 - (lg_sl ([.ref q])).length) Slot.unset).toArray = ls at hl ⊢
  have hl : lv_has ls 1 [(0, .ref q)] := hl
  refine lv_aload_n hx hb d_java_util_AbstractList_init_0 rfl (lv_at hl 0 rfl) ?_
  have hPc := hP.sub (ws' := []) [] rfl
  have hKc := hK.sub (tys' := []) [] rfl
  refine va_callv (va_runI (As := []) (rest := []) ⟨hx, hb, hml, hown, hts⟩ (k_java_util_AbstractCollection_init l dC dI q) (cwI 0 hts (gC hsub w_145) rfl rfl rfl (hts _ (hsub _ w_146)) (hts _ (hsub _ w_144)) (hts _ (hsub _ w_147)) rfl (by decide +kernel) ⟨Nat.le_of_ble_eq_true rfl, Nat.le_of_ble_eq_true rfl⟩) ⟨bl_0000, fun U hU hW => ⟨rfl, by rw [hU]; exact hPc, va_K.moved hW.alike hKc⟩⟩ rfl rfl hl.1 rfl (lv_room (Nat.le_of_ble_eq_true rfl)) d_java_util_AbstractList_init_1 ⟨Nat.le_of_ble_eq_true rfl, Nat.le_of_ble_eq_true rfl⟩) hS (fun q _ h => h.elim) (fun q h => h.elim) (fun u_3 t H1 locs ht hvm hw hB hz1 hk1 hS => ?_)
  have hP := ro_keep hP hk1
  generalize H1 = H at hP hS ⊢
  refine W.widen (k := 0) (n := 0) (Nat.le_of_ble_eq_true rfl) (Nat.le_of_ble_eq_true rfl) ?_
  refine lv_aload_n hx hb d_java_util_AbstractList_init_4 rfl (lv_at hl 0 rfl) ?_
  refine lv_iconst (v := 0) hx hb d_java_util_AbstractList_init_5 (by decide) ?_
  refine va_put (D := (dC, dI)) (ci := 7) (v := .int 0) (ty := .int) (C := R_A) (T := T_A) (N := 3) hx hb hts (fun w h => hsub w (uw_A w h)) ty_A tok_A nm_A hown hK hP hD hS 0 rfl rfl 0 (by decide) (hts _ (hsub _ w_148)) (fun _ h9 => h9) rfl (by decide +kernel) rfl rfl (Nat.le_of_ble_eq_true rfl) d_java_util_AbstractList_init_6 (fun H locs hP hD hS => ?_)
  have hP : va_P (dC, dI) vwCl [(q, .inr (7, [.int 0, .null, .int 0]))] H := hP
  have hD : va_D A [(q, .inr (7, [.int 0, .null, .int 0]))] := hD
  refine W.widen (k := 0) (n := 0) (Nat.le_of_ble_eq_true rfl) (Nat.le_of_ble_eq_true rfl) ?_
  exact W.vret hx hb hr (fun t ht hW => ⟨⟨(), rfl, trivial, by rw [ht]; exact hP, va_K.moved hW.alike (hK.sub (tys' := []) [] rfl), hD⟩, hS.F ht⟩) hS.2.2 d_java_util_AbstractList_init_9

abbrev ws_k_java_util_ArrayList_init (q : Nat) : va_W := [(q, .inr (7, [.int 0, .null, .int 0]))]
set_option maxHeartbeats 4000000 in
set_option maxRecDepth 100000 in
theorem k_java_util_ArrayList_init (l : Launch) (dC : Nat → ClassId) (dI : Nat → Nat → Nat) (q : Nat) (sz : Nat) : Met l y_java_util_ArrayList_init (Cond.code y_java_util_ArrayList_init prog_36_method_2_code 1 none :: bigW) ({ frames := 3, cells := 0, slots := 0, locals := 52 } : Room) (va_Pc [.ref q] (fun U => U.heap.size = sz ∧ va_P (dC, dI) vwCl (ws_k_java_util_ArrayList_init q) U.heap ∧ va_K (dC, dI) vwCl [] U ∧ va_D (fun _ => True) (ws_k_java_util_ArrayList_init q) ∧ exP (va_A (ws_k_java_util_ArrayList_init q) sz) U)) (va_Qv (fun (u : Unit) => True) (fun _ _ => True) (va_A (ws_k_java_util_ArrayList_init q) sz)) 0 0 (va_A (ws_k_java_util_ArrayList_init q) sz) := by
  refine Met.ofW (cc := prog_36_method_2_code) (maxL := 1) (ret := none) (by decide) rfl ?_
  intro p e s m args below meth cx s₁ B hml hv
  obtain ⟨rfl, hsz, hP, hK, hD0, hex⟩ := hv
  have hx := B.exec
  have hb := B.bytes
  have hr := B.returns
  have hts := atoms_spec (ws := (Cond.code y_java_util_ArrayList_init prog_36_method_2_code 1 none :: bigW)) B.pre
  have hsub : ∀ w ∈ bigW, w ∈ (Cond.code y_java_util_ArrayList_init prog_36_method_2_code 1 none :: bigW) := fun w h => List.mem_cons_of_mem _ h
  have hown : s.vm.findClass "java/util/ArrayList" = some m.cls := findClass_of_methodNamed B.named
  have hlocks := B.notSynchronized
  have hin : meth.name = "<init>" := (name_of_methodNamed B.named B.method).1
  subst hsz
  have hD := hD0.self (sz := s.heap.size)
  generalize hAe : va_A (ws_k_java_util_ArrayList_init q) s.heap.size = A at hD hex ⊢
  have hA : ∀ q : Nat, s.heap.size ≤ q → A q := fun q h => by rw [← hAe]; exact Or.inr h
  have hS : va_S A s.heap s.heap [] := va_S.rf
  have hP : va_P (dC, dI) vwCl [(q, .inr (7, [.int 0, .null, .int 0]))] s.heap := hP
  have hD : va_D A [(q, .inr (7, [.int 0, .null, .int 0]))] := hD
  have hl := lv_entry ([.ref q]) (n := 1) (Nat.le_of_ble_eq_true rfl)
  rw [lg_entry_eq]
  generalize (lg_sl ([.ref q]) ++ List.replicate (1 - (lg_sl ([.ref q])).length) Slot.unset).toArray = ls at hl ⊢
  have hl : lv_has ls 1 [(0, .ref q)] := hl
  have htb := hex.2.2.2.2.2.1
  refine lv_aload_n hx hb d_java_util_ArrayList_init_0 rfl (lv_at hl 0 rfl) ?_
  have hPc := hP.sub (ws' := [(q, .inr (7, [.int 0, .null, .int 0]))]) [0] rfl
  have hKc := hK.sub (tys' := []) [] rfl
  have hDc := hD.sub (ws' := [(q, .inr (7, [.int 0, .null, .int 0]))]) [0] (by decide) rfl
  have hFc := va_free (wc := [(q, .inr (7, [.int 0, .null, .int 0]))]) hD hS hA [0] rfl
  refine va_callv (va_runI (As := []) (rest := []) ⟨hx, hb, hml, hown, hts⟩ (k_java_util_AbstractList_init l dC dI q s.heap.size) (cwI 0 hts (gC hsub w_150) rfl rfl rfl (hts _ (hsub _ w_151)) (hts _ (hsub _ w_149)) (hts _ (hsub _ w_152)) rfl (by decide +kernel) ⟨Nat.le_of_ble_eq_true rfl, Nat.le_of_ble_eq_true rfl⟩) ⟨bl_1000, fun U hU hW => ⟨rfl, by rw [hU], by rw [hU]; exact hPc, va_K.moved hW.alike hKc, hDc.weaken (fun _ _ _ _ => trivial)⟩⟩ rfl rfl hl.1 rfl (lv_room (Nat.le_of_ble_eq_true rfl)) d_java_util_ArrayList_init_1 ⟨Nat.le_of_ble_eq_true rfl, Nat.le_of_ble_eq_true rfl⟩) hS (fun q _ h => hFc q h) hFc (fun u_3 t H1 locs ht hvm hw hB hz1 hk1 hS => ?_)
  obtain ⟨hP1, hK1, hD1⟩ := hB
  rw [ht] at hP1
  have hK1 := va_K.moved hvm.symm hK1
  obtain ⟨hP, hD⟩ := va_join (wr := []) (w1 := [(q, .inr (7, [.int 0, .null, .int 0]))]) hP hD [0] [] rfl rfl (by decide) (by decide) hk1 hFc hP1 hD1
  have hK := (hK.sub (tys' := []) [] rfl).app hK1
  generalize H1 = H at hP hS ⊢
  have hP : va_P (dC, dI) vwCl [(q, .inr (7, [.int 0, .null, .int 0]))] H := hP
  have hD : va_D A [(q, .inr (7, [.int 0, .null, .int 0]))] := hD
  have hK : va_K (dC, dI) vwCl [] s := hK
  refine W.widen (k := 0) (n := 0) (Nat.le_of_ble_eq_true rfl) (Nat.le_of_ble_eq_true rfl) ?_
  refine lv_aload_n hx hb d_java_util_ArrayList_init_4 rfl (lv_at hl 0 rfl) ?_
  obtain ⟨za9, hza⟩ := hex.2.2.2.2.2.2
  refine va_gets (v := .ref za9) hx hb hza hS hown (hts _ (hsub _ w_153)) (fun _ h9 => h9) d_java_util_ArrayList_init_5 ?_
  refine va_put (D := (dC, dI)) (ci := 7) (v := .ref za9) (ty := (.array (.object "java/lang/Object"))) (C := R_A) (T := T_A) (N := 3) hx hb hts (fun w h => hsub w (uw_A w h)) ty_A tok_A nm_A hown hK hP hD hS 0 rfl rfl 1 (by decide) (hts _ (hsub _ w_154)) (fun _ h9 => h9) rfl (by decide +kernel) rfl rfl (Nat.le_of_ble_eq_true rfl) d_java_util_ArrayList_init_8 (fun H locs hP hD hS => ?_)
  have hP : va_P (dC, dI) vwCl [(q, .inr (7, [.int 0, .ref za9, .int 0]))] H := hP
  have hD : va_D A [(q, .inr (7, [.int 0, .ref za9, .int 0]))] := hD
  refine W.widen (k := 0) (n := 0) (Nat.le_of_ble_eq_true rfl) (Nat.le_of_ble_eq_true rfl) ?_
  exact W.vret hx hb hr (fun t ht hW => ⟨⟨(), rfl, trivial, trivial⟩, hS.F ht⟩) hS.2.2 d_java_util_ArrayList_init_11

abbrev ws_k_E_init (q : Nat) : va_W := [(q, .inr (6, [.null, .int 0, .null, .int 0, .int 0, .null, .int 0, .int 0, .int 0, .null, .null, .int 0, .int 0]))]
set_option maxHeartbeats 4000000 in
set_option maxRecDepth 100000 in
theorem k_E_init (l : Launch) (dC : Nat → ClassId) (dI : Nat → Nat → Nat) (q ta : Nat) (rs : Int32) (sz : Nat) : Met l y_E_init (Cond.code y_E_init prog_7_method_1_code 3 none :: bigW) ({ frames := 4, cells := 4, slots := 3, locals := 72 } : Room) (va_Pc [.ref q, .ref ta, .int rs] (fun U => U.heap.size = sz ∧ va_P (dC, dI) vwCl (ws_k_E_init q) U.heap ∧ va_K (dC, dI) vwCl [] U ∧ va_D (fun _ => True) (ws_k_E_init q) ∧ exP (va_A (ws_k_E_init q) sz) U)) (va_Qv (fun (u : Unit) => True) (fun _ t => ∃ (q1 q2 q3 q4 : Nat), va_P (dC, dI) vwCl [(q, .inr (6, [.ref ta, .int rs, .ref q1, .int 0, .int 0, .ref q2, .int 0, .int 0, .int (-1), .ref q3, .ref q4, .int 0, .int 0]))] t.heap ∧ va_K (dC, dI) vwCl [] t ∧ va_D (va_A (ws_k_E_init q) sz) [(q, .inr (6, [.ref ta, .int rs, .ref q1, .int 0, .int 0, .ref q2, .int 0, .int 0, .int (-1), .ref q3, .ref q4, .int 0, .int 0]))]) (va_A (ws_k_E_init q) sz)) 4 3 (va_A (ws_k_E_init q) sz) := by
  refine Met.ofW (cc := prog_7_method_1_code) (maxL := 3) (ret := none) (by decide) rfl ?_
  intro p e s m args below meth cx s₁ B hml hv
  obtain ⟨rfl, hsz, hP, hK, hD0, hex⟩ := hv
  have hx := B.exec
  have hb := B.bytes
  have hr := B.returns
  have hts := atoms_spec (ws := (Cond.code y_E_init prog_7_method_1_code 3 none :: bigW)) B.pre
  have hsub : ∀ w ∈ bigW, w ∈ (Cond.code y_E_init prog_7_method_1_code 3 none :: bigW) := fun w h => List.mem_cons_of_mem _ h
  have hown : s.vm.findClass "MapFramer$Method" = some m.cls := findClass_of_methodNamed B.named
  have hlocks := B.notSynchronized
  have hin : meth.name = "<init>" := (name_of_methodNamed B.named B.method).1
  subst hsz
  have hD := hD0.self (sz := s.heap.size)
  generalize hAe : va_A (ws_k_E_init q) s.heap.size = A at hD hex ⊢
  have hA : ∀ q : Nat, s.heap.size ≤ q → A q := fun q h => by rw [← hAe]; exact Or.inr h
  have hS : va_S A s.heap s.heap [] := va_S.rf
  have hP : va_P (dC, dI) vwCl [(q, .inr (6, [.null, .int 0, .null, .int 0, .int 0, .null, .int 0, .int 0, .int 0, .null, .null, .int 0, .int 0]))] s.heap := hP
  have hD : va_D A [(q, .inr (6, [.null, .int 0, .null, .int 0, .int 0, .null, .int 0, .int 0, .int 0, .null, .null, .int 0, .int 0]))] := hD
  have hl := lv_entry ([.ref q, .ref ta, .int rs]) (n := 3) (Nat.le_of_ble_eq_true rfl)
  rw [lg_entry_eq]
  generalize (lg_sl ([.ref q, .ref ta, .int rs]) ++ List.replicate (3 - (lg_sl ([.ref q, .ref ta, .int rs])).length) Slot.unset).toArray = ls at hl ⊢
  have hl : lv_has ls 3 [(0, .ref q), (1, .ref ta), (2, .int rs)] := hl
  have htb := hex.2.2.2.2.2.1
  refine lv_aload_n hx hb d_E_init_0 rfl (lv_at hl 0 rfl) ?_
  refine W.objInit hx hb hown (hts _ (hsub _ w_155)) (hts _ (hsub _ w_142)) (hts _ (hsub _ w_143)) rfl (by rw [hml]; exact hl.1) rfl d_E_init_1 (Nat.le_of_ble_eq_true rfl) (Nat.le_of_ble_eq_true rfl) ?_
  refine W.eq (g2 := F0 m 4 ls []) rfl ?_
  refine lv_aload_n hx hb d_E_init_4 rfl (lv_at hl 0 rfl) ?_
  refine lv_iconst (v := 0) hx hb d_E_init_5 (by decide) ?_
  refine va_newa (atype := .int) (ty := .int) (N' := 0) (a0 := (0, .inl (fun _ => 0))) hx hb (hts _ (hsub _ w_156)) rfl hK hP hD hS hA (fun _ => vz_i _ _) (by decide) (by decide) (Nat.le_of_ble_eq_true rfl) (Nat.le_of_ble_eq_true rfl) (Nat.le_of_ble_eq_true rfl) d_E_init_6 (fun q_1 k_2 H hK hP hD hS => ?_)
  have hK : va_K (dC, dI) vwCl [(k_2, .int)] s := hK
  have hP : va_P (dC, dI) vwCl [(q, .inr (6, [.null, .int 0, .null, .int 0, .int 0, .null, .int 0, .int 0, .int 0, .null, .null, .int 0, .int 0])), (q_1, .inl (k_2, 0, .inl (fun _ => 0)))] H := hP
  have hD : va_D A [(q, .inr (6, [.null, .int 0, .null, .int 0, .int 0, .null, .int 0, .int 0, .int 0, .null, .null, .int 0, .int 0])), (q_1, .inl (k_2, 0, .inl (fun _ => 0)))] := hD
  refine W.widen (k := 1) (n := 0) (Nat.le_of_ble_eq_true rfl) (Nat.le_of_ble_eq_true rfl) ?_
  refine va_put (D := (dC, dI)) (ci := 6) (v := .ref q_1) (ty := (.array .int)) (C := R_E) (T := T_E) (N := 13) hx hb hts (fun w h => hsub w (uw_E w h)) ty_E tok_E nm_E hown hK hP hD hS 0 rfl rfl 2 (by decide) (hts _ (hsub _ w_157)) (fun _ h9 => h9) rfl (by decide +kernel) rfl rfl (Nat.le_of_ble_eq_true rfl) d_E_init_8 (fun H locs hP hD hS => ?_)
  have hP : va_P (dC, dI) vwCl [(q, .inr (6, [.null, .int 0, .ref q_1, .int 0, .int 0, .null, .int 0, .int 0, .int 0, .null, .null, .int 0, .int 0])), (q_1, .inl (k_2, 0, .inl (fun _ => 0)))] H := hP
  have hD : va_D A [(q, .inr (6, [.null, .int 0, .ref q_1, .int 0, .int 0, .null, .int 0, .int 0, .int 0, .null, .null, .int 0, .int 0])), (q_1, .inl (k_2, 0, .inl (fun _ => 0)))] := hD
  refine lv_aload_n hx hb d_E_init_11 rfl (lv_at hl 0 rfl) ?_
  refine va_new (ci := 7) (fs := [.int 0, .null, .int 0]) (C := R_A) (T := T_A) (N := 3) hx hb hts (fun w h => hsub w (uw_A w h)) ty_A tok_A hown (hts _ (hsub _ w_158)) (hts _ (hsub _ w_159)) (hts _ (hsub _ w_160)) hK hP hD hS hA rfl (fun j hj => df_A j hj) (Nat.le_of_ble_eq_true rfl) (Nat.le_of_ble_eq_true rfl) d_E_init_12 (fun q_3 H hP hD hS => ?_)
  have hP : va_P (dC, dI) vwCl [(q, .inr (6, [.null, .int 0, .ref q_1, .int 0, .int 0, .null, .int 0, .int 0, .int 0, .null, .null, .int 0, .int 0])), (q_1, .inl (k_2, 0, .inl (fun _ => 0))), (q_3, .inr (7, [.int 0, .null, .int 0]))] H := hP
  have hD : va_D A [(q, .inr (6, [.null, .int 0, .ref q_1, .int 0, .int 0, .null, .int 0, .int 0, .int 0, .null, .null, .int 0, .int 0])), (q_1, .inl (k_2, 0, .inl (fun _ => 0))), (q_3, .inr (7, [.int 0, .null, .int 0]))] := hD
  refine W.widen (k := 2) (n := 3) (Nat.le_of_ble_eq_true rfl) (Nat.le_of_ble_eq_true rfl) ?_
  refine lv_dup hx hb d_E_init_15 rfl ?_
  have hPc := hP.sub (ws' := [(q_3, .inr (7, [.int 0, .null, .int 0]))]) [2] rfl
  have hKc := hK.sub (tys' := []) [] rfl
  have hDc := hD.sub (ws' := [(q_3, .inr (7, [.int 0, .null, .int 0]))]) [2] (by decide) rfl
  have hFc := va_free (wc := [(q_3, .inr (7, [.int 0, .null, .int 0]))]) hD hS hA [2] rfl
  refine va_callv (va_runI (As := []) (rest := [.ref q_3, .ref q]) ⟨hx, hb, hml, hown, hts⟩ (k_java_util_ArrayList_init l dC dI q_3 H.size) (cwI 0 hts (gC hsub w_162) rfl rfl rfl (hts _ (hsub _ w_160)) (hts _ (hsub _ w_161)) (hts _ (hsub _ w_163)) rfl (by decide +kernel) ⟨Nat.le_of_ble_eq_true rfl, Nat.le_of_ble_eq_true rfl⟩) ⟨bl_1010, fun U hU hW => ⟨rfl, by rw [hU], by rw [hU]; exact hPc, va_K.moved hW.alike hKc, hDc.weaken (fun _ _ _ _ => trivial), exP_go hex hS (fun q h => hFc q h) U hU hW⟩⟩ rfl rfl hl.1 rfl (lv_room (Nat.le_of_ble_eq_true rfl)) d_E_init_16 ⟨Nat.le_of_ble_eq_true rfl, Nat.le_of_ble_eq_true rfl⟩) hS (fun q _ h => hFc q h) hFc (fun u_6 t H1 locs ht hvm hw hB hz1 hk1 hS => ?_)
  have hP1 : va_P (dC, dI) vwCl [] H1 := nil_P
  have hD1 : va_D (va_A [(q_3, .inr (7, [.int 0, .null, .int 0]))] H.size) [] := nil_D
  have hK1 : va_K (dC, dI) vwCl [] s := hK.sub (tys' := []) [] rfl
  obtain ⟨hP, hD⟩ := va_join (wr := [(q, .inr (6, [.null, .int 0, .ref q_1, .int 0, .int 0, .null, .int 0, .int 0, .int 0, .null, .null, .int 0, .int 0])), (q_1, .inl (k_2, 0, .inl (fun _ => 0)))]) (w1 := []) hP hD [2] [0, 1] rfl rfl (by decide) (by decide) hk1 hFc hP1 hD1
  have hK := (hK.sub (tys' := [(k_2, .int)]) [0] rfl).app hK1
  generalize H1 = H at hP hS ⊢
  have hP : va_P (dC, dI) vwCl [(q, .inr (6, [.null, .int 0, .ref q_1, .int 0, .int 0, .null, .int 0, .int 0, .int 0, .null, .null, .int 0, .int 0])), (q_1, .inl (k_2, 0, .inl (fun _ => 0)))] H := hP
  have hD : va_D A [(q, .inr (6, [.null, .int 0, .ref q_1, .int 0, .int 0, .null, .int 0, .int 0, .int 0, .null, .null, .int 0, .int 0])), (q_1, .inl (k_2, 0, .inl (fun _ => 0)))] := hD
  have hK : va_K (dC, dI) vwCl [(k_2, .int)] s := hK
  refine W.widen (k := 2) (n := 3) (Nat.le_of_ble_eq_true rfl) (Nat.le_of_ble_eq_true rfl) ?_
  refine va_put (D := (dC, dI)) (ci := 6) (v := .ref q_3) (ty := (.object "java/util/ArrayList")) (C := R_E) (T := T_E) (N := 13) hx hb hts (fun w h => hsub w (uw_E w h)) ty_E tok_E nm_E hown hK hP hD hS 0 rfl rfl 5 (by decide) (hts _ (hsub _ w_164)) (fun _ h9 => h9) rfl (by decide +kernel) rfl rfl (Nat.le_of_ble_eq_true rfl) d_E_init_19 (fun H locs hP hD hS => ?_)
  have hP : va_P (dC, dI) vwCl [(q, .inr (6, [.null, .int 0, .ref q_1, .int 0, .int 0, .ref q_3, .int 0, .int 0, .int 0, .null, .null, .int 0, .int 0])), (q_1, .inl (k_2, 0, .inl (fun _ => 0)))] H := hP
  have hD : va_D A [(q, .inr (6, [.null, .int 0, .ref q_1, .int 0, .int 0, .ref q_3, .int 0, .int 0, .int 0, .null, .null, .int 0, .int 0])), (q_1, .inl (k_2, 0, .inl (fun _ => 0)))] := hD
  refine lv_aload_n hx hb d_E_init_22 rfl (lv_at hl 0 rfl) ?_
  refine lv_iconst (v := (-1)) hx hb d_E_init_23 (by decide) ?_
  refine va_put (D := (dC, dI)) (ci := 6) (v := .int (-1)) (ty := .int) (C := R_E) (T := T_E) (N := 13) hx hb hts (fun w h => hsub w (uw_E w h)) ty_E tok_E nm_E hown hK hP hD hS 0 rfl rfl 8 (by decide) (hts _ (hsub _ w_165)) (fun _ h9 => h9) rfl (by decide +kernel) rfl rfl (Nat.le_of_ble_eq_true rfl) d_E_init_24 (fun H locs hP hD hS => ?_)
  have hP : va_P (dC, dI) vwCl [(q, .inr (6, [.null, .int 0, .ref q_1, .int 0, .int 0, .ref q_3, .int 0, .int 0, .int (-1), .null, .null, .int 0, .int 0])), (q_1, .inl (k_2, 0, .inl (fun _ => 0)))] H := hP
  have hD : va_D A [(q, .inr (6, [.null, .int 0, .ref q_1, .int 0, .int 0, .ref q_3, .int 0, .int 0, .int (-1), .null, .null, .int 0, .int 0])), (q_1, .inl (k_2, 0, .inl (fun _ => 0)))] := hD
  refine lv_aload_n hx hb d_E_init_27 rfl (lv_at hl 0 rfl) ?_
  refine lv_iconst (v := 0) hx hb d_E_init_28 (by decide) ?_
  refine va_newq (N' := 0) hx hb hown (hts _ (hsub _ w_166)) htb.2.2.2.2 hK hP hD hS hA (by decide) (by decide) (Nat.le_of_ble_eq_true rfl) (Nat.le_of_ble_eq_true rfl) (Nat.le_of_ble_eq_true rfl) d_E_init_29 (fun q_7 k_8 H hK hP hD hS => ?_)
  have hK : va_K (dC, dI) vwCl [(k_2, .int), (k_8, .object "MapFramer$State")] s := hK
  have hP : va_P (dC, dI) vwCl [(q, .inr (6, [.null, .int 0, .ref q_1, .int 0, .int 0, .ref q_3, .int 0, .int 0, .int (-1), .null, .null, .int 0, .int 0])), (q_1, .inl (k_2, 0, .inl (fun _ => 0))), (q_7, .inl (k_8, 0, .inr (.inr (.inr (.inr (fun _ => none))))))] H := hP
  have hD : va_D A [(q, .inr (6, [.null, .int 0, .ref q_1, .int 0, .int 0, .ref q_3, .int 0, .int 0, .int (-1), .null, .null, .int 0, .int 0])), (q_1, .inl (k_2, 0, .inl (fun _ => 0))), (q_7, .inl (k_8, 0, .inr (.inr (.inr (.inr (fun _ => none))))))] := hD
  refine W.widen (k := 3) (n := 3) (Nat.le_of_ble_eq_true rfl) (Nat.le_of_ble_eq_true rfl) ?_
  refine va_put (D := (dC, dI)) (ci := 6) (v := .ref q_7) (ty := (.array (.object "MapFramer$State"))) (C := R_E) (T := T_E) (N := 13) hx hb hts (fun w h => hsub w (uw_E w h)) ty_E tok_E nm_E hown hK hP hD hS 0 rfl rfl 9 (by decide) (hts _ (hsub _ w_167)) (fun _ h9 => h9) rfl (by decide +kernel) rfl rfl (Nat.le_of_ble_eq_true rfl) d_E_init_32 (fun H locs hP hD hS => ?_)
  have hP : va_P (dC, dI) vwCl [(q, .inr (6, [.null, .int 0, .ref q_1, .int 0, .int 0, .ref q_3, .int 0, .int 0, .int (-1), .ref q_7, .null, .int 0, .int 0])), (q_1, .inl (k_2, 0, .inl (fun _ => 0))), (q_7, .inl (k_8, 0, .inr (.inr (.inr (.inr (fun _ => none))))))] H := hP
  have hD : va_D A [(q, .inr (6, [.null, .int 0, .ref q_1, .int 0, .int 0, .ref q_3, .int 0, .int 0, .int (-1), .ref q_7, .null, .int 0, .int 0])), (q_1, .inl (k_2, 0, .inl (fun _ => 0))), (q_7, .inl (k_8, 0, .inr (.inr (.inr (.inr (fun _ => none))))))] := hD
  refine lv_aload_n hx hb d_E_init_35 rfl (lv_at hl 0 rfl) ?_
  refine lv_iconst (v := 0) hx hb d_E_init_36 (by decide) ?_
  refine va_newa (atype := .int) (ty := .int) (N' := 0) (a0 := (0, .inl (fun _ => 0))) hx hb (hts _ (hsub _ w_156)) rfl hK hP hD hS hA (fun _ => vz_i _ _) (by decide) (by decide) (Nat.le_of_ble_eq_true rfl) (Nat.le_of_ble_eq_true rfl) (Nat.le_of_ble_eq_true rfl) d_E_init_37 (fun q_9 k_10 H hK hP hD hS => ?_)
  have hK : va_K (dC, dI) vwCl [(k_2, .int), (k_8, .object "MapFramer$State"), (k_10, .int)] s := hK
  have hP : va_P (dC, dI) vwCl [(q, .inr (6, [.null, .int 0, .ref q_1, .int 0, .int 0, .ref q_3, .int 0, .int 0, .int (-1), .ref q_7, .null, .int 0, .int 0])), (q_1, .inl (k_2, 0, .inl (fun _ => 0))), (q_7, .inl (k_8, 0, .inr (.inr (.inr (.inr (fun _ => none)))))), (q_9, .inl (k_10, 0, .inl (fun _ => 0)))] H := hP
  have hD : va_D A [(q, .inr (6, [.null, .int 0, .ref q_1, .int 0, .int 0, .ref q_3, .int 0, .int 0, .int (-1), .ref q_7, .null, .int 0, .int 0])), (q_1, .inl (k_2, 0, .inl (fun _ => 0))), (q_7, .inl (k_8, 0, .inr (.inr (.inr (.inr (fun _ => none)))))), (q_9, .inl (k_10, 0, .inl (fun _ => 0)))] := hD
  refine W.widen (k := 4) (n := 3) (Nat.le_of_ble_eq_true rfl) (Nat.le_of_ble_eq_true rfl) ?_
  refine va_put (D := (dC, dI)) (ci := 6) (v := .ref q_9) (ty := (.array .int)) (C := R_E) (T := T_E) (N := 13) hx hb hts (fun w h => hsub w (uw_E w h)) ty_E tok_E nm_E hown hK hP hD hS 0 rfl rfl 10 (by decide) (hts _ (hsub _ w_168)) (fun _ h9 => h9) rfl (by decide +kernel) rfl rfl (Nat.le_of_ble_eq_true rfl) d_E_init_39 (fun H locs hP hD hS => ?_)
  have hP : va_P (dC, dI) vwCl [(q, .inr (6, [.null, .int 0, .ref q_1, .int 0, .int 0, .ref q_3, .int 0, .int 0, .int (-1), .ref q_7, .ref q_9, .int 0, .int 0])), (q_1, .inl (k_2, 0, .inl (fun _ => 0))), (q_7, .inl (k_8, 0, .inr (.inr (.inr (.inr (fun _ => none)))))), (q_9, .inl (k_10, 0, .inl (fun _ => 0)))] H := hP
  have hD : va_D A [(q, .inr (6, [.null, .int 0, .ref q_1, .int 0, .int 0, .ref q_3, .int 0, .int 0, .int (-1), .ref q_7, .ref q_9, .int 0, .int 0])), (q_1, .inl (k_2, 0, .inl (fun _ => 0))), (q_7, .inl (k_8, 0, .inr (.inr (.inr (.inr (fun _ => none)))))), (q_9, .inl (k_10, 0, .inl (fun _ => 0)))] := hD
  refine lv_aload_n hx hb d_E_init_42 rfl (lv_at hl 0 rfl) ?_
  refine lv_aload_n hx hb d_E_init_43 rfl (lv_at hl 1 rfl) ?_
  refine va_putF (D := (dC, dI)) (ci := 6) (v := .ref ta) (ty := (.array .int)) (C := R_E) (T := T_E) (N := 13) hx hb hts (fun w h => hsub w (uw_E w h)) ty_E tok_E nm_E hown hK hP hD hS 0 rfl rfl 0 (by decide) (hts _ (hsub _ w_169)) (fun _ h9 => h9) rfl hin rfl (by decide +kernel) rfl rfl (Nat.le_of_ble_eq_true rfl) d_E_init_44 (fun H locs hP hD hS => ?_)
  have hP : va_P (dC, dI) vwCl [(q, .inr (6, [.ref ta, .int 0, .ref q_1, .int 0, .int 0, .ref q_3, .int 0, .int 0, .int (-1), .ref q_7, .ref q_9, .int 0, .int 0])), (q_1, .inl (k_2, 0, .inl (fun _ => 0))), (q_7, .inl (k_8, 0, .inr (.inr (.inr (.inr (fun _ => none)))))), (q_9, .inl (k_10, 0, .inl (fun _ => 0)))] H := hP
  have hD : va_D A [(q, .inr (6, [.ref ta, .int 0, .ref q_1, .int 0, .int 0, .ref q_3, .int 0, .int 0, .int (-1), .ref q_7, .ref q_9, .int 0, .int 0])), (q_1, .inl (k_2, 0, .inl (fun _ => 0))), (q_7, .inl (k_8, 0, .inr (.inr (.inr (.inr (fun _ => none)))))), (q_9, .inl (k_10, 0, .inl (fun _ => 0)))] := hD
  refine lv_aload_n hx hb d_E_init_47 rfl (lv_at hl 0 rfl) ?_
  refine lv_iload_n hx hb d_E_init_48 rfl (lv_at hl 2 rfl) ?_
  refine va_putF (D := (dC, dI)) (ci := 6) (v := .int rs) (ty := .int) (C := R_E) (T := T_E) (N := 13) hx hb hts (fun w h => hsub w (uw_E w h)) ty_E tok_E nm_E hown hK hP hD hS 0 rfl rfl 1 (by decide) (hts _ (hsub _ w_170)) (fun _ h9 => h9) rfl hin rfl (by decide +kernel) rfl rfl (Nat.le_of_ble_eq_true rfl) d_E_init_49 (fun H locs hP hD hS => ?_)
  have hP : va_P (dC, dI) vwCl [(q, .inr (6, [.ref ta, .int rs, .ref q_1, .int 0, .int 0, .ref q_3, .int 0, .int 0, .int (-1), .ref q_7, .ref q_9, .int 0, .int 0])), (q_1, .inl (k_2, 0, .inl (fun _ => 0))), (q_7, .inl (k_8, 0, .inr (.inr (.inr (.inr (fun _ => none)))))), (q_9, .inl (k_10, 0, .inl (fun _ => 0)))] H := hP
  have hD : va_D A [(q, .inr (6, [.ref ta, .int rs, .ref q_1, .int 0, .int 0, .ref q_3, .int 0, .int 0, .int (-1), .ref q_7, .ref q_9, .int 0, .int 0])), (q_1, .inl (k_2, 0, .inl (fun _ => 0))), (q_7, .inl (k_8, 0, .inr (.inr (.inr (.inr (fun _ => none)))))), (q_9, .inl (k_10, 0, .inl (fun _ => 0)))] := hD
  refine W.widen (k := 4) (n := 3) (Nat.le_of_ble_eq_true rfl) (Nat.le_of_ble_eq_true rfl) ?_
  exact W.vret hx hb hr (fun t ht hW => ⟨⟨(), rfl, trivial, q_1, q_3, q_7, q_9, by rw [ht]; exact hP.sub [0] rfl, va_K.moved hW.alike (hK.sub (tys' := []) [] rfl), hD.sub [0] (by decide) rfl⟩, hS.F ht⟩) hS.2.2 d_E_init_52

abbrev ws_k_W_addMethod (w wp wu wi wc wt wx wm : Nat) (km : ClassId) (fm : Nat → Option Nat) : va_W := [(w, .inr (3, [.ref wp, .ref wu, .ref wi, .int 2, .ref wc, .ref wt, .ref wx, .int 0, .ref wm, .int 0])), (wm, .inl (km, 8, .inr (.inr (.inr (.inr fm)))))]
set_option maxHeartbeats 4000000 in
set_option maxRecDepth 100000 in
theorem k_W_addMethod (l : Launch) (dC : Nat → ClassId) (dI : Nat → Nat → Nat) (w wp wu wi wc wt wx wm : Nat) (km : ClassId) (fm : Nat → Option Nat) (pk rs : Int32) (sz : Nat) : Met l y_W_addMethod (Cond.code y_W_addMethod prog_12_method_4_code 5 (some .int) :: bigW) ({ frames := 5, cells := 6, slots := 20, locals := 94 } : Room) (va_Pc [.ref w, .int pk, .int rs] (fun U => U.heap.size = sz ∧ va_P (dC, dI) vwCl (ws_k_W_addMethod w wp wu wi wc wt wx wm km fm) U.heap ∧ va_K (dC, dI) vwCl [(km, .object "MapFramer$Method")] U ∧ va_D (fun _ => True) (ws_k_W_addMethod w wp wu wi wc wt wx wm km fm) ∧ exP (va_A (ws_k_W_addMethod w wp wu wi wc wt wx wm km fm) sz) U)) (va_Qi (fun (r : Int32) (u : Unit) => r = 0) (fun _ _ => True) (va_A (ws_k_W_addMethod w wp wu wi wc wt wx wm km fm) sz)) 6 20 (va_A (ws_k_W_addMethod w wp wu wi wc wt wx wm km fm) sz) := by
  refine Met.ofW (cc := prog_12_method_4_code) (maxL := 5) (ret := (some .int)) (by decide) rfl ?_
  intro p e s m args below meth cx s₁ B hml hv
  obtain ⟨rfl, hsz, hP, hK, hD0, hex⟩ := hv
  have hx := B.exec
  have hb := B.bytes
  have hr := B.returns
  have hts := atoms_spec (ws := (Cond.code y_W_addMethod prog_12_method_4_code 5 (some .int) :: bigW)) B.pre
  have hsub : ∀ w ∈ bigW, w ∈ (Cond.code y_W_addMethod prog_12_method_4_code 5 (some .int) :: bigW) := fun w h => List.mem_cons_of_mem _ h
  have hown : s.vm.findClass "MapFramer$World" = some m.cls := findClass_of_methodNamed B.named
  have hlocks := B.notSynchronized
  subst hsz
  have hD := hD0.self (sz := s.heap.size)
  generalize hAe : va_A (ws_k_W_addMethod w wp wu wi wc wt wx wm km fm) s.heap.size = A at hD hex ⊢
  have hA : ∀ q : Nat, s.heap.size ≤ q → A q := fun q h => by rw [← hAe]; exact Or.inr h
  have hS : va_S A s.heap s.heap [] := va_S.rf
  have hP : va_P (dC, dI) vwCl [(w, .inr (3, [.ref wp, .ref wu, .ref wi, .int 2, .ref wc, .ref wt, .ref wx, .int 0, .ref wm, .int 0])), (wm, .inl (km, 8, .inr (.inr (.inr (.inr fm)))))] s.heap := hP
  have hD : va_D A [(w, .inr (3, [.ref wp, .ref wu, .ref wi, .int 2, .ref wc, .ref wt, .ref wx, .int 0, .ref wm, .int 0])), (wm, .inl (km, 8, .inr (.inr (.inr (.inr fm)))))] := hD
  have hl := lv_entry ([.ref w, .int pk, .int rs]) (n := 5) (Nat.le_of_ble_eq_true rfl)
  rw [lg_entry_eq]
  generalize (lg_sl ([.ref w, .int pk, .int rs]) ++ List.replicate (5 - (lg_sl ([.ref w, .int pk, .int rs])).length) Slot.unset).toArray = ls at hl ⊢
  have hl : lv_has ls 5 [(0, .ref w), (1, .int pk), (2, .int rs)] := hl
  have htb := hex.2.2.2.2.2.1
  refine lv_iload_n hx hb d_W_addMethod_0 rfl (lv_at hl 1 rfl) ?_
  have hPc := hP.sub (ws' := []) [] rfl
  have hKc := hK.sub (tys' := []) [] rfl
  refine va_calli (va_runS (As := [.int pk]) (rest := []) ⟨hx, hb, hml, hown, hts⟩ (k_W_argumentCount l dC dI pk) (va_cwS 1 hts (gS hsub w_171 w_172 w_4 w_173) rfl rfl rfl (by decide +kernel) ⟨Nat.le_of_ble_eq_true rfl, Nat.le_of_ble_eq_true rfl⟩) ⟨bl_0000, fun U hU hW => ⟨rfl, by rw [hU]; exact hPc, va_K.moved hW.alike hKc⟩⟩ rfl rfl hl.1 rfl (lv_room (Nat.le_of_ble_eq_true rfl)) d_W_addMethod_1 ⟨Nat.le_of_ble_eq_true rfl, Nat.le_of_ble_eq_true rfl⟩) hS (fun q _ h => h.elim) (fun q h => h.elim) (fun r_2 u_3 t H1 locs ht hvm hw hB hz1 hk1 hS => ?_)
  have hP := ro_keep hP hk1
  generalize H1 = H at hP hS ⊢
  refine W.widen (k := 0) (n := 0) (Nat.le_of_ble_eq_true rfl) (Nat.le_of_ble_eq_true rfl) ?_
  rcases argI_cases pk with ⟨hn, g0⟩ | ⟨hn, g0, g1⟩ | ⟨hn, g0, g1, g2⟩ | ⟨hn, g0, g1, g2, g3⟩ | ⟨hn, g0, g1, g2, g3⟩
  · obtain rfl : r_2 = 0 := hw.trans hn
    refine va_newa (atype := .int) (ty := .int) (N' := 0) (a0 := (0, .inl (fun _ => 0))) hx hb (hts _ (hsub _ w_156)) rfl hK hP hD hS hA (fun _ => vz_i _ _) (by decide) (by decide) (Nat.le_of_ble_eq_true rfl) (Nat.le_of_ble_eq_true rfl) (Nat.le_of_ble_eq_true rfl) d_W_addMethod_4 (fun q_4 k_5 H hK hP hD hS => ?_)
    have hK : va_K (dC, dI) vwCl [(km, .object "MapFramer$Method"), (k_5, .int)] s := hK
    have hP : va_P (dC, dI) vwCl [(w, .inr (3, [.ref wp, .ref wu, .ref wi, .int 2, .ref wc, .ref wt, .ref wx, .int 0, .ref wm, .int 0])), (wm, .inl (km, 8, .inr (.inr (.inr (.inr fm))))), (q_4, .inl (k_5, 0, .inl (fun _ => 0)))] H := hP
    have hD : va_D A [(w, .inr (3, [.ref wp, .ref wu, .ref wi, .int 2, .ref wc, .ref wt, .ref wx, .int 0, .ref wm, .int 0])), (wm, .inl (km, 8, .inr (.inr (.inr (.inr fm))))), (q_4, .inl (k_5, 0, .inl (fun _ => 0)))] := hD
    refine W.widen (k := 1) (n := 0) (Nat.le_of_ble_eq_true rfl) (Nat.le_of_ble_eq_true rfl) ?_
    refine lv_astore_n (lv' := [(3, .ref q_4), (0, .ref w), (1, .int pk), (2, .int rs)]) hx hb d_W_addMethod_6 rfl hl (by decide) rfl (fun ls hl => ?_)
    refine lv_iconst (v := 0) hx hb d_W_addMethod_7 (by decide) ?_
    refine lv_istore (lv' := [(4, .int 0), (3, .ref q_4), (0, .ref w), (1, .int pk), (2, .int rs)]) hx hb d_W_addMethod_8 hl (by decide) rfl (fun ls hl => ?_)
    refine lv_iload hx hb d_W_addMethod_10 (lv_at hl 0 rfl) ?_
    refine lv_aload_n hx hb d_W_addMethod_12 rfl (lv_at hl 1 rfl) ?_
    refine va_alen (v := 0) hx hb hK hP 2 1 rfl rfl rfl d_W_addMethod_13 ?_
    refine lv_icmp_ge (tgt := 33) hx hb d_W_addMethod_14 (by decide) (fun c_6 => ?_) (fun c_6 => ?_)
    · skip
      refine lv_aload_n hx hb d_W_addMethod_33 rfl (lv_at hl 2 rfl) ?_
      refine va_get (D := (dC, dI)) (ci := 3) (v := .ref wm) (C := R_W) (T := T_W) (N := 10) hx hb hts (fun w h => hsub w (uw_W w h)) hown hK hP 0 rfl rfl 8 (by decide) (hts _ (hsub _ w_174)) (fun _ h9 => h9) rfl d_W_addMethod_34 ?_
      refine lv_aload_n hx hb d_W_addMethod_37 rfl (lv_at hl 2 rfl) ?_
      refine va_get (D := (dC, dI)) (ci := 3) (v := .int 0) (C := R_W) (T := T_W) (N := 10) hx hb hts (fun w h => hsub w (uw_W w h)) hown hK hP 0 rfl rfl 9 (by decide) (hts _ (hsub _ w_7)) (fun _ h9 => h9) rfl d_W_addMethod_38 ?_
      refine va_new (ci := 6) (fs := [.null, .int 0, .null, .int 0, .int 0, .null, .int 0, .int 0, .int 0, .null, .null, .int 0, .int 0]) (C := R_E) (T := T_E) (N := 13) hx hb hts (fun w h => hsub w (uw_E w h)) ty_E tok_E hown (hts _ (hsub _ w_175)) (hts _ (hsub _ w_176)) (hts _ (hsub _ w_177)) hK hP hD hS hA rfl (fun j hj => df_E j hj) (Nat.le_of_ble_eq_true rfl) (Nat.le_of_ble_eq_true rfl) d_W_addMethod_41 (fun q_7 H hP hD hS => ?_)
      have hP : va_P (dC, dI) vwCl [(w, .inr (3, [.ref wp, .ref wu, .ref wi, .int 2, .ref wc, .ref wt, .ref wx, .int 0, .ref wm, .int 0])), (wm, .inl (km, 8, .inr (.inr (.inr (.inr fm))))), (q_4, .inl (k_5, 0, .inl (fun _ => 0))), (q_7, .inr (6, [.null, .int 0, .null, .int 0, .int 0, .null, .int 0, .int 0, .int 0, .null, .null, .int 0, .int 0]))] H := hP
      have hD : va_D A [(w, .inr (3, [.ref wp, .ref wu, .ref wi, .int 2, .ref wc, .ref wt, .ref wx, .int 0, .ref wm, .int 0])), (wm, .inl (km, 8, .inr (.inr (.inr (.inr fm))))), (q_4, .inl (k_5, 0, .inl (fun _ => 0))), (q_7, .inr (6, [.null, .int 0, .null, .int 0, .int 0, .null, .int 0, .int 0, .int 0, .null, .null, .int 0, .int 0]))] := hD
      refine W.widen (k := 2) (n := 13) (Nat.le_of_ble_eq_true rfl) (Nat.le_of_ble_eq_true rfl) ?_
      refine lv_dup hx hb d_W_addMethod_44 rfl ?_
      refine lv_aload_n hx hb d_W_addMethod_45 rfl (lv_at hl 1 rfl) ?_
      refine lv_iload_n hx hb d_W_addMethod_46 rfl (lv_at hl 4 rfl) ?_
      have hPc := hP.sub (ws' := [(q_7, .inr (6, [.null, .int 0, .null, .int 0, .int 0, .null, .int 0, .int 0, .int 0, .null, .null, .int 0, .int 0]))]) [3] rfl
      have hKc := hK.sub (tys' := []) [] rfl
      have hDc := hD.sub (ws' := [(q_7, .inr (6, [.null, .int 0, .null, .int 0, .int 0, .null, .int 0, .int 0, .int 0, .null, .null, .int 0, .int 0]))]) [3] (by decide) rfl
      have hFc := va_free (wc := [(q_7, .inr (6, [.null, .int 0, .null, .int 0, .int 0, .null, .int 0, .int 0, .int 0, .null, .null, .int 0, .int 0]))]) hD hS hA [3] rfl
      refine va_callv (va_runI (As := [.ref q_4, .int rs]) (rest := [.ref q_7, .int 0, .ref wm]) ⟨hx, hb, hml, hown, hts⟩ (k_E_init l dC dI q_7 q_4 rs H.size) (cwI 2 hts (gC hsub w_179) rfl rfl rfl (hts _ (hsub _ w_177)) (hts _ (hsub _ w_178)) (hts _ (hsub _ w_180)) rfl (by decide +kernel) ⟨Nat.le_of_ble_eq_true rfl, Nat.le_of_ble_eq_true rfl⟩) ⟨bl_1010, fun U hU hW => ⟨rfl, by rw [hU], by rw [hU]; exact hPc, va_K.moved hW.alike hKc, hDc.weaken (fun _ _ _ _ => trivial), exP_go hex hS (fun q h => hFc q h) U hU hW⟩⟩ rfl rfl hl.1 rfl (lv_room (Nat.le_of_ble_eq_true rfl)) d_W_addMethod_47 ⟨Nat.le_of_ble_eq_true rfl, Nat.le_of_ble_eq_true rfl⟩) hS (fun q _ h => hFc q h) hFc (fun u_10 t H1 locs ht hvm hw hB hz1 hk1 hS => ?_)
      obtain ⟨q_11, q_12, q_13, q_14, hP1, hK1, hD1⟩ := hB
      rw [ht] at hP1
      have hK1 := va_K.moved hvm.symm hK1
      obtain ⟨hP, hD⟩ := va_join (wr := [(w, .inr (3, [.ref wp, .ref wu, .ref wi, .int 2, .ref wc, .ref wt, .ref wx, .int 0, .ref wm, .int 0])), (wm, .inl (km, 8, .inr (.inr (.inr (.inr fm))))), (q_4, .inl (k_5, 0, .inl (fun _ => 0)))]) (w1 := [(q_7, .inr (6, [.ref q_4, .int rs, .ref q_11, .int 0, .int 0, .ref q_12, .int 0, .int 0, .int (-1), .ref q_13, .ref q_14, .int 0, .int 0]))]) hP hD [3] [0, 1, 2] rfl rfl (by decide) (by decide) hk1 hFc hP1 hD1
      have hK := (hK.sub (tys' := [(km, .object "MapFramer$Method"), (k_5, .int)]) [0, 1] rfl).app hK1
      generalize H1 = H at hP hS ⊢
      have hP : va_P (dC, dI) vwCl [(w, .inr (3, [.ref wp, .ref wu, .ref wi, .int 2, .ref wc, .ref wt, .ref wx, .int 0, .ref wm, .int 0])), (wm, .inl (km, 8, .inr (.inr (.inr (.inr fm))))), (q_4, .inl (k_5, 0, .inl (fun _ => 0))), (q_7, .inr (6, [.ref q_4, .int rs, .ref q_11, .int 0, .int 0, .ref q_12, .int 0, .int 0, .int (-1), .ref q_13, .ref q_14, .int 0, .int 0]))] H := hP
      have hD : va_D A [(w, .inr (3, [.ref wp, .ref wu, .ref wi, .int 2, .ref wc, .ref wt, .ref wx, .int 0, .ref wm, .int 0])), (wm, .inl (km, 8, .inr (.inr (.inr (.inr fm))))), (q_4, .inl (k_5, 0, .inl (fun _ => 0))), (q_7, .inr (6, [.ref q_4, .int rs, .ref q_11, .int 0, .int 0, .ref q_12, .int 0, .int 0, .int (-1), .ref q_13, .ref q_14, .int 0, .int 0]))] := hD
      have hK : va_K (dC, dI) vwCl [(km, .object "MapFramer$Method"), (k_5, .int)] s := hK
      refine W.widen (k := 6) (n := 16) (Nat.le_of_ble_eq_true rfl) (Nat.le_of_ble_eq_true rfl) ?_
      refine va_astq (r := (R_E, T_E, 13)) hx hb hK hP hD hS 1 0 3 6 rfl rfl rfl rfl (vp_in_iff.mpr (by decide)) d_W_addMethod_50 (fun H locs hP hD hS => ?_)
      have hP : va_P (dC, dI) vwCl [(w, .inr (3, [.ref wp, .ref wu, .ref wi, .int 2, .ref wc, .ref wt, .ref wx, .int 0, .ref wm, .int 0])), (wm, .inl (km, 8, .inr (.inr (.inr (.inr (va_up fm (0 : Int32).toNatClampNeg (some q_7))))))), (q_4, .inl (k_5, 0, .inl (fun _ => 0))), (q_7, .inr (6, [.ref q_4, .int rs, .ref q_11, .int 0, .int 0, .ref q_12, .int 0, .int 0, .int (-1), .ref q_13, .ref q_14, .int 0, .int 0]))] H := hP
      have hD : va_D A [(w, .inr (3, [.ref wp, .ref wu, .ref wi, .int 2, .ref wc, .ref wt, .ref wx, .int 0, .ref wm, .int 0])), (wm, .inl (km, 8, .inr (.inr (.inr (.inr (va_up fm (0 : Int32).toNatClampNeg (some q_7))))))), (q_4, .inl (k_5, 0, .inl (fun _ => 0))), (q_7, .inr (6, [.ref q_4, .int rs, .ref q_11, .int 0, .int 0, .ref q_12, .int 0, .int 0, .int (-1), .ref q_13, .ref q_14, .int 0, .int 0]))] := hD
      refine lv_aload_n hx hb d_W_addMethod_51 rfl (lv_at hl 2 rfl) ?_
      refine lv_dup hx hb d_W_addMethod_52 rfl ?_
      refine va_get (D := (dC, dI)) (ci := 3) (v := .int 0) (C := R_W) (T := T_W) (N := 10) hx hb hts (fun w h => hsub w (uw_W w h)) hown hK hP 0 rfl rfl 9 (by decide) (hts _ (hsub _ w_7)) (fun _ h9 => h9) rfl d_W_addMethod_53 ?_
      refine lv_iconst (v := 1) hx hb d_W_addMethod_56 (by decide) ?_
      refine lv_iadd hx hb d_W_addMethod_57 ?_
      refine tp_i 1 (by decide) ?_
      refine va_put (D := (dC, dI)) (ci := 3) (v := .int 1) (ty := .int) (C := R_W) (T := T_W) (N := 10) hx hb hts (fun w h => hsub w (uw_W w h)) ty_W tok_W nm_W hown hK hP hD hS 0 rfl rfl 9 (by decide) (hts _ (hsub _ w_7)) (fun _ h9 => h9) rfl (by decide +kernel) rfl rfl (Nat.le_of_ble_eq_true rfl) d_W_addMethod_58 (fun H locs hP hD hS => ?_)
      have hP : va_P (dC, dI) vwCl [(w, .inr (3, [.ref wp, .ref wu, .ref wi, .int 2, .ref wc, .ref wt, .ref wx, .int 0, .ref wm, .int 1])), (wm, .inl (km, 8, .inr (.inr (.inr (.inr (va_up fm (0 : Int32).toNatClampNeg (some q_7))))))), (q_4, .inl (k_5, 0, .inl (fun _ => 0))), (q_7, .inr (6, [.ref q_4, .int rs, .ref q_11, .int 0, .int 0, .ref q_12, .int 0, .int 0, .int (-1), .ref q_13, .ref q_14, .int 0, .int 0]))] H := hP
      have hD : va_D A [(w, .inr (3, [.ref wp, .ref wu, .ref wi, .int 2, .ref wc, .ref wt, .ref wx, .int 0, .ref wm, .int 1])), (wm, .inl (km, 8, .inr (.inr (.inr (.inr (va_up fm (0 : Int32).toNatClampNeg (some q_7))))))), (q_4, .inl (k_5, 0, .inl (fun _ => 0))), (q_7, .inr (6, [.ref q_4, .int rs, .ref q_11, .int 0, .int 0, .ref q_12, .int 0, .int 0, .int (-1), .ref q_13, .ref q_14, .int 0, .int 0]))] := hD
      refine lv_aload_n hx hb d_W_addMethod_61 rfl (lv_at hl 2 rfl) ?_
      refine va_get (D := (dC, dI)) (ci := 3) (v := .int 1) (C := R_W) (T := T_W) (N := 10) hx hb hts (fun w h => hsub w (uw_W w h)) hown hK hP 0 rfl rfl 9 (by decide) (hts _ (hsub _ w_7)) (fun _ h9 => h9) rfl d_W_addMethod_62 ?_
      refine lv_iconst (v := 1) hx hb d_W_addMethod_65 (by decide) ?_
      refine lv_isub hx hb d_W_addMethod_66 ?_
      refine tp_i 0 (by decide) ?_
      refine W.widen (k := 6) (n := 20) (Nat.le_of_ble_eq_true rfl) (Nat.le_of_ble_eq_true rfl) ?_
      exact W.iret (v := 0) hx hb hr (fun t ht hW => ⟨⟨0, (), rfl, rfl, trivial⟩, hS.F ht⟩) hS.2.2 d_W_addMethod_67
    · skip
      first | exact absurd c_6 (by decide) | exact absurd (by decide) c_6
  · obtain rfl : r_2 = 1 := hw.trans hn
    refine va_newa (atype := .int) (ty := .int) (N' := 1) (a0 := (1, .inl (fun _ => 0))) hx hb (hts _ (hsub _ w_156)) rfl hK hP hD hS hA (fun _ => vz_i _ _) (by decide) (by decide) (Nat.le_of_ble_eq_true rfl) (Nat.le_of_ble_eq_true rfl) (Nat.le_of_ble_eq_true rfl) d_W_addMethod_4 (fun q_15 k_16 H hK hP hD hS => ?_)
    have hK : va_K (dC, dI) vwCl [(km, .object "MapFramer$Method"), (k_16, .int)] s := hK
    have hP : va_P (dC, dI) vwCl [(w, .inr (3, [.ref wp, .ref wu, .ref wi, .int 2, .ref wc, .ref wt, .ref wx, .int 0, .ref wm, .int 0])), (wm, .inl (km, 8, .inr (.inr (.inr (.inr fm))))), (q_15, .inl (k_16, 1, .inl (fun _ => 0)))] H := hP
    have hD : va_D A [(w, .inr (3, [.ref wp, .ref wu, .ref wi, .int 2, .ref wc, .ref wt, .ref wx, .int 0, .ref wm, .int 0])), (wm, .inl (km, 8, .inr (.inr (.inr (.inr fm))))), (q_15, .inl (k_16, 1, .inl (fun _ => 0)))] := hD
    refine W.widen (k := 1) (n := 1) (Nat.le_of_ble_eq_true rfl) (Nat.le_of_ble_eq_true rfl) ?_
    refine lv_astore_n (lv' := [(3, .ref q_15), (0, .ref w), (1, .int pk), (2, .int rs)]) hx hb d_W_addMethod_6 rfl hl (by decide) rfl (fun ls hl => ?_)
    refine lv_iconst (v := 0) hx hb d_W_addMethod_7 (by decide) ?_
    refine lv_istore (lv' := [(4, .int 0), (3, .ref q_15), (0, .ref w), (1, .int pk), (2, .int rs)]) hx hb d_W_addMethod_8 hl (by decide) rfl (fun ls hl => ?_)
    refine lv_iload hx hb d_W_addMethod_10 (lv_at hl 0 rfl) ?_
    refine lv_aload_n hx hb d_W_addMethod_12 rfl (lv_at hl 1 rfl) ?_
    refine va_alen (v := 1) hx hb hK hP 2 1 rfl rfl rfl d_W_addMethod_13 ?_
    refine lv_icmp_ge (tgt := 33) hx hb d_W_addMethod_14 (by decide) (fun c_17 => ?_) (fun c_17 => ?_)
    · skip
      first | exact absurd c_17 (by decide) | exact absurd (by decide) c_17
    · skip
      refine lv_aload_n hx hb d_W_addMethod_17 rfl (lv_at hl 1 rfl) ?_
      refine lv_iload hx hb d_W_addMethod_18 (lv_at hl 0 rfl) ?_
      refine lv_iload_n hx hb d_W_addMethod_20 rfl (lv_at hl 3 rfl) ?_
      refine lv_iload hx hb d_W_addMethod_21 (lv_at hl 0 rfl) ?_
      have hPc := hP.sub (ws' := []) [] rfl
      have hKc := hK.sub (tys' := []) [] rfl
      refine va_calli (va_runS (As := [.int pk, .int 0]) (rest := [.int 0, .ref q_15]) ⟨hx, hb, hml, hown, hts⟩ (k_W_argumentType l dC dI pk 0) (va_cwS 2 hts (gS hsub w_138 w_139 w_4 w_140) rfl rfl rfl (by decide +kernel) ⟨Nat.le_of_ble_eq_true rfl, Nat.le_of_ble_eq_true rfl⟩) ⟨bl_0000, fun U hU hW => ⟨rfl, by rw [hU]; exact hPc, va_K.moved hW.alike hKc⟩⟩ rfl rfl hl.1 rfl (lv_room (Nat.le_of_ble_eq_true rfl)) d_W_addMethod_23 ⟨Nat.le_of_ble_eq_true rfl, Nat.le_of_ble_eq_true rfl⟩) hS (fun q _ h => h.elim) (fun q h => h.elim) (fun r_19 u_20 t H1 locs ht hvm hw hB hz1 hk1 hS => ?_)
      have hP := ro_keep hP hk1
      generalize H1 = H at hP hS ⊢
      refine W.widen (k := 1) (n := 1) (Nat.le_of_ble_eq_true rfl) (Nat.le_of_ble_eq_true rfl) ?_
      subst hw
      refine va_iast hx hb hK hP hD hS 2 1 rfl rfl (vp_in_iff.mpr (by decide)) d_W_addMethod_26 (fun H locs hP hD hS => ?_)
      have hP : va_P (dC, dI) vwCl [(w, .inr (3, [.ref wp, .ref wu, .ref wi, .int 2, .ref wc, .ref wt, .ref wx, .int 0, .ref wm, .int 0])), (wm, .inl (km, 8, .inr (.inr (.inr (.inr fm))))), (q_15, .inl (k_16, 1, .inl (upd (fun _ => 0) (0 : Int32).toNatClampNeg (argX pk 0))))] H := hP
      have hD : va_D A [(w, .inr (3, [.ref wp, .ref wu, .ref wi, .int 2, .ref wc, .ref wt, .ref wx, .int 0, .ref wm, .int 0])), (wm, .inl (km, 8, .inr (.inr (.inr (.inr fm))))), (q_15, .inl (k_16, 1, .inl (upd (fun _ => 0) (0 : Int32).toNatClampNeg (argX pk 0))))] := hD
      refine lv_iinc (v := 1) (lv' := [(4, .int 1), (3, .ref q_15), (0, .ref w), (1, .int pk), (2, .int rs)]) hx hb d_W_addMethod_27 hl (k := 0) rfl (by decide) (by decide) rfl (fun ls hl => ?_)
      refine lv_goto (tgt := 10) hx hb d_W_addMethod_30 (by decide) ?_
      refine lv_iload hx hb d_W_addMethod_10 (lv_at hl 0 rfl) ?_
      refine lv_aload_n hx hb d_W_addMethod_12 rfl (lv_at hl 1 rfl) ?_
      refine va_alen (v := 1) hx hb hK hP 2 1 rfl rfl rfl d_W_addMethod_13 ?_
      refine lv_icmp_ge (tgt := 33) hx hb d_W_addMethod_14 (by decide) (fun c_21 => ?_) (fun c_21 => ?_)
      · skip
        refine lv_aload_n hx hb d_W_addMethod_33 rfl (lv_at hl 2 rfl) ?_
        refine va_get (D := (dC, dI)) (ci := 3) (v := .ref wm) (C := R_W) (T := T_W) (N := 10) hx hb hts (fun w h => hsub w (uw_W w h)) hown hK hP 0 rfl rfl 8 (by decide) (hts _ (hsub _ w_174)) (fun _ h9 => h9) rfl d_W_addMethod_34 ?_
        refine lv_aload_n hx hb d_W_addMethod_37 rfl (lv_at hl 2 rfl) ?_
        refine va_get (D := (dC, dI)) (ci := 3) (v := .int 0) (C := R_W) (T := T_W) (N := 10) hx hb hts (fun w h => hsub w (uw_W w h)) hown hK hP 0 rfl rfl 9 (by decide) (hts _ (hsub _ w_7)) (fun _ h9 => h9) rfl d_W_addMethod_38 ?_
        refine va_new (ci := 6) (fs := [.null, .int 0, .null, .int 0, .int 0, .null, .int 0, .int 0, .int 0, .null, .null, .int 0, .int 0]) (C := R_E) (T := T_E) (N := 13) hx hb hts (fun w h => hsub w (uw_E w h)) ty_E tok_E hown (hts _ (hsub _ w_175)) (hts _ (hsub _ w_176)) (hts _ (hsub _ w_177)) hK hP hD hS hA rfl (fun j hj => df_E j hj) (Nat.le_of_ble_eq_true rfl) (Nat.le_of_ble_eq_true rfl) d_W_addMethod_41 (fun q_22 H hP hD hS => ?_)
        have hP : va_P (dC, dI) vwCl [(w, .inr (3, [.ref wp, .ref wu, .ref wi, .int 2, .ref wc, .ref wt, .ref wx, .int 0, .ref wm, .int 0])), (wm, .inl (km, 8, .inr (.inr (.inr (.inr fm))))), (q_15, .inl (k_16, 1, .inl (upd (fun _ => 0) (0 : Int32).toNatClampNeg (argX pk 0)))), (q_22, .inr (6, [.null, .int 0, .null, .int 0, .int 0, .null, .int 0, .int 0, .int 0, .null, .null, .int 0, .int 0]))] H := hP
        have hD : va_D A [(w, .inr (3, [.ref wp, .ref wu, .ref wi, .int 2, .ref wc, .ref wt, .ref wx, .int 0, .ref wm, .int 0])), (wm, .inl (km, 8, .inr (.inr (.inr (.inr fm))))), (q_15, .inl (k_16, 1, .inl (upd (fun _ => 0) (0 : Int32).toNatClampNeg (argX pk 0)))), (q_22, .inr (6, [.null, .int 0, .null, .int 0, .int 0, .null, .int 0, .int 0, .int 0, .null, .null, .int 0, .int 0]))] := hD
        refine W.widen (k := 2) (n := 14) (Nat.le_of_ble_eq_true rfl) (Nat.le_of_ble_eq_true rfl) ?_
        refine lv_dup hx hb d_W_addMethod_44 rfl ?_
        refine lv_aload_n hx hb d_W_addMethod_45 rfl (lv_at hl 1 rfl) ?_
        refine lv_iload_n hx hb d_W_addMethod_46 rfl (lv_at hl 4 rfl) ?_
        have hPc := hP.sub (ws' := [(q_22, .inr (6, [.null, .int 0, .null, .int 0, .int 0, .null, .int 0, .int 0, .int 0, .null, .null, .int 0, .int 0]))]) [3] rfl
        have hKc := hK.sub (tys' := []) [] rfl
        have hDc := hD.sub (ws' := [(q_22, .inr (6, [.null, .int 0, .null, .int 0, .int 0, .null, .int 0, .int 0, .int 0, .null, .null, .int 0, .int 0]))]) [3] (by decide) rfl
        have hFc := va_free (wc := [(q_22, .inr (6, [.null, .int 0, .null, .int 0, .int 0, .null, .int 0, .int 0, .int 0, .null, .null, .int 0, .int 0]))]) hD hS hA [3] rfl
        refine va_callv (va_runI (As := [.ref q_15, .int rs]) (rest := [.ref q_22, .int 0, .ref wm]) ⟨hx, hb, hml, hown, hts⟩ (k_E_init l dC dI q_22 q_15 rs H.size) (cwI 2 hts (gC hsub w_179) rfl rfl rfl (hts _ (hsub _ w_177)) (hts _ (hsub _ w_178)) (hts _ (hsub _ w_180)) rfl (by decide +kernel) ⟨Nat.le_of_ble_eq_true rfl, Nat.le_of_ble_eq_true rfl⟩) ⟨bl_1010, fun U hU hW => ⟨rfl, by rw [hU], by rw [hU]; exact hPc, va_K.moved hW.alike hKc, hDc.weaken (fun _ _ _ _ => trivial), exP_go hex hS (fun q h => hFc q h) U hU hW⟩⟩ rfl rfl hl.1 rfl (lv_room (Nat.le_of_ble_eq_true rfl)) d_W_addMethod_47 ⟨Nat.le_of_ble_eq_true rfl, Nat.le_of_ble_eq_true rfl⟩) hS (fun q _ h => hFc q h) hFc (fun u_25 t H1 locs ht hvm hw hB hz1 hk1 hS => ?_)
        obtain ⟨q_26, q_27, q_28, q_29, hP1, hK1, hD1⟩ := hB
        rw [ht] at hP1
        have hK1 := va_K.moved hvm.symm hK1
        obtain ⟨hP, hD⟩ := va_join (wr := [(w, .inr (3, [.ref wp, .ref wu, .ref wi, .int 2, .ref wc, .ref wt, .ref wx, .int 0, .ref wm, .int 0])), (wm, .inl (km, 8, .inr (.inr (.inr (.inr fm))))), (q_15, .inl (k_16, 1, .inl (upd (fun _ => 0) (0 : Int32).toNatClampNeg (argX pk 0))))]) (w1 := [(q_22, .inr (6, [.ref q_15, .int rs, .ref q_26, .int 0, .int 0, .ref q_27, .int 0, .int 0, .int (-1), .ref q_28, .ref q_29, .int 0, .int 0]))]) hP hD [3] [0, 1, 2] rfl rfl (by decide) (by decide) hk1 hFc hP1 hD1
        have hK := (hK.sub (tys' := [(km, .object "MapFramer$Method"), (k_16, .int)]) [0, 1] rfl).app hK1
        generalize H1 = H at hP hS ⊢
        have hP : va_P (dC, dI) vwCl [(w, .inr (3, [.ref wp, .ref wu, .ref wi, .int 2, .ref wc, .ref wt, .ref wx, .int 0, .ref wm, .int 0])), (wm, .inl (km, 8, .inr (.inr (.inr (.inr fm))))), (q_15, .inl (k_16, 1, .inl (upd (fun _ => 0) (0 : Int32).toNatClampNeg (argX pk 0)))), (q_22, .inr (6, [.ref q_15, .int rs, .ref q_26, .int 0, .int 0, .ref q_27, .int 0, .int 0, .int (-1), .ref q_28, .ref q_29, .int 0, .int 0]))] H := hP
        have hD : va_D A [(w, .inr (3, [.ref wp, .ref wu, .ref wi, .int 2, .ref wc, .ref wt, .ref wx, .int 0, .ref wm, .int 0])), (wm, .inl (km, 8, .inr (.inr (.inr (.inr fm))))), (q_15, .inl (k_16, 1, .inl (upd (fun _ => 0) (0 : Int32).toNatClampNeg (argX pk 0)))), (q_22, .inr (6, [.ref q_15, .int rs, .ref q_26, .int 0, .int 0, .ref q_27, .int 0, .int 0, .int (-1), .ref q_28, .ref q_29, .int 0, .int 0]))] := hD
        have hK : va_K (dC, dI) vwCl [(km, .object "MapFramer$Method"), (k_16, .int)] s := hK
        refine W.widen (k := 6) (n := 17) (Nat.le_of_ble_eq_true rfl) (Nat.le_of_ble_eq_true rfl) ?_
        refine va_astq (r := (R_E, T_E, 13)) hx hb hK hP hD hS 1 0 3 6 rfl rfl rfl rfl (vp_in_iff.mpr (by decide)) d_W_addMethod_50 (fun H locs hP hD hS => ?_)
        have hP : va_P (dC, dI) vwCl [(w, .inr (3, [.ref wp, .ref wu, .ref wi, .int 2, .ref wc, .ref wt, .ref wx, .int 0, .ref wm, .int 0])), (wm, .inl (km, 8, .inr (.inr (.inr (.inr (va_up fm (0 : Int32).toNatClampNeg (some q_22))))))), (q_15, .inl (k_16, 1, .inl (upd (fun _ => 0) (0 : Int32).toNatClampNeg (argX pk 0)))), (q_22, .inr (6, [.ref q_15, .int rs, .ref q_26, .int 0, .int 0, .ref q_27, .int 0, .int 0, .int (-1), .ref q_28, .ref q_29, .int 0, .int 0]))] H := hP
        have hD : va_D A [(w, .inr (3, [.ref wp, .ref wu, .ref wi, .int 2, .ref wc, .ref wt, .ref wx, .int 0, .ref wm, .int 0])), (wm, .inl (km, 8, .inr (.inr (.inr (.inr (va_up fm (0 : Int32).toNatClampNeg (some q_22))))))), (q_15, .inl (k_16, 1, .inl (upd (fun _ => 0) (0 : Int32).toNatClampNeg (argX pk 0)))), (q_22, .inr (6, [.ref q_15, .int rs, .ref q_26, .int 0, .int 0, .ref q_27, .int 0, .int 0, .int (-1), .ref q_28, .ref q_29, .int 0, .int 0]))] := hD
        refine lv_aload_n hx hb d_W_addMethod_51 rfl (lv_at hl 2 rfl) ?_
        refine lv_dup hx hb d_W_addMethod_52 rfl ?_
        refine va_get (D := (dC, dI)) (ci := 3) (v := .int 0) (C := R_W) (T := T_W) (N := 10) hx hb hts (fun w h => hsub w (uw_W w h)) hown hK hP 0 rfl rfl 9 (by decide) (hts _ (hsub _ w_7)) (fun _ h9 => h9) rfl d_W_addMethod_53 ?_
        refine lv_iconst (v := 1) hx hb d_W_addMethod_56 (by decide) ?_
        refine lv_iadd hx hb d_W_addMethod_57 ?_
        refine tp_i 1 (by decide) ?_
        refine va_put (D := (dC, dI)) (ci := 3) (v := .int 1) (ty := .int) (C := R_W) (T := T_W) (N := 10) hx hb hts (fun w h => hsub w (uw_W w h)) ty_W tok_W nm_W hown hK hP hD hS 0 rfl rfl 9 (by decide) (hts _ (hsub _ w_7)) (fun _ h9 => h9) rfl (by decide +kernel) rfl rfl (Nat.le_of_ble_eq_true rfl) d_W_addMethod_58 (fun H locs hP hD hS => ?_)
        have hP : va_P (dC, dI) vwCl [(w, .inr (3, [.ref wp, .ref wu, .ref wi, .int 2, .ref wc, .ref wt, .ref wx, .int 0, .ref wm, .int 1])), (wm, .inl (km, 8, .inr (.inr (.inr (.inr (va_up fm (0 : Int32).toNatClampNeg (some q_22))))))), (q_15, .inl (k_16, 1, .inl (upd (fun _ => 0) (0 : Int32).toNatClampNeg (argX pk 0)))), (q_22, .inr (6, [.ref q_15, .int rs, .ref q_26, .int 0, .int 0, .ref q_27, .int 0, .int 0, .int (-1), .ref q_28, .ref q_29, .int 0, .int 0]))] H := hP
        have hD : va_D A [(w, .inr (3, [.ref wp, .ref wu, .ref wi, .int 2, .ref wc, .ref wt, .ref wx, .int 0, .ref wm, .int 1])), (wm, .inl (km, 8, .inr (.inr (.inr (.inr (va_up fm (0 : Int32).toNatClampNeg (some q_22))))))), (q_15, .inl (k_16, 1, .inl (upd (fun _ => 0) (0 : Int32).toNatClampNeg (argX pk 0)))), (q_22, .inr (6, [.ref q_15, .int rs, .ref q_26, .int 0, .int 0, .ref q_27, .int 0, .int 0, .int (-1), .ref q_28, .ref q_29, .int 0, .int 0]))] := hD
        refine lv_aload_n hx hb d_W_addMethod_61 rfl (lv_at hl 2 rfl) ?_
        refine va_get (D := (dC, dI)) (ci := 3) (v := .int 1) (C := R_W) (T := T_W) (N := 10) hx hb hts (fun w h => hsub w (uw_W w h)) hown hK hP 0 rfl rfl 9 (by decide) (hts _ (hsub _ w_7)) (fun _ h9 => h9) rfl d_W_addMethod_62 ?_
        refine lv_iconst (v := 1) hx hb d_W_addMethod_65 (by decide) ?_
        refine lv_isub hx hb d_W_addMethod_66 ?_
        refine tp_i 0 (by decide) ?_
        refine W.widen (k := 6) (n := 20) (Nat.le_of_ble_eq_true rfl) (Nat.le_of_ble_eq_true rfl) ?_
        exact W.iret (v := 0) hx hb hr (fun t ht hW => ⟨⟨0, (), rfl, rfl, trivial⟩, hS.F ht⟩) hS.2.2 d_W_addMethod_67
      · skip
        first | exact absurd c_21 (by decide) | exact absurd (by decide) c_21
  · obtain rfl : r_2 = 2 := hw.trans hn
    refine va_newa (atype := .int) (ty := .int) (N' := 2) (a0 := (2, .inl (fun _ => 0))) hx hb (hts _ (hsub _ w_156)) rfl hK hP hD hS hA (fun _ => vz_i _ _) (by decide) (by decide) (Nat.le_of_ble_eq_true rfl) (Nat.le_of_ble_eq_true rfl) (Nat.le_of_ble_eq_true rfl) d_W_addMethod_4 (fun q_30 k_31 H hK hP hD hS => ?_)
    have hK : va_K (dC, dI) vwCl [(km, .object "MapFramer$Method"), (k_31, .int)] s := hK
    have hP : va_P (dC, dI) vwCl [(w, .inr (3, [.ref wp, .ref wu, .ref wi, .int 2, .ref wc, .ref wt, .ref wx, .int 0, .ref wm, .int 0])), (wm, .inl (km, 8, .inr (.inr (.inr (.inr fm))))), (q_30, .inl (k_31, 2, .inl (fun _ => 0)))] H := hP
    have hD : va_D A [(w, .inr (3, [.ref wp, .ref wu, .ref wi, .int 2, .ref wc, .ref wt, .ref wx, .int 0, .ref wm, .int 0])), (wm, .inl (km, 8, .inr (.inr (.inr (.inr fm))))), (q_30, .inl (k_31, 2, .inl (fun _ => 0)))] := hD
    refine W.widen (k := 1) (n := 2) (Nat.le_of_ble_eq_true rfl) (Nat.le_of_ble_eq_true rfl) ?_
    refine lv_astore_n (lv' := [(3, .ref q_30), (0, .ref w), (1, .int pk), (2, .int rs)]) hx hb d_W_addMethod_6 rfl hl (by decide) rfl (fun ls hl => ?_)
    refine lv_iconst (v := 0) hx hb d_W_addMethod_7 (by decide) ?_
    refine lv_istore (lv' := [(4, .int 0), (3, .ref q_30), (0, .ref w), (1, .int pk), (2, .int rs)]) hx hb d_W_addMethod_8 hl (by decide) rfl (fun ls hl => ?_)
    refine lv_iload hx hb d_W_addMethod_10 (lv_at hl 0 rfl) ?_
    refine lv_aload_n hx hb d_W_addMethod_12 rfl (lv_at hl 1 rfl) ?_
    refine va_alen (v := 2) hx hb hK hP 2 1 rfl rfl rfl d_W_addMethod_13 ?_
    refine lv_icmp_ge (tgt := 33) hx hb d_W_addMethod_14 (by decide) (fun c_32 => ?_) (fun c_32 => ?_)
    · skip
      first | exact absurd c_32 (by decide) | exact absurd (by decide) c_32
    · skip
      refine lv_aload_n hx hb d_W_addMethod_17 rfl (lv_at hl 1 rfl) ?_
      refine lv_iload hx hb d_W_addMethod_18 (lv_at hl 0 rfl) ?_
      refine lv_iload_n hx hb d_W_addMethod_20 rfl (lv_at hl 3 rfl) ?_
      refine lv_iload hx hb d_W_addMethod_21 (lv_at hl 0 rfl) ?_
      have hPc := hP.sub (ws' := []) [] rfl
      have hKc := hK.sub (tys' := []) [] rfl
      refine va_calli (va_runS (As := [.int pk, .int 0]) (rest := [.int 0, .ref q_30]) ⟨hx, hb, hml, hown, hts⟩ (k_W_argumentType l dC dI pk 0) (va_cwS 2 hts (gS hsub w_138 w_139 w_4 w_140) rfl rfl rfl (by decide +kernel) ⟨Nat.le_of_ble_eq_true rfl, Nat.le_of_ble_eq_true rfl⟩) ⟨bl_0000, fun U hU hW => ⟨rfl, by rw [hU]; exact hPc, va_K.moved hW.alike hKc⟩⟩ rfl rfl hl.1 rfl (lv_room (Nat.le_of_ble_eq_true rfl)) d_W_addMethod_23 ⟨Nat.le_of_ble_eq_true rfl, Nat.le_of_ble_eq_true rfl⟩) hS (fun q _ h => h.elim) (fun q h => h.elim) (fun r_34 u_35 t H1 locs ht hvm hw hB hz1 hk1 hS => ?_)
      have hP := ro_keep hP hk1
      generalize H1 = H at hP hS ⊢
      refine W.widen (k := 1) (n := 2) (Nat.le_of_ble_eq_true rfl) (Nat.le_of_ble_eq_true rfl) ?_
      subst hw
      refine va_iast hx hb hK hP hD hS 2 1 rfl rfl (vp_in_iff.mpr (by decide)) d_W_addMethod_26 (fun H locs hP hD hS => ?_)
      have hP : va_P (dC, dI) vwCl [(w, .inr (3, [.ref wp, .ref wu, .ref wi, .int 2, .ref wc, .ref wt, .ref wx, .int 0, .ref wm, .int 0])), (wm, .inl (km, 8, .inr (.inr (.inr (.inr fm))))), (q_30, .inl (k_31, 2, .inl (upd (fun _ => 0) (0 : Int32).toNatClampNeg (argX pk 0))))] H := hP
      have hD : va_D A [(w, .inr (3, [.ref wp, .ref wu, .ref wi, .int 2, .ref wc, .ref wt, .ref wx, .int 0, .ref wm, .int 0])), (wm, .inl (km, 8, .inr (.inr (.inr (.inr fm))))), (q_30, .inl (k_31, 2, .inl (upd (fun _ => 0) (0 : Int32).toNatClampNeg (argX pk 0))))] := hD
      refine lv_iinc (v := 1) (lv' := [(4, .int 1), (3, .ref q_30), (0, .ref w), (1, .int pk), (2, .int rs)]) hx hb d_W_addMethod_27 hl (k := 0) rfl (by decide) (by decide) rfl (fun ls hl => ?_)
      refine lv_goto (tgt := 10) hx hb d_W_addMethod_30 (by decide) ?_
      refine lv_iload hx hb d_W_addMethod_10 (lv_at hl 0 rfl) ?_
      refine lv_aload_n hx hb d_W_addMethod_12 rfl (lv_at hl 1 rfl) ?_
      refine va_alen (v := 2) hx hb hK hP 2 1 rfl rfl rfl d_W_addMethod_13 ?_
      refine lv_icmp_ge (tgt := 33) hx hb d_W_addMethod_14 (by decide) (fun c_36 => ?_) (fun c_36 => ?_)
      · skip
        first | exact absurd c_36 (by decide) | exact absurd (by decide) c_36
      · skip
        refine lv_aload_n hx hb d_W_addMethod_17 rfl (lv_at hl 1 rfl) ?_
        refine lv_iload hx hb d_W_addMethod_18 (lv_at hl 0 rfl) ?_
        refine lv_iload_n hx hb d_W_addMethod_20 rfl (lv_at hl 3 rfl) ?_
        refine lv_iload hx hb d_W_addMethod_21 (lv_at hl 0 rfl) ?_
        have hPc := hP.sub (ws' := []) [] rfl
        have hKc := hK.sub (tys' := []) [] rfl
        refine va_calli (va_runS (As := [.int pk, .int 1]) (rest := [.int 1, .ref q_30]) ⟨hx, hb, hml, hown, hts⟩ (k_W_argumentType l dC dI pk 1) (va_cwS 2 hts (gS hsub w_138 w_139 w_4 w_140) rfl rfl rfl (by decide +kernel) ⟨Nat.le_of_ble_eq_true rfl, Nat.le_of_ble_eq_true rfl⟩) ⟨bl_0000, fun U hU hW => ⟨rfl, by rw [hU]; exact hPc, va_K.moved hW.alike hKc⟩⟩ rfl rfl hl.1 rfl (lv_room (Nat.le_of_ble_eq_true rfl)) d_W_addMethod_23 ⟨Nat.le_of_ble_eq_true rfl, Nat.le_of_ble_eq_true rfl⟩) hS (fun q _ h => h.elim) (fun q h => h.elim) (fun r_38 u_39 t H1 locs ht hvm hw hB hz1 hk1 hS => ?_)
        have hP := ro_keep hP hk1
        generalize H1 = H at hP hS ⊢
        refine W.widen (k := 1) (n := 2) (Nat.le_of_ble_eq_true rfl) (Nat.le_of_ble_eq_true rfl) ?_
        subst hw
        refine va_iast hx hb hK hP hD hS 2 1 rfl rfl (vp_in_iff.mpr (by decide)) d_W_addMethod_26 (fun H locs hP hD hS => ?_)
        have hP : va_P (dC, dI) vwCl [(w, .inr (3, [.ref wp, .ref wu, .ref wi, .int 2, .ref wc, .ref wt, .ref wx, .int 0, .ref wm, .int 0])), (wm, .inl (km, 8, .inr (.inr (.inr (.inr fm))))), (q_30, .inl (k_31, 2, .inl (upd (upd (fun _ => 0) (0 : Int32).toNatClampNeg (argX pk 0)) (1 : Int32).toNatClampNeg (argX pk 1))))] H := hP
        have hD : va_D A [(w, .inr (3, [.ref wp, .ref wu, .ref wi, .int 2, .ref wc, .ref wt, .ref wx, .int 0, .ref wm, .int 0])), (wm, .inl (km, 8, .inr (.inr (.inr (.inr fm))))), (q_30, .inl (k_31, 2, .inl (upd (upd (fun _ => 0) (0 : Int32).toNatClampNeg (argX pk 0)) (1 : Int32).toNatClampNeg (argX pk 1))))] := hD
        refine lv_iinc (v := 2) (lv' := [(4, .int 2), (3, .ref q_30), (0, .ref w), (1, .int pk), (2, .int rs)]) hx hb d_W_addMethod_27 hl (k := 0) rfl (by decide) (by decide) rfl (fun ls hl => ?_)
        refine lv_goto (tgt := 10) hx hb d_W_addMethod_30 (by decide) ?_
        refine lv_iload hx hb d_W_addMethod_10 (lv_at hl 0 rfl) ?_
        refine lv_aload_n hx hb d_W_addMethod_12 rfl (lv_at hl 1 rfl) ?_
        refine va_alen (v := 2) hx hb hK hP 2 1 rfl rfl rfl d_W_addMethod_13 ?_
        refine lv_icmp_ge (tgt := 33) hx hb d_W_addMethod_14 (by decide) (fun c_40 => ?_) (fun c_40 => ?_)
        · skip
          refine lv_aload_n hx hb d_W_addMethod_33 rfl (lv_at hl 2 rfl) ?_
          refine va_get (D := (dC, dI)) (ci := 3) (v := .ref wm) (C := R_W) (T := T_W) (N := 10) hx hb hts (fun w h => hsub w (uw_W w h)) hown hK hP 0 rfl rfl 8 (by decide) (hts _ (hsub _ w_174)) (fun _ h9 => h9) rfl d_W_addMethod_34 ?_
          refine lv_aload_n hx hb d_W_addMethod_37 rfl (lv_at hl 2 rfl) ?_
          refine va_get (D := (dC, dI)) (ci := 3) (v := .int 0) (C := R_W) (T := T_W) (N := 10) hx hb hts (fun w h => hsub w (uw_W w h)) hown hK hP 0 rfl rfl 9 (by decide) (hts _ (hsub _ w_7)) (fun _ h9 => h9) rfl d_W_addMethod_38 ?_
          refine va_new (ci := 6) (fs := [.null, .int 0, .null, .int 0, .int 0, .null, .int 0, .int 0, .int 0, .null, .null, .int 0, .int 0]) (C := R_E) (T := T_E) (N := 13) hx hb hts (fun w h => hsub w (uw_E w h)) ty_E tok_E hown (hts _ (hsub _ w_175)) (hts _ (hsub _ w_176)) (hts _ (hsub _ w_177)) hK hP hD hS hA rfl (fun j hj => df_E j hj) (Nat.le_of_ble_eq_true rfl) (Nat.le_of_ble_eq_true rfl) d_W_addMethod_41 (fun q_41 H hP hD hS => ?_)
          have hP : va_P (dC, dI) vwCl [(w, .inr (3, [.ref wp, .ref wu, .ref wi, .int 2, .ref wc, .ref wt, .ref wx, .int 0, .ref wm, .int 0])), (wm, .inl (km, 8, .inr (.inr (.inr (.inr fm))))), (q_30, .inl (k_31, 2, .inl (upd (upd (fun _ => 0) (0 : Int32).toNatClampNeg (argX pk 0)) (1 : Int32).toNatClampNeg (argX pk 1)))), (q_41, .inr (6, [.null, .int 0, .null, .int 0, .int 0, .null, .int 0, .int 0, .int 0, .null, .null, .int 0, .int 0]))] H := hP
          have hD : va_D A [(w, .inr (3, [.ref wp, .ref wu, .ref wi, .int 2, .ref wc, .ref wt, .ref wx, .int 0, .ref wm, .int 0])), (wm, .inl (km, 8, .inr (.inr (.inr (.inr fm))))), (q_30, .inl (k_31, 2, .inl (upd (upd (fun _ => 0) (0 : Int32).toNatClampNeg (argX pk 0)) (1 : Int32).toNatClampNeg (argX pk 1)))), (q_41, .inr (6, [.null, .int 0, .null, .int 0, .int 0, .null, .int 0, .int 0, .int 0, .null, .null, .int 0, .int 0]))] := hD
          refine W.widen (k := 2) (n := 15) (Nat.le_of_ble_eq_true rfl) (Nat.le_of_ble_eq_true rfl) ?_
          refine lv_dup hx hb d_W_addMethod_44 rfl ?_
          refine lv_aload_n hx hb d_W_addMethod_45 rfl (lv_at hl 1 rfl) ?_
          refine lv_iload_n hx hb d_W_addMethod_46 rfl (lv_at hl 4 rfl) ?_
          have hPc := hP.sub (ws' := [(q_41, .inr (6, [.null, .int 0, .null, .int 0, .int 0, .null, .int 0, .int 0, .int 0, .null, .null, .int 0, .int 0]))]) [3] rfl
          have hKc := hK.sub (tys' := []) [] rfl
          have hDc := hD.sub (ws' := [(q_41, .inr (6, [.null, .int 0, .null, .int 0, .int 0, .null, .int 0, .int 0, .int 0, .null, .null, .int 0, .int 0]))]) [3] (by decide) rfl
          have hFc := va_free (wc := [(q_41, .inr (6, [.null, .int 0, .null, .int 0, .int 0, .null, .int 0, .int 0, .int 0, .null, .null, .int 0, .int 0]))]) hD hS hA [3] rfl
          refine va_callv (va_runI (As := [.ref q_30, .int rs]) (rest := [.ref q_41, .int 0, .ref wm]) ⟨hx, hb, hml, hown, hts⟩ (k_E_init l dC dI q_41 q_30 rs H.size) (cwI 2 hts (gC hsub w_179) rfl rfl rfl (hts _ (hsub _ w_177)) (hts _ (hsub _ w_178)) (hts _ (hsub _ w_180)) rfl (by decide +kernel) ⟨Nat.le_of_ble_eq_true rfl, Nat.le_of_ble_eq_true rfl⟩) ⟨bl_1010, fun U hU hW => ⟨rfl, by rw [hU], by rw [hU]; exact hPc, va_K.moved hW.alike hKc, hDc.weaken (fun _ _ _ _ => trivial), exP_go hex hS (fun q h => hFc q h) U hU hW⟩⟩ rfl rfl hl.1 rfl (lv_room (Nat.le_of_ble_eq_true rfl)) d_W_addMethod_47 ⟨Nat.le_of_ble_eq_true rfl, Nat.le_of_ble_eq_true rfl⟩) hS (fun q _ h => hFc q h) hFc (fun u_44 t H1 locs ht hvm hw hB hz1 hk1 hS => ?_)
          obtain ⟨q_45, q_46, q_47, q_48, hP1, hK1, hD1⟩ := hB
          rw [ht] at hP1
          have hK1 := va_K.moved hvm.symm hK1
          obtain ⟨hP, hD⟩ := va_join (wr := [(w, .inr (3, [.ref wp, .ref wu, .ref wi, .int 2, .ref wc, .ref wt, .ref wx, .int 0, .ref wm, .int 0])), (wm, .inl (km, 8, .inr (.inr (.inr (.inr fm))))), (q_30, .inl (k_31, 2, .inl (upd (upd (fun _ => 0) (0 : Int32).toNatClampNeg (argX pk 0)) (1 : Int32).toNatClampNeg (argX pk 1))))]) (w1 := [(q_41, .inr (6, [.ref q_30, .int rs, .ref q_45, .int 0, .int 0, .ref q_46, .int 0, .int 0, .int (-1), .ref q_47, .ref q_48, .int 0, .int 0]))]) hP hD [3] [0, 1, 2] rfl rfl (by decide) (by decide) hk1 hFc hP1 hD1
          have hK := (hK.sub (tys' := [(km, .object "MapFramer$Method"), (k_31, .int)]) [0, 1] rfl).app hK1
          generalize H1 = H at hP hS ⊢
          have hP : va_P (dC, dI) vwCl [(w, .inr (3, [.ref wp, .ref wu, .ref wi, .int 2, .ref wc, .ref wt, .ref wx, .int 0, .ref wm, .int 0])), (wm, .inl (km, 8, .inr (.inr (.inr (.inr fm))))), (q_30, .inl (k_31, 2, .inl (upd (upd (fun _ => 0) (0 : Int32).toNatClampNeg (argX pk 0)) (1 : Int32).toNatClampNeg (argX pk 1)))), (q_41, .inr (6, [.ref q_30, .int rs, .ref q_45, .int 0, .int 0, .ref q_46, .int 0, .int 0, .int (-1), .ref q_47, .ref q_48, .int 0, .int 0]))] H := hP
          have hD : va_D A [(w, .inr (3, [.ref wp, .ref wu, .ref wi, .int 2, .ref wc, .ref wt, .ref wx, .int 0, .ref wm, .int 0])), (wm, .inl (km, 8, .inr (.inr (.inr (.inr fm))))), (q_30, .inl (k_31, 2, .inl (upd (upd (fun _ => 0) (0 : Int32).toNatClampNeg (argX pk 0)) (1 : Int32).toNatClampNeg (argX pk 1)))), (q_41, .inr (6, [.ref q_30, .int rs, .ref q_45, .int 0, .int 0, .ref q_46, .int 0, .int 0, .int (-1), .ref q_47, .ref q_48, .int 0, .int 0]))] := hD
          have hK : va_K (dC, dI) vwCl [(km, .object "MapFramer$Method"), (k_31, .int)] s := hK
          refine W.widen (k := 6) (n := 18) (Nat.le_of_ble_eq_true rfl) (Nat.le_of_ble_eq_true rfl) ?_
          refine va_astq (r := (R_E, T_E, 13)) hx hb hK hP hD hS 1 0 3 6 rfl rfl rfl rfl (vp_in_iff.mpr (by decide)) d_W_addMethod_50 (fun H locs hP hD hS => ?_)
          have hP : va_P (dC, dI) vwCl [(w, .inr (3, [.ref wp, .ref wu, .ref wi, .int 2, .ref wc, .ref wt, .ref wx, .int 0, .ref wm, .int 0])), (wm, .inl (km, 8, .inr (.inr (.inr (.inr (va_up fm (0 : Int32).toNatClampNeg (some q_41))))))), (q_30, .inl (k_31, 2, .inl (upd (upd (fun _ => 0) (0 : Int32).toNatClampNeg (argX pk 0)) (1 : Int32).toNatClampNeg (argX pk 1)))), (q_41, .inr (6, [.ref q_30, .int rs, .ref q_45, .int 0, .int 0, .ref q_46, .int 0, .int 0, .int (-1), .ref q_47, .ref q_48, .int 0, .int 0]))] H := hP
          have hD : va_D A [(w, .inr (3, [.ref wp, .ref wu, .ref wi, .int 2, .ref wc, .ref wt, .ref wx, .int 0, .ref wm, .int 0])), (wm, .inl (km, 8, .inr (.inr (.inr (.inr (va_up fm (0 : Int32).toNatClampNeg (some q_41))))))), (q_30, .inl (k_31, 2, .inl (upd (upd (fun _ => 0) (0 : Int32).toNatClampNeg (argX pk 0)) (1 : Int32).toNatClampNeg (argX pk 1)))), (q_41, .inr (6, [.ref q_30, .int rs, .ref q_45, .int 0, .int 0, .ref q_46, .int 0, .int 0, .int (-1), .ref q_47, .ref q_48, .int 0, .int 0]))] := hD
          refine lv_aload_n hx hb d_W_addMethod_51 rfl (lv_at hl 2 rfl) ?_
          refine lv_dup hx hb d_W_addMethod_52 rfl ?_
          refine va_get (D := (dC, dI)) (ci := 3) (v := .int 0) (C := R_W) (T := T_W) (N := 10) hx hb hts (fun w h => hsub w (uw_W w h)) hown hK hP 0 rfl rfl 9 (by decide) (hts _ (hsub _ w_7)) (fun _ h9 => h9) rfl d_W_addMethod_53 ?_
          refine lv_iconst (v := 1) hx hb d_W_addMethod_56 (by decide) ?_
          refine lv_iadd hx hb d_W_addMethod_57 ?_
          refine tp_i 1 (by decide) ?_
          refine va_put (D := (dC, dI)) (ci := 3) (v := .int 1) (ty := .int) (C := R_W) (T := T_W) (N := 10) hx hb hts (fun w h => hsub w (uw_W w h)) ty_W tok_W nm_W hown hK hP hD hS 0 rfl rfl 9 (by decide) (hts _ (hsub _ w_7)) (fun _ h9 => h9) rfl (by decide +kernel) rfl rfl (Nat.le_of_ble_eq_true rfl) d_W_addMethod_58 (fun H locs hP hD hS => ?_)
          have hP : va_P (dC, dI) vwCl [(w, .inr (3, [.ref wp, .ref wu, .ref wi, .int 2, .ref wc, .ref wt, .ref wx, .int 0, .ref wm, .int 1])), (wm, .inl (km, 8, .inr (.inr (.inr (.inr (va_up fm (0 : Int32).toNatClampNeg (some q_41))))))), (q_30, .inl (k_31, 2, .inl (upd (upd (fun _ => 0) (0 : Int32).toNatClampNeg (argX pk 0)) (1 : Int32).toNatClampNeg (argX pk 1)))), (q_41, .inr (6, [.ref q_30, .int rs, .ref q_45, .int 0, .int 0, .ref q_46, .int 0, .int 0, .int (-1), .ref q_47, .ref q_48, .int 0, .int 0]))] H := hP
          have hD : va_D A [(w, .inr (3, [.ref wp, .ref wu, .ref wi, .int 2, .ref wc, .ref wt, .ref wx, .int 0, .ref wm, .int 1])), (wm, .inl (km, 8, .inr (.inr (.inr (.inr (va_up fm (0 : Int32).toNatClampNeg (some q_41))))))), (q_30, .inl (k_31, 2, .inl (upd (upd (fun _ => 0) (0 : Int32).toNatClampNeg (argX pk 0)) (1 : Int32).toNatClampNeg (argX pk 1)))), (q_41, .inr (6, [.ref q_30, .int rs, .ref q_45, .int 0, .int 0, .ref q_46, .int 0, .int 0, .int (-1), .ref q_47, .ref q_48, .int 0, .int 0]))] := hD
          refine lv_aload_n hx hb d_W_addMethod_61 rfl (lv_at hl 2 rfl) ?_
          refine va_get (D := (dC, dI)) (ci := 3) (v := .int 1) (C := R_W) (T := T_W) (N := 10) hx hb hts (fun w h => hsub w (uw_W w h)) hown hK hP 0 rfl rfl 9 (by decide) (hts _ (hsub _ w_7)) (fun _ h9 => h9) rfl d_W_addMethod_62 ?_
          refine lv_iconst (v := 1) hx hb d_W_addMethod_65 (by decide) ?_
          refine lv_isub hx hb d_W_addMethod_66 ?_
          refine tp_i 0 (by decide) ?_
          refine W.widen (k := 6) (n := 20) (Nat.le_of_ble_eq_true rfl) (Nat.le_of_ble_eq_true rfl) ?_
          exact W.iret (v := 0) hx hb hr (fun t ht hW => ⟨⟨0, (), rfl, rfl, trivial⟩, hS.F ht⟩) hS.2.2 d_W_addMethod_67
        · skip
          first | exact absurd c_40 (by decide) | exact absurd (by decide) c_40
  · obtain rfl : r_2 = 3 := hw.trans hn
    refine va_newa (atype := .int) (ty := .int) (N' := 3) (a0 := (3, .inl (fun _ => 0))) hx hb (hts _ (hsub _ w_156)) rfl hK hP hD hS hA (fun _ => vz_i _ _) (by decide) (by decide) (Nat.le_of_ble_eq_true rfl) (Nat.le_of_ble_eq_true rfl) (Nat.le_of_ble_eq_true rfl) d_W_addMethod_4 (fun q_49 k_50 H hK hP hD hS => ?_)
    have hK : va_K (dC, dI) vwCl [(km, .object "MapFramer$Method"), (k_50, .int)] s := hK
    have hP : va_P (dC, dI) vwCl [(w, .inr (3, [.ref wp, .ref wu, .ref wi, .int 2, .ref wc, .ref wt, .ref wx, .int 0, .ref wm, .int 0])), (wm, .inl (km, 8, .inr (.inr (.inr (.inr fm))))), (q_49, .inl (k_50, 3, .inl (fun _ => 0)))] H := hP
    have hD : va_D A [(w, .inr (3, [.ref wp, .ref wu, .ref wi, .int 2, .ref wc, .ref wt, .ref wx, .int 0, .ref wm, .int 0])), (wm, .inl (km, 8, .inr (.inr (.inr (.inr fm))))), (q_49, .inl (k_50, 3, .inl (fun _ => 0)))] := hD
    refine W.widen (k := 1) (n := 3) (Nat.le_of_ble_eq_true rfl) (Nat.le_of_ble_eq_true rfl) ?_
    refine lv_astore_n (lv' := [(3, .ref q_49), (0, .ref w), (1, .int pk), (2, .int rs)]) hx hb d_W_addMethod_6 rfl hl (by decide) rfl (fun ls hl => ?_)
    refine lv_iconst (v := 0) hx hb d_W_addMethod_7 (by decide) ?_
    refine lv_istore (lv' := [(4, .int 0), (3, .ref q_49), (0, .ref w), (1, .int pk), (2, .int rs)]) hx hb d_W_addMethod_8 hl (by decide) rfl (fun ls hl => ?_)
    refine lv_iload hx hb d_W_addMethod_10 (lv_at hl 0 rfl) ?_
    refine lv_aload_n hx hb d_W_addMethod_12 rfl (lv_at hl 1 rfl) ?_
    refine va_alen (v := 3) hx hb hK hP 2 1 rfl rfl rfl d_W_addMethod_13 ?_
    refine lv_icmp_ge (tgt := 33) hx hb d_W_addMethod_14 (by decide) (fun c_51 => ?_) (fun c_51 => ?_)
    · skip
      first | exact absurd c_51 (by decide) | exact absurd (by decide) c_51
    · skip
      refine lv_aload_n hx hb d_W_addMethod_17 rfl (lv_at hl 1 rfl) ?_
      refine lv_iload hx hb d_W_addMethod_18 (lv_at hl 0 rfl) ?_
      refine lv_iload_n hx hb d_W_addMethod_20 rfl (lv_at hl 3 rfl) ?_
      refine lv_iload hx hb d_W_addMethod_21 (lv_at hl 0 rfl) ?_
      have hPc := hP.sub (ws' := []) [] rfl
      have hKc := hK.sub (tys' := []) [] rfl
      refine va_calli (va_runS (As := [.int pk, .int 0]) (rest := [.int 0, .ref q_49]) ⟨hx, hb, hml, hown, hts⟩ (k_W_argumentType l dC dI pk 0) (va_cwS 2 hts (gS hsub w_138 w_139 w_4 w_140) rfl rfl rfl (by decide +kernel) ⟨Nat.le_of_ble_eq_true rfl, Nat.le_of_ble_eq_true rfl⟩) ⟨bl_0000, fun U hU hW => ⟨rfl, by rw [hU]; exact hPc, va_K.moved hW.alike hKc⟩⟩ rfl rfl hl.1 rfl (lv_room (Nat.le_of_ble_eq_true rfl)) d_W_addMethod_23 ⟨Nat.le_of_ble_eq_true rfl, Nat.le_of_ble_eq_true rfl⟩) hS (fun q _ h => h.elim) (fun q h => h.elim) (fun r_53 u_54 t H1 locs ht hvm hw hB hz1 hk1 hS => ?_)
      have hP := ro_keep hP hk1
      generalize H1 = H at hP hS ⊢
      refine W.widen (k := 1) (n := 3) (Nat.le_of_ble_eq_true rfl) (Nat.le_of_ble_eq_true rfl) ?_
      subst hw
      refine va_iast hx hb hK hP hD hS 2 1 rfl rfl (vp_in_iff.mpr (by decide)) d_W_addMethod_26 (fun H locs hP hD hS => ?_)
      have hP : va_P (dC, dI) vwCl [(w, .inr (3, [.ref wp, .ref wu, .ref wi, .int 2, .ref wc, .ref wt, .ref wx, .int 0, .ref wm, .int 0])), (wm, .inl (km, 8, .inr (.inr (.inr (.inr fm))))), (q_49, .inl (k_50, 3, .inl (upd (fun _ => 0) (0 : Int32).toNatClampNeg (argX pk 0))))] H := hP
      have hD : va_D A [(w, .inr (3, [.ref wp, .ref wu, .ref wi, .int 2, .ref wc, .ref wt, .ref wx, .int 0, .ref wm, .int 0])), (wm, .inl (km, 8, .inr (.inr (.inr (.inr fm))))), (q_49, .inl (k_50, 3, .inl (upd (fun _ => 0) (0 : Int32).toNatClampNeg (argX pk 0))))] := hD
      refine lv_iinc (v := 1) (lv' := [(4, .int 1), (3, .ref q_49), (0, .ref w), (1, .int pk), (2, .int rs)]) hx hb d_W_addMethod_27 hl (k := 0) rfl (by decide) (by decide) rfl (fun ls hl => ?_)
      refine lv_goto (tgt := 10) hx hb d_W_addMethod_30 (by decide) ?_
      refine lv_iload hx hb d_W_addMethod_10 (lv_at hl 0 rfl) ?_
      refine lv_aload_n hx hb d_W_addMethod_12 rfl (lv_at hl 1 rfl) ?_
      refine va_alen (v := 3) hx hb hK hP 2 1 rfl rfl rfl d_W_addMethod_13 ?_
      refine lv_icmp_ge (tgt := 33) hx hb d_W_addMethod_14 (by decide) (fun c_55 => ?_) (fun c_55 => ?_)
      · skip
        first | exact absurd c_55 (by decide) | exact absurd (by decide) c_55
      · skip
        refine lv_aload_n hx hb d_W_addMethod_17 rfl (lv_at hl 1 rfl) ?_
        refine lv_iload hx hb d_W_addMethod_18 (lv_at hl 0 rfl) ?_
        refine lv_iload_n hx hb d_W_addMethod_20 rfl (lv_at hl 3 rfl) ?_
        refine lv_iload hx hb d_W_addMethod_21 (lv_at hl 0 rfl) ?_
        have hPc := hP.sub (ws' := []) [] rfl
        have hKc := hK.sub (tys' := []) [] rfl
        refine va_calli (va_runS (As := [.int pk, .int 1]) (rest := [.int 1, .ref q_49]) ⟨hx, hb, hml, hown, hts⟩ (k_W_argumentType l dC dI pk 1) (va_cwS 2 hts (gS hsub w_138 w_139 w_4 w_140) rfl rfl rfl (by decide +kernel) ⟨Nat.le_of_ble_eq_true rfl, Nat.le_of_ble_eq_true rfl⟩) ⟨bl_0000, fun U hU hW => ⟨rfl, by rw [hU]; exact hPc, va_K.moved hW.alike hKc⟩⟩ rfl rfl hl.1 rfl (lv_room (Nat.le_of_ble_eq_true rfl)) d_W_addMethod_23 ⟨Nat.le_of_ble_eq_true rfl, Nat.le_of_ble_eq_true rfl⟩) hS (fun q _ h => h.elim) (fun q h => h.elim) (fun r_57 u_58 t H1 locs ht hvm hw hB hz1 hk1 hS => ?_)
        have hP := ro_keep hP hk1
        generalize H1 = H at hP hS ⊢
        refine W.widen (k := 1) (n := 3) (Nat.le_of_ble_eq_true rfl) (Nat.le_of_ble_eq_true rfl) ?_
        subst hw
        refine va_iast hx hb hK hP hD hS 2 1 rfl rfl (vp_in_iff.mpr (by decide)) d_W_addMethod_26 (fun H locs hP hD hS => ?_)
        have hP : va_P (dC, dI) vwCl [(w, .inr (3, [.ref wp, .ref wu, .ref wi, .int 2, .ref wc, .ref wt, .ref wx, .int 0, .ref wm, .int 0])), (wm, .inl (km, 8, .inr (.inr (.inr (.inr fm))))), (q_49, .inl (k_50, 3, .inl (upd (upd (fun _ => 0) (0 : Int32).toNatClampNeg (argX pk 0)) (1 : Int32).toNatClampNeg (argX pk 1))))] H := hP
        have hD : va_D A [(w, .inr (3, [.ref wp, .ref wu, .ref wi, .int 2, .ref wc, .ref wt, .ref wx, .int 0, .ref wm, .int 0])), (wm, .inl (km, 8, .inr (.inr (.inr (.inr fm))))), (q_49, .inl (k_50, 3, .inl (upd (upd (fun _ => 0) (0 : Int32).toNatClampNeg (argX pk 0)) (1 : Int32).toNatClampNeg (argX pk 1))))] := hD
        refine lv_iinc (v := 2) (lv' := [(4, .int 2), (3, .ref q_49), (0, .ref w), (1, .int pk), (2, .int rs)]) hx hb d_W_addMethod_27 hl (k := 0) rfl (by decide) (by decide) rfl (fun ls hl => ?_)
        refine lv_goto (tgt := 10) hx hb d_W_addMethod_30 (by decide) ?_
        refine lv_iload hx hb d_W_addMethod_10 (lv_at hl 0 rfl) ?_
        refine lv_aload_n hx hb d_W_addMethod_12 rfl (lv_at hl 1 rfl) ?_
        refine va_alen (v := 3) hx hb hK hP 2 1 rfl rfl rfl d_W_addMethod_13 ?_
        refine lv_icmp_ge (tgt := 33) hx hb d_W_addMethod_14 (by decide) (fun c_59 => ?_) (fun c_59 => ?_)
        · skip
          first | exact absurd c_59 (by decide) | exact absurd (by decide) c_59
        · skip
          refine lv_aload_n hx hb d_W_addMethod_17 rfl (lv_at hl 1 rfl) ?_
          refine lv_iload hx hb d_W_addMethod_18 (lv_at hl 0 rfl) ?_
          refine lv_iload_n hx hb d_W_addMethod_20 rfl (lv_at hl 3 rfl) ?_
          refine lv_iload hx hb d_W_addMethod_21 (lv_at hl 0 rfl) ?_
          have hPc := hP.sub (ws' := []) [] rfl
          have hKc := hK.sub (tys' := []) [] rfl
          refine va_calli (va_runS (As := [.int pk, .int 2]) (rest := [.int 2, .ref q_49]) ⟨hx, hb, hml, hown, hts⟩ (k_W_argumentType l dC dI pk 2) (va_cwS 2 hts (gS hsub w_138 w_139 w_4 w_140) rfl rfl rfl (by decide +kernel) ⟨Nat.le_of_ble_eq_true rfl, Nat.le_of_ble_eq_true rfl⟩) ⟨bl_0000, fun U hU hW => ⟨rfl, by rw [hU]; exact hPc, va_K.moved hW.alike hKc⟩⟩ rfl rfl hl.1 rfl (lv_room (Nat.le_of_ble_eq_true rfl)) d_W_addMethod_23 ⟨Nat.le_of_ble_eq_true rfl, Nat.le_of_ble_eq_true rfl⟩) hS (fun q _ h => h.elim) (fun q h => h.elim) (fun r_61 u_62 t H1 locs ht hvm hw hB hz1 hk1 hS => ?_)
          have hP := ro_keep hP hk1
          generalize H1 = H at hP hS ⊢
          refine W.widen (k := 1) (n := 3) (Nat.le_of_ble_eq_true rfl) (Nat.le_of_ble_eq_true rfl) ?_
          subst hw
          refine va_iast hx hb hK hP hD hS 2 1 rfl rfl (vp_in_iff.mpr (by decide)) d_W_addMethod_26 (fun H locs hP hD hS => ?_)
          have hP : va_P (dC, dI) vwCl [(w, .inr (3, [.ref wp, .ref wu, .ref wi, .int 2, .ref wc, .ref wt, .ref wx, .int 0, .ref wm, .int 0])), (wm, .inl (km, 8, .inr (.inr (.inr (.inr fm))))), (q_49, .inl (k_50, 3, .inl (upd (upd (upd (fun _ => 0) (0 : Int32).toNatClampNeg (argX pk 0)) (1 : Int32).toNatClampNeg (argX pk 1)) (2 : Int32).toNatClampNeg (argX pk 2))))] H := hP
          have hD : va_D A [(w, .inr (3, [.ref wp, .ref wu, .ref wi, .int 2, .ref wc, .ref wt, .ref wx, .int 0, .ref wm, .int 0])), (wm, .inl (km, 8, .inr (.inr (.inr (.inr fm))))), (q_49, .inl (k_50, 3, .inl (upd (upd (upd (fun _ => 0) (0 : Int32).toNatClampNeg (argX pk 0)) (1 : Int32).toNatClampNeg (argX pk 1)) (2 : Int32).toNatClampNeg (argX pk 2))))] := hD
          refine lv_iinc (v := 3) (lv' := [(4, .int 3), (3, .ref q_49), (0, .ref w), (1, .int pk), (2, .int rs)]) hx hb d_W_addMethod_27 hl (k := 0) rfl (by decide) (by decide) rfl (fun ls hl => ?_)
          refine lv_goto (tgt := 10) hx hb d_W_addMethod_30 (by decide) ?_
          refine lv_iload hx hb d_W_addMethod_10 (lv_at hl 0 rfl) ?_
          refine lv_aload_n hx hb d_W_addMethod_12 rfl (lv_at hl 1 rfl) ?_
          refine va_alen (v := 3) hx hb hK hP 2 1 rfl rfl rfl d_W_addMethod_13 ?_
          refine lv_icmp_ge (tgt := 33) hx hb d_W_addMethod_14 (by decide) (fun c_63 => ?_) (fun c_63 => ?_)
          · skip
            refine lv_aload_n hx hb d_W_addMethod_33 rfl (lv_at hl 2 rfl) ?_
            refine va_get (D := (dC, dI)) (ci := 3) (v := .ref wm) (C := R_W) (T := T_W) (N := 10) hx hb hts (fun w h => hsub w (uw_W w h)) hown hK hP 0 rfl rfl 8 (by decide) (hts _ (hsub _ w_174)) (fun _ h9 => h9) rfl d_W_addMethod_34 ?_
            refine lv_aload_n hx hb d_W_addMethod_37 rfl (lv_at hl 2 rfl) ?_
            refine va_get (D := (dC, dI)) (ci := 3) (v := .int 0) (C := R_W) (T := T_W) (N := 10) hx hb hts (fun w h => hsub w (uw_W w h)) hown hK hP 0 rfl rfl 9 (by decide) (hts _ (hsub _ w_7)) (fun _ h9 => h9) rfl d_W_addMethod_38 ?_
            refine va_new (ci := 6) (fs := [.null, .int 0, .null, .int 0, .int 0, .null, .int 0, .int 0, .int 0, .null, .null, .int 0, .int 0]) (C := R_E) (T := T_E) (N := 13) hx hb hts (fun w h => hsub w (uw_E w h)) ty_E tok_E hown (hts _ (hsub _ w_175)) (hts _ (hsub _ w_176)) (hts _ (hsub _ w_177)) hK hP hD hS hA rfl (fun j hj => df_E j hj) (Nat.le_of_ble_eq_true rfl) (Nat.le_of_ble_eq_true rfl) d_W_addMethod_41 (fun q_64 H hP hD hS => ?_)
            have hP : va_P (dC, dI) vwCl [(w, .inr (3, [.ref wp, .ref wu, .ref wi, .int 2, .ref wc, .ref wt, .ref wx, .int 0, .ref wm, .int 0])), (wm, .inl (km, 8, .inr (.inr (.inr (.inr fm))))), (q_49, .inl (k_50, 3, .inl (upd (upd (upd (fun _ => 0) (0 : Int32).toNatClampNeg (argX pk 0)) (1 : Int32).toNatClampNeg (argX pk 1)) (2 : Int32).toNatClampNeg (argX pk 2)))), (q_64, .inr (6, [.null, .int 0, .null, .int 0, .int 0, .null, .int 0, .int 0, .int 0, .null, .null, .int 0, .int 0]))] H := hP
            have hD : va_D A [(w, .inr (3, [.ref wp, .ref wu, .ref wi, .int 2, .ref wc, .ref wt, .ref wx, .int 0, .ref wm, .int 0])), (wm, .inl (km, 8, .inr (.inr (.inr (.inr fm))))), (q_49, .inl (k_50, 3, .inl (upd (upd (upd (fun _ => 0) (0 : Int32).toNatClampNeg (argX pk 0)) (1 : Int32).toNatClampNeg (argX pk 1)) (2 : Int32).toNatClampNeg (argX pk 2)))), (q_64, .inr (6, [.null, .int 0, .null, .int 0, .int 0, .null, .int 0, .int 0, .int 0, .null, .null, .int 0, .int 0]))] := hD
            refine W.widen (k := 2) (n := 16) (Nat.le_of_ble_eq_true rfl) (Nat.le_of_ble_eq_true rfl) ?_
            refine lv_dup hx hb d_W_addMethod_44 rfl ?_
            refine lv_aload_n hx hb d_W_addMethod_45 rfl (lv_at hl 1 rfl) ?_
            refine lv_iload_n hx hb d_W_addMethod_46 rfl (lv_at hl 4 rfl) ?_
            have hPc := hP.sub (ws' := [(q_64, .inr (6, [.null, .int 0, .null, .int 0, .int 0, .null, .int 0, .int 0, .int 0, .null, .null, .int 0, .int 0]))]) [3] rfl
            have hKc := hK.sub (tys' := []) [] rfl
            have hDc := hD.sub (ws' := [(q_64, .inr (6, [.null, .int 0, .null, .int 0, .int 0, .null, .int 0, .int 0, .int 0, .null, .null, .int 0, .int 0]))]) [3] (by decide) rfl
            have hFc := va_free (wc := [(q_64, .inr (6, [.null, .int 0, .null, .int 0, .int 0, .null, .int 0, .int 0, .int 0, .null, .null, .int 0, .int 0]))]) hD hS hA [3] rfl
            refine va_callv (va_runI (As := [.ref q_49, .int rs]) (rest := [.ref q_64, .int 0, .ref wm]) ⟨hx, hb, hml, hown, hts⟩ (k_E_init l dC dI q_64 q_49 rs H.size) (cwI 2 hts (gC hsub w_179) rfl rfl rfl (hts _ (hsub _ w_177)) (hts _ (hsub _ w_178)) (hts _ (hsub _ w_180)) rfl (by decide +kernel) ⟨Nat.le_of_ble_eq_true rfl, Nat.le_of_ble_eq_true rfl⟩) ⟨bl_1010, fun U hU hW => ⟨rfl, by rw [hU], by rw [hU]; exact hPc, va_K.moved hW.alike hKc, hDc.weaken (fun _ _ _ _ => trivial), exP_go hex hS (fun q h => hFc q h) U hU hW⟩⟩ rfl rfl hl.1 rfl (lv_room (Nat.le_of_ble_eq_true rfl)) d_W_addMethod_47 ⟨Nat.le_of_ble_eq_true rfl, Nat.le_of_ble_eq_true rfl⟩) hS (fun q _ h => hFc q h) hFc (fun u_67 t H1 locs ht hvm hw hB hz1 hk1 hS => ?_)
            obtain ⟨q_68, q_69, q_70, q_71, hP1, hK1, hD1⟩ := hB
            rw [ht] at hP1
            have hK1 := va_K.moved hvm.symm hK1
            obtain ⟨hP, hD⟩ := va_join (wr := [(w, .inr (3, [.ref wp, .ref wu, .ref wi, .int 2, .ref wc, .ref wt, .ref wx, .int 0, .ref wm, .int 0])), (wm, .inl (km, 8, .inr (.inr (.inr (.inr fm))))), (q_49, .inl (k_50, 3, .inl (upd (upd (upd (fun _ => 0) (0 : Int32).toNatClampNeg (argX pk 0)) (1 : Int32).toNatClampNeg (argX pk 1)) (2 : Int32).toNatClampNeg (argX pk 2))))]) (w1 := [(q_64, .inr (6, [.ref q_49, .int rs, .ref q_68, .int 0, .int 0, .ref q_69, .int 0, .int 0, .int (-1), .ref q_70, .ref q_71, .int 0, .int 0]))]) hP hD [3] [0, 1, 2] rfl rfl (by decide) (by decide) hk1 hFc hP1 hD1
            have hK := (hK.sub (tys' := [(km, .object "MapFramer$Method"), (k_50, .int)]) [0, 1] rfl).app hK1
            generalize H1 = H at hP hS ⊢
            have hP : va_P (dC, dI) vwCl [(w, .inr (3, [.ref wp, .ref wu, .ref wi, .int 2, .ref wc, .ref wt, .ref wx, .int 0, .ref wm, .int 0])), (wm, .inl (km, 8, .inr (.inr (.inr (.inr fm))))), (q_49, .inl (k_50, 3, .inl (upd (upd (upd (fun _ => 0) (0 : Int32).toNatClampNeg (argX pk 0)) (1 : Int32).toNatClampNeg (argX pk 1)) (2 : Int32).toNatClampNeg (argX pk 2)))), (q_64, .inr (6, [.ref q_49, .int rs, .ref q_68, .int 0, .int 0, .ref q_69, .int 0, .int 0, .int (-1), .ref q_70, .ref q_71, .int 0, .int 0]))] H := hP
            have hD : va_D A [(w, .inr (3, [.ref wp, .ref wu, .ref wi, .int 2, .ref wc, .ref wt, .ref wx, .int 0, .ref wm, .int 0])), (wm, .inl (km, 8, .inr (.inr (.inr (.inr fm))))), (q_49, .inl (k_50, 3, .inl (upd (upd (upd (fun _ => 0) (0 : Int32).toNatClampNeg (argX pk 0)) (1 : Int32).toNatClampNeg (argX pk 1)) (2 : Int32).toNatClampNeg (argX pk 2)))), (q_64, .inr (6, [.ref q_49, .int rs, .ref q_68, .int 0, .int 0, .ref q_69, .int 0, .int 0, .int (-1), .ref q_70, .ref q_71, .int 0, .int 0]))] := hD
            have hK : va_K (dC, dI) vwCl [(km, .object "MapFramer$Method"), (k_50, .int)] s := hK
            refine W.widen (k := 6) (n := 19) (Nat.le_of_ble_eq_true rfl) (Nat.le_of_ble_eq_true rfl) ?_
            refine va_astq (r := (R_E, T_E, 13)) hx hb hK hP hD hS 1 0 3 6 rfl rfl rfl rfl (vp_in_iff.mpr (by decide)) d_W_addMethod_50 (fun H locs hP hD hS => ?_)
            have hP : va_P (dC, dI) vwCl [(w, .inr (3, [.ref wp, .ref wu, .ref wi, .int 2, .ref wc, .ref wt, .ref wx, .int 0, .ref wm, .int 0])), (wm, .inl (km, 8, .inr (.inr (.inr (.inr (va_up fm (0 : Int32).toNatClampNeg (some q_64))))))), (q_49, .inl (k_50, 3, .inl (upd (upd (upd (fun _ => 0) (0 : Int32).toNatClampNeg (argX pk 0)) (1 : Int32).toNatClampNeg (argX pk 1)) (2 : Int32).toNatClampNeg (argX pk 2)))), (q_64, .inr (6, [.ref q_49, .int rs, .ref q_68, .int 0, .int 0, .ref q_69, .int 0, .int 0, .int (-1), .ref q_70, .ref q_71, .int 0, .int 0]))] H := hP
            have hD : va_D A [(w, .inr (3, [.ref wp, .ref wu, .ref wi, .int 2, .ref wc, .ref wt, .ref wx, .int 0, .ref wm, .int 0])), (wm, .inl (km, 8, .inr (.inr (.inr (.inr (va_up fm (0 : Int32).toNatClampNeg (some q_64))))))), (q_49, .inl (k_50, 3, .inl (upd (upd (upd (fun _ => 0) (0 : Int32).toNatClampNeg (argX pk 0)) (1 : Int32).toNatClampNeg (argX pk 1)) (2 : Int32).toNatClampNeg (argX pk 2)))), (q_64, .inr (6, [.ref q_49, .int rs, .ref q_68, .int 0, .int 0, .ref q_69, .int 0, .int 0, .int (-1), .ref q_70, .ref q_71, .int 0, .int 0]))] := hD
            refine lv_aload_n hx hb d_W_addMethod_51 rfl (lv_at hl 2 rfl) ?_
            refine lv_dup hx hb d_W_addMethod_52 rfl ?_
            refine va_get (D := (dC, dI)) (ci := 3) (v := .int 0) (C := R_W) (T := T_W) (N := 10) hx hb hts (fun w h => hsub w (uw_W w h)) hown hK hP 0 rfl rfl 9 (by decide) (hts _ (hsub _ w_7)) (fun _ h9 => h9) rfl d_W_addMethod_53 ?_
            refine lv_iconst (v := 1) hx hb d_W_addMethod_56 (by decide) ?_
            refine lv_iadd hx hb d_W_addMethod_57 ?_
            refine tp_i 1 (by decide) ?_
            refine va_put (D := (dC, dI)) (ci := 3) (v := .int 1) (ty := .int) (C := R_W) (T := T_W) (N := 10) hx hb hts (fun w h => hsub w (uw_W w h)) ty_W tok_W nm_W hown hK hP hD hS 0 rfl rfl 9 (by decide) (hts _ (hsub _ w_7)) (fun _ h9 => h9) rfl (by decide +kernel) rfl rfl (Nat.le_of_ble_eq_true rfl) d_W_addMethod_58 (fun H locs hP hD hS => ?_)
            have hP : va_P (dC, dI) vwCl [(w, .inr (3, [.ref wp, .ref wu, .ref wi, .int 2, .ref wc, .ref wt, .ref wx, .int 0, .ref wm, .int 1])), (wm, .inl (km, 8, .inr (.inr (.inr (.inr (va_up fm (0 : Int32).toNatClampNeg (some q_64))))))), (q_49, .inl (k_50, 3, .inl (upd (upd (upd (fun _ => 0) (0 : Int32).toNatClampNeg (argX pk 0)) (1 : Int32).toNatClampNeg (argX pk 1)) (2 : Int32).toNatClampNeg (argX pk 2)))), (q_64, .inr (6, [.ref q_49, .int rs, .ref q_68, .int 0, .int 0, .ref q_69, .int 0, .int 0, .int (-1), .ref q_70, .ref q_71, .int 0, .int 0]))] H := hP
            have hD : va_D A [(w, .inr (3, [.ref wp, .ref wu, .ref wi, .int 2, .ref wc, .ref wt, .ref wx, .int 0, .ref wm, .int 1])), (wm, .inl (km, 8, .inr (.inr (.inr (.inr (va_up fm (0 : Int32).toNatClampNeg (some q_64))))))), (q_49, .inl (k_50, 3, .inl (upd (upd (upd (fun _ => 0) (0 : Int32).toNatClampNeg (argX pk 0)) (1 : Int32).toNatClampNeg (argX pk 1)) (2 : Int32).toNatClampNeg (argX pk 2)))), (q_64, .inr (6, [.ref q_49, .int rs, .ref q_68, .int 0, .int 0, .ref q_69, .int 0, .int 0, .int (-1), .ref q_70, .ref q_71, .int 0, .int 0]))] := hD
            refine lv_aload_n hx hb d_W_addMethod_61 rfl (lv_at hl 2 rfl) ?_
            refine va_get (D := (dC, dI)) (ci := 3) (v := .int 1) (C := R_W) (T := T_W) (N := 10) hx hb hts (fun w h => hsub w (uw_W w h)) hown hK hP 0 rfl rfl 9 (by decide) (hts _ (hsub _ w_7)) (fun _ h9 => h9) rfl d_W_addMethod_62 ?_
            refine lv_iconst (v := 1) hx hb d_W_addMethod_65 (by decide) ?_
            refine lv_isub hx hb d_W_addMethod_66 ?_
            refine tp_i 0 (by decide) ?_
            refine W.widen (k := 6) (n := 20) (Nat.le_of_ble_eq_true rfl) (Nat.le_of_ble_eq_true rfl) ?_
            exact W.iret (v := 0) hx hb hr (fun t ht hW => ⟨⟨0, (), rfl, rfl, trivial⟩, hS.F ht⟩) hS.2.2 d_W_addMethod_67
          · skip
            first | exact absurd c_63 (by decide) | exact absurd (by decide) c_63
  · obtain rfl : r_2 = 4 := hw.trans hn
    refine va_newa (atype := .int) (ty := .int) (N' := 4) (a0 := (4, .inl (fun _ => 0))) hx hb (hts _ (hsub _ w_156)) rfl hK hP hD hS hA (fun _ => vz_i _ _) (by decide) (by decide) (Nat.le_of_ble_eq_true rfl) (Nat.le_of_ble_eq_true rfl) (Nat.le_of_ble_eq_true rfl) d_W_addMethod_4 (fun q_72 k_73 H hK hP hD hS => ?_)
    have hK : va_K (dC, dI) vwCl [(km, .object "MapFramer$Method"), (k_73, .int)] s := hK
    have hP : va_P (dC, dI) vwCl [(w, .inr (3, [.ref wp, .ref wu, .ref wi, .int 2, .ref wc, .ref wt, .ref wx, .int 0, .ref wm, .int 0])), (wm, .inl (km, 8, .inr (.inr (.inr (.inr fm))))), (q_72, .inl (k_73, 4, .inl (fun _ => 0)))] H := hP
    have hD : va_D A [(w, .inr (3, [.ref wp, .ref wu, .ref wi, .int 2, .ref wc, .ref wt, .ref wx, .int 0, .ref wm, .int 0])), (wm, .inl (km, 8, .inr (.inr (.inr (.inr fm))))), (q_72, .inl (k_73, 4, .inl (fun _ => 0)))] := hD
    refine W.widen (k := 1) (n := 4) (Nat.le_of_ble_eq_true rfl) (Nat.le_of_ble_eq_true rfl) ?_
    refine lv_astore_n (lv' := [(3, .ref q_72), (0, .ref w), (1, .int pk), (2, .int rs)]) hx hb d_W_addMethod_6 rfl hl (by decide) rfl (fun ls hl => ?_)
    refine lv_iconst (v := 0) hx hb d_W_addMethod_7 (by decide) ?_
    refine lv_istore (lv' := [(4, .int 0), (3, .ref q_72), (0, .ref w), (1, .int pk), (2, .int rs)]) hx hb d_W_addMethod_8 hl (by decide) rfl (fun ls hl => ?_)
    refine lv_iload hx hb d_W_addMethod_10 (lv_at hl 0 rfl) ?_
    refine lv_aload_n hx hb d_W_addMethod_12 rfl (lv_at hl 1 rfl) ?_
    refine va_alen (v := 4) hx hb hK hP 2 1 rfl rfl rfl d_W_addMethod_13 ?_
    refine lv_icmp_ge (tgt := 33) hx hb d_W_addMethod_14 (by decide) (fun c_74 => ?_) (fun c_74 => ?_)
    · skip
      first | exact absurd c_74 (by decide) | exact absurd (by decide) c_74
    · skip
      refine lv_aload_n hx hb d_W_addMethod_17 rfl (lv_at hl 1 rfl) ?_
      refine lv_iload hx hb d_W_addMethod_18 (lv_at hl 0 rfl) ?_
      refine lv_iload_n hx hb d_W_addMethod_20 rfl (lv_at hl 3 rfl) ?_
      refine lv_iload hx hb d_W_addMethod_21 (lv_at hl 0 rfl) ?_
      have hPc := hP.sub (ws' := []) [] rfl
      have hKc := hK.sub (tys' := []) [] rfl
      refine va_calli (va_runS (As := [.int pk, .int 0]) (rest := [.int 0, .ref q_72]) ⟨hx, hb, hml, hown, hts⟩ (k_W_argumentType l dC dI pk 0) (va_cwS 2 hts (gS hsub w_138 w_139 w_4 w_140) rfl rfl rfl (by decide +kernel) ⟨Nat.le_of_ble_eq_true rfl, Nat.le_of_ble_eq_true rfl⟩) ⟨bl_0000, fun U hU hW => ⟨rfl, by rw [hU]; exact hPc, va_K.moved hW.alike hKc⟩⟩ rfl rfl hl.1 rfl (lv_room (Nat.le_of_ble_eq_true rfl)) d_W_addMethod_23 ⟨Nat.le_of_ble_eq_true rfl, Nat.le_of_ble_eq_true rfl⟩) hS (fun q _ h => h.elim) (fun q h => h.elim) (fun r_76 u_77 t H1 locs ht hvm hw hB hz1 hk1 hS => ?_)
      have hP := ro_keep hP hk1
      generalize H1 = H at hP hS ⊢
      refine W.widen (k := 1) (n := 4) (Nat.le_of_ble_eq_true rfl) (Nat.le_of_ble_eq_true rfl) ?_
      subst hw
      refine va_iast hx hb hK hP hD hS 2 1 rfl rfl (vp_in_iff.mpr (by decide)) d_W_addMethod_26 (fun H locs hP hD hS => ?_)
      have hP : va_P (dC, dI) vwCl [(w, .inr (3, [.ref wp, .ref wu, .ref wi, .int 2, .ref wc, .ref wt, .ref wx, .int 0, .ref wm, .int 0])), (wm, .inl (km, 8, .inr (.inr (.inr (.inr fm))))), (q_72, .inl (k_73, 4, .inl (upd (fun _ => 0) (0 : Int32).toNatClampNeg (argX pk 0))))] H := hP
      have hD : va_D A [(w, .inr (3, [.ref wp, .ref wu, .ref wi, .int 2, .ref wc, .ref wt, .ref wx, .int 0, .ref wm, .int 0])), (wm, .inl (km, 8, .inr (.inr (.inr (.inr fm))))), (q_72, .inl (k_73, 4, .inl (upd (fun _ => 0) (0 : Int32).toNatClampNeg (argX pk 0))))] := hD
      refine lv_iinc (v := 1) (lv' := [(4, .int 1), (3, .ref q_72), (0, .ref w), (1, .int pk), (2, .int rs)]) hx hb d_W_addMethod_27 hl (k := 0) rfl (by decide) (by decide) rfl (fun ls hl => ?_)
      refine lv_goto (tgt := 10) hx hb d_W_addMethod_30 (by decide) ?_
      refine lv_iload hx hb d_W_addMethod_10 (lv_at hl 0 rfl) ?_
      refine lv_aload_n hx hb d_W_addMethod_12 rfl (lv_at hl 1 rfl) ?_
      refine va_alen (v := 4) hx hb hK hP 2 1 rfl rfl rfl d_W_addMethod_13 ?_
      refine lv_icmp_ge (tgt := 33) hx hb d_W_addMethod_14 (by decide) (fun c_78 => ?_) (fun c_78 => ?_)
      · skip
        first | exact absurd c_78 (by decide) | exact absurd (by decide) c_78
      · skip
        refine lv_aload_n hx hb d_W_addMethod_17 rfl (lv_at hl 1 rfl) ?_
        refine lv_iload hx hb d_W_addMethod_18 (lv_at hl 0 rfl) ?_
        refine lv_iload_n hx hb d_W_addMethod_20 rfl (lv_at hl 3 rfl) ?_
        refine lv_iload hx hb d_W_addMethod_21 (lv_at hl 0 rfl) ?_
        have hPc := hP.sub (ws' := []) [] rfl
        have hKc := hK.sub (tys' := []) [] rfl
        refine va_calli (va_runS (As := [.int pk, .int 1]) (rest := [.int 1, .ref q_72]) ⟨hx, hb, hml, hown, hts⟩ (k_W_argumentType l dC dI pk 1) (va_cwS 2 hts (gS hsub w_138 w_139 w_4 w_140) rfl rfl rfl (by decide +kernel) ⟨Nat.le_of_ble_eq_true rfl, Nat.le_of_ble_eq_true rfl⟩) ⟨bl_0000, fun U hU hW => ⟨rfl, by rw [hU]; exact hPc, va_K.moved hW.alike hKc⟩⟩ rfl rfl hl.1 rfl (lv_room (Nat.le_of_ble_eq_true rfl)) d_W_addMethod_23 ⟨Nat.le_of_ble_eq_true rfl, Nat.le_of_ble_eq_true rfl⟩) hS (fun q _ h => h.elim) (fun q h => h.elim) (fun r_80 u_81 t H1 locs ht hvm hw hB hz1 hk1 hS => ?_)
        have hP := ro_keep hP hk1
        generalize H1 = H at hP hS ⊢
        refine W.widen (k := 1) (n := 4) (Nat.le_of_ble_eq_true rfl) (Nat.le_of_ble_eq_true rfl) ?_
        subst hw
        refine va_iast hx hb hK hP hD hS 2 1 rfl rfl (vp_in_iff.mpr (by decide)) d_W_addMethod_26 (fun H locs hP hD hS => ?_)
        have hP : va_P (dC, dI) vwCl [(w, .inr (3, [.ref wp, .ref wu, .ref wi, .int 2, .ref wc, .ref wt, .ref wx, .int 0, .ref wm, .int 0])), (wm, .inl (km, 8, .inr (.inr (.inr (.inr fm))))), (q_72, .inl (k_73, 4, .inl (upd (upd (fun _ => 0) (0 : Int32).toNatClampNeg (argX pk 0)) (1 : Int32).toNatClampNeg (argX pk 1))))] H := hP
        have hD : va_D A [(w, .inr (3, [.ref wp, .ref wu, .ref wi, .int 2, .ref wc, .ref wt, .ref wx, .int 0, .ref wm, .int 0])), (wm, .inl (km, 8, .inr (.inr (.inr (.inr fm))))), (q_72, .inl (k_73, 4, .inl (upd (upd (fun _ => 0) (0 : Int32).toNatClampNeg (argX pk 0)) (1 : Int32).toNatClampNeg (argX pk 1))))] := hD
        refine lv_iinc (v := 2) (lv' := [(4, .int 2), (3, .ref q_72), (0, .ref w), (1, .int pk), (2, .int rs)]) hx hb d_W_addMethod_27 hl (k := 0) rfl (by decide) (by decide) rfl (fun ls hl => ?_)
        refine lv_goto (tgt := 10) hx hb d_W_addMethod_30 (by decide) ?_
        refine lv_iload hx hb d_W_addMethod_10 (lv_at hl 0 rfl) ?_
        refine lv_aload_n hx hb d_W_addMethod_12 rfl (lv_at hl 1 rfl) ?_
        refine va_alen (v := 4) hx hb hK hP 2 1 rfl rfl rfl d_W_addMethod_13 ?_
        refine lv_icmp_ge (tgt := 33) hx hb d_W_addMethod_14 (by decide) (fun c_82 => ?_) (fun c_82 => ?_)
        · skip
          first | exact absurd c_82 (by decide) | exact absurd (by decide) c_82
        · skip
          refine lv_aload_n hx hb d_W_addMethod_17 rfl (lv_at hl 1 rfl) ?_
          refine lv_iload hx hb d_W_addMethod_18 (lv_at hl 0 rfl) ?_
          refine lv_iload_n hx hb d_W_addMethod_20 rfl (lv_at hl 3 rfl) ?_
          refine lv_iload hx hb d_W_addMethod_21 (lv_at hl 0 rfl) ?_
          have hPc := hP.sub (ws' := []) [] rfl
          have hKc := hK.sub (tys' := []) [] rfl
          refine va_calli (va_runS (As := [.int pk, .int 2]) (rest := [.int 2, .ref q_72]) ⟨hx, hb, hml, hown, hts⟩ (k_W_argumentType l dC dI pk 2) (va_cwS 2 hts (gS hsub w_138 w_139 w_4 w_140) rfl rfl rfl (by decide +kernel) ⟨Nat.le_of_ble_eq_true rfl, Nat.le_of_ble_eq_true rfl⟩) ⟨bl_0000, fun U hU hW => ⟨rfl, by rw [hU]; exact hPc, va_K.moved hW.alike hKc⟩⟩ rfl rfl hl.1 rfl (lv_room (Nat.le_of_ble_eq_true rfl)) d_W_addMethod_23 ⟨Nat.le_of_ble_eq_true rfl, Nat.le_of_ble_eq_true rfl⟩) hS (fun q _ h => h.elim) (fun q h => h.elim) (fun r_84 u_85 t H1 locs ht hvm hw hB hz1 hk1 hS => ?_)
          have hP := ro_keep hP hk1
          generalize H1 = H at hP hS ⊢
          refine W.widen (k := 1) (n := 4) (Nat.le_of_ble_eq_true rfl) (Nat.le_of_ble_eq_true rfl) ?_
          subst hw
          refine va_iast hx hb hK hP hD hS 2 1 rfl rfl (vp_in_iff.mpr (by decide)) d_W_addMethod_26 (fun H locs hP hD hS => ?_)
          have hP : va_P (dC, dI) vwCl [(w, .inr (3, [.ref wp, .ref wu, .ref wi, .int 2, .ref wc, .ref wt, .ref wx, .int 0, .ref wm, .int 0])), (wm, .inl (km, 8, .inr (.inr (.inr (.inr fm))))), (q_72, .inl (k_73, 4, .inl (upd (upd (upd (fun _ => 0) (0 : Int32).toNatClampNeg (argX pk 0)) (1 : Int32).toNatClampNeg (argX pk 1)) (2 : Int32).toNatClampNeg (argX pk 2))))] H := hP
          have hD : va_D A [(w, .inr (3, [.ref wp, .ref wu, .ref wi, .int 2, .ref wc, .ref wt, .ref wx, .int 0, .ref wm, .int 0])), (wm, .inl (km, 8, .inr (.inr (.inr (.inr fm))))), (q_72, .inl (k_73, 4, .inl (upd (upd (upd (fun _ => 0) (0 : Int32).toNatClampNeg (argX pk 0)) (1 : Int32).toNatClampNeg (argX pk 1)) (2 : Int32).toNatClampNeg (argX pk 2))))] := hD
          refine lv_iinc (v := 3) (lv' := [(4, .int 3), (3, .ref q_72), (0, .ref w), (1, .int pk), (2, .int rs)]) hx hb d_W_addMethod_27 hl (k := 0) rfl (by decide) (by decide) rfl (fun ls hl => ?_)
          refine lv_goto (tgt := 10) hx hb d_W_addMethod_30 (by decide) ?_
          refine lv_iload hx hb d_W_addMethod_10 (lv_at hl 0 rfl) ?_
          refine lv_aload_n hx hb d_W_addMethod_12 rfl (lv_at hl 1 rfl) ?_
          refine va_alen (v := 4) hx hb hK hP 2 1 rfl rfl rfl d_W_addMethod_13 ?_
          refine lv_icmp_ge (tgt := 33) hx hb d_W_addMethod_14 (by decide) (fun c_86 => ?_) (fun c_86 => ?_)
          · skip
            first | exact absurd c_86 (by decide) | exact absurd (by decide) c_86
          · skip
            refine lv_aload_n hx hb d_W_addMethod_17 rfl (lv_at hl 1 rfl) ?_
            refine lv_iload hx hb d_W_addMethod_18 (lv_at hl 0 rfl) ?_
            refine lv_iload_n hx hb d_W_addMethod_20 rfl (lv_at hl 3 rfl) ?_
            refine lv_iload hx hb d_W_addMethod_21 (lv_at hl 0 rfl) ?_
            have hPc := hP.sub (ws' := []) [] rfl
            have hKc := hK.sub (tys' := []) [] rfl
            refine va_calli (va_runS (As := [.int pk, .int 3]) (rest := [.int 3, .ref q_72]) ⟨hx, hb, hml, hown, hts⟩ (k_W_argumentType l dC dI pk 3) (va_cwS 2 hts (gS hsub w_138 w_139 w_4 w_140) rfl rfl rfl (by decide +kernel) ⟨Nat.le_of_ble_eq_true rfl, Nat.le_of_ble_eq_true rfl⟩) ⟨bl_0000, fun U hU hW => ⟨rfl, by rw [hU]; exact hPc, va_K.moved hW.alike hKc⟩⟩ rfl rfl hl.1 rfl (lv_room (Nat.le_of_ble_eq_true rfl)) d_W_addMethod_23 ⟨Nat.le_of_ble_eq_true rfl, Nat.le_of_ble_eq_true rfl⟩) hS (fun q _ h => h.elim) (fun q h => h.elim) (fun r_88 u_89 t H1 locs ht hvm hw hB hz1 hk1 hS => ?_)
            have hP := ro_keep hP hk1
            generalize H1 = H at hP hS ⊢
            refine W.widen (k := 1) (n := 4) (Nat.le_of_ble_eq_true rfl) (Nat.le_of_ble_eq_true rfl) ?_
            subst hw
            refine va_iast hx hb hK hP hD hS 2 1 rfl rfl (vp_in_iff.mpr (by decide)) d_W_addMethod_26 (fun H locs hP hD hS => ?_)
            have hP : va_P (dC, dI) vwCl [(w, .inr (3, [.ref wp, .ref wu, .ref wi, .int 2, .ref wc, .ref wt, .ref wx, .int 0, .ref wm, .int 0])), (wm, .inl (km, 8, .inr (.inr (.inr (.inr fm))))), (q_72, .inl (k_73, 4, .inl (upd (upd (upd (upd (fun _ => 0) (0 : Int32).toNatClampNeg (argX pk 0)) (1 : Int32).toNatClampNeg (argX pk 1)) (2 : Int32).toNatClampNeg (argX pk 2)) (3 : Int32).toNatClampNeg (argX pk 3))))] H := hP
            have hD : va_D A [(w, .inr (3, [.ref wp, .ref wu, .ref wi, .int 2, .ref wc, .ref wt, .ref wx, .int 0, .ref wm, .int 0])), (wm, .inl (km, 8, .inr (.inr (.inr (.inr fm))))), (q_72, .inl (k_73, 4, .inl (upd (upd (upd (upd (fun _ => 0) (0 : Int32).toNatClampNeg (argX pk 0)) (1 : Int32).toNatClampNeg (argX pk 1)) (2 : Int32).toNatClampNeg (argX pk 2)) (3 : Int32).toNatClampNeg (argX pk 3))))] := hD
            refine lv_iinc (v := 4) (lv' := [(4, .int 4), (3, .ref q_72), (0, .ref w), (1, .int pk), (2, .int rs)]) hx hb d_W_addMethod_27 hl (k := 0) rfl (by decide) (by decide) rfl (fun ls hl => ?_)
            refine lv_goto (tgt := 10) hx hb d_W_addMethod_30 (by decide) ?_
            refine lv_iload hx hb d_W_addMethod_10 (lv_at hl 0 rfl) ?_
            refine lv_aload_n hx hb d_W_addMethod_12 rfl (lv_at hl 1 rfl) ?_
            refine va_alen (v := 4) hx hb hK hP 2 1 rfl rfl rfl d_W_addMethod_13 ?_
            refine lv_icmp_ge (tgt := 33) hx hb d_W_addMethod_14 (by decide) (fun c_90 => ?_) (fun c_90 => ?_)
            · skip
              refine lv_aload_n hx hb d_W_addMethod_33 rfl (lv_at hl 2 rfl) ?_
              refine va_get (D := (dC, dI)) (ci := 3) (v := .ref wm) (C := R_W) (T := T_W) (N := 10) hx hb hts (fun w h => hsub w (uw_W w h)) hown hK hP 0 rfl rfl 8 (by decide) (hts _ (hsub _ w_174)) (fun _ h9 => h9) rfl d_W_addMethod_34 ?_
              refine lv_aload_n hx hb d_W_addMethod_37 rfl (lv_at hl 2 rfl) ?_
              refine va_get (D := (dC, dI)) (ci := 3) (v := .int 0) (C := R_W) (T := T_W) (N := 10) hx hb hts (fun w h => hsub w (uw_W w h)) hown hK hP 0 rfl rfl 9 (by decide) (hts _ (hsub _ w_7)) (fun _ h9 => h9) rfl d_W_addMethod_38 ?_
              refine va_new (ci := 6) (fs := [.null, .int 0, .null, .int 0, .int 0, .null, .int 0, .int 0, .int 0, .null, .null, .int 0, .int 0]) (C := R_E) (T := T_E) (N := 13) hx hb hts (fun w h => hsub w (uw_E w h)) ty_E tok_E hown (hts _ (hsub _ w_175)) (hts _ (hsub _ w_176)) (hts _ (hsub _ w_177)) hK hP hD hS hA rfl (fun j hj => df_E j hj) (Nat.le_of_ble_eq_true rfl) (Nat.le_of_ble_eq_true rfl) d_W_addMethod_41 (fun q_91 H hP hD hS => ?_)
              have hP : va_P (dC, dI) vwCl [(w, .inr (3, [.ref wp, .ref wu, .ref wi, .int 2, .ref wc, .ref wt, .ref wx, .int 0, .ref wm, .int 0])), (wm, .inl (km, 8, .inr (.inr (.inr (.inr fm))))), (q_72, .inl (k_73, 4, .inl (upd (upd (upd (upd (fun _ => 0) (0 : Int32).toNatClampNeg (argX pk 0)) (1 : Int32).toNatClampNeg (argX pk 1)) (2 : Int32).toNatClampNeg (argX pk 2)) (3 : Int32).toNatClampNeg (argX pk 3)))), (q_91, .inr (6, [.null, .int 0, .null, .int 0, .int 0, .null, .int 0, .int 0, .int 0, .null, .null, .int 0, .int 0]))] H := hP
              have hD : va_D A [(w, .inr (3, [.ref wp, .ref wu, .ref wi, .int 2, .ref wc, .ref wt, .ref wx, .int 0, .ref wm, .int 0])), (wm, .inl (km, 8, .inr (.inr (.inr (.inr fm))))), (q_72, .inl (k_73, 4, .inl (upd (upd (upd (upd (fun _ => 0) (0 : Int32).toNatClampNeg (argX pk 0)) (1 : Int32).toNatClampNeg (argX pk 1)) (2 : Int32).toNatClampNeg (argX pk 2)) (3 : Int32).toNatClampNeg (argX pk 3)))), (q_91, .inr (6, [.null, .int 0, .null, .int 0, .int 0, .null, .int 0, .int 0, .int 0, .null, .null, .int 0, .int 0]))] := hD
              refine W.widen (k := 2) (n := 17) (Nat.le_of_ble_eq_true rfl) (Nat.le_of_ble_eq_true rfl) ?_
              refine lv_dup hx hb d_W_addMethod_44 rfl ?_
              refine lv_aload_n hx hb d_W_addMethod_45 rfl (lv_at hl 1 rfl) ?_
              refine lv_iload_n hx hb d_W_addMethod_46 rfl (lv_at hl 4 rfl) ?_
              have hPc := hP.sub (ws' := [(q_91, .inr (6, [.null, .int 0, .null, .int 0, .int 0, .null, .int 0, .int 0, .int 0, .null, .null, .int 0, .int 0]))]) [3] rfl
              have hKc := hK.sub (tys' := []) [] rfl
              have hDc := hD.sub (ws' := [(q_91, .inr (6, [.null, .int 0, .null, .int 0, .int 0, .null, .int 0, .int 0, .int 0, .null, .null, .int 0, .int 0]))]) [3] (by decide) rfl
              have hFc := va_free (wc := [(q_91, .inr (6, [.null, .int 0, .null, .int 0, .int 0, .null, .int 0, .int 0, .int 0, .null, .null, .int 0, .int 0]))]) hD hS hA [3] rfl
              refine va_callv (va_runI (As := [.ref q_72, .int rs]) (rest := [.ref q_91, .int 0, .ref wm]) ⟨hx, hb, hml, hown, hts⟩ (k_E_init l dC dI q_91 q_72 rs H.size) (cwI 2 hts (gC hsub w_179) rfl rfl rfl (hts _ (hsub _ w_177)) (hts _ (hsub _ w_178)) (hts _ (hsub _ w_180)) rfl (by decide +kernel) ⟨Nat.le_of_ble_eq_true rfl, Nat.le_of_ble_eq_true rfl⟩) ⟨bl_1010, fun U hU hW => ⟨rfl, by rw [hU], by rw [hU]; exact hPc, va_K.moved hW.alike hKc, hDc.weaken (fun _ _ _ _ => trivial), exP_go hex hS (fun q h => hFc q h) U hU hW⟩⟩ rfl rfl hl.1 rfl (lv_room (Nat.le_of_ble_eq_true rfl)) d_W_addMethod_47 ⟨Nat.le_of_ble_eq_true rfl, Nat.le_of_ble_eq_true rfl⟩) hS (fun q _ h => hFc q h) hFc (fun u_94 t H1 locs ht hvm hw hB hz1 hk1 hS => ?_)
              obtain ⟨q_95, q_96, q_97, q_98, hP1, hK1, hD1⟩ := hB
              rw [ht] at hP1
              have hK1 := va_K.moved hvm.symm hK1
              obtain ⟨hP, hD⟩ := va_join (wr := [(w, .inr (3, [.ref wp, .ref wu, .ref wi, .int 2, .ref wc, .ref wt, .ref wx, .int 0, .ref wm, .int 0])), (wm, .inl (km, 8, .inr (.inr (.inr (.inr fm))))), (q_72, .inl (k_73, 4, .inl (upd (upd (upd (upd (fun _ => 0) (0 : Int32).toNatClampNeg (argX pk 0)) (1 : Int32).toNatClampNeg (argX pk 1)) (2 : Int32).toNatClampNeg (argX pk 2)) (3 : Int32).toNatClampNeg (argX pk 3))))]) (w1 := [(q_91, .inr (6, [.ref q_72, .int rs, .ref q_95, .int 0, .int 0, .ref q_96, .int 0, .int 0, .int (-1), .ref q_97, .ref q_98, .int 0, .int 0]))]) hP hD [3] [0, 1, 2] rfl rfl (by decide) (by decide) hk1 hFc hP1 hD1
              have hK := (hK.sub (tys' := [(km, .object "MapFramer$Method"), (k_73, .int)]) [0, 1] rfl).app hK1
              generalize H1 = H at hP hS ⊢
              have hP : va_P (dC, dI) vwCl [(w, .inr (3, [.ref wp, .ref wu, .ref wi, .int 2, .ref wc, .ref wt, .ref wx, .int 0, .ref wm, .int 0])), (wm, .inl (km, 8, .inr (.inr (.inr (.inr fm))))), (q_72, .inl (k_73, 4, .inl (upd (upd (upd (upd (fun _ => 0) (0 : Int32).toNatClampNeg (argX pk 0)) (1 : Int32).toNatClampNeg (argX pk 1)) (2 : Int32).toNatClampNeg (argX pk 2)) (3 : Int32).toNatClampNeg (argX pk 3)))), (q_91, .inr (6, [.ref q_72, .int rs, .ref q_95, .int 0, .int 0, .ref q_96, .int 0, .int 0, .int (-1), .ref q_97, .ref q_98, .int 0, .int 0]))] H := hP
              have hD : va_D A [(w, .inr (3, [.ref wp, .ref wu, .ref wi, .int 2, .ref wc, .ref wt, .ref wx, .int 0, .ref wm, .int 0])), (wm, .inl (km, 8, .inr (.inr (.inr (.inr fm))))), (q_72, .inl (k_73, 4, .inl (upd (upd (upd (upd (fun _ => 0) (0 : Int32).toNatClampNeg (argX pk 0)) (1 : Int32).toNatClampNeg (argX pk 1)) (2 : Int32).toNatClampNeg (argX pk 2)) (3 : Int32).toNatClampNeg (argX pk 3)))), (q_91, .inr (6, [.ref q_72, .int rs, .ref q_95, .int 0, .int 0, .ref q_96, .int 0, .int 0, .int (-1), .ref q_97, .ref q_98, .int 0, .int 0]))] := hD
              have hK : va_K (dC, dI) vwCl [(km, .object "MapFramer$Method"), (k_73, .int)] s := hK
              refine W.widen (k := 6) (n := 20) (Nat.le_of_ble_eq_true rfl) (Nat.le_of_ble_eq_true rfl) ?_
              refine va_astq (r := (R_E, T_E, 13)) hx hb hK hP hD hS 1 0 3 6 rfl rfl rfl rfl (vp_in_iff.mpr (by decide)) d_W_addMethod_50 (fun H locs hP hD hS => ?_)
              have hP : va_P (dC, dI) vwCl [(w, .inr (3, [.ref wp, .ref wu, .ref wi, .int 2, .ref wc, .ref wt, .ref wx, .int 0, .ref wm, .int 0])), (wm, .inl (km, 8, .inr (.inr (.inr (.inr (va_up fm (0 : Int32).toNatClampNeg (some q_91))))))), (q_72, .inl (k_73, 4, .inl (upd (upd (upd (upd (fun _ => 0) (0 : Int32).toNatClampNeg (argX pk 0)) (1 : Int32).toNatClampNeg (argX pk 1)) (2 : Int32).toNatClampNeg (argX pk 2)) (3 : Int32).toNatClampNeg (argX pk 3)))), (q_91, .inr (6, [.ref q_72, .int rs, .ref q_95, .int 0, .int 0, .ref q_96, .int 0, .int 0, .int (-1), .ref q_97, .ref q_98, .int 0, .int 0]))] H := hP
              have hD : va_D A [(w, .inr (3, [.ref wp, .ref wu, .ref wi, .int 2, .ref wc, .ref wt, .ref wx, .int 0, .ref wm, .int 0])), (wm, .inl (km, 8, .inr (.inr (.inr (.inr (va_up fm (0 : Int32).toNatClampNeg (some q_91))))))), (q_72, .inl (k_73, 4, .inl (upd (upd (upd (upd (fun _ => 0) (0 : Int32).toNatClampNeg (argX pk 0)) (1 : Int32).toNatClampNeg (argX pk 1)) (2 : Int32).toNatClampNeg (argX pk 2)) (3 : Int32).toNatClampNeg (argX pk 3)))), (q_91, .inr (6, [.ref q_72, .int rs, .ref q_95, .int 0, .int 0, .ref q_96, .int 0, .int 0, .int (-1), .ref q_97, .ref q_98, .int 0, .int 0]))] := hD
              refine lv_aload_n hx hb d_W_addMethod_51 rfl (lv_at hl 2 rfl) ?_
              refine lv_dup hx hb d_W_addMethod_52 rfl ?_
              refine va_get (D := (dC, dI)) (ci := 3) (v := .int 0) (C := R_W) (T := T_W) (N := 10) hx hb hts (fun w h => hsub w (uw_W w h)) hown hK hP 0 rfl rfl 9 (by decide) (hts _ (hsub _ w_7)) (fun _ h9 => h9) rfl d_W_addMethod_53 ?_
              refine lv_iconst (v := 1) hx hb d_W_addMethod_56 (by decide) ?_
              refine lv_iadd hx hb d_W_addMethod_57 ?_
              refine tp_i 1 (by decide) ?_
              refine va_put (D := (dC, dI)) (ci := 3) (v := .int 1) (ty := .int) (C := R_W) (T := T_W) (N := 10) hx hb hts (fun w h => hsub w (uw_W w h)) ty_W tok_W nm_W hown hK hP hD hS 0 rfl rfl 9 (by decide) (hts _ (hsub _ w_7)) (fun _ h9 => h9) rfl (by decide +kernel) rfl rfl (Nat.le_of_ble_eq_true rfl) d_W_addMethod_58 (fun H locs hP hD hS => ?_)
              have hP : va_P (dC, dI) vwCl [(w, .inr (3, [.ref wp, .ref wu, .ref wi, .int 2, .ref wc, .ref wt, .ref wx, .int 0, .ref wm, .int 1])), (wm, .inl (km, 8, .inr (.inr (.inr (.inr (va_up fm (0 : Int32).toNatClampNeg (some q_91))))))), (q_72, .inl (k_73, 4, .inl (upd (upd (upd (upd (fun _ => 0) (0 : Int32).toNatClampNeg (argX pk 0)) (1 : Int32).toNatClampNeg (argX pk 1)) (2 : Int32).toNatClampNeg (argX pk 2)) (3 : Int32).toNatClampNeg (argX pk 3)))), (q_91, .inr (6, [.ref q_72, .int rs, .ref q_95, .int 0, .int 0, .ref q_96, .int 0, .int 0, .int (-1), .ref q_97, .ref q_98, .int 0, .int 0]))] H := hP
              have hD : va_D A [(w, .inr (3, [.ref wp, .ref wu, .ref wi, .int 2, .ref wc, .ref wt, .ref wx, .int 0, .ref wm, .int 1])), (wm, .inl (km, 8, .inr (.inr (.inr (.inr (va_up fm (0 : Int32).toNatClampNeg (some q_91))))))), (q_72, .inl (k_73, 4, .inl (upd (upd (upd (upd (fun _ => 0) (0 : Int32).toNatClampNeg (argX pk 0)) (1 : Int32).toNatClampNeg (argX pk 1)) (2 : Int32).toNatClampNeg (argX pk 2)) (3 : Int32).toNatClampNeg (argX pk 3)))), (q_91, .inr (6, [.ref q_72, .int rs, .ref q_95, .int 0, .int 0, .ref q_96, .int 0, .int 0, .int (-1), .ref q_97, .ref q_98, .int 0, .int 0]))] := hD
              refine lv_aload_n hx hb d_W_addMethod_61 rfl (lv_at hl 2 rfl) ?_
              refine va_get (D := (dC, dI)) (ci := 3) (v := .int 1) (C := R_W) (T := T_W) (N := 10) hx hb hts (fun w h => hsub w (uw_W w h)) hown hK hP 0 rfl rfl 9 (by decide) (hts _ (hsub _ w_7)) (fun _ h9 => h9) rfl d_W_addMethod_62 ?_
              refine lv_iconst (v := 1) hx hb d_W_addMethod_65 (by decide) ?_
              refine lv_isub hx hb d_W_addMethod_66 ?_
              refine tp_i 0 (by decide) ?_
              refine W.widen (k := 6) (n := 20) (Nat.le_of_ble_eq_true rfl) (Nat.le_of_ble_eq_true rfl) ?_
              exact W.iret (v := 0) hx hb hr (fun t ht hW => ⟨⟨0, (), rfl, rfl, trivial⟩, hS.F ht⟩) hS.2.2 d_W_addMethod_67
            · skip
              first | exact absurd c_90 (by decide) | exact absurd (by decide) c_90

