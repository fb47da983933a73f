abbrev y_W_hasClass : MethodName := ⟨"MapFramer$World", "hasClass", "(I)Z"⟩
abbrev y_W_isProperClass : MethodName := ⟨"MapFramer$World", "isProperClass", "(I)Z"⟩
abbrev y_W_isValueType : MethodName := ⟨"MapFramer$World", "isValueType", "(I)Z"⟩
abbrev y_W_methodAt : MethodName := ⟨"MapFramer$World", "methodAt", "(I)LMapFramer$Method;"⟩
theorem w_0 : (Cond.fieldLink "MapFramer$World" 37 "MapFramer$World" "classCount" "I" : Cond) ∈ bigW := inB_1 56 (by decide +kernel) rfl
theorem w_1 : (Cond.methodLink "MapFramer$World" 58 ⟨"MapFramer$World", "hasClass", "(I)Z"⟩ : Cond) ∈ bigW := inB_1 228 (by decide +kernel) rfl
theorem w_2 : (Cond.instanceMethod ⟨"MapFramer$World", "hasClass", "(I)Z"⟩ : Cond) ∈ bigW := inB_1 229 (by decide +kernel) rfl
theorem w_3 : (Cond.selects "MapFramer$World" ⟨"MapFramer$World", "hasClass", "(I)Z"⟩ ⟨"MapFramer$World", "hasClass", "(I)Z"⟩ : Cond) ∈ bigW := inB_1 230 (by decide +kernel) rfl
theorem w_4 : (Cond.initialized "MapFramer$World" : Cond) ∈ bigW := inB_1 2 (by decide +kernel) rfl
theorem w_5 : (Cond.code ⟨"MapFramer$World", "hasClass", "(I)Z"⟩ prog_12_method_8_code 2 (some .boolean) : Cond) ∈ bigW := inB_1 231 rfl rfl
theorem w_6 : (Cond.fieldLink "MapFramer$World" 18 "MapFramer$World" "interfaces" "[Z" : Cond) ∈ bigW := inB_1 55 (by decide +kernel) rfl
theorem w_7 : (Cond.fieldLink "MapFramer$World" 52 "MapFramer$World" "methodCount" "I" : Cond) ∈ bigW := inB_1 64 (by decide +kernel) rfl
theorem w_8 : (Cond.lays "MapFramer$Call" "MapFramer$Call" "method" "LMapFramer$Method;" : Cond) ∈ bigW := inB_1 132 (by decide +kernel) rfl
theorem w_9 : (Cond.lays "MapFramer$Call" "MapFramer$Call" "place" "I" : Cond) ∈ bigW := inB_1 134 (by decide +kernel) rfl
theorem w_10 : (Cond.laysFinal "MapFramer$Call" "MapFramer$Call" "locals" "[J" : Cond) ∈ bigW := inB_1 136 (by decide +kernel) rfl
theorem w_11 : (Cond.laysFinal "MapFramer$Call" "MapFramer$Call" "stack" "[J" : Cond) ∈ bigW := inB_1 138 (by decide +kernel) rfl
theorem w_12 : (Cond.lays "MapFramer$Call" "MapFramer$Call" "size" "I" : Cond) ∈ bigW := inB_1 140 (by decide +kernel) rfl
theorem w_13 : (Cond.laysFinal "MapFramer$Heap" "MapFramer$Heap" "types" "[I" : Cond) ∈ bigW := inB_1 107 (by decide +kernel) rfl
theorem w_14 : (Cond.laysFinal "MapFramer$Heap" "MapFramer$Heap" "lengths" "[I" : Cond) ∈ bigW := inB_1 109 (by decide +kernel) rfl
theorem w_15 : (Cond.laysFinal "MapFramer$Heap" "MapFramer$Heap" "values" "[J" : Cond) ∈ bigW := inB_1 111 (by decide +kernel) rfl
theorem w_16 : (Cond.lays "MapFramer$Heap" "MapFramer$Heap" "made" "I" : Cond) ∈ bigW := inB_1 113 (by decide +kernel) rfl
theorem w_17 : (Cond.laysFinal "MapFramer$Machine" "MapFramer$Machine" "heap" "LMapFramer$Heap;" : Cond) ∈ bigW := inB_1 161 (by decide +kernel) rfl
theorem w_18 : (Cond.laysFinal "MapFramer$Machine" "MapFramer$Machine" "statics" "[J" : Cond) ∈ bigW := inB_1 163 (by decide +kernel) rfl
theorem w_19 : (Cond.laysFinal "MapFramer$Machine" "MapFramer$Machine" "calls" "[LMapFramer$Call;" : Cond) ∈ bigW := inB_1 165 (by decide +kernel) rfl
theorem w_20 : (Cond.lays "MapFramer$Machine" "MapFramer$Machine" "world" "LMapFramer$World;" : Cond) ∈ bigW := inB_1 167 (by decide +kernel) rfl
theorem w_21 : (Cond.lays "MapFramer$Machine" "MapFramer$Machine" "depth" "I" : Cond) ∈ bigW := inB_1 169 (by decide +kernel) rfl
theorem w_22 : (Cond.lays "MapFramer$Machine" "MapFramer$Machine" "call" "LMapFramer$Call;" : Cond) ∈ bigW := inB_1 171 (by decide +kernel) rfl
theorem w_23 : (Cond.lays "MapFramer$Machine" "MapFramer$Machine" "next" "I" : Cond) ∈ bigW := inB_1 173 (by decide +kernel) rfl
theorem w_24 : (Cond.lays "MapFramer$Machine" "MapFramer$Machine" "raises" "Z" : Cond) ∈ bigW := inB_1 175 (by decide +kernel) rfl
theorem w_25 : (Cond.lays "MapFramer$Machine" "MapFramer$Machine" "tossed" "I" : Cond) ∈ bigW := inB_1 177 (by decide +kernel) rfl
theorem w_26 : (Cond.lays "MapFramer$Machine" "MapFramer$Machine" "resultType" "I" : Cond) ∈ bigW := inB_1 179 (by decide +kernel) rfl
theorem w_27 : (Cond.lays "MapFramer$Machine" "MapFramer$Machine" "result" "J" : Cond) ∈ bigW := inB_1 181 (by decide +kernel) rfl
theorem w_28 : (Cond.lays "MapFramer$Machine" "MapFramer$Machine" "outcome" "I" : Cond) ∈ bigW := inB_1 183 (by decide +kernel) rfl
theorem w_29 : (Cond.lays "MapFramer$Machine" "MapFramer$Machine" "used" "I" : Cond) ∈ bigW := inB_1 185 (by decide +kernel) rfl
theorem w_30 : (Cond.lays "MapFramer$Machine" "MapFramer$Machine" "thrownClass" "I" : Cond) ∈ bigW := inB_1 187 (by decide +kernel) rfl
theorem w_31 : (Cond.laysFinal "MapFramer$World" "MapFramer$World" "parents" "[I" : Cond) ∈ bigW := inB_1 66 (by decide +kernel) rfl
theorem w_32 : (Cond.laysFinal "MapFramer$World" "MapFramer$World" "supers" "[I" : Cond) ∈ bigW := inB_1 68 (by decide +kernel) rfl
theorem w_33 : (Cond.laysFinal "MapFramer$World" "MapFramer$World" "interfaces" "[Z" : Cond) ∈ bigW := inB_1 70 (by decide +kernel) rfl
theorem w_34 : (Cond.lays "MapFramer$World" "MapFramer$World" "classCount" "I" : Cond) ∈ bigW := inB_1 72 (by decide +kernel) rfl
theorem w_35 : (Cond.laysFinal "MapFramer$World" "MapFramer$World" "fieldClasses" "[I" : Cond) ∈ bigW := inB_1 74 (by decide +kernel) rfl
theorem w_36 : (Cond.laysFinal "MapFramer$World" "MapFramer$World" "fieldTypes" "[I" : Cond) ∈ bigW := inB_1 76 (by decide +kernel) rfl
theorem w_37 : (Cond.laysFinal "MapFramer$World" "MapFramer$World" "fieldStatics" "[Z" : Cond) ∈ bigW := inB_1 78 (by decide +kernel) rfl
theorem w_38 : (Cond.lays "MapFramer$World" "MapFramer$World" "fieldCount" "I" : Cond) ∈ bigW := inB_1 80 (by decide +kernel) rfl
theorem w_39 : (Cond.laysFinal "MapFramer$World" "MapFramer$World" "methods" "[LMapFramer$Method;" : Cond) ∈ bigW := inB_1 82 (by decide +kernel) rfl
theorem w_40 : (Cond.lays "MapFramer$World" "MapFramer$World" "methodCount" "I" : Cond) ∈ bigW := inB_1 84 (by decide +kernel) rfl
theorem w_41 : (Cond.laysFinal "MapFramer" "MapFramer" "world" "LMapFramer$World;" : Cond) ∈ bigW := inB_1 194 (by decide +kernel) rfl
theorem w_42 : (Cond.laysFinal "MapFramer" "MapFramer" "machine" "LMapFramer$Machine;" : Cond) ∈ bigW := inB_1 196 (by decide +kernel) rfl
theorem w_43 : (Cond.laysFinal "MapFramer" "MapFramer" "tape" "[I" : Cond) ∈ bigW := inB_1 198 (by decide +kernel) rfl
theorem w_44 : (Cond.lays "MapFramer" "MapFramer" "tapeLength" "I" : Cond) ∈ bigW := inB_1 200 (by decide +kernel) rfl
theorem w_45 : (Cond.lays "MapFramerModel" "MapFramerModel" "thrown" "I" : Cond) ∈ bigW := inB_8 131 (by decide +kernel) rfl
theorem w_46 : (Cond.lays "MapFramerModel" "MapFramerModel" "classes" "I" : Cond) ∈ bigW := inB_8 133 (by decide +kernel) rfl
theorem w_47 : (Cond.laysFinal "MapFramerModel" "MapFramerModel" "above" "[I" : Cond) ∈ bigW := inB_8 135 (by decide +kernel) rfl
theorem w_48 : (Cond.laysFinal "MapFramerModel" "MapFramerModel" "isFace" "[Z" : Cond) ∈ bigW := inB_8 137 (by decide +kernel) rfl
theorem w_49 : (Cond.lays "MapFramerModel" "MapFramerModel" "fields" "I" : Cond) ∈ bigW := inB_8 139 (by decide +kernel) rfl
theorem w_50 : (Cond.laysFinal "MapFramerModel" "MapFramerModel" "fieldClass" "[I" : Cond) ∈ bigW := inB_8 141 (by decide +kernel) rfl
theorem w_51 : (Cond.laysFinal "MapFramerModel" "MapFramerModel" "fieldType" "[I" : Cond) ∈ bigW := inB_8 143 (by decide +kernel) rfl
theorem w_52 : (Cond.laysFinal "MapFramerModel" "MapFramerModel" "fieldStatic" "[Z" : Cond) ∈ bigW := inB_8 145 (by decide +kernel) rfl
theorem w_53 : (Cond.lays "MapFramerModel" "MapFramerModel" "methods" "I" : Cond) ∈ bigW := inB_8 147 (by decide +kernel) rfl
theorem w_54 : (Cond.laysFinal "MapFramerModel" "MapFramerModel" "arguments" "[I" : Cond) ∈ bigW := inB_8 149 (by decide +kernel) rfl
theorem w_55 : (Cond.laysFinal "MapFramerModel" "MapFramerModel" "argumentCount" "[I" : Cond) ∈ bigW := inB_8 151 (by decide +kernel) rfl
theorem w_56 : (Cond.laysFinal "MapFramerModel" "MapFramerModel" "results" "[I" : Cond) ∈ bigW := inB_8 153 (by decide +kernel) rfl
theorem w_57 : (Cond.laysFinal "MapFramerModel" "MapFramerModel" "sizes" "[I" : Cond) ∈ bigW := inB_8 155 (by decide +kernel) rfl
theorem w_58 : (Cond.laysFinal "MapFramerModel" "MapFramerModel" "codes" "[I" : Cond) ∈ bigW := inB_8 157 (by decide +kernel) rfl
theorem w_59 : (Cond.laysFinal "MapFramerModel" "MapFramerModel" "maxStack" "[I" : Cond) ∈ bigW := inB_8 159 (by decide +kernel) rfl
theorem w_60 : (Cond.laysFinal "MapFramerModel" "MapFramerModel" "maxLocals" "[I" : Cond) ∈ bigW := inB_8 161 (by decide +kernel) rfl
theorem w_61 : (Cond.laysFinal "MapFramerModel" "MapFramerModel" "handlers" "[I" : Cond) ∈ bigW := inB_8 163 (by decide +kernel) rfl
theorem w_62 : (Cond.laysFinal "MapFramerModel" "MapFramerModel" "handlerFrom" "[I" : Cond) ∈ bigW := inB_8 165 (by decide +kernel) rfl
theorem w_63 : (Cond.laysFinal "MapFramerModel" "MapFramerModel" "handlerTo" "[I" : Cond) ∈ bigW := inB_8 167 (by decide +kernel) rfl
theorem w_64 : (Cond.laysFinal "MapFramerModel" "MapFramerModel" "handlerPlace" "[I" : Cond) ∈ bigW := inB_8 169 (by decide +kernel) rfl
theorem w_65 : (Cond.laysFinal "MapFramerModel" "MapFramerModel" "handlerClass" "[I" : Cond) ∈ bigW := inB_8 171 (by decide +kernel) rfl
theorem w_66 : (Cond.laysFinal "MapFramerModel" "MapFramerModel" "verified" "[Z" : Cond) ∈ bigW := inB_8 173 (by decide +kernel) rfl
theorem w_67 : (Cond.laysFinal "MapFramerModel" "MapFramerModel" "fault" "[I" : Cond) ∈ bigW := inB_8 175 (by decide +kernel) rfl
theorem w_68 : (Cond.laysFinal "MapFramerModel" "MapFramerModel" "faultAt" "[I" : Cond) ∈ bigW := inB_8 177 (by decide +kernel) rfl
theorem w_69 : (Cond.lays "MapFramerModel" "MapFramerModel" "taped" "I" : Cond) ∈ bigW := inB_8 179 (by decide +kernel) rfl
theorem w_70 : (Cond.laysFinal "MapFramerModel" "MapFramerModel" "tape" "[I" : Cond) ∈ bigW := inB_8 181 (by decide +kernel) rfl
theorem w_71 : (Cond.laysFinal "MapFramerModel" "MapFramerModel" "begins" "[Z" : Cond) ∈ bigW := inB_8 183 (by decide +kernel) rfl
theorem w_72 : (Cond.laysFinal "MapFramerModel" "MapFramerModel" "high" "[I" : Cond) ∈ bigW := inB_8 185 (by decide +kernel) rfl
theorem w_73 : (Cond.laysFinal "MapFramerModel" "MapFramerModel" "locals" "[I" : Cond) ∈ bigW := inB_8 187 (by decide +kernel) rfl
theorem w_74 : (Cond.laysFinal "MapFramerModel" "MapFramerModel" "stacks" "[I" : Cond) ∈ bigW := inB_8 189 (by decide +kernel) rfl
theorem w_75 : (Cond.laysFinal "MapFramerModel" "MapFramerModel" "due" "[Z" : Cond) ∈ bigW := inB_8 191 (by decide +kernel) rfl
theorem w_76 : (Cond.laysFinal "MapFramerModel" "MapFramerModel" "dead" "[Z" : Cond) ∈ bigW := inB_8 193 (by decide +kernel) rfl
theorem w_77 : (Cond.laysFinal "MapFramerModel" "MapFramerModel" "framed" "[Z" : Cond) ∈ bigW := inB_8 195 (by decide +kernel) rfl
theorem w_78 : (Cond.lays "MapFramerModel" "MapFramerModel" "method" "I" : Cond) ∈ bigW := inB_8 197 (by decide +kernel) rfl
theorem w_79 : (Cond.lays "MapFramerModel" "MapFramerModel" "here" "I" : Cond) ∈ bigW := inB_8 199 (by decide +kernel) rfl
theorem w_80 : (Cond.lays "MapFramerModel" "MapFramerModel" "bad" "I" : Cond) ∈ bigW := inB_8 201 (by decide +kernel) rfl
theorem w_81 : (Cond.lays "MapFramerModel" "MapFramerModel" "badAt" "I" : Cond) ∈ bigW := inB_8 203 (by decide +kernel) rfl
theorem w_82 : (Cond.laysFinal "MapFramerModel" "MapFramerModel" "local" "[I" : Cond) ∈ bigW := inB_8 205 (by decide +kernel) rfl
theorem w_83 : (Cond.laysFinal "MapFramerModel" "MapFramerModel" "before" "[I" : Cond) ∈ bigW := inB_8 207 (by decide +kernel) rfl
theorem w_84 : (Cond.laysFinal "MapFramerModel" "MapFramerModel" "stack" "[I" : Cond) ∈ bigW := inB_8 209 (by decide +kernel) rfl
theorem w_85 : (Cond.lays "MapFramerModel" "MapFramerModel" "many" "I" : Cond) ∈ bigW := inB_8 211 (by decide +kernel) rfl
theorem w_86 : (Cond.laysFinal "MapFramerModel" "MapFramerModel" "given" "[I" : Cond) ∈ bigW := inB_8 213 (by decide +kernel) rfl
theorem w_87 : (Cond.laysFinal "MapFramerModel" "MapFramerModel" "givenStack" "[I" : Cond) ∈ bigW := inB_8 215 (by decide +kernel) rfl
theorem w_88 : (Cond.lays "MapFramerModel" "MapFramerModel" "givenMany" "I" : Cond) ∈ bigW := inB_8 217 (by decide +kernel) rfl
theorem w_89 : (Cond.lays "MapFramerModel" "MapFramerModel" "mostStack" "I" : Cond) ∈ bigW := inB_8 219 (by decide +kernel) rfl
theorem w_90 : (Cond.lays "MapFramerModel" "MapFramerModel" "cuts" "I" : Cond) ∈ bigW := inB_8 221 (by decide +kernel) rfl
theorem w_91 : (Cond.laysFinal "MapFramerModel" "MapFramerModel" "cutFrom" "[I" : Cond) ∈ bigW := inB_8 223 (by decide +kernel) rfl
theorem w_92 : (Cond.laysFinal "MapFramerModel" "MapFramerModel" "cutTo" "[I" : Cond) ∈ bigW := inB_8 225 (by decide +kernel) rfl
theorem w_93 : (Cond.laysFinal "MapFramerModel" "MapFramerModel" "cutPlace" "[I" : Cond) ∈ bigW := inB_8 227 (by decide +kernel) rfl
theorem w_94 : (Cond.laysFinal "MapFramerModel" "MapFramerModel" "cutClass" "[I" : Cond) ∈ bigW := inB_8 229 (by decide +kernel) rfl
theorem w_95 : (Cond.lays "MapFramerModel" "MapFramerModel" "written" "I" : Cond) ∈ bigW := inB_8 231 (by decide +kernel) rfl
theorem w_96 : (Cond.laysFinal "MapFramerModel" "MapFramerModel" "bytes" "[I" : Cond) ∈ bigW := inB_8 233 (by decide +kernel) rfl
theorem w_97 : (Cond.laysFinal "MapFramerModel" "MapFramerModel" "was" "[I" : Cond) ∈ bigW := inB_8 235 (by decide +kernel) rfl
theorem w_98 : (Cond.lays "MapFramerModel" "MapFramerModel" "wasMany" "I" : Cond) ∈ bigW := inB_8 237 (by decide +kernel) rfl
theorem w_99 : (Cond.laysFinal "MapFramerModel" "MapFramerModel" "now" "[I" : Cond) ∈ bigW := inB_8 239 (by decide +kernel) rfl
theorem w_100 : (Cond.lays "MapFramerModel" "MapFramerModel" "nowMany" "I" : Cond) ∈ bigW := inB_9 1 (by decide +kernel) rfl
theorem w_101 : (Cond.laysFinal "MapFramerModel" "MapFramerModel" "ends" "[I" : Cond) ∈ bigW := inB_9 3 (by decide +kernel) rfl
theorem w_102 : (Cond.laysFinal "MapFramerModel" "MapFramerModel" "statics" "[J" : Cond) ∈ bigW := inB_9 5 (by decide +kernel) rfl
theorem w_103 : (Cond.lays "MapFramerModel" "MapFramerModel" "things" "I" : Cond) ∈ bigW := inB_9 7 (by decide +kernel) rfl
theorem w_104 : (Cond.laysFinal "MapFramerModel" "MapFramerModel" "thingType" "[I" : Cond) ∈ bigW := inB_9 9 (by decide +kernel) rfl
theorem w_105 : (Cond.laysFinal "MapFramerModel" "MapFramerModel" "thingSize" "[I" : Cond) ∈ bigW := inB_9 11 (by decide +kernel) rfl
theorem w_106 : (Cond.laysFinal "MapFramerModel" "MapFramerModel" "elements" "[J" : Cond) ∈ bigW := inB_9 13 (by decide +kernel) rfl
theorem w_107 : (Cond.laysFinal "MapFramerModel" "MapFramerModel" "slots" "[J" : Cond) ∈ bigW := inB_9 15 (by decide +kernel) rfl
theorem w_108 : (Cond.lays "MapFramerModel" "MapFramerModel" "deep" "I" : Cond) ∈ bigW := inB_9 17 (by decide +kernel) rfl
theorem w_109 : (Cond.laysFinal "MapFramerModel" "MapFramerModel" "callMethod" "[I" : Cond) ∈ bigW := inB_9 19 (by decide +kernel) rfl
theorem w_110 : (Cond.laysFinal "MapFramerModel" "MapFramerModel" "callPlace" "[I" : Cond) ∈ bigW := inB_9 21 (by decide +kernel) rfl
theorem w_111 : (Cond.laysFinal "MapFramerModel" "MapFramerModel" "callHigh" "[I" : Cond) ∈ bigW := inB_9 23 (by decide +kernel) rfl
theorem w_112 : (Cond.laysFinal "MapFramerModel" "MapFramerModel" "values" "[J" : Cond) ∈ bigW := inB_9 25 (by decide +kernel) rfl
theorem w_113 : (Cond.laysFinal "MapFramerModel" "MapFramerModel" "piles" "[J" : Cond) ∈ bigW := inB_9 27 (by decide +kernel) rfl
theorem w_114 : (Cond.lays "MapFramerModel" "MapFramerModel" "running" "Z" : Cond) ∈ bigW := inB_9 29 (by decide +kernel) rfl
theorem w_115 : (Cond.lays "MapFramerModel" "MapFramerModel" "answer" "J" : Cond) ∈ bigW := inB_9 31 (by decide +kernel) rfl
theorem w_116 : (Cond.laysFinal "MapFramer$Method" "MapFramer$Method" "arguments" "[I" : Cond) ∈ bigW := inB_2 193 (by decide +kernel) rfl
theorem w_117 : (Cond.laysFinal "MapFramer$Method" "MapFramer$Method" "result" "I" : Cond) ∈ bigW := inB_2 195 (by decide +kernel) rfl
theorem w_118 : (Cond.lays "MapFramer$Method" "MapFramer$Method" "code" "[I" : Cond) ∈ bigW := inB_2 197 (by decide +kernel) rfl
theorem w_119 : (Cond.lays "MapFramer$Method" "MapFramer$Method" "maxStack" "I" : Cond) ∈ bigW := inB_2 199 (by decide +kernel) rfl
theorem w_120 : (Cond.lays "MapFramer$Method" "MapFramer$Method" "maxLocals" "I" : Cond) ∈ bigW := inB_2 201 (by decide +kernel) rfl
theorem w_121 : (Cond.lays "MapFramer$Method" "MapFramer$Method" "handlers" "Ljava/util/ArrayList;" : Cond) ∈ bigW := inB_2 203 (by decide +kernel) rfl
theorem w_122 : (Cond.lays "MapFramer$Method" "MapFramer$Method" "verified" "Z" : Cond) ∈ bigW := inB_2 205 (by decide +kernel) rfl
theorem w_123 : (Cond.lays "MapFramer$Method" "MapFramer$Method" "fault" "I" : Cond) ∈ bigW := inB_2 207 (by decide +kernel) rfl
theorem w_124 : (Cond.lays "MapFramer$Method" "MapFramer$Method" "faultAt" "I" : Cond) ∈ bigW := inB_2 209 (by decide +kernel) rfl
theorem w_125 : (Cond.lays "MapFramer$Method" "MapFramer$Method" "states" "[LMapFramer$State;" : Cond) ∈ bigW := inB_2 211 (by decide +kernel) rfl
theorem w_126 : (Cond.lays "MapFramer$Method" "MapFramer$Method" "frames" "[I" : Cond) ∈ bigW := inB_2 213 (by decide +kernel) rfl
theorem w_127 : (Cond.lays "MapFramer$Method" "MapFramer$Method" "frameCount" "I" : Cond) ∈ bigW := inB_2 215 (by decide +kernel) rfl
theorem w_128 : (Cond.lays "MapFramer$Method" "MapFramer$Method" "called" "I" : Cond) ∈ bigW := inB_2 217 (by decide +kernel) rfl
theorem w_129 : (Cond.lays "java/util/ArrayList" "java/util/AbstractList" "modCount" "I" : Cond) ∈ bigW := inB_2 151 (by decide +kernel) rfl
theorem w_130 : (Cond.lays "java/util/ArrayList" "java/util/ArrayList" "elementData" "[Ljava/lang/Object;" : Cond) ∈ bigW := inB_2 147 (by decide +kernel) rfl
theorem w_131 : (Cond.lays "java/util/ArrayList" "java/util/ArrayList" "size" "I" : Cond) ∈ bigW := inB_2 149 (by decide +kernel) rfl
theorem uk_C : ∀ k, k < 5 → u_lay R_C T_C k ∈ bigW := fun k hk => match k, hk with | 0, _ => w_8 | 1, _ => w_9 | 2, _ => w_10 | 3, _ => w_11 | 4, _ => w_12 | k + 5, hk => absurd hk (by omega)
theorem uw_C : ∀ w ∈ u_ws R_C T_C 5, w ∈ bigW := fun w h => by obtain ⟨k, hk, rfl⟩ := List.mem_map.mp h; exact uk_C k (List.mem_range.mp hk)
theorem uk_H : ∀ k, k < 4 → u_lay R_H T_H k ∈ bigW := fun k hk => match k, hk with | 0, _ => w_13 | 1, _ => w_14 | 2, _ => w_15 | 3, _ => w_16 | k + 4, hk => absurd hk (by omega)
theorem uw_H : ∀ w ∈ u_ws R_H T_H 4, w ∈ bigW := fun w h => by obtain ⟨k, hk, rfl⟩ := List.mem_map.mp h; exact uk_H k (List.mem_range.mp hk)
theorem uk_K : ∀ k, k < 14 → u_lay R_K T_K k ∈ bigW := fun k hk => match k, hk with | 0, _ => w_17 | 1, _ => w_18 | 2, _ => w_19 | 3, _ => w_20 | 4, _ => w_21 | 5, _ => w_22 | 6, _ => w_23 | 7, _ => w_24 | 8, _ => w_25 | 9, _ => w_26 | 10, _ => w_27 | 11, _ => w_28 | 12, _ => w_29 | 13, _ => w_30 | k + 14, hk => absurd hk (by omega)
theorem uw_K : ∀ w ∈ u_ws R_K T_K 14, w ∈ bigW := fun w h => by obtain ⟨k, hk, rfl⟩ := List.mem_map.mp h; exact uk_K k (List.mem_range.mp hk)
theorem uk_W : ∀ k, k < 10 → u_lay R_W T_W k ∈ bigW := fun k hk => match k, hk with | 0, _ => w_31 | 1, _ => w_32 | 2, _ => w_33 | 3, _ => w_34 | 4, _ => w_35 | 5, _ => w_36 | 6, _ => w_37 | 7, _ => w_38 | 8, _ => w_39 | 9, _ => w_40 | k + 10, hk => absurd hk (by omega)
theorem uw_W : ∀ w ∈ u_ws R_W T_W 10, w ∈ bigW := fun w h => by obtain ⟨k, hk, rfl⟩ := List.mem_map.mp h; exact uk_W k (List.mem_range.mp hk)
theorem uk_F : ∀ k, k < 4 → u_lay R_F T_F k ∈ bigW := fun k hk => match k, hk with | 0, _ => w_41 | 1, _ => w_42 | 2, _ => w_43 | 3, _ => w_44 | k + 4, hk => absurd hk (by omega)
theorem uw_F : ∀ w ∈ u_ws R_F T_F 4, w ∈ bigW := fun w h => by obtain ⟨k, hk, rfl⟩ := List.mem_map.mp h; exact uk_F k (List.mem_range.mp hk)
theorem uk_M : ∀ k, k < 71 → u_lay R_M T_M k ∈ bigW := fun k hk => match k, hk with | 0, _ => w_45 | 1, _ => w_46 | 2, _ => w_47 | 3, _ => w_48 | 4, _ => w_49 | 5, _ => w_50 | 6, _ => w_51 | 7, _ => w_52 | 8, _ => w_53 | 9, _ => w_54 | 10, _ => w_55 | 11, _ => w_56 | 12, _ => w_57 | 13, _ => w_58 | 14, _ => w_59 | 15, _ => w_60 | 16, _ => w_61 | 17, _ => w_62 | 18, _ => w_63 | 19, _ => w_64 | 20, _ => w_65 | 21, _ => w_66 | 22, _ => w_67 | 23, _ => w_68 | 24, _ => w_69 | 25, _ => w_70 | 26, _ => w_71 | 27, _ => w_72 | 28, _ => w_73 | 29, _ => w_74 | 30, _ => w_75 | 31, _ => w_76 | 32, _ => w_77 | 33, _ => w_78 | 34, _ => w_79 | 35, _ => w_80 | 36, _ => w_81 | 37, _ => w_82 | 38, _ => w_83 | 39, _ => w_84 | 40, _ => w_85 | 41, _ => w_86 | 42, _ => w_87 | 43, _ => w_88 | 44, _ => w_89 | 45, _ => w_90 | 46, _ => w_91 | 47, _ => w_92 | 48, _ => w_93 | 49, _ => w_94 | 50, _ => w_95 | 51, _ => w_96 | 52, _ => w_97 | 53, _ => w_98 | 54, _ => w_99 | 55, _ => w_100 | 56, _ => w_101 | 57, _ => w_102 | 58, _ => w_103 | 59, _ => w_104 | 60, _ => w_105 | 61, _ => w_106 | 62, _ => w_107 | 63, _ => w_108 | 64, _ => w_109 | 65, _ => w_110 | 66, _ => w_111 | 67, _ => w_112 | 68, _ => w_113 | 69, _ => w_114 | 70, _ => w_115 | k + 71, hk => absurd hk (by omega)
theorem uw_M : ∀ w ∈ u_ws R_M T_M 71, w ∈ bigW := fun w h => by obtain ⟨k, hk, rfl⟩ := List.mem_map.mp h; exact uk_M k (List.mem_range.mp hk)
theorem uk_E : ∀ k, k < 13 → u_lay R_E T_E k ∈ bigW := fun k hk => match k, hk with | 0, _ => w_116 | 1, _ => w_117 | 2, _ => w_118 | 3, _ => w_119 | 4, _ => w_120 | 5, _ => w_121 | 6, _ => w_122 | 7, _ => w_123 | 8, _ => w_124 | 9, _ => w_125 | 10, _ => w_126 | 11, _ => w_127 | 12, _ => w_128 | k + 13, hk => absurd hk (by omega)
theorem uw_E : ∀ w ∈ u_ws R_E T_E 13, w ∈ bigW := fun w h => by obtain ⟨k, hk, rfl⟩ := List.mem_map.mp h; exact uk_E k (List.mem_range.mp hk)
theorem uk_A : ∀ k, k < 3 → u_lay R_A T_A k ∈ bigW := fun k hk => match k, hk with | 0, _ => w_129 | 1, _ => w_130 | 2, _ => w_131 | k + 3, hk => absurd hk (by omega)
theorem uw_A : ∀ w ∈ u_ws R_A T_A 3, w ∈ bigW := fun w h => by obtain ⟨k, hk, rfl⟩ := List.mem_map.mp h; exact uk_A k (List.mem_range.mp hk)
theorem d_W_hasClass_0 : decode prog_12_method_8_code 0 = .ok (.iload_n 1, 1) := by decide +kernel
theorem d_W_hasClass_1 : decode prog_12_method_8_code 1 = .ok (.ifCond .lt 15, 3) := by decide +kernel
theorem d_W_hasClass_4 : decode prog_12_method_8_code 4 = .ok (.iload_n 1, 1) := by decide +kernel
theorem d_W_hasClass_5 : decode prog_12_method_8_code 5 = .ok (.aload_n 0, 1) := by decide +kernel
theorem d_W_hasClass_6 : decode prog_12_method_8_code 6 = .ok (.getfield 37, 3) := by decide +kernel
theorem d_W_hasClass_9 : decode prog_12_method_8_code 9 = .ok (.if_icmp .ge 7, 3) := by decide +kernel
theorem d_W_hasClass_12 : decode prog_12_method_8_code 12 = .ok (.iconst 1, 1) := by decide +kernel
theorem d_W_hasClass_13 : decode prog_12_method_8_code 13 = .ok (.goto 4, 3) := by decide +kernel
theorem d_W_hasClass_16 : decode prog_12_method_8_code 16 = .ok (.iconst 0, 1) := by decide +kernel
theorem d_W_hasClass_17 : decode prog_12_method_8_code 17 = .ok (.ireturn, 1) := by decide +kernel
theorem d_W_isProperClass_0 : decode prog_12_method_9_code 0 = .ok (.aload_n 0, 1) := by decide +kernel
theorem d_W_isProperClass_1 : decode prog_12_method_9_code 1 = .ok (.iload_n 1, 1) := by decide +kernel
theorem d_W_isProperClass_2 : decode prog_12_method_9_code 2 = .ok (.invokevirtual 58, 3) := by decide +kernel
theorem d_W_isProperClass_5 : decode prog_12_method_9_code 5 = .ok (.ifCond .eq 16, 3) := by decide +kernel
theorem d_W_isProperClass_8 : decode prog_12_method_9_code 8 = .ok (.aload_n 0, 1) := by decide +kernel
theorem d_W_isProperClass_9 : decode prog_12_method_9_code 9 = .ok (.getfield 18, 3) := by decide +kernel
theorem d_W_isProperClass_12 : decode prog_12_method_9_code 12 = .ok (.iload_n 1, 1) := by decide +kernel
theorem d_W_isProperClass_13 : decode prog_12_method_9_code 13 = .ok (.baload, 1) := by decide +kernel
theorem d_W_isProperClass_14 : decode prog_12_method_9_code 14 = .ok (.ifCond .ne 7, 3) := by decide +kernel
theorem d_W_isProperClass_17 : decode prog_12_method_9_code 17 = .ok (.iconst 1, 1) := by decide +kernel
theorem d_W_isProperClass_18 : decode prog_12_method_9_code 18 = .ok (.goto 4, 3) := by decide +kernel
theorem d_W_isProperClass_21 : decode prog_12_method_9_code 21 = .ok (.iconst 0, 1) := by decide +kernel
theorem d_W_isProperClass_22 : decode prog_12_method_9_code 22 = .ok (.ireturn, 1) := by decide +kernel
theorem d_W_isValueType_0 : decode prog_12_method_11_code 0 = .ok (.iload_n 1, 1) := by decide +kernel
theorem d_W_isValueType_1 : decode prog_12_method_11_code 1 = .ok (.iconst 1, 1) := by decide +kernel
theorem d_W_isValueType_2 : decode prog_12_method_11_code 2 = .ok (.if_icmp .lt 8, 3) := by decide +kernel
theorem d_W_isValueType_5 : decode prog_12_method_11_code 5 = .ok (.iload_n 1, 1) := by decide +kernel
theorem d_W_isValueType_6 : decode prog_12_method_11_code 6 = .ok (.iconst 4, 1) := by decide +kernel
theorem d_W_isValueType_7 : decode prog_12_method_11_code 7 = .ok (.if_icmp .le 25, 3) := by decide +kernel
theorem d_W_isValueType_10 : decode prog_12_method_11_code 10 = .ok (.aload_n 0, 1) := by decide +kernel
theorem d_W_isValueType_11 : decode prog_12_method_11_code 11 = .ok (.iload_n 1, 1) := by decide +kernel
theorem d_W_isValueType_12 : decode prog_12_method_11_code 12 = .ok (.bipush 32, 2) := by decide +kernel
theorem d_W_isValueType_14 : decode prog_12_method_11_code 14 = .ok (.isub, 1) := by decide +kernel
theorem d_W_isValueType_15 : decode prog_12_method_11_code 15 = .ok (.invokevirtual 58, 3) := by decide +kernel
theorem d_W_isValueType_18 : decode prog_12_method_11_code 18 = .ok (.ifCond .ne 14, 3) := by decide +kernel
theorem d_W_isValueType_21 : decode prog_12_method_11_code 21 = .ok (.aload_n 0, 1) := by decide +kernel
theorem d_W_isValueType_22 : decode prog_12_method_11_code 22 = .ok (.iload_n 1, 1) := by decide +kernel
theorem d_W_isValueType_23 : decode prog_12_method_11_code 23 = .ok (.bipush 64, 2) := by decide +kernel
theorem d_W_isValueType_25 : decode prog_12_method_11_code 25 = .ok (.isub, 1) := by decide +kernel
theorem d_W_isValueType_26 : decode prog_12_method_11_code 26 = .ok (.invokevirtual 58, 3) := by decide +kernel
theorem d_W_isValueType_29 : decode prog_12_method_11_code 29 = .ok (.ifCond .eq 7, 3) := by decide +kernel
theorem d_W_isValueType_32 : decode prog_12_method_11_code 32 = .ok (.iconst 1, 1) := by decide +kernel
theorem d_W_isValueType_33 : decode prog_12_method_11_code 33 = .ok (.goto 4, 3) := by decide +kernel
theorem d_W_isValueType_36 : decode prog_12_method_11_code 36 = .ok (.iconst 0, 1) := by decide +kernel
theorem d_W_isValueType_37 : decode prog_12_method_11_code 37 = .ok (.ireturn, 1) := by decide +kernel
theorem d_W_methodAt_0 : decode prog_12_method_7_code 0 = .ok (.iload_n 1, 1) := by decide +kernel
theorem d_W_methodAt_1 : decode prog_12_method_7_code 1 = .ok (.ifCond .lt 20, 3) := by decide +kernel
theorem d_W_methodAt_4 : decode prog_12_method_7_code 4 = .ok (.iload_n 1, 1) := by decide +kernel
theorem d_W_methodAt_5 : decode prog_12_method_7_code 5 = .ok (.aload_n 0, 1) := by decide +kernel
theorem d_W_methodAt_6 : decode prog_12_method_7_code 6 = .ok (.getfield 52, 3) := by decide +kernel
theorem d_W_methodAt_9 : decode prog_12_method_7_code 9 = .ok (.if_icmp .ge 12, 3) := by decide +kernel
theorem d_W_methodAt_21 : decode prog_12_method_7_code 21 = .ok (.aconst_null, 1) := by decide +kernel
theorem d_W_methodAt_22 : decode prog_12_method_7_code 22 = .ok (.areturn, 1) := by decide +kernel

abbrev ws_k_W_hasClass (w wp wu wi wc wt wx wm : Nat) : va_W := [(w, .inr (3, [.ref wp, .ref wu, .ref wi, .int 2, .ref wc, .ref wt, .ref wx, .int 0, .ref wm, .int 0]))]
set_option maxHeartbeats 4000000 in
set_option maxRecDepth 100000 in
theorem k_W_hasClass (l : Launch) (dC : Nat → ClassId) (dI : Nat → Nat → Nat) (w wp wu wi wc wt wx wm : Nat) (cv : Int32) : Met l y_W_hasClass (Cond.code y_W_hasClass prog_12_method_8_code 2 (some .boolean) :: bigW) ({ frames := 0, cells := 0, slots := 0, locals := 0 } : Room) (va_Pc [.ref w, .int cv] (fun U => va_P (dC, dI) vwCl (ws_k_W_hasClass w wp wu wi wc wt wx wm) U.heap ∧ va_K (dC, dI) vwCl [] U)) (va_Qi (fun (r : Int32) (u : Unit) => (r = 1 ∧ hasC cv) ∨ (r = 0 ∧ ¬ hasC cv)) (fun _ _ => True) (fun _ => False)) 0 0 (fun _ => False) := by
  refine Met.ofW (cc := prog_12_method_8_code) (maxL := 2) (ret := (some .boolean)) (by decide) rfl ?_
  intro p e s m args below meth cx s₁ B hml hv
  obtain ⟨rfl, hP, hK⟩ := hv
  have hx := B.exec
  have hb := B.bytes
  have hr := B.returns
  have hts := atoms_spec (ws := (Cond.code y_W_hasClass prog_12_method_8_code 2 (some .boolean) :: bigW)) B.pre
  have hsub : ∀ w ∈ bigW, w ∈ (Cond.code y_W_hasClass prog_12_method_8_code 2 (some .boolean) :: bigW) := fun w h => List.mem_cons_of_mem _ h
  have hown : s.vm.findClass "MapFramer$World" = some m.cls := findClass_of_methodNamed B.named
  have hlocks := B.notSynchronized
  have hS : va_S (fun _ => False) s.heap s.heap [] := va_S.rf
  have hP : va_P (dC, dI) vwCl [(w, .inr (3, [.ref wp, .ref wu, .ref wi, .int 2, .ref wc, .ref wt, .ref wx, .int 0, .ref wm, .int 0]))] s.heap := hP
  have hl := lv_entry ([.ref w, .int cv]) (n := 2) (Nat.le_of_ble_eq_true rfl)
  rw [lg_entry_eq]
  generalize (lg_sl ([.ref w, .int cv]) ++ List.replicate (2 - (lg_sl ([.ref w, .int cv])).length) Slot.unset).toArray = ls at hl ⊢
  have hl : lv_has ls 2 [(0, .ref w), (1, .int cv)] := hl
  refine lv_iload_n hx hb d_W_hasClass_0 rfl (lv_at hl 1 rfl) ?_
  refine lv_if_lt (tgt := 16) hx hb d_W_hasClass_1 (by decide) (fun c_1 => ?_) (fun c_1 => ?_)
  · skip
    refine lv_iconst (v := 0) hx hb d_W_hasClass_16 (by decide) ?_
    refine W.widen (k := 0) (n := 0) (Nat.le_of_ble_eq_true rfl) (Nat.le_of_ble_eq_true rfl) ?_
    exact W.zret (v := 0) hx hb hr rfl (fun t ht hW => ⟨⟨0, (), rfl, Or.inr ⟨rfl, by (try simp only [Int32.le_iff_toInt_le, Int32.lt_iff_toInt_lt, z0, z1, z2, z4, z16, z32, z34, z64, z66] at c_1); unfold hasC; omega⟩, trivial⟩, hS.F ht⟩) hS.2.2 d_W_hasClass_17
  · skip
    refine lv_iload_n hx hb d_W_hasClass_4 rfl (lv_at hl 1 rfl) ?_
    refine lv_aload_n hx hb d_W_hasClass_5 rfl (lv_at hl 0 rfl) ?_
    refine va_get (D := (dC, dI)) (ci := 3) (v := .int 2) (C := R_W) (T := T_W) (N := 10) hx hb hts (fun w h => hsub w (uw_W w h)) hown hK hP 0 rfl rfl 3 (by decide) (hts _ (hsub _ w_0)) (fun _ h9 => h9) rfl d_W_hasClass_6 ?_
    refine lv_icmp_ge (tgt := 16) hx hb d_W_hasClass_9 (by decide) (fun c_2 => ?_) (fun c_2 => ?_)
    · skip
      refine lv_iconst (v := 0) hx hb d_W_hasClass_16 (by decide) ?_
      refine W.widen (k := 0) (n := 0) (Nat.le_of_ble_eq_true rfl) (Nat.le_of_ble_eq_true rfl) ?_
      exact W.zret (v := 0) hx hb hr rfl (fun t ht hW => ⟨⟨0, (), rfl, Or.inr ⟨rfl, by (try simp only [Int32.le_iff_toInt_le, Int32.lt_iff_toInt_lt, z0, z1, z2, z4, z16, z32, z34, z64, z66] at c_1 c_2); unfold hasC; omega⟩, trivial⟩, hS.F ht⟩) hS.2.2 d_W_hasClass_17
    · skip
      refine lv_iconst (v := 1) hx hb d_W_hasClass_12 (by decide) ?_
      refine lv_goto (tgt := 17) hx hb d_W_hasClass_13 (by decide) ?_
      refine W.widen (k := 0) (n := 0) (Nat.le_of_ble_eq_true rfl) (Nat.le_of_ble_eq_true rfl) ?_
      exact W.zret (v := 1) hx hb hr rfl (fun t ht hW => ⟨⟨1, (), rfl, Or.inl ⟨rfl, by (try simp only [Int32.le_iff_toInt_le, Int32.lt_iff_toInt_lt, z0, z1, z2, z4, z16, z32, z34, z64, z66] at c_1 c_2); unfold hasC; omega⟩, trivial⟩, hS.F ht⟩) hS.2.2 d_W_hasClass_17

abbrev ws_k_W_isProperClass (w wp wu wi wc wt wx wm : Nat) (kZ : ClassId) : va_W := [(w, .inr (3, [.ref wp, .ref wu, .ref wi, .int 2, .ref wc, .ref wt, .ref wx, .int 0, .ref wm, .int 0])), (wi, .inl (kZ, 16, .inl (fun _ => 0)))]
set_option maxHeartbeats 4000000 in
set_option maxRecDepth 100000 in
theorem k_W_isProperClass (l : Launch) (dC : Nat → ClassId) (dI : Nat → Nat → Nat) (w wp wu wi wc wt wx wm : Nat) (kZ : ClassId) (cv : Int32) : Met l y_W_isProperClass (Cond.code y_W_isProperClass prog_12_method_9_code 2 (some .boolean) :: bigW) ({ frames := 1, cells := 0, slots := 0, locals := 21 } : Room) (va_Pc [.ref w, .int cv] (fun U => va_P (dC, dI) vwCl (ws_k_W_isProperClass w wp wu wi wc wt wx wm kZ) U.heap ∧ va_K (dC, dI) vwCl [(kZ, .boolean)] U)) (va_Qi (fun (r : Int32) (u : Unit) => (r = 1 ∧ hasC cv) ∨ (r = 0 ∧ ¬ hasC cv)) (fun _ _ => True) (fun _ => False)) 0 0 (fun _ => False) := by
  refine Met.ofW (cc := prog_12_method_9_code) (maxL := 2) (ret := (some .boolean)) (by decide) rfl ?_
  intro p e s m args below meth cx s₁ B hml hv
  obtain ⟨rfl, hP, hK⟩ := hv
  have hx := B.exec
  have hb := B.bytes
  have hr := B.returns
  have hts := atoms_spec (ws := (Cond.code y_W_isProperClass prog_12_method_9_code 2 (some .boolean) :: bigW)) B.pre
  have hsub : ∀ w ∈ bigW, w ∈ (Cond.code y_W_isProperClass prog_12_method_9_code 2 (some .boolean) :: bigW) := fun w h => List.mem_cons_of_mem _ h
  have hown : s.vm.findClass "MapFramer$World" = some m.cls := findClass_of_methodNamed B.named
  have hlocks := B.notSynchronized
  have hS : va_S (fun _ => False) s.heap s.heap [] := va_S.rf
  have hP : va_P (dC, dI) vwCl [(w, .inr (3, [.ref wp, .ref wu, .ref wi, .int 2, .ref wc, .ref wt, .ref wx, .int 0, .ref wm, .int 0])), (wi, .inl (kZ, 16, .inl (fun _ => 0)))] s.heap := hP
  have hl := lv_entry ([.ref w, .int cv]) (n := 2) (Nat.le_of_ble_eq_true rfl)
  rw [lg_entry_eq]
  generalize (lg_sl ([.ref w, .int cv]) ++ List.replicate (2 - (lg_sl ([.ref w, .int cv])).length) Slot.unset).toArray = ls at hl ⊢
  have hl : lv_has ls 2 [(0, .ref w), (1, .int cv)] := hl
  refine lv_aload_n hx hb d_W_isProperClass_0 rfl (lv_at hl 0 rfl) ?_
  refine lv_iload_n hx hb d_W_isProperClass_1 rfl (lv_at hl 1 rfl) ?_
  have hPc := hP.sub (ws' := [(w, .inr (3, [.ref wp, .ref wu, .ref wi, .int 2, .ref wc, .ref wt, .ref wx, .int 0, .ref wm, .int 0]))]) [0] rfl
  have hKc := hK.sub (tys' := []) [] rfl
  refine va_calli (va_runV (As := [.int cv]) (rest := []) ⟨hx, hb, hml, hown, hts⟩ (k_W_hasClass l dC dI w wp wu wi wc wt wx wm cv) (cwV 1 hts (gV hsub w_1 w_2 w_3 w_4 w_5) rfl rfl rfl (by decide +kernel) ⟨Nat.le_of_ble_eq_true rfl, Nat.le_of_ble_eq_true rfl⟩) ⟨bl_0000, va_recv hKc hPc (ci := 3) (q0 := 0) rfl rfl, fun U hU hW => ⟨rfl, by rw [hU]; exact hPc, va_K.moved hW.alike hKc⟩⟩ rfl rfl hl.1 rfl (lv_room (Nat.le_of_ble_eq_true rfl)) d_W_isProperClass_2 ⟨Nat.le_of_ble_eq_true rfl, Nat.le_of_ble_eq_true rfl⟩) hS (fun q _ h => h.elim) (fun q h => h.elim) (fun r_2 u_3 t H1 locs ht hvm hw hB hz1 hk1 hS => ?_)
  have hP := ro_keep hP hk1
  generalize H1 = H at hP hS ⊢
  refine W.widen (k := 0) (n := 0) (Nat.le_of_ble_eq_true rfl) (Nat.le_of_ble_eq_true rfl) ?_
  rcases hw with ⟨hr9, hw⟩ | ⟨hr9, hw⟩
  · subst hr9
    have p_4 := hw
    refine lv_if_eq (tgt := 21) hx hb d_W_isProperClass_5 (by decide) (fun c_5 => ?_) (fun c_5 => ?_)
    · skip
      first | exact absurd c_5 (by decide) | exact absurd (by decide) c_5
    · skip
      refine lv_aload_n hx hb d_W_isProperClass_8 rfl (lv_at hl 0 rfl) ?_
      refine va_get (D := (dC, dI)) (ci := 3) (v := .ref wi) (C := R_W) (T := T_W) (N := 10) hx hb hts (fun w h => hsub w (uw_W w h)) hown hK hP 0 rfl rfl 2 (by decide) (hts _ (hsub _ w_6)) (fun _ h9 => h9) rfl d_W_isProperClass_9 ?_
      refine lv_iload_n hx hb d_W_isProperClass_12 rfl (lv_at hl 1 rfl) ?_
      refine va_zald hx hb hK hP 1 0 rfl rfl (vp_in_iff.mpr (by have h9 := p_4; unfold hasC at h9; omega)) d_W_isProperClass_13 ?_
      refine tp_i 0 (rfl) ?_
      refine lv_if_ne (tgt := 21) hx hb d_W_isProperClass_14 (by decide) (fun c_6 => ?_) (fun c_6 => ?_)
      · skip
        first | exact absurd c_6 (by decide) | exact absurd (by decide) c_6
      · skip
        refine lv_iconst (v := 1) hx hb d_W_isProperClass_17 (by decide) ?_
        refine lv_goto (tgt := 22) hx hb d_W_isProperClass_18 (by decide) ?_
        refine W.widen (k := 0) (n := 0) (Nat.le_of_ble_eq_true rfl) (Nat.le_of_ble_eq_true rfl) ?_
        exact W.zret (v := 1) hx hb hr rfl (fun t ht hW => ⟨⟨1, (), rfl, Or.inl ⟨rfl, p_4⟩, trivial⟩, hS.F ht⟩) hS.2.2 d_W_isProperClass_22
  · subst hr9
    have p_7 := hw
    refine lv_if_eq (tgt := 21) hx hb d_W_isProperClass_5 (by decide) (fun c_8 => ?_) (fun c_8 => ?_)
    · skip
      refine lv_iconst (v := 0) hx hb d_W_isProperClass_21 (by decide) ?_
      refine W.widen (k := 0) (n := 0) (Nat.le_of_ble_eq_true rfl) (Nat.le_of_ble_eq_true rfl) ?_
      exact W.zret (v := 0) hx hb hr rfl (fun t ht hW => ⟨⟨0, (), rfl, Or.inr ⟨rfl, p_7⟩, trivial⟩, hS.F ht⟩) hS.2.2 d_W_isProperClass_22
    · skip
      first | exact absurd c_8 (by decide) | exact absurd (by decide) c_8

abbrev ws_k_W_isValueType (w wp wu wi wc wt wx wm : Nat) : va_W := [(w, .inr (3, [.ref wp, .ref wu, .ref wi, .int 2, .ref wc, .ref wt, .ref wx, .int 0, .ref wm, .int 0]))]
set_option maxHeartbeats 4000000 in
set_option maxRecDepth 100000 in
theorem k_W_isValueType (l : Launch) (dC : Nat → ClassId) (dI : Nat → Nat → Nat) (w wp wu wi wc wt wx wm : Nat) (tv : Int32) : Met l y_W_isValueType (Cond.code y_W_isValueType prog_12_method_11_code 2 (some .boolean) :: bigW) ({ frames := 1, cells := 0, slots := 0, locals := 21 } : Room) (va_Pc [.ref w, .int tv] (fun U => va_P (dC, dI) vwCl (ws_k_W_isValueType w wp wu wi wc wt wx wm) U.heap ∧ va_K (dC, dI) vwCl [] U)) (va_Qi (fun (r : Int32) (u : Unit) => (r = 1 ∧ valT tv) ∨ (r = 0 ∧ ¬ valT tv)) (fun _ _ => True) (fun _ => False)) 0 0 (fun _ => False) := by
  refine Met.ofW (cc := prog_12_method_11_code) (maxL := 2) (ret := (some .boolean)) (by decide) rfl ?_
  intro p e s m args below meth cx s₁ B hml hv
  obtain ⟨rfl, hP, hK⟩ := hv
  have hx := B.exec
  have hb := B.bytes
  have hr := B.returns
  have hts := atoms_spec (ws := (Cond.code y_W_isValueType prog_12_method_11_code 2 (some .boolean) :: bigW)) B.pre
  have hsub : ∀ w ∈ bigW, w ∈ (Cond.code y_W_isValueType prog_12_method_11_code 2 (some .boolean) :: bigW) := fun w h => List.mem_cons_of_mem _ h
  have hown : s.vm.findClass "MapFramer$World" = some m.cls := findClass_of_methodNamed B.named
  have hlocks := B.notSynchronized
  have hS : va_S (fun _ => False) s.heap s.heap [] := va_S.rf
  have hP : va_P (dC, dI) vwCl [(w, .inr (3, [.ref wp, .ref wu, .ref wi, .int 2, .ref wc, .ref wt, .ref wx, .int 0, .ref wm, .int 0]))] s.heap := hP
  have hl := lv_entry ([.ref w, .int tv]) (n := 2) (Nat.le_of_ble_eq_true rfl)
  rw [lg_entry_eq]
  generalize (lg_sl ([.ref w, .int tv]) ++ List.replicate (2 - (lg_sl ([.ref w, .int tv])).length) Slot.unset).toArray = ls at hl ⊢
  have hl : lv_has ls 2 [(0, .ref w), (1, .int tv)] := hl
  refine lv_iload_n hx hb d_W_isValueType_0 rfl (lv_at hl 1 rfl) ?_
  refine lv_iconst (v := 1) hx hb d_W_isValueType_1 (by decide) ?_
  refine lv_icmp_lt (tgt := 10) hx hb d_W_isValueType_2 (by decide) (fun c_1 => ?_) (fun c_1 => ?_)
  · skip
    refine lv_aload_n hx hb d_W_isValueType_10 rfl (lv_at hl 0 rfl) ?_
    refine lv_iload_n hx hb d_W_isValueType_11 rfl (lv_at hl 1 rfl) ?_
    refine lv_bipush (v := 32) hx hb d_W_isValueType_12 (by decide) ?_
    refine lv_isub hx hb d_W_isValueType_14 ?_
    refine lv_topi (fun x_2 ex_2 => ?_)
    have hPc := hP.sub (ws' := [(w, .inr (3, [.ref wp, .ref wu, .ref wi, .int 2, .ref wc, .ref wt, .ref wx, .int 0, .ref wm, .int 0]))]) [0] rfl
    have hKc := hK.sub (tys' := []) [] rfl
    refine va_calli (va_runV (As := [.int x_2]) (rest := []) ⟨hx, hb, hml, hown, hts⟩ (k_W_hasClass l dC dI w wp wu wi wc wt wx wm x_2) (cwV 1 hts (gV hsub w_1 w_2 w_3 w_4 w_5) rfl rfl rfl (by decide +kernel) ⟨Nat.le_of_ble_eq_true rfl, Nat.le_of_ble_eq_true rfl⟩) ⟨bl_0000, va_recv hKc hPc (ci := 3) (q0 := 0) rfl rfl, fun U hU hW => ⟨rfl, by rw [hU]; exact hPc, va_K.moved hW.alike hKc⟩⟩ rfl rfl hl.1 rfl (lv_room (Nat.le_of_ble_eq_true rfl)) d_W_isValueType_15 ⟨Nat.le_of_ble_eq_true rfl, Nat.le_of_ble_eq_true rfl⟩) hS (fun q _ h => h.elim) (fun q h => h.elim) (fun r_4 u_5 t H1 locs ht hvm hw hB hz1 hk1 hS => ?_)
    have hP := ro_keep hP hk1
    generalize H1 = H at hP hS ⊢
    refine W.widen (k := 0) (n := 0) (Nat.le_of_ble_eq_true rfl) (Nat.le_of_ble_eq_true rfl) ?_
    rcases hw with ⟨hr9, hw⟩ | ⟨hr9, hw⟩
    · subst hr9
      have p_6 := hw
      refine lv_if_ne (tgt := 32) hx hb d_W_isValueType_18 (by decide) (fun c_7 => ?_) (fun c_7 => ?_)
      · skip
        refine lv_iconst (v := 1) hx hb d_W_isValueType_32 (by decide) ?_
        refine lv_goto (tgt := 37) hx hb d_W_isValueType_33 (by decide) ?_
        refine W.widen (k := 0) (n := 0) (Nat.le_of_ble_eq_true rfl) (Nat.le_of_ble_eq_true rfl) ?_
        exact W.zret (v := 1) hx hb hr rfl (fun t ht hW => ⟨⟨1, (), rfl, Or.inl ⟨rfl, by (try simp only [Int32.le_iff_toInt_le, Int32.lt_iff_toInt_lt, z0, z1, z2, z4, z16, z32, z34, z64, z66] at c_1); rw [ex_2, hasC_32] at p_6; unfold valT; omega⟩, trivial⟩, hS.F ht⟩) hS.2.2 d_W_isValueType_37
      · skip
        first | exact absurd c_7 (by decide) | exact absurd (by decide) c_7
    · subst hr9
      have p_8 := hw
      refine lv_if_ne (tgt := 32) hx hb d_W_isValueType_18 (by decide) (fun c_9 => ?_) (fun c_9 => ?_)
      · skip
        first | exact absurd c_9 (by decide) | exact absurd (by decide) c_9
      · skip
        refine lv_aload_n hx hb d_W_isValueType_21 rfl (lv_at hl 0 rfl) ?_
        refine lv_iload_n hx hb d_W_isValueType_22 rfl (lv_at hl 1 rfl) ?_
        refine lv_bipush (v := 64) hx hb d_W_isValueType_23 (by decide) ?_
        refine lv_isub hx hb d_W_isValueType_25 ?_
        refine lv_topi (fun x_10 ex_10 => ?_)
        have hPc := hP.sub (ws' := [(w, .inr (3, [.ref wp, .ref wu, .ref wi, .int 2, .ref wc, .ref wt, .ref wx, .int 0, .ref wm, .int 0]))]) [0] rfl
        have hKc := hK.sub (tys' := []) [] rfl
        refine va_calli (va_runV (As := [.int x_10]) (rest := []) ⟨hx, hb, hml, hown, hts⟩ (k_W_hasClass l dC dI w wp wu wi wc wt wx wm x_10) (cwV 1 hts (gV hsub w_1 w_2 w_3 w_4 w_5) rfl rfl rfl (by decide +kernel) ⟨Nat.le_of_ble_eq_true rfl, Nat.le_of_ble_eq_true rfl⟩) ⟨bl_0000, va_recv hKc hPc (ci := 3) (q0 := 0) rfl rfl, fun U hU hW => ⟨rfl, by rw [hU]; exact hPc, va_K.moved hW.alike hKc⟩⟩ rfl rfl hl.1 rfl (lv_room (Nat.le_of_ble_eq_true rfl)) d_W_isValueType_26 ⟨Nat.le_of_ble_eq_true rfl, Nat.le_of_ble_eq_true rfl⟩) hS (fun q _ h => h.elim) (fun q h => h.elim) (fun r_12 u_13 t H1 locs ht hvm hw hB hz1 hk1 hS => ?_)
        have hP := ro_keep hP hk1
        generalize H1 = H at hP hS ⊢
        refine W.widen (k := 0) (n := 0) (Nat.le_of_ble_eq_true rfl) (Nat.le_of_ble_eq_true rfl) ?_
        rcases hw with ⟨hr9, hw⟩ | ⟨hr9, hw⟩
        · subst hr9
          have p_14 := hw
          refine lv_if_eq (tgt := 36) hx hb d_W_isValueType_29 (by decide) (fun c_15 => ?_) (fun c_15 => ?_)
          · skip
            first | exact absurd c_15 (by decide) | exact absurd (by decide) c_15
          · skip
            refine lv_iconst (v := 1) hx hb d_W_isValueType_32 (by decide) ?_
            refine lv_goto (tgt := 37) hx hb d_W_isValueType_33 (by decide) ?_
            refine W.widen (k := 0) (n := 0) (Nat.le_of_ble_eq_true rfl) (Nat.le_of_ble_eq_true rfl) ?_
            exact W.zret (v := 1) hx hb hr rfl (fun t ht hW => ⟨⟨1, (), rfl, Or.inl ⟨rfl, by (try simp only [Int32.le_iff_toInt_le, Int32.lt_iff_toInt_lt, z0, z1, z2, z4, z16, z32, z34, z64, z66] at c_1); rw [ex_2, hasC_32] at p_8; rw [ex_10, hasC_64] at p_14; unfold valT; omega⟩, trivial⟩, hS.F ht⟩) hS.2.2 d_W_isValueType_37
        · subst hr9
          have p_16 := hw
          refine lv_if_eq (tgt := 36) hx hb d_W_isValueType_29 (by decide) (fun c_17 => ?_) (fun c_17 => ?_)
          · skip
            refine lv_iconst (v := 0) hx hb d_W_isValueType_36 (by decide) ?_
            refine W.widen (k := 0) (n := 0) (Nat.le_of_ble_eq_true rfl) (Nat.le_of_ble_eq_true rfl) ?_
            exact W.zret (v := 0) hx hb hr rfl (fun t ht hW => ⟨⟨0, (), rfl, Or.inr ⟨rfl, by (try simp only [Int32.le_iff_toInt_le, Int32.lt_iff_toInt_lt, z0, z1, z2, z4, z16, z32, z34, z64, z66] at c_1); rw [ex_2, hasC_32] at p_8; rw [ex_10, hasC_64] at p_16; unfold valT; omega⟩, trivial⟩, hS.F ht⟩) hS.2.2 d_W_isValueType_37
          · skip
            first | exact absurd c_17 (by decide) | exact absurd (by decide) c_17
  · skip
    refine lv_iload_n hx hb d_W_isValueType_5 rfl (lv_at hl 1 rfl) ?_
    refine lv_iconst (v := 4) hx hb d_W_isValueType_6 (by decide) ?_
    refine lv_icmp_le (tgt := 32) hx hb d_W_isValueType_7 (by decide) (fun c_18 => ?_) (fun c_18 => ?_)
    · skip
      refine lv_iconst (v := 1) hx hb d_W_isValueType_32 (by decide) ?_
      refine lv_goto (tgt := 37) hx hb d_W_isValueType_33 (by decide) ?_
      refine W.widen (k := 0) (n := 0) (Nat.le_of_ble_eq_true rfl) (Nat.le_of_ble_eq_true rfl) ?_
      exact W.zret (v := 1) hx hb hr rfl (fun t ht hW => ⟨⟨1, (), rfl, Or.inl ⟨rfl, by (try simp only [Int32.le_iff_toInt_le, Int32.lt_iff_toInt_lt, z0, z1, z2, z4, z16, z32, z34, z64, z66] at c_1 c_18); skip; unfold valT; omega⟩, trivial⟩, hS.F ht⟩) hS.2.2 d_W_isValueType_37
    · skip
      refine lv_aload_n hx hb d_W_isValueType_10 rfl (lv_at hl 0 rfl) ?_
      refine lv_iload_n hx hb d_W_isValueType_11 rfl (lv_at hl 1 rfl) ?_
      refine lv_bipush (v := 32) hx hb d_W_isValueType_12 (by decide) ?_
      refine lv_isub hx hb d_W_isValueType_14 ?_
      refine lv_topi (fun x_19 ex_19 => ?_)
      have hPc := hP.sub (ws' := [(w, .inr (3, [.ref wp, .ref wu, .ref wi, .int 2, .ref wc, .ref wt, .ref wx, .int 0, .ref wm, .int 0]))]) [0] rfl
      have hKc := hK.sub (tys' := []) [] rfl
      refine va_calli (va_runV (As := [.int x_19]) (rest := []) ⟨hx, hb, hml, hown, hts⟩ (k_W_hasClass l dC dI w wp wu wi wc wt wx wm x_19) (cwV 1 hts (gV hsub w_1 w_2 w_3 w_4 w_5) rfl rfl rfl (by decide +kernel) ⟨Nat.le_of_ble_eq_true rfl, Nat.le_of_ble_eq_true rfl⟩) ⟨bl_0000, va_recv hKc hPc (ci := 3) (q0 := 0) rfl rfl, fun U hU hW => ⟨rfl, by rw [hU]; exact hPc, va_K.moved hW.alike hKc⟩⟩ rfl rfl hl.1 rfl (lv_room (Nat.le_of_ble_eq_true rfl)) d_W_isValueType_15 ⟨Nat.le_of_ble_eq_true rfl, Nat.le_of_ble_eq_true rfl⟩) hS (fun q _ h => h.elim) (fun q h => h.elim) (fun r_21 u_22 t H1 locs ht hvm hw hB hz1 hk1 hS => ?_)
      have hP := ro_keep hP hk1
      generalize H1 = H at hP hS ⊢
      refine W.widen (k := 0) (n := 0) (Nat.le_of_ble_eq_true rfl) (Nat.le_of_ble_eq_true rfl) ?_
      rcases hw with ⟨hr9, hw⟩ | ⟨hr9, hw⟩
      · subst hr9
        have p_23 := hw
        refine lv_if_ne (tgt := 32) hx hb d_W_isValueType_18 (by decide) (fun c_24 => ?_) (fun c_24 => ?_)
        · skip
          refine lv_iconst (v := 1) hx hb d_W_isValueType_32 (by decide) ?_
          refine lv_goto (tgt := 37) hx hb d_W_isValueType_33 (by decide) ?_
          refine W.widen (k := 0) (n := 0) (Nat.le_of_ble_eq_true rfl) (Nat.le_of_ble_eq_true rfl) ?_
          exact W.zret (v := 1) hx hb hr rfl (fun t ht hW => ⟨⟨1, (), rfl, Or.inl ⟨rfl, by (try simp only [Int32.le_iff_toInt_le, Int32.lt_iff_toInt_lt, z0, z1, z2, z4, z16, z32, z34, z64, z66] at c_1 c_18); rw [ex_19, hasC_32] at p_23; unfold valT; omega⟩, trivial⟩, hS.F ht⟩) hS.2.2 d_W_isValueType_37
        · skip
          first | exact absurd c_24 (by decide) | exact absurd (by decide) c_24
      · subst hr9
        have p_25 := hw
        refine lv_if_ne (tgt := 32) hx hb d_W_isValueType_18 (by decide) (fun c_26 => ?_) (fun c_26 => ?_)
        · skip
          first | exact absurd c_26 (by decide) | exact absurd (by decide) c_26
        · skip
          refine lv_aload_n hx hb d_W_isValueType_21 rfl (lv_at hl 0 rfl) ?_
          refine lv_iload_n hx hb d_W_isValueType_22 rfl (lv_at hl 1 rfl) ?_
          refine lv_bipush (v := 64) hx hb d_W_isValueType_23 (by decide) ?_
          refine lv_isub hx hb d_W_isValueType_25 ?_
          refine lv_topi (fun x_27 ex_27 => ?_)
          have hPc := hP.sub (ws' := [(w, .inr (3, [.ref wp, .ref wu, .ref wi, .int 2, .ref wc, .ref wt, .ref wx, .int 0, .ref wm, .int 0]))]) [0] rfl
          have hKc := hK.sub (tys' := []) [] rfl
          refine va_calli (va_runV (As := [.int x_27]) (rest := []) ⟨hx, hb, hml, hown, hts⟩ (k_W_hasClass l dC dI w wp wu wi wc wt wx wm x_27) (cwV 1 hts (gV hsub w_1 w_2 w_3 w_4 w_5) rfl rfl rfl (by decide +kernel) ⟨Nat.le_of_ble_eq_true rfl, Nat.le_of_ble_eq_true rfl⟩) ⟨bl_0000, va_recv hKc hPc (ci := 3) (q0 := 0) rfl rfl, fun U hU hW => ⟨rfl, by rw [hU]; exact hPc, va_K.moved hW.alike hKc⟩⟩ rfl rfl hl.1 rfl (lv_room (Nat.le_of_ble_eq_true rfl)) d_W_isValueType_26 ⟨Nat.le_of_ble_eq_true rfl, Nat.le_of_ble_eq_true rfl⟩) hS (fun q _ h => h.elim) (fun q h => h.elim) (fun r_29 u_30 t H1 locs ht hvm hw hB hz1 hk1 hS => ?_)
          have hP := ro_keep hP hk1
          generalize H1 = H at hP hS ⊢
          refine W.widen (k := 0) (n := 0) (Nat.le_of_ble_eq_true rfl) (Nat.le_of_ble_eq_true rfl) ?_
          rcases hw with ⟨hr9, hw⟩ | ⟨hr9, hw⟩
          · subst hr9
            have p_31 := hw
            refine lv_if_eq (tgt := 36) hx hb d_W_isValueType_29 (by decide) (fun c_32 => ?_) (fun c_32 => ?_)
            · skip
              first | exact absurd c_32 (by decide) | exact absurd (by decide) c_32
            · skip
              refine lv_iconst (v := 1) hx hb d_W_isValueType_32 (by decide) ?_
              refine lv_goto (tgt := 37) hx hb d_W_isValueType_33 (by decide) ?_
              refine W.widen (k := 0) (n := 0) (Nat.le_of_ble_eq_true rfl) (Nat.le_of_ble_eq_true rfl) ?_
              exact W.zret (v := 1) hx hb hr rfl (fun t ht hW => ⟨⟨1, (), rfl, Or.inl ⟨rfl, by (try simp only [Int32.le_iff_toInt_le, Int32.lt_iff_toInt_lt, z0, z1, z2, z4, z16, z32, z34, z64, z66] at c_1 c_18); rw [ex_19, hasC_32] at p_25; rw [ex_27, hasC_64] at p_31; unfold valT; omega⟩, trivial⟩, hS.F ht⟩) hS.2.2 d_W_isValueType_37
          · subst hr9
            have p_33 := hw
            refine lv_if_eq (tgt := 36) hx hb d_W_isValueType_29 (by decide) (fun c_34 => ?_) (fun c_34 => ?_)
            · skip
              refine lv_iconst (v := 0) hx hb d_W_isValueType_36 (by decide) ?_
              refine W.widen (k := 0) (n := 0) (Nat.le_of_ble_eq_true rfl) (Nat.le_of_ble_eq_true rfl) ?_
              exact W.zret (v := 0) hx hb hr rfl (fun t ht hW => ⟨⟨0, (), rfl, Or.inr ⟨rfl, by (try simp only [Int32.le_iff_toInt_le, Int32.lt_iff_toInt_lt, z0, z1, z2, z4, z16, z32, z34, z64, z66] at c_1 c_18); rw [ex_19, hasC_32] at p_25; rw [ex_27, hasC_64] at p_33; unfold valT; omega⟩, trivial⟩, hS.F ht⟩) hS.2.2 d_W_isValueType_37
            · skip
              first | exact absurd c_34 (by decide) | exact absurd (by decide) c_34

abbrev ws_k_W_methodAt (w wp wu wi wc wt wx wm : Nat) : va_W := [(w, .inr (3, [.ref wp, .ref wu, .ref wi, .int 2, .ref wc, .ref wt, .ref wx, .int 0, .ref wm, .int 0]))]
set_option maxHeartbeats 4000000 in
set_option maxRecDepth 100000 in
theorem k_W_methodAt (l : Launch) (dC : Nat → ClassId) (dI : Nat → Nat → Nat) (w wp wu wi wc wt wx wm : Nat) (i : Int32) : Met l y_W_methodAt (Cond.code y_W_methodAt prog_12_method_7_code 2 (some (.object "MapFramer$Method")) :: bigW) ({ frames := 0, cells := 0, slots := 0, locals := 0 } : Room) (va_Pc [.ref w, .int i] (fun U => va_P (dC, dI) vwCl (ws_k_W_methodAt w wp wu wi wc wt wx wm) U.heap ∧ va_K (dC, dI) vwCl [] U)) (va_Qq (fun (r : Option Nat) (u : Unit) => r = none) (fun _ _ => True) (fun _ => False)) 0 0 (fun _ => False) := by
  refine Met.ofW (cc := prog_12_method_7_code) (maxL := 2) (ret := (some (.object "MapFramer$Method"))) (by decide) rfl ?_
  intro p e s m args below meth cx s₁ B hml hv
  obtain ⟨rfl, hP, hK⟩ := hv
  have hx := B.exec
  have hb := B.bytes
  have hr := B.returns
  have hts := atoms_spec (ws := (Cond.code y_W_methodAt prog_12_method_7_code 2 (some (.object "MapFramer$Method")) :: bigW)) B.pre
  have hsub : ∀ w ∈ bigW, w ∈ (Cond.code y_W_methodAt prog_12_method_7_code 2 (some (.object "MapFramer$Method")) :: bigW) := fun w h => List.mem_cons_of_mem _ h
  have hown : s.vm.findClass "MapFramer$World" = some m.cls := findClass_of_methodNamed B.named
  have hlocks := B.notSynchronized
  have hS : va_S (fun _ => False) s.heap s.heap [] := va_S.rf
  have hP : va_P (dC, dI) vwCl [(w, .inr (3, [.ref wp, .ref wu, .ref wi, .int 2, .ref wc, .ref wt, .ref wx, .int 0, .ref wm, .int 0]))] s.heap := hP
  have hl := lv_entry ([.ref w, .int i]) (n := 2) (Nat.le_of_ble_eq_true rfl)
  rw [lg_entry_eq]
  generalize (lg_sl ([.ref w, .int i]) ++ List.replicate (2 - (lg_sl ([.ref w, .int i])).length) Slot.unset).toArray = ls at hl ⊢
  have hl : lv_has ls 2 [(0, .ref w), (1, .int i)] := hl
  refine lv_iload_n hx hb d_W_methodAt_0 rfl (lv_at hl 1 rfl) ?_
  refine lv_if_lt (tgt := 21) hx hb d_W_methodAt_1 (by decide) (fun c_1 => ?_) (fun c_1 => ?_)
  · skip
    refine lv_null hx hb d_W_methodAt_21 ?_
    refine W.widen (k := 0) (n := 0) (Nat.le_of_ble_eq_true rfl) (Nat.le_of_ble_eq_true rfl) ?_
    exact W.aret (v := .null) hx hb hr (Or.inl ⟨_, rfl⟩) (Or.inl rfl) (fun t ht hW => ⟨⟨none, (), rfl, rfl, trivial⟩, hS.F ht⟩) hS.2.2 d_W_methodAt_22
  · skip
    refine lv_iload_n hx hb d_W_methodAt_4 rfl (lv_at hl 1 rfl) ?_
    refine lv_aload_n hx hb d_W_methodAt_5 rfl (lv_at hl 0 rfl) ?_
    refine va_get (D := (dC, dI)) (ci := 3) (v := .int 0) (C := R_W) (T := T_W) (N := 10) hx hb hts (fun w h => hsub w (uw_W w h)) hown hK hP 0 rfl rfl 9 (by decide) (hts _ (hsub _ w_7)) (fun _ h9 => h9) rfl d_W_methodAt_6 ?_
    refine lv_icmp_ge (tgt := 21) hx hb d_W_methodAt_9 (by decide) (fun c_2 => ?_) (fun c_2 => ?_)
    · skip
      refine lv_null hx hb d_W_methodAt_21 ?_
      refine W.widen (k := 0) (n := 0) (Nat.le_of_ble_eq_true rfl) (Nat.le_of_ble_eq_true rfl) ?_
      exact W.aret (v := .null) hx hb hr (Or.inl ⟨_, rfl⟩) (Or.inl rfl) (fun t ht hW => ⟨⟨none, (), rfl, rfl, trivial⟩, hS.F ht⟩) hS.2.2 d_W_methodAt_22
    · skip
      exact absurd (Int32.not_lt.mp c_1) c_2

