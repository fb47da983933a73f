theorem w_0 : (Cond.lays "MapFramer$Call" "MapFramer$Call" "method" "LMapFramer$Method;" : Cond) ∈ bigW := inB_1 132 (by decide +kernel) rfl
theorem w_1 : (Cond.lays "MapFramer$Call" "MapFramer$Call" "place" "I" : Cond) ∈ bigW := inB_1 134 (by decide +kernel) rfl
theorem w_2 : (Cond.laysFinal "MapFramer$Call" "MapFramer$Call" "locals" "[J" : Cond) ∈ bigW := inB_1 136 (by decide +kernel) rfl
theorem w_3 : (Cond.laysFinal "MapFramer$Call" "MapFramer$Call" "stack" "[J" : Cond) ∈ bigW := inB_1 138 (by decide +kernel) rfl
theorem w_4 : (Cond.lays "MapFramer$Call" "MapFramer$Call" "size" "I" : Cond) ∈ bigW := inB_1 140 (by decide +kernel) rfl
theorem w_5 : (Cond.laysFinal "MapFramer$Heap" "MapFramer$Heap" "types" "[I" : Cond) ∈ bigW := inB_1 107 (by decide +kernel) rfl
theorem w_6 : (Cond.laysFinal "MapFramer$Heap" "MapFramer$Heap" "lengths" "[I" : Cond) ∈ bigW := inB_1 109 (by decide +kernel) rfl
theorem w_7 : (Cond.laysFinal "MapFramer$Heap" "MapFramer$Heap" "values" "[J" : Cond) ∈ bigW := inB_1 111 (by decide +kernel) rfl
theorem w_8 : (Cond.lays "MapFramer$Heap" "MapFramer$Heap" "made" "I" : Cond) ∈ bigW := inB_1 113 (by decide +kernel) rfl
theorem w_9 : (Cond.laysFinal "MapFramer$Machine" "MapFramer$Machine" "heap" "LMapFramer$Heap;" : Cond) ∈ bigW := inB_1 161 (by decide +kernel) rfl
theorem w_10 : (Cond.laysFinal "MapFramer$Machine" "MapFramer$Machine" "statics" "[J" : Cond) ∈ bigW := inB_1 163 (by decide +kernel) rfl
theorem w_11 : (Cond.laysFinal "MapFramer$Machine" "MapFramer$Machine" "calls" "[LMapFramer$Call;" : Cond) ∈ bigW := inB_1 165 (by decide +kernel) rfl
theorem w_12 : (Cond.lays "MapFramer$Machine" "MapFramer$Machine" "world" "LMapFramer$World;" : Cond) ∈ bigW := inB_1 167 (by decide +kernel) rfl
theorem w_13 : (Cond.lays "MapFramer$Machine" "MapFramer$Machine" "depth" "I" : Cond) ∈ bigW := inB_1 169 (by decide +kernel) rfl
theorem w_14 : (Cond.lays "MapFramer$Machine" "MapFramer$Machine" "call" "LMapFramer$Call;" : Cond) ∈ bigW := inB_1 171 (by decide +kernel) rfl
theorem w_15 : (Cond.lays "MapFramer$Machine" "MapFramer$Machine" "next" "I" : Cond) ∈ bigW := inB_1 173 (by decide +kernel) rfl
theorem w_16 : (Cond.lays "MapFramer$Machine" "MapFramer$Machine" "raises" "Z" : Cond) ∈ bigW := inB_1 175 (by decide +kernel) rfl
theorem w_17 : (Cond.lays "MapFramer$Machine" "MapFramer$Machine" "tossed" "I" : Cond) ∈ bigW := inB_1 177 (by decide +kernel) rfl
theorem w_18 : (Cond.lays "MapFramer$Machine" "MapFramer$Machine" "resultType" "I" : Cond) ∈ bigW := inB_1 179 (by decide +kernel) rfl
theorem w_19 : (Cond.lays "MapFramer$Machine" "MapFramer$Machine" "result" "J" : Cond) ∈ bigW := inB_1 181 (by decide +kernel) rfl
theorem w_20 : (Cond.lays "MapFramer$Machine" "MapFramer$Machine" "outcome" "I" : Cond) ∈ bigW := inB_1 183 (by decide +kernel) rfl
theorem w_21 : (Cond.lays "MapFramer$Machine" "MapFramer$Machine" "used" "I" : Cond) ∈ bigW := inB_1 185 (by decide +kernel) rfl
theorem w_22 : (Cond.lays "MapFramer$Machine" "MapFramer$Machine" "thrownClass" "I" : Cond) ∈ bigW := inB_1 187 (by decide +kernel) rfl
theorem w_23 : (Cond.laysFinal "MapFramer$World" "MapFramer$World" "parents" "[I" : Cond) ∈ bigW := inB_1 66 (by decide +kernel) rfl
theorem w_24 : (Cond.laysFinal "MapFramer$World" "MapFramer$World" "supers" "[I" : Cond) ∈ bigW := inB_1 68 (by decide +kernel) rfl
theorem w_25 : (Cond.laysFinal "MapFramer$World" "MapFramer$World" "interfaces" "[Z" : Cond) ∈ bigW := inB_1 70 (by decide +kernel) rfl
theorem w_26 : (Cond.lays "MapFramer$World" "MapFramer$World" "classCount" "I" : Cond) ∈ bigW := inB_1 72 (by decide +kernel) rfl
theorem w_27 : (Cond.laysFinal "MapFramer$World" "MapFramer$World" "fieldClasses" "[I" : Cond) ∈ bigW := inB_1 74 (by decide +kernel) rfl
theorem w_28 : (Cond.laysFinal "MapFramer$World" "MapFramer$World" "fieldTypes" "[I" : Cond) ∈ bigW := inB_1 76 (by decide +kernel) rfl
theorem w_29 : (Cond.laysFinal "MapFramer$World" "MapFramer$World" "fieldStatics" "[Z" : Cond) ∈ bigW := inB_1 78 (by decide +kernel) rfl
theorem w_30 : (Cond.lays "MapFramer$World" "MapFramer$World" "fieldCount" "I" : Cond) ∈ bigW := inB_1 80 (by decide +kernel) rfl
theorem w_31 : (Cond.laysFinal "MapFramer$World" "MapFramer$World" "methods" "[LMapFramer$Method;" : Cond) ∈ bigW := inB_1 82 (by decide +kernel) rfl
theorem w_32 : (Cond.lays "MapFramer$World" "MapFramer$World" "methodCount" "I" : Cond) ∈ bigW := inB_1 84 (by decide +kernel) rfl
theorem w_33 : (Cond.laysFinal "MapFramer" "MapFramer" "world" "LMapFramer$World;" : Cond) ∈ bigW := inB_1 194 (by decide +kernel) rfl
theorem w_34 : (Cond.laysFinal "MapFramer" "MapFramer" "machine" "LMapFramer$Machine;" : Cond) ∈ bigW := inB_1 196 (by decide +kernel) rfl
theorem w_35 : (Cond.laysFinal "MapFramer" "MapFramer" "tape" "[I" : Cond) ∈ bigW := inB_1 198 (by decide +kernel) rfl
theorem w_36 : (Cond.lays "MapFramer" "MapFramer" "tapeLength" "I" : Cond) ∈ bigW := inB_1 200 (by decide +kernel) rfl
theorem w_37 : (Cond.lays "MapFramerModel" "MapFramerModel" "thrown" "I" : Cond) ∈ bigW := inB_8 131 (by decide +kernel) rfl
theorem w_38 : (Cond.lays "MapFramerModel" "MapFramerModel" "classes" "I" : Cond) ∈ bigW := inB_8 133 (by decide +kernel) rfl
theorem w_39 : (Cond.laysFinal "MapFramerModel" "MapFramerModel" "above" "[I" : Cond) ∈ bigW := inB_8 135 (by decide +kernel) rfl
theorem w_40 : (Cond.laysFinal "MapFramerModel" "MapFramerModel" "isFace" "[Z" : Cond) ∈ bigW := inB_8 137 (by decide +kernel) rfl
theorem w_41 : (Cond.lays "MapFramerModel" "MapFramerModel" "fields" "I" : Cond) ∈ bigW := inB_8 139 (by decide +kernel) rfl
theorem w_42 : (Cond.laysFinal "MapFramerModel" "MapFramerModel" "fieldClass" "[I" : Cond) ∈ bigW := inB_8 141 (by decide +kernel) rfl
theorem w_43 : (Cond.laysFinal "MapFramerModel" "MapFramerModel" "fieldType" "[I" : Cond) ∈ bigW := inB_8 143 (by decide +kernel) rfl
theorem w_44 : (Cond.laysFinal "MapFramerModel" "MapFramerModel" "fieldStatic" "[Z" : Cond) ∈ bigW := inB_8 145 (by decide +kernel) rfl
theorem w_45 : (Cond.lays "MapFramerModel" "MapFramerModel" "methods" "I" : Cond) ∈ bigW := inB_8 147 (by decide +kernel) rfl
theorem w_46 : (Cond.laysFinal "MapFramerModel" "MapFramerModel" "arguments" "[I" : Cond) ∈ bigW := inB_8 149 (by decide +kernel) rfl
theorem w_47 : (Cond.laysFinal "MapFramerModel" "MapFramerModel" "argumentCount" "[I" : Cond) ∈ bigW := inB_8 151 (by decide +kernel) rfl
theorem w_48 : (Cond.laysFinal "MapFramerModel" "MapFramerModel" "results" "[I" : Cond) ∈ bigW := inB_8 153 (by decide +kernel) rfl
theorem w_49 : (Cond.laysFinal "MapFramerModel" "MapFramerModel" "sizes" "[I" : Cond) ∈ bigW := inB_8 155 (by decide +kernel) rfl
theorem w_50 : (Cond.laysFinal "MapFramerModel" "MapFramerModel" "codes" "[I" : Cond) ∈ bigW := inB_8 157 (by decide +kernel) rfl
theorem w_51 : (Cond.laysFinal "MapFramerModel" "MapFramerModel" "maxStack" "[I" : Cond) ∈ bigW := inB_8 159 (by decide +kernel) rfl
theorem w_52 : (Cond.laysFinal "MapFramerModel" "MapFramerModel" "maxLocals" "[I" : Cond) ∈ bigW := inB_8 161 (by decide +kernel) rfl
theorem w_53 : (Cond.laysFinal "MapFramerModel" "MapFramerModel" "handlers" "[I" : Cond) ∈ bigW := inB_8 163 (by decide +kernel) rfl
theorem w_54 : (Cond.laysFinal "MapFramerModel" "MapFramerModel" "handlerFrom" "[I" : Cond) ∈ bigW := inB_8 165 (by decide +kernel) rfl
theorem w_55 : (Cond.laysFinal "MapFramerModel" "MapFramerModel" "handlerTo" "[I" : Cond) ∈ bigW := inB_8 167 (by decide +kernel) rfl
theorem w_56 : (Cond.laysFinal "MapFramerModel" "MapFramerModel" "handlerPlace" "[I" : Cond) ∈ bigW := inB_8 169 (by decide +kernel) rfl
theorem w_57 : (Cond.laysFinal "MapFramerModel" "MapFramerModel" "handlerClass" "[I" : Cond) ∈ bigW := inB_8 171 (by decide +kernel) rfl
theorem w_58 : (Cond.laysFinal "MapFramerModel" "MapFramerModel" "verified" "[Z" : Cond) ∈ bigW := inB_8 173 (by decide +kernel) rfl
theorem w_59 : (Cond.laysFinal "MapFramerModel" "MapFramerModel" "fault" "[I" : Cond) ∈ bigW := inB_8 175 (by decide +kernel) rfl
theorem w_60 : (Cond.laysFinal "MapFramerModel" "MapFramerModel" "faultAt" "[I" : Cond) ∈ bigW := inB_8 177 (by decide +kernel) rfl
theorem w_61 : (Cond.lays "MapFramerModel" "MapFramerModel" "taped" "I" : Cond) ∈ bigW := inB_8 179 (by decide +kernel) rfl
theorem w_62 : (Cond.laysFinal "MapFramerModel" "MapFramerModel" "tape" "[I" : Cond) ∈ bigW := inB_8 181 (by decide +kernel) rfl
theorem w_63 : (Cond.laysFinal "MapFramerModel" "MapFramerModel" "begins" "[Z" : Cond) ∈ bigW := inB_8 183 (by decide +kernel) rfl
theorem w_64 : (Cond.laysFinal "MapFramerModel" "MapFramerModel" "high" "[I" : Cond) ∈ bigW := inB_8 185 (by decide +kernel) rfl
theorem w_65 : (Cond.laysFinal "MapFramerModel" "MapFramerModel" "locals" "[I" : Cond) ∈ bigW := inB_8 187 (by decide +kernel) rfl
theorem w_66 : (Cond.laysFinal "MapFramerModel" "MapFramerModel" "stacks" "[I" : Cond) ∈ bigW := inB_8 189 (by decide +kernel) rfl
theorem w_67 : (Cond.laysFinal "MapFramerModel" "MapFramerModel" "due" "[Z" : Cond) ∈ bigW := inB_8 191 (by decide +kernel) rfl
theorem w_68 : (Cond.laysFinal "MapFramerModel" "MapFramerModel" "dead" "[Z" : Cond) ∈ bigW := inB_8 193 (by decide +kernel) rfl
theorem w_69 : (Cond.laysFinal "MapFramerModel" "MapFramerModel" "framed" "[Z" : Cond) ∈ bigW := inB_8 195 (by decide +kernel) rfl
theorem w_70 : (Cond.lays "MapFramerModel" "MapFramerModel" "method" "I" : Cond) ∈ bigW := inB_8 197 (by decide +kernel) rfl
theorem w_71 : (Cond.lays "MapFramerModel" "MapFramerModel" "here" "I" : Cond) ∈ bigW := inB_8 199 (by decide +kernel) rfl
theorem w_72 : (Cond.lays "MapFramerModel" "MapFramerModel" "bad" "I" : Cond) ∈ bigW := inB_8 201 (by decide +kernel) rfl
theorem w_73 : (Cond.lays "MapFramerModel" "MapFramerModel" "badAt" "I" : Cond) ∈ bigW := inB_8 203 (by decide +kernel) rfl
theorem w_74 : (Cond.laysFinal "MapFramerModel" "MapFramerModel" "local" "[I" : Cond) ∈ bigW := inB_8 205 (by decide +kernel) rfl
theorem w_75 : (Cond.laysFinal "MapFramerModel" "MapFramerModel" "before" "[I" : Cond) ∈ bigW := inB_8 207 (by decide +kernel) rfl
theorem w_76 : (Cond.laysFinal "MapFramerModel" "MapFramerModel" "stack" "[I" : Cond) ∈ bigW := inB_8 209 (by decide +kernel) rfl
theorem w_77 : (Cond.lays "MapFramerModel" "MapFramerModel" "many" "I" : Cond) ∈ bigW := inB_8 211 (by decide +kernel) rfl
theorem w_78 : (Cond.laysFinal "MapFramerModel" "MapFramerModel" "given" "[I" : Cond) ∈ bigW := inB_8 213 (by decide +kernel) rfl
theorem w_79 : (Cond.laysFinal "MapFramerModel" "MapFramerModel" "givenStack" "[I" : Cond) ∈ bigW := inB_8 215 (by decide +kernel) rfl
theorem w_80 : (Cond.lays "MapFramerModel" "MapFramerModel" "givenMany" "I" : Cond) ∈ bigW := inB_8 217 (by decide +kernel) rfl
theorem w_81 : (Cond.lays "MapFramerModel" "MapFramerModel" "mostStack" "I" : Cond) ∈ bigW := inB_8 219 (by decide +kernel) rfl
theorem w_82 : (Cond.lays "MapFramerModel" "MapFramerModel" "cuts" "I" : Cond) ∈ bigW := inB_8 221 (by decide +kernel) rfl
theorem w_83 : (Cond.laysFinal "MapFramerModel" "MapFramerModel" "cutFrom" "[I" : Cond) ∈ bigW := inB_8 223 (by decide +kernel) rfl
theorem w_84 : (Cond.laysFinal "MapFramerModel" "MapFramerModel" "cutTo" "[I" : Cond) ∈ bigW := inB_8 225 (by decide +kernel) rfl
theorem w_85 : (Cond.laysFinal "MapFramerModel" "MapFramerModel" "cutPlace" "[I" : Cond) ∈ bigW := inB_8 227 (by decide +kernel) rfl
theorem w_86 : (Cond.laysFinal "MapFramerModel" "MapFramerModel" "cutClass" "[I" : Cond) ∈ bigW := inB_8 229 (by decide +kernel) rfl
theorem w_87 : (Cond.lays "MapFramerModel" "MapFramerModel" "written" "I" : Cond) ∈ bigW := inB_8 231 (by decide +kernel) rfl
theorem w_88 : (Cond.laysFinal "MapFramerModel" "MapFramerModel" "bytes" "[I" : Cond) ∈ bigW := inB_8 233 (by decide +kernel) rfl
theorem w_89 : (Cond.laysFinal "MapFramerModel" "MapFramerModel" "was" "[I" : Cond) ∈ bigW := inB_8 235 (by decide +kernel) rfl
theorem w_90 : (Cond.lays "MapFramerModel" "MapFramerModel" "wasMany" "I" : Cond) ∈ bigW := inB_8 237 (by decide +kernel) rfl
theorem w_91 : (Cond.laysFinal "MapFramerModel" "MapFramerModel" "now" "[I" : Cond) ∈ bigW := inB_8 239 (by decide +kernel) rfl
theorem w_92 : (Cond.lays "MapFramerModel" "MapFramerModel" "nowMany" "I" : Cond) ∈ bigW := inB_9 1 (by decide +kernel) rfl
theorem w_93 : (Cond.laysFinal "MapFramerModel" "MapFramerModel" "ends" "[I" : Cond) ∈ bigW := inB_9 3 (by decide +kernel) rfl
theorem w_94 : (Cond.laysFinal "MapFramerModel" "MapFramerModel" "statics" "[J" : Cond) ∈ bigW := inB_9 5 (by decide +kernel) rfl
theorem w_95 : (Cond.lays "MapFramerModel" "MapFramerModel" "things" "I" : Cond) ∈ bigW := inB_9 7 (by decide +kernel) rfl
theorem w_96 : (Cond.laysFinal "MapFramerModel" "MapFramerModel" "thingType" "[I" : Cond) ∈ bigW := inB_9 9 (by decide +kernel) rfl
theorem w_97 : (Cond.laysFinal "MapFramerModel" "MapFramerModel" "thingSize" "[I" : Cond) ∈ bigW := inB_9 11 (by decide +kernel) rfl
theorem w_98 : (Cond.laysFinal "MapFramerModel" "MapFramerModel" "elements" "[J" : Cond) ∈ bigW := inB_9 13 (by decide +kernel) rfl
theorem w_99 : (Cond.laysFinal "MapFramerModel" "MapFramerModel" "slots" "[J" : Cond) ∈ bigW := inB_9 15 (by decide +kernel) rfl
theorem w_100 : (Cond.lays "MapFramerModel" "MapFramerModel" "deep" "I" : Cond) ∈ bigW := inB_9 17 (by decide +kernel) rfl
theorem w_101 : (Cond.laysFinal "MapFramerModel" "MapFramerModel" "callMethod" "[I" : Cond) ∈ bigW := inB_9 19 (by decide +kernel) rfl
theorem w_102 : (Cond.laysFinal "MapFramerModel" "MapFramerModel" "callPlace" "[I" : Cond) ∈ bigW := inB_9 21 (by decide +kernel) rfl
theorem w_103 : (Cond.laysFinal "MapFramerModel" "MapFramerModel" "callHigh" "[I" : Cond) ∈ bigW := inB_9 23 (by decide +kernel) rfl
theorem w_104 : (Cond.laysFinal "MapFramerModel" "MapFramerModel" "values" "[J" : Cond) ∈ bigW := inB_9 25 (by decide +kernel) rfl
theorem w_105 : (Cond.laysFinal "MapFramerModel" "MapFramerModel" "piles" "[J" : Cond) ∈ bigW := inB_9 27 (by decide +kernel) rfl
theorem w_106 : (Cond.lays "MapFramerModel" "MapFramerModel" "running" "Z" : Cond) ∈ bigW := inB_9 29 (by decide +kernel) rfl
theorem w_107 : (Cond.lays "MapFramerModel" "MapFramerModel" "answer" "J" : Cond) ∈ bigW := inB_9 31 (by decide +kernel) rfl
theorem w_108 : (Cond.laysFinal "MapFramer$Method" "MapFramer$Method" "arguments" "[I" : Cond) ∈ bigW := inB_2 193 (by decide +kernel) rfl
theorem w_109 : (Cond.laysFinal "MapFramer$Method" "MapFramer$Method" "result" "I" : Cond) ∈ bigW := inB_2 195 (by decide +kernel) rfl
theorem w_110 : (Cond.lays "MapFramer$Method" "MapFramer$Method" "code" "[I" : Cond) ∈ bigW := inB_2 197 (by decide +kernel) rfl
theorem w_111 : (Cond.lays "MapFramer$Method" "MapFramer$Method" "maxStack" "I" : Cond) ∈ bigW := inB_2 199 (by decide +kernel) rfl
theorem w_112 : (Cond.lays "MapFramer$Method" "MapFramer$Method" "maxLocals" "I" : Cond) ∈ bigW := inB_2 201 (by decide +kernel) rfl
theorem w_113 : (Cond.lays "MapFramer$Method" "MapFramer$Method" "handlers" "Ljava/util/ArrayList;" : Cond) ∈ bigW := inB_2 203 (by decide +kernel) rfl
theorem w_114 : (Cond.lays "MapFramer$Method" "MapFramer$Method" "verified" "Z" : Cond) ∈ bigW := inB_2 205 (by decide +kernel) rfl
theorem w_115 : (Cond.lays "MapFramer$Method" "MapFramer$Method" "fault" "I" : Cond) ∈ bigW := inB_2 207 (by decide +kernel) rfl
theorem w_116 : (Cond.lays "MapFramer$Method" "MapFramer$Method" "faultAt" "I" : Cond) ∈ bigW := inB_2 209 (by decide +kernel) rfl
theorem w_117 : (Cond.lays "MapFramer$Method" "MapFramer$Method" "states" "[LMapFramer$State;" : Cond) ∈ bigW := inB_2 211 (by decide +kernel) rfl
theorem w_118 : (Cond.lays "MapFramer$Method" "MapFramer$Method" "frames" "[I" : Cond) ∈ bigW := inB_2 213 (by decide +kernel) rfl
theorem w_119 : (Cond.lays "MapFramer$Method" "MapFramer$Method" "frameCount" "I" : Cond) ∈ bigW := inB_2 215 (by decide +kernel) rfl
theorem w_120 : (Cond.lays "MapFramer$Method" "MapFramer$Method" "called" "I" : Cond) ∈ bigW := inB_2 217 (by decide +kernel) rfl
theorem w_121 : (Cond.lays "java/util/ArrayList" "java/util/AbstractList" "modCount" "I" : Cond) ∈ bigW := inB_2 151 (by decide +kernel) rfl
theorem w_122 : (Cond.lays "java/util/ArrayList" "java/util/ArrayList" "elementData" "[Ljava/lang/Object;" : Cond) ∈ bigW := inB_2 147 (by decide +kernel) rfl
theorem w_123 : (Cond.lays "java/util/ArrayList" "java/util/ArrayList" "size" "I" : Cond) ∈ bigW := inB_2 149 (by decide +kernel) rfl
theorem uk_C : ∀ k, k < 5 → u_lay R_C T_C k ∈ bigW := fun k hk => match k, hk with | 0, _ => w_0 | 1, _ => w_1 | 2, _ => w_2 | 3, _ => w_3 | 4, _ => w_4 | k + 5, hk => absurd hk (by omega)
theorem uw_C : ∀ w ∈ u_ws R_C T_C 5, w ∈ bigW := fun w h => by obtain ⟨k, hk, rfl⟩ := List.mem_map.mp h; exact uk_C k (List.mem_range.mp hk)
theorem uk_H : ∀ k, k < 4 → u_lay R_H T_H k ∈ bigW := fun k hk => match k, hk with | 0, _ => w_5 | 1, _ => w_6 | 2, _ => w_7 | 3, _ => w_8 | k + 4, hk => absurd hk (by omega)
theorem uw_H : ∀ w ∈ u_ws R_H T_H 4, w ∈ bigW := fun w h => by obtain ⟨k, hk, rfl⟩ := List.mem_map.mp h; exact uk_H k (List.mem_range.mp hk)
theorem uk_K : ∀ k, k < 14 → u_lay R_K T_K k ∈ bigW := fun k hk => match k, hk with | 0, _ => w_9 | 1, _ => w_10 | 2, _ => w_11 | 3, _ => w_12 | 4, _ => w_13 | 5, _ => w_14 | 6, _ => w_15 | 7, _ => w_16 | 8, _ => w_17 | 9, _ => w_18 | 10, _ => w_19 | 11, _ => w_20 | 12, _ => w_21 | 13, _ => w_22 | k + 14, hk => absurd hk (by omega)
theorem uw_K : ∀ w ∈ u_ws R_K T_K 14, w ∈ bigW := fun w h => by obtain ⟨k, hk, rfl⟩ := List.mem_map.mp h; exact uk_K k (List.mem_range.mp hk)
theorem uk_W : ∀ k, k < 10 → u_lay R_W T_W k ∈ bigW := fun k hk => match k, hk with | 0, _ => w_23 | 1, _ => w_24 | 2, _ => w_25 | 3, _ => w_26 | 4, _ => w_27 | 5, _ => w_28 | 6, _ => w_29 | 7, _ => w_30 | 8, _ => w_31 | 9, _ => w_32 | k + 10, hk => absurd hk (by omega)
theorem uw_W : ∀ w ∈ u_ws R_W T_W 10, w ∈ bigW := fun w h => by obtain ⟨k, hk, rfl⟩ := List.mem_map.mp h; exact uk_W k (List.mem_range.mp hk)
theorem uk_F : ∀ k, k < 4 → u_lay R_F T_F k ∈ bigW := fun k hk => match k, hk with | 0, _ => w_33 | 1, _ => w_34 | 2, _ => w_35 | 3, _ => w_36 | k + 4, hk => absurd hk (by omega)
theorem uw_F : ∀ w ∈ u_ws R_F T_F 4, w ∈ bigW := fun w h => by obtain ⟨k, hk, rfl⟩ := List.mem_map.mp h; exact uk_F k (List.mem_range.mp hk)
theorem uk_M : ∀ k, k < 71 → u_lay R_M T_M k ∈ bigW := fun k hk => match k, hk with | 0, _ => w_37 | 1, _ => w_38 | 2, _ => w_39 | 3, _ => w_40 | 4, _ => w_41 | 5, _ => w_42 | 6, _ => w_43 | 7, _ => w_44 | 8, _ => w_45 | 9, _ => w_46 | 10, _ => w_47 | 11, _ => w_48 | 12, _ => w_49 | 13, _ => w_50 | 14, _ => w_51 | 15, _ => w_52 | 16, _ => w_53 | 17, _ => w_54 | 18, _ => w_55 | 19, _ => w_56 | 20, _ => w_57 | 21, _ => w_58 | 22, _ => w_59 | 23, _ => w_60 | 24, _ => w_61 | 25, _ => w_62 | 26, _ => w_63 | 27, _ => w_64 | 28, _ => w_65 | 29, _ => w_66 | 30, _ => w_67 | 31, _ => w_68 | 32, _ => w_69 | 33, _ => w_70 | 34, _ => w_71 | 35, _ => w_72 | 36, _ => w_73 | 37, _ => w_74 | 38, _ => w_75 | 39, _ => w_76 | 40, _ => w_77 | 41, _ => w_78 | 42, _ => w_79 | 43, _ => w_80 | 44, _ => w_81 | 45, _ => w_82 | 46, _ => w_83 | 47, _ => w_84 | 48, _ => w_85 | 49, _ => w_86 | 50, _ => w_87 | 51, _ => w_88 | 52, _ => w_89 | 53, _ => w_90 | 54, _ => w_91 | 55, _ => w_92 | 56, _ => w_93 | 57, _ => w_94 | 58, _ => w_95 | 59, _ => w_96 | 60, _ => w_97 | 61, _ => w_98 | 62, _ => w_99 | 63, _ => w_100 | 64, _ => w_101 | 65, _ => w_102 | 66, _ => w_103 | 67, _ => w_104 | 68, _ => w_105 | 69, _ => w_106 | 70, _ => w_107 | k + 71, hk => absurd hk (by omega)
theorem uw_M : ∀ w ∈ u_ws R_M T_M 71, w ∈ bigW := fun w h => by obtain ⟨k, hk, rfl⟩ := List.mem_map.mp h; exact uk_M k (List.mem_range.mp hk)
theorem uk_E : ∀ k, k < 13 → u_lay R_E T_E k ∈ bigW := fun k hk => match k, hk with | 0, _ => w_108 | 1, _ => w_109 | 2, _ => w_110 | 3, _ => w_111 | 4, _ => w_112 | 5, _ => w_113 | 6, _ => w_114 | 7, _ => w_115 | 8, _ => w_116 | 9, _ => w_117 | 10, _ => w_118 | 11, _ => w_119 | 12, _ => w_120 | k + 13, hk => absurd hk (by omega)
theorem uw_E : ∀ w ∈ u_ws R_E T_E 13, w ∈ bigW := fun w h => by obtain ⟨k, hk, rfl⟩ := List.mem_map.mp h; exact uk_E k (List.mem_range.mp hk)
theorem uk_A : ∀ k, k < 3 → u_lay R_A T_A k ∈ bigW := fun k hk => match k, hk with | 0, _ => w_121 | 1, _ => w_122 | 2, _ => w_123 | k + 3, hk => absurd hk (by omega)
theorem uw_A : ∀ w ∈ u_ws R_A T_A 3, w ∈ bigW := fun w h => by obtain ⟨k, hk, rfl⟩ := List.mem_map.mp h; exact uk_A k (List.mem_range.mp hk)
