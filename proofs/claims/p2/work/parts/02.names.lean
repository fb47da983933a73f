/-! names: classes, fields, words, decode rows (printed by my own program out of the listing and the tables) -/
abbrev R_C : String := "MapFramer$Call"
def T_C : u_T := fun k => match k with
  | 0 => ("MapFramer$Call", "method", "LMapFramer$Method;", false)
  | 1 => ("MapFramer$Call", "place", "I", false)
  | 2 => ("MapFramer$Call", "locals", "[J", true)
  | 3 => ("MapFramer$Call", "stack", "[J", true)
  | _ => ("MapFramer$Call", "size", "I", false)
def ty_C : Nat → FieldType := fun k => match k with
  | 0 => .object "MapFramer$Method"
  | 1 => .int
  | 2 => .array .long
  | 3 => .array .long
  | _ => .int
theorem nm_C : ∀ a, a < 5 → ∀ b, b < 5 → a ≠ b → (T_C a).2.1 ≠ (T_C b).2.1 := by decide +kernel
theorem tok_C : ∀ k, k < 5 → parseFieldDescriptor (T_C k).2.2.1 = some (ty_C k) := by decide +kernel
theorem df_C : ∀ j, j < 5 → defaultValue (ty_C j) = vp_V [.null, .int 0, .null, .null, .int 0] j := by decide +kernel
abbrev R_H : String := "MapFramer$Heap"
def T_H : u_T := fun k => match k with
  | 0 => ("MapFramer$Heap", "types", "[I", true)
  | 1 => ("MapFramer$Heap", "lengths", "[I", true)
  | 2 => ("MapFramer$Heap", "values", "[J", true)
  | _ => ("MapFramer$Heap", "made", "I", false)
def ty_H : Nat → FieldType := fun k => match k with
  | 0 => .array .int
  | 1 => .array .int
  | 2 => .array .long
  | _ => .int
theorem nm_H : ∀ a, a < 4 → ∀ b, b < 4 → a ≠ b → (T_H a).2.1 ≠ (T_H b).2.1 := by decide +kernel
theorem tok_H : ∀ k, k < 4 → parseFieldDescriptor (T_H k).2.2.1 = some (ty_H k) := by decide +kernel
theorem df_H : ∀ j, j < 4 → defaultValue (ty_H j) = vp_V [.null, .null, .null, .int 0] j := by decide +kernel
abbrev R_K : String := "MapFramer$Machine"
def T_K : u_T := fun k => match k with
  | 0 => ("MapFramer$Machine", "heap", "LMapFramer$Heap;", true)
  | 1 => ("MapFramer$Machine", "statics", "[J", true)
  | 2 => ("MapFramer$Machine", "calls", "[LMapFramer$Call;", true)
  | 3 => ("MapFramer$Machine", "world", "LMapFramer$World;", false)
  | 4 => ("MapFramer$Machine", "depth", "I", false)
  | 5 => ("MapFramer$Machine", "call", "LMapFramer$Call;", false)
  | 6 => ("MapFramer$Machine", "next", "I", false)
  | 7 => ("MapFramer$Machine", "raises", "Z", false)
  | 8 => ("MapFramer$Machine", "tossed", "I", false)
  | 9 => ("MapFramer$Machine", "resultType", "I", false)
  | 10 => ("MapFramer$Machine", "result", "J", false)
  | 11 => ("MapFramer$Machine", "outcome", "I", false)
  | 12 => ("MapFramer$Machine", "used", "I", false)
  | _ => ("MapFramer$Machine", "thrownClass", "I", false)
def ty_K : Nat → FieldType := fun k => match k with
  | 0 => .object "MapFramer$Heap"
  | 1 => .array .long
  | 2 => .array (.object "MapFramer$Call")
  | 3 => .object "MapFramer$World"
  | 4 => .int
  | 5 => .object "MapFramer$Call"
  | 6 => .int
  | 7 => .boolean
  | 8 => .int
  | 9 => .int
  | 10 => .long
  | 11 => .int
  | 12 => .int
  | _ => .int
theorem nm_K : ∀ a, a < 14 → ∀ b, b < 14 → a ≠ b → (T_K a).2.1 ≠ (T_K b).2.1 := by decide +kernel
theorem tok_K : ∀ k, k < 14 → parseFieldDescriptor (T_K k).2.2.1 = some (ty_K k) := by decide +kernel
theorem df_K : ∀ j, j < 14 → defaultValue (ty_K j) = vp_V [.null, .null, .null, .null, .int 0, .null, .int 0, .int 0, .int 0, .int 0, .long 0, .int 0, .int 0, .int 0] j := by decide +kernel
abbrev R_W : String := "MapFramer$World"
def T_W : u_T := fun k => match k with
  | 0 => ("MapFramer$World", "parents", "[I", true)
  | 1 => ("MapFramer$World", "supers", "[I", true)
  | 2 => ("MapFramer$World", "interfaces", "[Z", true)
  | 3 => ("MapFramer$World", "classCount", "I", false)
  | 4 => ("MapFramer$World", "fieldClasses", "[I", true)
  | 5 => ("MapFramer$World", "fieldTypes", "[I", true)
  | 6 => ("MapFramer$World", "fieldStatics", "[Z", true)
  | 7 => ("MapFramer$World", "fieldCount", "I", false)
  | 8 => ("MapFramer$World", "methods", "[LMapFramer$Method;", true)
  | _ => ("MapFramer$World", "methodCount", "I", false)
def ty_W : Nat → FieldType := fun k => match k with
  | 0 => .array .int
  | 1 => .array .int
  | 2 => .array .boolean
  | 3 => .int
  | 4 => .array .int
  | 5 => .array .int
  | 6 => .array .boolean
  | 7 => .int
  | 8 => .array (.object "MapFramer$Method")
  | _ => .int
theorem nm_W : ∀ a, a < 10 → ∀ b, b < 10 → a ≠ b → (T_W a).2.1 ≠ (T_W b).2.1 := by decide +kernel
theorem tok_W : ∀ k, k < 10 → parseFieldDescriptor (T_W k).2.2.1 = some (ty_W k) := by decide +kernel
theorem df_W : ∀ j, j < 10 → defaultValue (ty_W j) = vp_V [.null, .null, .null, .int 0, .null, .null, .null, .int 0, .null, .int 0] j := by decide +kernel
abbrev R_F : String := "MapFramer"
def T_F : u_T := fun k => match k with
  | 0 => ("MapFramer", "world", "LMapFramer$World;", true)
  | 1 => ("MapFramer", "machine", "LMapFramer$Machine;", true)
  | 2 => ("MapFramer", "tape", "[I", true)
  | _ => ("MapFramer", "tapeLength", "I", false)
def ty_F : Nat → FieldType := fun k => match k with
  | 0 => .object "MapFramer$World"
  | 1 => .object "MapFramer$Machine"
  | 2 => .array .int
  | _ => .int
theorem nm_F : ∀ a, a < 4 → ∀ b, b < 4 → a ≠ b → (T_F a).2.1 ≠ (T_F b).2.1 := by decide +kernel
theorem tok_F : ∀ k, k < 4 → parseFieldDescriptor (T_F k).2.2.1 = some (ty_F k) := by decide +kernel
theorem df_F : ∀ j, j < 4 → defaultValue (ty_F j) = vp_V [.null, .null, .null, .int 0] j := by decide +kernel
abbrev R_M : String := "MapFramerModel"
def T_M : u_T := fun k => match k with
  | 0 => ("MapFramerModel", "thrown", "I", false)
  | 1 => ("MapFramerModel", "classes", "I", false)
  | 2 => ("MapFramerModel", "above", "[I", true)
  | 3 => ("MapFramerModel", "isFace", "[Z", true)
  | 4 => ("MapFramerModel", "fields", "I", false)
  | 5 => ("MapFramerModel", "fieldClass", "[I", true)
  | 6 => ("MapFramerModel", "fieldType", "[I", true)
  | 7 => ("MapFramerModel", "fieldStatic", "[Z", true)
  | 8 => ("MapFramerModel", "methods", "I", false)
  | 9 => ("MapFramerModel", "arguments", "[I", true)
  | 10 => ("MapFramerModel", "argumentCount", "[I", true)
  | 11 => ("MapFramerModel", "results", "[I", true)
  | 12 => ("MapFramerModel", "sizes", "[I", true)
  | 13 => ("MapFramerModel", "codes", "[I", true)
  | 14 => ("MapFramerModel", "maxStack", "[I", true)
  | 15 => ("MapFramerModel", "maxLocals", "[I", true)
  | 16 => ("MapFramerModel", "handlers", "[I", true)
  | 17 => ("MapFramerModel", "handlerFrom", "[I", true)
  | 18 => ("MapFramerModel", "handlerTo", "[I", true)
  | 19 => ("MapFramerModel", "handlerPlace", "[I", true)
  | 20 => ("MapFramerModel", "handlerClass", "[I", true)
  | 21 => ("MapFramerModel", "verified", "[Z", true)
  | 22 => ("MapFramerModel", "fault", "[I", true)
  | 23 => ("MapFramerModel", "faultAt", "[I", true)
  | 24 => ("MapFramerModel", "taped", "I", false)
  | 25 => ("MapFramerModel", "tape", "[I", true)
  | 26 => ("MapFramerModel", "begins", "[Z", true)
  | 27 => ("MapFramerModel", "high", "[I", true)
  | 28 => ("MapFramerModel", "locals", "[I", true)
  | 29 => ("MapFramerModel", "stacks", "[I", true)
  | 30 => ("MapFramerModel", "due", "[Z", true)
  | 31 => ("MapFramerModel", "dead", "[Z", true)
  | 32 => ("MapFramerModel", "framed", "[Z", true)
  | 33 => ("MapFramerModel", "method", "I", false)
  | 34 => ("MapFramerModel", "here", "I", false)
  | 35 => ("MapFramerModel", "bad", "I", false)
  | 36 => ("MapFramerModel", "badAt", "I", false)
  | 37 => ("MapFramerModel", "local", "[I", true)
  | 38 => ("MapFramerModel", "before", "[I", true)
  | 39 => ("MapFramerModel", "stack", "[I", true)
  | 40 => ("MapFramerModel", "many", "I", false)
  | 41 => ("MapFramerModel", "given", "[I", true)
  | 42 => ("MapFramerModel", "givenStack", "[I", true)
  | 43 => ("MapFramerModel", "givenMany", "I", false)
  | 44 => ("MapFramerModel", "mostStack", "I", false)
  | 45 => ("MapFramerModel", "cuts", "I", false)
  | 46 => ("MapFramerModel", "cutFrom", "[I", true)
  | 47 => ("MapFramerModel", "cutTo", "[I", true)
  | 48 => ("MapFramerModel", "cutPlace", "[I", true)
  | 49 => ("MapFramerModel", "cutClass", "[I", true)
  | 50 => ("MapFramerModel", "written", "I", false)
  | 51 => ("MapFramerModel", "bytes", "[I", true)
  | 52 => ("MapFramerModel", "was", "[I", true)
  | 53 => ("MapFramerModel", "wasMany", "I", false)
  | 54 => ("MapFramerModel", "now", "[I", true)
  | 55 => ("MapFramerModel", "nowMany", "I", false)
  | 56 => ("MapFramerModel", "ends", "[I", true)
  | 57 => ("MapFramerModel", "statics", "[J", true)
  | 58 => ("MapFramerModel", "things", "I", false)
  | 59 => ("MapFramerModel", "thingType", "[I", true)
  | 60 => ("MapFramerModel", "thingSize", "[I", true)
  | 61 => ("MapFramerModel", "elements", "[J", true)
  | 62 => ("MapFramerModel", "slots", "[J", true)
  | 63 => ("MapFramerModel", "deep", "I", false)
  | 64 => ("MapFramerModel", "callMethod", "[I", true)
  | 65 => ("MapFramerModel", "callPlace", "[I", true)
  | 66 => ("MapFramerModel", "callHigh", "[I", true)
  | 67 => ("MapFramerModel", "values", "[J", true)
  | 68 => ("MapFramerModel", "piles", "[J", true)
  | 69 => ("MapFramerModel", "running", "Z", false)
  | _ => ("MapFramerModel", "answer", "J", false)
def ty_M : Nat → FieldType := fun k => match k with
  | 0 => .int
  | 1 => .int
  | 2 => .array .int
  | 3 => .array .boolean
  | 4 => .int
  | 5 => .array .int
  | 6 => .array .int
  | 7 => .array .boolean
  | 8 => .int
  | 9 => .array .int
  | 10 => .array .int
  | 11 => .array .int
  | 12 => .array .int
  | 13 => .array .int
  | 14 => .array .int
  | 15 => .array .int
  | 16 => .array .int
  | 17 => .array .int
  | 18 => .array .int
  | 19 => .array .int
  | 20 => .array .int
  | 21 => .array .boolean
  | 22 => .array .int
  | 23 => .array .int
  | 24 => .int
  | 25 => .array .int
  | 26 => .array .boolean
  | 27 => .array .int
  | 28 => .array .int
  | 29 => .array .int
  | 30 => .array .boolean
  | 31 => .array .boolean
  | 32 => .array .boolean
  | 33 => .int
  | 34 => .int
  | 35 => .int
  | 36 => .int
  | 37 => .array .int
  | 38 => .array .int
  | 39 => .array .int
  | 40 => .int
  | 41 => .array .int
  | 42 => .array .int
  | 43 => .int
  | 44 => .int
  | 45 => .int
  | 46 => .array .int
  | 47 => .array .int
  | 48 => .array .int
  | 49 => .array .int
  | 50 => .int
  | 51 => .array .int
  | 52 => .array .int
  | 53 => .int
  | 54 => .array .int
  | 55 => .int
  | 56 => .array .int
  | 57 => .array .long
  | 58 => .int
  | 59 => .array .int
  | 60 => .array .int
  | 61 => .array .long
  | 62 => .array .long
  | 63 => .int
  | 64 => .array .int
  | 65 => .array .int
  | 66 => .array .int
  | 67 => .array .long
  | 68 => .array .long
  | 69 => .boolean
  | _ => .long
theorem nm_M : ∀ a, a < 71 → ∀ b, b < 71 → a ≠ b → (T_M a).2.1 ≠ (T_M b).2.1 := by decide +kernel
theorem tok_M : ∀ k, k < 71 → parseFieldDescriptor (T_M k).2.2.1 = some (ty_M k) := by decide +kernel
theorem df_M : ∀ j, j < 71 → defaultValue (ty_M j) = vp_V [.int 0, .int 0, .null, .null, .int 0, .null, .null, .null, .int 0, .null, .null, .null, .null, .null, .null, .null, .null, .null, .null, .null, .null, .null, .null, .null, .int 0, .null, .null, .null, .null, .null, .null, .null, .null, .int 0, .int 0, .int 0, .int 0, .null, .null, .null, .int 0, .null, .null, .int 0, .int 0, .int 0, .null, .null, .null, .null, .int 0, .null, .null, .int 0, .null, .int 0, .null, .null, .int 0, .null, .null, .null, .null, .int 0, .null, .null, .null, .null, .null, .int 0, .long 0] j := by decide +kernel
abbrev R_E : String := "MapFramer$Method"
def T_E : u_T := fun k => match k with
  | 0 => ("MapFramer$Method", "arguments", "[I", true)
  | 1 => ("MapFramer$Method", "result", "I", true)
  | 2 => ("MapFramer$Method", "code", "[I", false)
  | 3 => ("MapFramer$Method", "maxStack", "I", false)
  | 4 => ("MapFramer$Method", "maxLocals", "I", false)
  | 5 => ("MapFramer$Method", "handlers", "Ljava/util/ArrayList;", false)
  | 6 => ("MapFramer$Method", "verified", "Z", false)
  | 7 => ("MapFramer$Method", "fault", "I", false)
  | 8 => ("MapFramer$Method", "faultAt", "I", false)
  | 9 => ("MapFramer$Method", "states", "[LMapFramer$State;", false)
  | 10 => ("MapFramer$Method", "frames", "[I", false)
  | 11 => ("MapFramer$Method", "frameCount", "I", false)
  | _ => ("MapFramer$Method", "called", "I", false)
def ty_E : Nat → FieldType := fun k => match k with
  | 0 => .array .int
  | 1 => .int
  | 2 => .array .int
  | 3 => .int
  | 4 => .int
  | 5 => .object "java/util/ArrayList"
  | 6 => .boolean
  | 7 => .int
  | 8 => .int
  | 9 => .array (.object "MapFramer$State")
  | 10 => .array .int
  | 11 => .int
  | _ => .int
theorem nm_E : ∀ a, a < 13 → ∀ b, b < 13 → a ≠ b → (T_E a).2.1 ≠ (T_E b).2.1 := by decide +kernel
theorem tok_E : ∀ k, k < 13 → parseFieldDescriptor (T_E k).2.2.1 = some (ty_E k) := by decide +kernel
theorem df_E : ∀ j, j < 13 → defaultValue (ty_E j) = vp_V [.null, .int 0, .null, .int 0, .int 0, .null, .int 0, .int 0, .int 0, .null, .null, .int 0, .int 0] j := by decide +kernel
abbrev R_A : String := "java/util/ArrayList"
def T_A : u_T := fun k => match k with
  | 0 => ("java/util/AbstractList", "modCount", "I", false)
  | 1 => ("java/util/ArrayList", "elementData", "[Ljava/lang/Object;", false)
  | _ => ("java/util/ArrayList", "size", "I", false)
def ty_A : Nat → FieldType := fun k => match k with
  | 0 => .int
  | 1 => .array (.object "java/lang/Object")
  | _ => .int
theorem nm_A : ∀ a, a < 3 → ∀ b, b < 3 → a ≠ b → (T_A a).2.1 ≠ (T_A b).2.1 := by decide +kernel
theorem tok_A : ∀ k, k < 3 → parseFieldDescriptor (T_A k).2.2.1 = some (ty_A k) := by decide +kernel
theorem df_A : ∀ j, j < 3 → defaultValue (ty_A j) = vp_V [.int 0, .null, .int 0] j := by decide +kernel
abbrev vwCl : List vw_C := [(R_C, T_C, 5), (R_H, T_H, 4), (R_K, T_K, 14), (R_W, T_W, 10), (R_F, T_F, 4), (R_M, T_M, 71), (R_E, T_E, 13), (R_A, T_A, 3)]
def bigW : List Cond := lw_tbl.filter goodWord
theorem inB_1 {w : Cond} (i : Nat) (h : tables_1_1[i]? = some w) (g : goodWord w = true) : w ∈ bigW := List.mem_filter.mpr ⟨List.mem_append_right _ (List.mem_append_left _ (List.mem_of_getElem? h)), g⟩
theorem inB_2 {w : Cond} (i : Nat) (h : tables_1_2[i]? = some w) (g : goodWord w = true) : w ∈ bigW := List.mem_filter.mpr ⟨List.mem_append_right _ (List.mem_append_right _ (List.mem_append_left _ (List.mem_of_getElem? h))), g⟩
theorem inB_3 {w : Cond} (i : Nat) (h : tables_1_3[i]? = some w) (g : goodWord w = true) : w ∈ bigW := List.mem_filter.mpr ⟨List.mem_append_right _ (List.mem_append_right _ (List.mem_append_right _ (List.mem_append_left _ (List.mem_of_getElem? h)))), g⟩
theorem inB_4 {w : Cond} (i : Nat) (h : tables_1_4[i]? = some w) (g : goodWord w = true) : w ∈ bigW := List.mem_filter.mpr ⟨List.mem_append_right _ (List.mem_append_right _ (List.mem_append_right _ (List.mem_append_right _ (List.mem_append_left _ (List.mem_of_getElem? h))))), g⟩
theorem inB_5 {w : Cond} (i : Nat) (h : tables_1_5[i]? = some w) (g : goodWord w = true) : w ∈ bigW := List.mem_filter.mpr ⟨List.mem_append_right _ (List.mem_append_right _ (List.mem_append_right _ (List.mem_append_right _ (List.mem_append_right _ (List.mem_append_left _ (List.mem_of_getElem? h)))))), g⟩
theorem inB_6 {w : Cond} (i : Nat) (h : tables_1_6[i]? = some w) (g : goodWord w = true) : w ∈ bigW := List.mem_filter.mpr ⟨List.mem_append_right _ (List.mem_append_right _ (List.mem_append_right _ (List.mem_append_right _ (List.mem_append_right _ (List.mem_append_right _ (List.mem_append_left _ (List.mem_of_getElem? h))))))), g⟩
theorem inB_7 {w : Cond} (i : Nat) (h : tables_1_7[i]? = some w) (g : goodWord w = true) : w ∈ bigW := List.mem_filter.mpr ⟨List.mem_append_right _ (List.mem_append_right _ (List.mem_append_right _ (List.mem_append_right _ (List.mem_append_right _ (List.mem_append_right _ (List.mem_append_right _ (List.mem_append_left _ (List.mem_of_getElem? h)))))))), g⟩
theorem inB_8 {w : Cond} (i : Nat) (h : tables_1_8[i]? = some w) (g : goodWord w = true) : w ∈ bigW := List.mem_filter.mpr ⟨List.mem_append_right _ (List.mem_append_right _ (List.mem_append_right _ (List.mem_append_right _ (List.mem_append_right _ (List.mem_append_right _ (List.mem_append_right _ (List.mem_append_right _ (List.mem_append_left _ (List.mem_of_getElem? h))))))))), g⟩
theorem inB_9 {w : Cond} (i : Nat) (h : tables_1_9[i]? = some w) (g : goodWord w = true) : w ∈ bigW := List.mem_filter.mpr ⟨List.mem_append_right _ (List.mem_append_right _ (List.mem_append_right _ (List.mem_append_right _ (List.mem_append_right _ (List.mem_append_right _ (List.mem_append_right _ (List.mem_append_right _ (List.mem_append_right _ (List.mem_append_left _ (List.mem_of_getElem? h)))))))))), g⟩
theorem inB_10 {w : Cond} (i : Nat) (h : tables_1_10[i]? = some w) (g : goodWord w = true) : w ∈ bigW := List.mem_filter.mpr ⟨List.mem_append_right _ (List.mem_append_right _ (List.mem_append_right _ (List.mem_append_right _ (List.mem_append_right _ (List.mem_append_right _ (List.mem_append_right _ (List.mem_append_right _ (List.mem_append_right _ (List.mem_append_right _ (List.mem_of_getElem? h)))))))))), g⟩
theorem inS {y : MethodName} {n : Nat} (h : (y, n) ∈ lw_privs) : Cond.selects y.cls y y ∈ bigW := List.mem_filter.mpr ⟨List.mem_append_left _ (List.mem_map.mpr ⟨(y, n), h, rfl⟩), rfl⟩
