/-! the class's own world: names -/
abbrev R_Ha : String := "MapFramer$Handler"
def T_Ha : u_T := fun k => match k with
  | 0 => ("MapFramer$Handler", "from", "I", true)
  | 1 => ("MapFramer$Handler", "to", "I", true)
  | 2 => ("MapFramer$Handler", "place", "I", true)
  | _ => ("MapFramer$Handler", "caught", "I", true)
def ty_Ha : Nat → FieldType := fun k => match k with
  | 0 => .int
  | 1 => .int
  | 2 => .int
  | _ => .int
theorem nm_Ha : ∀ a, a < 4 → ∀ b, b < 4 → a ≠ b → (T_Ha a).2.1 ≠ (T_Ha b).2.1 := by decide +kernel
theorem tok_Ha : ∀ k, k < 4 → parseFieldDescriptor (T_Ha k).2.2.1 = some (ty_Ha k) := by decide +kernel
theorem ul_Ha_0 : (Cond.laysFinal "MapFramer$Handler" "MapFramer$Handler" "from" "I" : Cond) ∈ bigW := inB_3 62 (by decide +kernel) rfl
theorem ul_Ha_1 : (Cond.laysFinal "MapFramer$Handler" "MapFramer$Handler" "to" "I" : Cond) ∈ bigW := inB_3 64 (by decide +kernel) rfl
theorem ul_Ha_2 : (Cond.laysFinal "MapFramer$Handler" "MapFramer$Handler" "place" "I" : Cond) ∈ bigW := inB_3 66 (by decide +kernel) rfl
theorem ul_Ha_3 : (Cond.laysFinal "MapFramer$Handler" "MapFramer$Handler" "caught" "I" : Cond) ∈ bigW := inB_3 68 (by decide +kernel) rfl
theorem uk_Ha : ∀ k, k < 4 → u_lay R_Ha T_Ha k ∈ bigW := fun k hk => match k, hk with | 0, _ => ul_Ha_0 | 1, _ => ul_Ha_1 | 2, _ => ul_Ha_2 | 3, _ => ul_Ha_3 | k + 4, hk => absurd hk (by omega)
theorem uw_Ha : ∀ w ∈ u_ws R_Ha T_Ha 4, w ∈ bigW := fun w h => by obtain ⟨k, hk, rfl⟩ := List.mem_map.mp h; exact uk_Ha k (List.mem_range.mp hk)
abbrev R_St : String := "MapFramer$State"
def T_St : u_T := fun k => match k with
  | 0 => ("MapFramer$State", "locals", "[I", true)
  | 1 => ("MapFramer$State", "stack", "[I", true)
  | 2 => ("MapFramer$State", "size", "I", false)
  | _ => ("MapFramer$State", "words", "I", false)
def ty_St : Nat → FieldType := fun k => match k with
  | 0 => .array .int
  | 1 => .array .int
  | 2 => .int
  | _ => .int
theorem nm_St : ∀ a, a < 4 → ∀ b, b < 4 → a ≠ b → (T_St a).2.1 ≠ (T_St b).2.1 := by decide +kernel
theorem tok_St : ∀ k, k < 4 → parseFieldDescriptor (T_St k).2.2.1 = some (ty_St k) := by decide +kernel
theorem ul_St_0 : (Cond.laysFinal "MapFramer$State" "MapFramer$State" "locals" "[I" : Cond) ∈ bigW := inB_3 186 (by decide +kernel) rfl
theorem ul_St_1 : (Cond.laysFinal "MapFramer$State" "MapFramer$State" "stack" "[I" : Cond) ∈ bigW := inB_3 188 (by decide +kernel) rfl
theorem ul_St_2 : (Cond.lays "MapFramer$State" "MapFramer$State" "size" "I" : Cond) ∈ bigW := inB_3 190 (by decide +kernel) rfl
theorem ul_St_3 : (Cond.lays "MapFramer$State" "MapFramer$State" "words" "I" : Cond) ∈ bigW := inB_3 192 (by decide +kernel) rfl
theorem uk_St : ∀ k, k < 4 → u_lay R_St T_St k ∈ bigW := fun k hk => match k, hk with | 0, _ => ul_St_0 | 1, _ => ul_St_1 | 2, _ => ul_St_2 | 3, _ => ul_St_3 | k + 4, hk => absurd hk (by omega)
theorem uw_St : ∀ w ∈ u_ws R_St T_St 4, w ∈ bigW := fun w h => by obtain ⟨k, hk, rfl⟩ := List.mem_map.mp h; exact uk_St k (List.mem_range.mp hk)
abbrev R_Sp : String := "MapFramer$Stepper"
def T_Sp : u_T := fun k => match k with
  | 0 => ("MapFramer$Stepper", "world", "LMapFramer$World;", true)
  | 1 => ("MapFramer$Stepper", "method", "LMapFramer$Method;", true)
  | 2 => ("MapFramer$Stepper", "state", "LMapFramer$State;", false)
  | 3 => ("MapFramer$Stepper", "place", "I", false)
  | _ => ("MapFramer$Stepper", "fault", "I", false)
def ty_Sp : Nat → FieldType := fun k => match k with
  | 0 => .object "MapFramer$World"
  | 1 => .object "MapFramer$Method"
  | 2 => .object "MapFramer$State"
  | 3 => .int
  | _ => .int
theorem nm_Sp : ∀ a, a < 5 → ∀ b, b < 5 → a ≠ b → (T_Sp a).2.1 ≠ (T_Sp b).2.1 := by decide +kernel
theorem tok_Sp : ∀ k, k < 5 → parseFieldDescriptor (T_Sp k).2.2.1 = some (ty_Sp k) := by decide +kernel
theorem ul_Sp_0 : (Cond.laysFinal "MapFramer$Stepper" "MapFramer$Stepper" "world" "LMapFramer$World;" : Cond) ∈ bigW := inB_3 159 (by decide +kernel) rfl
theorem ul_Sp_1 : (Cond.laysFinal "MapFramer$Stepper" "MapFramer$Stepper" "method" "LMapFramer$Method;" : Cond) ∈ bigW := inB_3 161 (by decide +kernel) rfl
theorem ul_Sp_2 : (Cond.lays "MapFramer$Stepper" "MapFramer$Stepper" "state" "LMapFramer$State;" : Cond) ∈ bigW := inB_3 163 (by decide +kernel) rfl
theorem ul_Sp_3 : (Cond.lays "MapFramer$Stepper" "MapFramer$Stepper" "place" "I" : Cond) ∈ bigW := inB_3 165 (by decide +kernel) rfl
theorem ul_Sp_4 : (Cond.lays "MapFramer$Stepper" "MapFramer$Stepper" "fault" "I" : Cond) ∈ bigW := inB_3 167 (by decide +kernel) rfl
theorem uk_Sp : ∀ k, k < 5 → u_lay R_Sp T_Sp k ∈ bigW := fun k hk => match k, hk with | 0, _ => ul_Sp_0 | 1, _ => ul_Sp_1 | 2, _ => ul_Sp_2 | 3, _ => ul_Sp_3 | 4, _ => ul_Sp_4 | k + 5, hk => absurd hk (by omega)
theorem uw_Sp : ∀ w ∈ u_ws R_Sp T_Sp 5, w ∈ bigW := fun w h => by obtain ⟨k, hk, rfl⟩ := List.mem_map.mp h; exact uk_Sp k (List.mem_range.mp hk)
abbrev R_Ve : String := "MapFramer$Verifier"
def T_Ve : u_T := fun k => match k with
  | 0 => ("MapFramer$Verifier", "world", "LMapFramer$World;", true)
  | 1 => ("MapFramer$Verifier", "method", "LMapFramer$Method;", true)
  | 2 => ("MapFramer$Verifier", "stepper", "LMapFramer$Stepper;", true)
  | 3 => ("MapFramer$Verifier", "begins", "[Z", true)
  | 4 => ("MapFramer$Verifier", "waiting", "[Z", true)
  | 5 => ("MapFramer$Verifier", "leastWaiting", "I", false)
  | 6 => ("MapFramer$Verifier", "states", "[LMapFramer$State;", true)
  | 7 => ("MapFramer$Verifier", "ahead", "LMapFramer$State;", true)
  | 8 => ("MapFramer$Verifier", "behind", "LMapFramer$State;", true)
  | _ => ("MapFramer$Verifier", "caught", "LMapFramer$State;", true)
def ty_Ve : Nat → FieldType := fun k => match k with
  | 0 => .object "MapFramer$World"
  | 1 => .object "MapFramer$Method"
  | 2 => .object "MapFramer$Stepper"
  | 3 => .array .boolean
  | 4 => .array .boolean
  | 5 => .int
  | 6 => .array (.object "MapFramer$State")
  | 7 => .object "MapFramer$State"
  | 8 => .object "MapFramer$State"
  | _ => .object "MapFramer$State"
theorem nm_Ve : ∀ a, a < 10 → ∀ b, b < 10 → a ≠ b → (T_Ve a).2.1 ≠ (T_Ve b).2.1 := by decide +kernel
theorem tok_Ve : ∀ k, k < 10 → parseFieldDescriptor (T_Ve k).2.2.1 = some (ty_Ve k) := by decide +kernel
theorem ul_Ve_0 : (Cond.laysFinal "MapFramer$Verifier" "MapFramer$Verifier" "world" "LMapFramer$World;" : Cond) ∈ bigW := inB_3 205 (by decide +kernel) rfl
theorem ul_Ve_1 : (Cond.laysFinal "MapFramer$Verifier" "MapFramer$Verifier" "method" "LMapFramer$Method;" : Cond) ∈ bigW := inB_3 207 (by decide +kernel) rfl
theorem ul_Ve_2 : (Cond.laysFinal "MapFramer$Verifier" "MapFramer$Verifier" "stepper" "LMapFramer$Stepper;" : Cond) ∈ bigW := inB_3 209 (by decide +kernel) rfl
theorem ul_Ve_3 : (Cond.laysFinal "MapFramer$Verifier" "MapFramer$Verifier" "begins" "[Z" : Cond) ∈ bigW := inB_3 211 (by decide +kernel) rfl
theorem ul_Ve_4 : (Cond.laysFinal "MapFramer$Verifier" "MapFramer$Verifier" "waiting" "[Z" : Cond) ∈ bigW := inB_3 213 (by decide +kernel) rfl
theorem ul_Ve_5 : (Cond.lays "MapFramer$Verifier" "MapFramer$Verifier" "leastWaiting" "I" : Cond) ∈ bigW := inB_3 215 (by decide +kernel) rfl
theorem ul_Ve_6 : (Cond.laysFinal "MapFramer$Verifier" "MapFramer$Verifier" "states" "[LMapFramer$State;" : Cond) ∈ bigW := inB_3 217 (by decide +kernel) rfl
theorem ul_Ve_7 : (Cond.laysFinal "MapFramer$Verifier" "MapFramer$Verifier" "ahead" "LMapFramer$State;" : Cond) ∈ bigW := inB_3 219 (by decide +kernel) rfl
theorem ul_Ve_8 : (Cond.laysFinal "MapFramer$Verifier" "MapFramer$Verifier" "behind" "LMapFramer$State;" : Cond) ∈ bigW := inB_3 221 (by decide +kernel) rfl
theorem ul_Ve_9 : (Cond.laysFinal "MapFramer$Verifier" "MapFramer$Verifier" "caught" "LMapFramer$State;" : Cond) ∈ bigW := inB_3 223 (by decide +kernel) rfl
theorem uk_Ve : ∀ k, k < 10 → u_lay R_Ve T_Ve k ∈ bigW := fun k hk => match k, hk with | 0, _ => ul_Ve_0 | 1, _ => ul_Ve_1 | 2, _ => ul_Ve_2 | 3, _ => ul_Ve_3 | 4, _ => ul_Ve_4 | 5, _ => ul_Ve_5 | 6, _ => ul_Ve_6 | 7, _ => ul_Ve_7 | 8, _ => ul_Ve_8 | 9, _ => ul_Ve_9 | k + 10, hk => absurd hk (by omega)
theorem uw_Ve : ∀ w ∈ u_ws R_Ve T_Ve 10, w ∈ bigW := fun w h => by obtain ⟨k, hk, rfl⟩ := List.mem_map.mp h; exact uk_Ve k (List.mem_range.mp hk)
abbrev R_Fw : String := "MapFramer$FrameWriter"
def T_Fw : u_T := fun k => match k with
  | 0 => ("MapFramer$FrameWriter", "bytes", "[I", false)
  | 1 => ("MapFramer$FrameWriter", "length", "I", false)
  | 2 => ("MapFramer$FrameWriter", "placeBefore", "I", false)
  | 3 => ("MapFramer$FrameWriter", "before", "[I", false)
  | 4 => ("MapFramer$FrameWriter", "beforeCount", "I", false)
  | 5 => ("MapFramer$FrameWriter", "locals", "[I", false)
  | 6 => ("MapFramer$FrameWriter", "localCount", "I", false)
  | 7 => ("MapFramer$FrameWriter", "stack", "[I", true)
  | _ => ("MapFramer$FrameWriter", "stackCount", "I", false)
def ty_Fw : Nat → FieldType := fun k => match k with
  | 0 => .array .int
  | 1 => .int
  | 2 => .int
  | 3 => .array .int
  | 4 => .int
  | 5 => .array .int
  | 6 => .int
  | 7 => .array .int
  | _ => .int
theorem nm_Fw : ∀ a, a < 9 → ∀ b, b < 9 → a ≠ b → (T_Fw a).2.1 ≠ (T_Fw b).2.1 := by decide +kernel
theorem tok_Fw : ∀ k, k < 9 → parseFieldDescriptor (T_Fw k).2.2.1 = some (ty_Fw k) := by decide +kernel
theorem ul_Fw_0 : (Cond.lays "MapFramer$FrameWriter" "MapFramer$FrameWriter" "bytes" "[I" : Cond) ∈ bigW := inB_6 191 (by decide +kernel) rfl
theorem ul_Fw_1 : (Cond.lays "MapFramer$FrameWriter" "MapFramer$FrameWriter" "length" "I" : Cond) ∈ bigW := inB_6 193 (by decide +kernel) rfl
theorem ul_Fw_2 : (Cond.lays "MapFramer$FrameWriter" "MapFramer$FrameWriter" "placeBefore" "I" : Cond) ∈ bigW := inB_6 195 (by decide +kernel) rfl
theorem ul_Fw_3 : (Cond.lays "MapFramer$FrameWriter" "MapFramer$FrameWriter" "before" "[I" : Cond) ∈ bigW := inB_6 197 (by decide +kernel) rfl
theorem ul_Fw_4 : (Cond.lays "MapFramer$FrameWriter" "MapFramer$FrameWriter" "beforeCount" "I" : Cond) ∈ bigW := inB_6 199 (by decide +kernel) rfl
theorem ul_Fw_5 : (Cond.lays "MapFramer$FrameWriter" "MapFramer$FrameWriter" "locals" "[I" : Cond) ∈ bigW := inB_6 201 (by decide +kernel) rfl
theorem ul_Fw_6 : (Cond.lays "MapFramer$FrameWriter" "MapFramer$FrameWriter" "localCount" "I" : Cond) ∈ bigW := inB_6 203 (by decide +kernel) rfl
theorem ul_Fw_7 : (Cond.laysFinal "MapFramer$FrameWriter" "MapFramer$FrameWriter" "stack" "[I" : Cond) ∈ bigW := inB_6 205 (by decide +kernel) rfl
theorem ul_Fw_8 : (Cond.lays "MapFramer$FrameWriter" "MapFramer$FrameWriter" "stackCount" "I" : Cond) ∈ bigW := inB_6 207 (by decide +kernel) rfl
theorem uk_Fw : ∀ k, k < 9 → u_lay R_Fw T_Fw k ∈ bigW := fun k hk => match k, hk with | 0, _ => ul_Fw_0 | 1, _ => ul_Fw_1 | 2, _ => ul_Fw_2 | 3, _ => ul_Fw_3 | 4, _ => ul_Fw_4 | 5, _ => ul_Fw_5 | 6, _ => ul_Fw_6 | 7, _ => ul_Fw_7 | 8, _ => ul_Fw_8 | k + 9, hk => absurd hk (by omega)
theorem uw_Fw : ∀ w ∈ u_ws R_Fw T_Fw 9, w ∈ bigW := fun w h => by obtain ⟨k, hk, rfl⟩ := List.mem_map.mp h; exact uk_Fw k (List.mem_range.mp hk)
abbrev cwCl : List vw_C := [(R_C, T_C, 5), (R_H, T_H, 4), (R_K, T_K, 14), (R_W, T_W, 10), (R_F, T_F, 4), (R_E, T_E, 13), (R_A, T_A, 3), (R_Ha, T_Ha, 4), (R_St, T_St, 4), (R_Sp, T_Sp, 5), (R_Ve, T_Ve, 10), (R_Fw, T_Fw, 9)]
def cN (t : Nat) : Nat := ([5, 4, 14, 10, 4, 13, 3, 4, 4, 5, 10, 9] : List Nat).getD t 0
def cS (t k : Nat) : Nat := (([[2, 0, 2, 2, 0], [2, 2, 2, 0], [2, 2, 2, 2, 0, 2, 0, 3, 0, 0, 1, 0, 0, 0], [2, 2, 2, 0, 2, 2, 2, 0, 2, 0], [2, 2, 2, 0], [2, 0, 2, 0, 0, 2, 3, 0, 0, 2, 2, 0, 0], [0, 2, 0], [0, 0, 0, 0], [2, 2, 0, 0], [2, 2, 2, 0, 0], [2, 2, 2, 2, 2, 0, 2, 2, 2, 2], [2, 0, 0, 2, 0, 2, 0, 2, 0]] : List (List Nat)).getD t []).getD k 0
/-! the class's world as one state: kinds of cells, their ints, longs and references, the room that is left, the empty array of a list's start -/
abbrev CST : Type := (Nat → Option (Nat × Nat)) × (Nat → Nat → Int32) × (Nat → Nat → Int64) × (Nat → Nat → Option Nat) × Nat × Nat × Nat × Nat
def cV (σ : CST) (a t k : Nat) : Value := if cS t k = 1 then .long (σ.2.2.1 a k) else if cS t k = 2 then va_rf (σ.2.2.2.1 a k) else .int (σ.2.1 a k)
def cF (σ : CST) (a t : Nat) : List Value := (List.range (cN t)).map (cV σ a t)
theorem cdf_C {σ : CST} {a : Nat} (hI : σ.2.1 a = fun _ => 0) (hL : σ.2.2.1 a = fun _ => 0) (hR : σ.2.2.2.1 a = fun _ => none) : ∀ j, j < 5 → defaultValue (ty_C j) = vp_V (cF σ a 0) j := by
  have e : cF σ a 0 = [.null, .int 0, .null, .null, .int 0] := by simp [cF, cN, cV, cS, hI, hL, hR, va_rf, List.range, List.range.loop]
  rw [e]; decide +kernel
theorem cdf_H {σ : CST} {a : Nat} (hI : σ.2.1 a = fun _ => 0) (hL : σ.2.2.1 a = fun _ => 0) (hR : σ.2.2.2.1 a = fun _ => none) : ∀ j, j < 4 → defaultValue (ty_H j) = vp_V (cF σ a 1) j := by
  have e : cF σ a 1 = [.null, .null, .null, .int 0] := by simp [cF, cN, cV, cS, hI, hL, hR, va_rf, List.range, List.range.loop]
  rw [e]; decide +kernel
theorem cdf_K {σ : CST} {a : Nat} (hI : σ.2.1 a = fun _ => 0) (hL : σ.2.2.1 a = fun _ => 0) (hR : σ.2.2.2.1 a = fun _ => none) : ∀ j, j < 14 → defaultValue (ty_K j) = vp_V (cF σ a 2) j := by
  have e : cF σ a 2 = [.null, .null, .null, .null, .int 0, .null, .int 0, .int 0, .int 0, .int 0, .long 0, .int 0, .int 0, .int 0] := by simp [cF, cN, cV, cS, hI, hL, hR, va_rf, List.range, List.range.loop]
  rw [e]; decide +kernel
theorem cdf_W {σ : CST} {a : Nat} (hI : σ.2.1 a = fun _ => 0) (hL : σ.2.2.1 a = fun _ => 0) (hR : σ.2.2.2.1 a = fun _ => none) : ∀ j, j < 10 → defaultValue (ty_W j) = vp_V (cF σ a 3) j := by
  have e : cF σ a 3 = [.null, .null, .null, .int 0, .null, .null, .null, .int 0, .null, .int 0] := by simp [cF, cN, cV, cS, hI, hL, hR, va_rf, List.range, List.range.loop]
  rw [e]; decide +kernel
theorem cdf_F {σ : CST} {a : Nat} (hI : σ.2.1 a = fun _ => 0) (hL : σ.2.2.1 a = fun _ => 0) (hR : σ.2.2.2.1 a = fun _ => none) : ∀ j, j < 4 → defaultValue (ty_F j) = vp_V (cF σ a 4) j := by
  have e : cF σ a 4 = [.null, .null, .null, .int 0] := by simp [cF, cN, cV, cS, hI, hL, hR, va_rf, List.range, List.range.loop]
  rw [e]; decide +kernel
theorem cdf_E {σ : CST} {a : Nat} (hI : σ.2.1 a = fun _ => 0) (hL : σ.2.2.1 a = fun _ => 0) (hR : σ.2.2.2.1 a = fun _ => none) : ∀ j, j < 13 → defaultValue (ty_E j) = vp_V (cF σ a 5) j := by
  have e : cF σ a 5 = [.null, .int 0, .null, .int 0, .int 0, .null, .int 0, .int 0, .int 0, .null, .null, .int 0, .int 0] := by simp [cF, cN, cV, cS, hI, hL, hR, va_rf, List.range, List.range.loop]
  rw [e]; decide +kernel
theorem cdf_A {σ : CST} {a : Nat} (hI : σ.2.1 a = fun _ => 0) (hL : σ.2.2.1 a = fun _ => 0) (hR : σ.2.2.2.1 a = fun _ => none) : ∀ j, j < 3 → defaultValue (ty_A j) = vp_V (cF σ a 6) j := by
  have e : cF σ a 6 = [.int 0, .null, .int 0] := by simp [cF, cN, cV, cS, hI, hL, hR, va_rf, List.range, List.range.loop]
  rw [e]; decide +kernel
theorem cdf_Ha {σ : CST} {a : Nat} (hI : σ.2.1 a = fun _ => 0) (hL : σ.2.2.1 a = fun _ => 0) (hR : σ.2.2.2.1 a = fun _ => none) : ∀ j, j < 4 → defaultValue (ty_Ha j) = vp_V (cF σ a 7) j := by
  have e : cF σ a 7 = [.int 0, .int 0, .int 0, .int 0] := by simp [cF, cN, cV, cS, hI, hL, hR, va_rf, List.range, List.range.loop]
  rw [e]; decide +kernel
theorem cdf_St {σ : CST} {a : Nat} (hI : σ.2.1 a = fun _ => 0) (hL : σ.2.2.1 a = fun _ => 0) (hR : σ.2.2.2.1 a = fun _ => none) : ∀ j, j < 4 → defaultValue (ty_St j) = vp_V (cF σ a 8) j := by
  have e : cF σ a 8 = [.null, .null, .int 0, .int 0] := by simp [cF, cN, cV, cS, hI, hL, hR, va_rf, List.range, List.range.loop]
  rw [e]; decide +kernel
theorem cdf_Sp {σ : CST} {a : Nat} (hI : σ.2.1 a = fun _ => 0) (hL : σ.2.2.1 a = fun _ => 0) (hR : σ.2.2.2.1 a = fun _ => none) : ∀ j, j < 5 → defaultValue (ty_Sp j) = vp_V (cF σ a 9) j := by
  have e : cF σ a 9 = [.null, .null, .null, .int 0, .int 0] := by simp [cF, cN, cV, cS, hI, hL, hR, va_rf, List.range, List.range.loop]
  rw [e]; decide +kernel
theorem cdf_Ve {σ : CST} {a : Nat} (hI : σ.2.1 a = fun _ => 0) (hL : σ.2.2.1 a = fun _ => 0) (hR : σ.2.2.2.1 a = fun _ => none) : ∀ j, j < 10 → defaultValue (ty_Ve j) = vp_V (cF σ a 10) j := by
  have e : cF σ a 10 = [.null, .null, .null, .null, .null, .int 0, .null, .null, .null, .null] := by simp [cF, cN, cV, cS, hI, hL, hR, va_rf, List.range, List.range.loop]
  rw [e]; decide +kernel
theorem cdf_Fw {σ : CST} {a : Nat} (hI : σ.2.1 a = fun _ => 0) (hL : σ.2.2.1 a = fun _ => 0) (hR : σ.2.2.2.1 a = fun _ => none) : ∀ j, j < 9 → defaultValue (ty_Fw j) = vp_V (cF σ a 11) j := by
  have e : cF σ a 11 = [.null, .int 0, .int 0, .null, .int 0, .null, .int 0, .null, .int 0] := by simp [cF, cN, cV, cS, hI, hL, hR, va_rf, List.range, List.range.loop]
  rw [e]; decide +kernel
def cC (σ : CST) (a t : Nat) : (Nat → Int32) ⊕ (Nat → Int64) ⊕ (Nat → UInt32) ⊕ (Nat → UInt64) ⊕ (Nat → Option Nat) := if t < 22 then .inl (σ.2.1 a) else if t = 22 then .inr (.inl (σ.2.2.1 a)) else .inr (.inr (.inr (.inr (σ.2.2.2.1 a))))
def cE (ca : Nat → ClassId) (σ : CST) (a : Nat) (x : Nat × Nat) : va_E := if x.1 < 20 then .inr (x.1, cF σ a x.1) else .inl (ca x.1, x.2, cC σ a x.1)
def cT (ca : Nat → ClassId) : List (ClassId × FieldType) := [(ca 20, .int), (ca 21, .boolean), (ca 22, .long), (ca 24, .object "MapFramer$Method"), (ca 25, .object "MapFramer$State"), (ca 26, .object "MapFramer$Call"), (ca 27, .object "java/lang/Object")]
def sA (σ : CST) (a : Nat) (f : Nat → Int32) : CST := (σ.1, (fun b => if b = a then f else σ.2.1 b), σ.2.2)
def sJ (σ : CST) (a : Nat) (f : Nat → Int64) : CST := (σ.1, σ.2.1, (fun b => if b = a then f else σ.2.2.1 b), σ.2.2.2)
def sB (σ : CST) (a : Nat) (f : Nat → Option Nat) : CST := (σ.1, σ.2.1, σ.2.2.1, (fun b => if b = a then f else σ.2.2.2.1 b), σ.2.2.2.2)
def sI (σ : CST) (a k : Nat) (v : Int32) : CST := sA σ a (upd (σ.2.1 a) k v)
def sL (σ : CST) (a k : Nat) (v : Int64) : CST := sJ σ a (vp_updL (σ.2.2.1 a) k v)
def sR (σ : CST) (a k : Nat) (v : Option Nat) : CST := sB σ a (va_up (σ.2.2.2.1 a) k v)
/-- a new cell of kind t, n places, z slots -/
def nw (σ : CST) (a t n z : Nat) : CST := ((fun b => if b = a then some (t, n) else σ.1 b), (fun b => if b = a then (fun _ => 0) else σ.2.1 b), (fun b => if b = a then (fun _ => 0) else σ.2.2.1 b), (fun b => if b = a then (fun _ => none) else σ.2.2.2.1 b), σ.2.2.2.2.1 - 1, σ.2.2.2.2.2.1 - z, σ.2.2.2.2.2.2)
def rep (ca : Nat → ClassId) (σ : CST) (ws : va_W) : Prop := (∀ (k : Nat) (q : Nat × va_E), ws[k]? = some q → ∃ x, σ.1 q.1 = some x ∧ q.2 = cE ca σ q.1 x) ∧ ∀ (a : Nat) (x : Nat × Nat), σ.1 a = some x → ∃ k : Nat, ws[k]? = some (a, cE ca σ a x)
theorem cF_get {σ : CST} {a t k : Nat} (h : k < cN t) : (cF σ a t)[k]? = some (cV σ a t k) := by simp [cF, h]
theorem cF_len (σ : CST) (a t : Nat) : (cF σ a t).length = cN t := by simp [cF]
theorem cE_congr {ca : Nat → ClassId} {σ τ : CST} {b : Nat} {x : Nat × Nat} (h1 : τ.2.1 b = σ.2.1 b) (h2 : τ.2.2.1 b = σ.2.2.1 b) (h3 : τ.2.2.2.1 b = σ.2.2.2.1 b) : cE ca τ b x = cE ca σ b x := by
  have hv : cV τ b x.1 = cV σ b x.1 := by funext k; simp only [cV, h1, h2, h3]
  simp only [cE, cF, cC, h1, h2, h3, hv]
theorem cE_obj {ca : Nat → ClassId} {σ : CST} {a t n : Nat} (h : t < 20) : cE ca σ a (t, n) = .inr (t, cF σ a t) := if_pos h
theorem cE_arr {ca : Nat → ClassId} {σ : CST} {a t n : Nat} (h : ¬ t < 20) : cE ca σ a (t, n) = .inl (ca t, n, cC σ a t) := if_neg h
theorem cF_set {σ τ : CST} {a t k : Nat} {v : Value} (hk : k < cN t) (h1 : cV τ a t k = v) (h2 : ∀ j, j ≠ k → cV τ a t j = cV σ a t j) : (cF σ a t).set k v = cF τ a t := by
  apply List.ext_getElem?
  intro j
  rw [List.getElem?_set]
  by_cases hj : k = j
  · subst hj
    rw [if_pos rfl, if_pos (by rw [cF_len]; exact hk), cF_get hk, h1]
  · rw [if_neg hj]
    rcases Nat.lt_or_ge j (cN t) with h | h
    · rw [cF_get h, cF_get h, h2 j (fun q => hj q.symm)]
    · rw [List.getElem?_eq_none (by rw [cF_len]; exact h), List.getElem?_eq_none (by rw [cF_len]; exact h)]
theorem cF_setI {σ : CST} {a t k : Nat} {v : Int32} (hk : k < cN t) (h1 : cS t k ≠ 1) (h2 : cS t k ≠ 2) : (cF σ a t).set k (.int v) = cF (sI σ a k v) a t :=
  cF_set hk (by simp [cV, sI, sA, h1, h2, upd]) (fun j hj => by simp [cV, sI, sA, upd, hj])
theorem cF_setL {σ : CST} {a t k : Nat} {v : Int64} (hk : k < cN t) (h1 : cS t k = 1) : (cF σ a t).set k (.long v) = cF (sL σ a k v) a t :=
  cF_set hk (by simp [cV, sL, sJ, h1, vp_updL]) (fun j hj => by simp [cV, sL, sJ, vp_updL, hj])
theorem cF_setR {σ : CST} {a t k : Nat} {v : Option Nat} (hk : k < cN t) (h1 : cS t k = 2) : (cF σ a t).set k (va_rf v) = cF (sR σ a k v) a t :=
  cF_set hk (by simp [cV, sR, sB, h1, va_up]) (fun j hj => by simp [cV, sR, sB, va_up, hj])
theorem rep_set {ca : Nat → ClassId} {σ τ : CST} {A : Nat → Prop} {ws : va_W} {k a : Nat} {x : Nat × Nat} {e0 : va_E} (h : rep ca σ ws) (hD : va_D A ws) (hk : ws[k]? = some (a, e0)) (hx : σ.1 a = some x) (h1 : τ.1 = σ.1) (h2 : ∀ b y, b ≠ a → cE ca τ b y = cE ca σ b y) : rep ca τ (ws.set k (a, cE ca τ a x)) := by
  refine ⟨fun j q hj => ?_, fun b y hb => ?_⟩
  · rw [List.getElem?_set] at hj
    by_cases e : k = j
    · subst e
      rw [if_pos rfl, if_pos (List.getElem?_eq_some_iff.mp hk).1] at hj
      have hq := Option.some.inj hj
      subst hq
      exact ⟨x, by rw [h1]; exact hx, rfl⟩
    · rw [if_neg e] at hj
      obtain ⟨y, hy, hq⟩ := h.1 j q hj
      have hne : q.1 ≠ a := fun e2 => e (hD.1 k j _ _ hk hj e2.symm)
      exact ⟨y, by rw [h1]; exact hy, by rw [hq, h2 _ _ hne]⟩
  · rw [h1] at hb
    by_cases e : b = a
    · subst e
      have hq := Option.some.inj (hx.symm.trans hb)
      subst hq
      exact ⟨k, by rw [List.getElem?_set, if_pos rfl, if_pos (List.getElem?_eq_some_iff.mp hk).1]⟩
    · obtain ⟨j, hj⟩ := h.2 b y hb
      have hne : k ≠ j := fun e2 => by
        subst e2; rw [hk] at hj; exact e (congrArg Prod.fst (Option.some.inj hj)).symm
      exact ⟨j, by rw [List.getElem?_set, if_neg hne, hj, h2 _ _ e]⟩
theorem rep_push {ca : Nat → ClassId} {σ τ : CST} {ws : va_W} {q : Nat} (x : Nat × Nat) (h : rep ca σ ws) (hq : σ.1 q = none) (h1 : ∀ b, τ.1 b = if b = q then some x else σ.1 b) (h2 : ∀ b y, b ≠ q → cE ca τ b y = cE ca σ b y) : rep ca τ (ws ++ [(q, cE ca τ q x)]) := by
  refine ⟨fun j p hj => ?_, fun b y hb => ?_⟩
  · rcases Nat.lt_or_ge j ws.length with hl | hl
    · rw [List.getElem?_append_left hl] at hj
      obtain ⟨y, hy, hp⟩ := h.1 j p hj
      have hne : p.1 ≠ q := fun e => by rw [e, hq] at hy; cases hy
      exact ⟨y, by rw [h1, if_neg hne]; exact hy, by rw [hp, h2 _ _ hne]⟩
    · rw [List.getElem?_append_right hl] at hj
      have h0 : j - ws.length = 0 := by
        rcases Nat.eq_zero_or_pos (j - ws.length) with z | z
        · exact z
        · rw [List.getElem?_eq_none (by simp; omega)] at hj; cases hj
      rw [h0] at hj
      have hp := Option.some.inj hj
      subst hp
      exact ⟨x, by rw [h1, if_pos rfl], rfl⟩
  · rw [h1] at hb
    by_cases e : b = q
    · subst e
      rw [if_pos rfl] at hb
      have hy := Option.some.inj hb
      subst hy
      exact ⟨ws.length, by simp⟩
    · rw [if_neg e] at hb
      obtain ⟨j, hj⟩ := h.2 b y hb
      exact ⟨j, by rw [List.getElem?_append_left (List.getElem?_eq_some_iff.mp hj).1, hj, h2 _ _ e]⟩
theorem rep_fresh {ca : Nat → ClassId} {σ : CST} {A : Nat → Prop} {ws : va_W} {q : Nat} {e : va_E} (h : rep ca σ ws) (hD : va_D A (ws ++ [(q, e)])) : σ.1 q = none := by
  cases hx : σ.1 q with
  | none => rfl
  | some x =>
    obtain ⟨k, hk⟩ := h.2 q x hx
    have hl := (List.getElem?_eq_some_iff.mp hk).1
    have := hD.1 k ws.length (q, cE ca σ q x) (q, e) (by rw [List.getElem?_append_left hl]; exact hk) (by simp) rfl
    omega
/-! how much a heap has grown -/
def hSum (n : Nat) (H : Heap) : Nat := ((H.toList.drop n).map (fun c : Cell => c.slots.size)).sum
def HgB (H0 H : Heap) (c v : Nat) : Prop := H0.size ≤ H.size ∧ H.size ≤ H0.size + c ∧ hSum H0.size H ≤ v ∧ ∀ (a : Nat) (x : Cell), H0[a]? = some x → ∃ y : Cell, H[a]? = some y ∧ y.slots.size = x.slots.size
theorem HgB.rf (H : Heap) : HgB H H 0 0 := ⟨Nat.le_refl _, Nat.le_refl _, by unfold hSum; rw [List.drop_eq_nil_of_le (by simp)]; simp, fun a x h => ⟨x, h, rfl⟩⟩
theorem hSum_split {n m : Nat} {H : Heap} (h : n ≤ m) : hSum n H = (((H.toList.drop n).take (m - n)).map (fun c : Cell => c.slots.size)).sum + hSum m H := by
  unfold hSum
  conv => lhs; rw [← List.take_append_drop (m - n) (H.toList.drop n)]
  rw [List.map_append, List.sum_append, List.drop_drop, Nat.add_sub_cancel' h]
theorem HgB.trans {H0 H H1 : Heap} {c v c1 v1 : Nat} (h : HgB H0 H c v) (h1 : HgB H H1 c1 v1) : HgB H0 H1 (c + c1) (v + v1) := by
  refine ⟨Nat.le_trans h.1 h1.1, by have := h.2.1; have := h1.2.1; omega, ?_, fun a x ha => ?_⟩
  · rw [hSum_split h.1]
    have e : ((H1.toList.drop H0.size).take (H.size - H0.size)).map (fun c : Cell => c.slots.size) = (H.toList.drop H0.size).map (fun c : Cell => c.slots.size) := by
      apply List.ext_getElem?
      intro j
      rw [List.getElem?_map, List.getElem?_map, List.getElem?_take, List.getElem?_drop, List.getElem?_drop]
      by_cases hj : j < H.size - H0.size
      · rw [if_pos hj]
        have hl : H0.size + j < H.size := by omega
        obtain ⟨y, hy, hs⟩ := h1.2.2.2 (H0.size + j) H[H0.size + j] (by simp [hl])
        rw [Array.getElem?_toList, Array.getElem?_toList, hy, Array.getElem?_eq_getElem hl]
        simp [hs]
      · rw [if_neg hj, List.getElem?_eq_none (by simp; omega)]
    rw [e]
    have h2 := h.2.2.1
    have h3 := h1.2.2.1
    unfold hSum at h2
    omega
  · obtain ⟨y, hy, hs⟩ := h.2.2.2 a x ha
    obtain ⟨z, hz, ht⟩ := h1.2.2.2 a y hy
    exact ⟨z, hz, ht.trans hs⟩
section WHB
variable {p : Program} {l : Launch} {e : Env} {R : Room} {s : State} {m : MethodId} {args : Array Value} {below : List Frame} {meth : Method} {cx : Code} {H : Heap} {locs : List Loc} {cells slots : Nat} {Q : State → Prop} {g : JFrame}
theorem W_hb (k : HgB s.heap H cells slots → W p l e R s m args below meth cx H locs cells slots Q g) : W p l e R s m args below meth cx H locs cells slots Q g := fun T hT X => by
  refine k ?_ T hT X
  obtain ⟨-, h1, h2, -, h3, h4⟩ := X.same
  subst hT
  exact ⟨h1, h2, h3, fun a x ha => by
    obtain ⟨y, hy, -, hs, -⟩ := h4 a x ha
    exact ⟨y, hy, hs⟩⟩
theorem W_tight {c v : Nat} (hB : HgB s.heap H c v) (k : W p l e R s m args below meth cx H locs c v Q g) : W p l e R s m args below meth cx H locs cells slots Q g := fun T hT X => by
  refine k T hT { X with same := ?_ }
  obtain ⟨h0, h1, h2, h5, h3, h4⟩ := X.same
  subst hT
  exact ⟨h0, h1, hB.2.1, h5, hB.2.2.1, h4⟩
end WHB
/-! references that may be null -/
theorem cq_cat (x : Option Nat) : (va_rf x).category = 1 := by cases x <;> rfl
theorem cq_or (x : Option Nat) : x = none ∨ ∃ a, x = some a := by cases x with
  | none => exact Or.inl rfl
  | some a => exact Or.inr ⟨a, rfl⟩
def exT2 : List (Nat × String) := [(37, "no such class to be under"), (47, "no more classes"), (60, "no such class or type"), (62, "objects of this class have no fields"), (67, "no more fields"), (81, "no such argument type"), (83, "no such result type"), (88, "no more methods"), (97, "no such method, or not so many bytes"), (105, "no such stack or locals"), (111, "it has code"), (132, "no such method with code, or class"), (137, "no such place"), (152, "it was verified, or has all its handlers"), (163, "no such method with code"), (165, "it was verified"), (192, "a fault"), (206, "no such method, or nothing so numbered about it"), (215, "no such byte of code"), (217, "no such byte of frames"), (219, "no such handler, or nothing so numbered of it"), (241, "no state there"), (250, "no such local, nor so many on the stack"), (261, "no such method to run, or no such fuel"), (269, "a method that it calls can\'t be run"), (278, "it did not return")]
def lenT (j : Nat) : Int32 := ([1, 1, 1, 1, 1, 1, 1, 1, 1, 1, 1, 0, 0, 0, 0, 0, 2, 3, 0, 0, 0, 2, 2, 0, 0, 2, 0, 0, 0, 0, 0, 0, 0, 0, 0, 0, 0, 0, 0, 0, 0, 0, 0, 0, 0, 0, 1, 1, 0, 0, 1, 0, 0, 0, 2, 2, 0, 0, 2, 0, 0, 0, 0, 0, 0, 0, 0, 0, 0, 0, 0, 0, 0, 0, 0, 0, 0, 0, 0, 1, 1, 0, 0, 1, 0, 0, 0, 1, 1, 1, 1, 0, 1, 0, 0, 1, 1, 1, 0, 0, 1, 1, 0, 0, 1, 1, 0, 0, 1, 1, 0, 0, 0, 0, 0, 0, 0, 0, 0, 0, 0, 0, 0, 0, 0, 0, 0, 0, 0, 0, 0, 0, 3, 1, 0, 0, 1, 0, 0, 0, 0, 0, 0, 0, 0, 0, 0, 0, 1, 0, 0, 0, 0, 3, 3, 3, 3, 3, 3, 3, 3, 3, 3, 3, 3, 3, 3, 3, 0, 0, 0, 0, 1, 1, 0, 0, 1, 1, 2, 2, 2, 2, 0, 2, 2, 0, 0, 2, 2, 2, 1, 1, 2, 2, 0, 0, 0, 0, 3, 3] : List Int32).getD j 0
abbrev xISE : String := "java/lang/IllegalStateException"
abbrev xUOE : String := "java/lang/UnsupportedOperationException"
/-- what the class's methods need of the launch beside good words -/
def cX (A : Nat → Prop) (z : Nat × Nat) (U : State) : Prop :=
  exP A U ∧ va_Z "java/util/ArrayList" "DEFAULTCAPACITY_EMPTY_ELEMENTDATA" "[Ljava/lang/Object;" (.ref z.1) A U U.heap ∧ (∃ f, va_T (.object "java/lang/Object") z.1 0 f A U U.heap) ∧
  (∃ t, va_Z "MapFramer$Op" "LENGTHS" "[B" (.ref t) A U U.heap ∧ va_T .byte t 200 (fun j => .int (lenT j)) A U U.heap) ∧
  va_AO "java/lang/Object" U ∧ va_Dc U ∧ va_Mi "[Ljava/lang/Object;" z.2 U ∧ va_Nw (.castable "MapFramer$Handler" "java/lang/Object") U ∧ va_Nw (.castable "[I" "java/lang/Cloneable") U ∧ xwP xISE U ∧ xwP xUOE U ∧ ∀ q ∈ exT2, ∃ a, vk_R "MapFramer" q.1 q.2 a U
theorem cX_calling {A : Nat → Prop} {z : Nat × Nat} {U : State} {g : JFrame} {mk : MethodId} {a : Array Value} (h : cX A z U) : cX A z (U.calling g mk a) := by
  obtain ⟨h1, h2, ⟨f, h3⟩, ⟨t, h4, h5⟩, h6, h7, h8, h9, h13, h10, h11, h12⟩ := h
  have r : U.vm.Alike (U.calling g mk a).vm := Vm.Alike.refl U.vm
  exact ⟨exP_calling h1, va_Z.moved (u := U) r h2, ⟨f, va_T.moved (u := U) r h3⟩, ⟨t, va_Z.moved (u := U) r h4, va_T.moved (u := U) r h5⟩, va_AO.moved (u := U) r h6, va_Dc.moved (u := U) r h7, va_Mi.moved (u := U) r h8, va_Nw.same rfl rfl h9, va_Nw.same rfl rfl h13, xwP_same rfl h10, xwP_same rfl h11, fun q hq => (h12 q hq).elim fun b hb => ⟨b, vk_R.same rfl hb⟩⟩
theorem cX_go {A B : Nat → Prop} {z : Nat × Nat} {s : State} {H : Heap} {locs : List Loc} (h : cX A z s) (hS : va_S A s.heap H locs) (hBA : ∀ q, B q → A q) (U : State) (hU : U.heap = H) (hW : s.WarmedH U.vm) : cX B z U := by
  obtain ⟨h1, h2, ⟨f, h3⟩, ⟨t, h4, h5⟩, h6, h7, h8, h9, h13, h10, h11, h12⟩ := h
  have hZ : ∀ {C n d : String} {v : Value}, va_Z C n d v A s s.heap → va_Z C n d v B U U.heap := fun z => by
    rw [hU]; exact ((va_Z.moved hW.alike z).kept hS.2.1).narrow hBA
  have hT : ∀ {ty : FieldType} {t N : Nat} {f : Nat → Value}, va_T ty t N f A s s.heap → va_T ty t N f B U U.heap := fun z => by
    rw [hU]; exact ((va_T.moved hW.alike z).kept hS.2.1).narrow hBA
  exact ⟨exP_go h1 hS hBA U hU hW, hZ h2, ⟨f, hT h3⟩, ⟨t, hZ h4, hT h5⟩, va_AO.moved hW.alike h6, va_Dc.moved hW.alike h7, va_Mi.moved hW.alike h8, va_Nw.warmC hW h9, va_Nw.warmC hW h13, xwP_warm hW h10, xwP_warm hW h11, fun q hq => (h12 q hq).elim fun b hb => ⟨b, vk_R.warm hW hb⟩⟩
/-! the class's world lies in the heap -/
def CRep (D : va_G) (ca : Nat → ClassId) (A : Nat → Prop) (σ : CST) (H : Heap) : Prop := ∃ ws : va_W, va_P D cwCl ws H ∧ va_D A ws ∧ rep ca σ ws
def CH (D : va_G) (A : Nat → Prop) (ca : Nat → ClassId) (R : Room) (z : Nat × Nat) (σ : CST) (s : State) (H : Heap) (locs : List Loc) (cells slots : Nat) : Prop :=
  va_K D cwCl (cT ca) s ∧ CRep D ca A σ H ∧ va_S A s.heap H locs ∧ (cells + σ.2.2.2.2.1 = R.cells ∧ slots + σ.2.2.2.2.2.1 = R.slots) ∧ (σ.2.2.2.2.2.2 = z ∧ cX A z s) ∧ ∀ q, s.heap.size ≤ q → A q
abbrev CFix (own : String) (p : Program) (m : MethodId) (cx : Code) (cc : ByteArray) (nL : Nat) (s : State) (args : Array Value) (Ts : List Cond) : Prop := CallFix p m cx cc nL s args Ts own ∧ ∀ w ∈ bigW, w ∈ Ts
theorem CRep.weaken {D : va_G} {ca : Nat → ClassId} {A B : Nat → Prop} {σ : CST} {H : Heap} (h : CRep D ca A σ H) (hAB : ∀ q, A q → B q) : CRep D ca B σ H := by
  obtain ⟨ws, hP, hD, hr⟩ := h
  exact ⟨ws, hP, hD.weaken (fun _ _ _ q => hAB _ q), hr⟩
section CRows
variable {p : Program} {l : Launch} {e : Env} {R : Room} {s : State} {m : MethodId} {args : Array Value} {below : List Frame} {meth : Method} {cx : Code} {H : Heap} {locs : List Loc} {cells slots : Nat} {Q : State → Prop} {pc : Nat} {ls : Array Slot} {rest : List Value}
variable {own : String} {cc : ByteArray} {nL : Nat} {Ts : List Cond} {D : va_G} {A : Nat → Prop} {ca : Nat → ClassId} {z : Nat × Nat} {σ : CST}
theorem cq_aload_n {k : Fin 4} {i : Nat} {x : Option Nat} (hx : p.tables.exec = Jvm.exec) (hb : cx.code = cc) (hdg : decode cc pc = .ok (.aload_n k, 1)) (hi : (k : Nat) = i) (hl : ls[i]? = some (.val (va_rf x))) (kk : W p l e R s m args below meth cx H locs cells slots Q (F0 m (pc + 1) ls (va_rf x :: rest))) : W p l e R s m args below meth cx H locs cells slots Q (F0 m pc ls rest) := by
  cases x with
  | none => exact lv_aload_nN hx hb hdg hi hl kk
  | some a => exact lv_aload_n hx hb hdg hi hl kk
theorem cq_aload {i : Nat} {x : Option Nat} (hx : p.tables.exec = Jvm.exec) (hb : cx.code = cc) (hdg : decode cc pc = .ok (.aload i, 2)) (hl : ls[i]? = some (.val (va_rf x))) (kk : W p l e R s m args below meth cx H locs cells slots Q (F0 m (pc + 2) ls (va_rf x :: rest))) : W p l e R s m args below meth cx H locs cells slots Q (F0 m pc ls rest) := by
  cases x with
  | none => exact lv_aloadN hx hb hdg hl kk
  | some a => exact lv_aload hx hb hdg hl kk
theorem cq_astore_n {k : Fin 4} {i : Nat} {x : Option Nat} {lv lv' : List (Nat × Value)} {nL : Nat} (hx : p.tables.exec = Jvm.exec) (hb : cx.code = cc) (hdg : decode cc pc = .ok (.astore_n k, 1)) (hi : (k : Nat) = i) (hl : lv_has ls nL lv) (hlt : i < nL) (he : (i, va_rf x) :: lv.filter (fun q => !(q.1 == i) && !(q.1 + 1 == i && q.2.category == 2)) = lv') (kk : ∀ ls' : Array Slot, lv_has ls' nL lv' → W p l e R s m args below meth cx H locs cells slots Q (F0 m (pc + 1) ls' rest)) : W p l e R s m args below meth cx H locs cells slots Q (F0 m pc ls (va_rf x :: rest)) := by
  cases x with
  | none => exact lv_astore_nN hx hb hdg hi hl hlt he kk
  | some a => exact lv_astore_n hx hb hdg hi hl hlt he kk
theorem cq_astore {i : Nat} {x : Option Nat} {lv lv' : List (Nat × Value)} {nL : Nat} (hx : p.tables.exec = Jvm.exec) (hb : cx.code = cc) (hdg : decode cc pc = .ok (.astore i, 2)) (hl : lv_has ls nL lv) (hlt : i < nL) (he : (i, va_rf x) :: lv.filter (fun q => !(q.1 == i) && !(q.1 + 1 == i && q.2.category == 2)) = lv') (kk : ∀ ls' : Array Slot, lv_has ls' nL lv' → W p l e R s m args below meth cx H locs cells slots Q (F0 m (pc + 2) ls' rest)) : W p l e R s m args below meth cx H locs cells slots Q (F0 m pc ls (va_rf x :: rest)) := by
  cases x with
  | none => exact lv_astoreN hx hb hdg hl hlt he kk
  | some a => exact lv_astore hx hb hdg hl hlt he kk
theorem lv_topq {x : Option Nat} (k : ∀ y : Option Nat, y = x → W p l e R s m args below meth cx H locs cells slots Q (F0 m pc ls (va_rf y :: rest))) : W p l e R s m args below meth cx H locs cells slots Q (F0 m pc ls (va_rf x :: rest)) := k x rfl
theorem C_get (C : CFix own p m cx cc nL s args Ts) (h : CH D A ca R z σ s H locs cells slots) (ci k : Nat) {a index : Nat} {Cn ref : String} {T : u_T} {N : Nat} {v : Value} (ha : σ.1 a = some (ci, 0)) (hv : cV σ a ci k = v) (hc : cwCl[ci]? = some (Cn, T, N)) (hci : ci < 20) (hN : cN ci = N) (uw : ∀ w ∈ u_ws Cn T N, w ∈ bigW) (hk : k < N) (hl : Cond.fieldLink own index ref (T k).2.1 (T k).2.2.1 ∈ bigW) (hsame : ∀ x, s.fieldFound? (T k).1 (T k).2.1 (T k).2.2.1 = some x → s.fieldFound? ref (T k).2.1 (T k).2.2.1 = some x) (hd : decode cc pc = .ok (.getfield index, 3))
    (kk : W p l e R s m args below meth cx H locs cells slots Q (F0 m (pc + 3) ls (v :: rest))) : W p l e R s m args below meth cx H locs cells slots Q (F0 m pc ls (.ref a :: rest)) := by
  obtain ⟨⟨hx, hb, hml, hown, hts⟩, hsub⟩ := C
  obtain ⟨hK, ⟨ws, hP, hD, hr⟩, hS, hrm, hX, hA⟩ := h
  obtain ⟨j, hj⟩ := hr.2 a (ci, 0) ha
  rw [cE_obj hci] at hj
  exact va_get (D := D) (ci := ci) (v := v) (C := Cn) (T := T) (N := N) hx hb hts (fun w q => hsub w (uw w q)) hown hK hP j hj hc k hk (hts _ (hsub _ hl)) hsame (by rw [cF_get (by rw [hN]; exact hk), hv]) hd kk
theorem C_put (C : CFix own p m cx cc nL s args Ts) (h : CH D A ca R z σ s H locs cells slots) (ci k : Nat) {a index : Nat} {Cn ref : String} {T : u_T} {N : Nat} {v : Value} {ty0 : Nat → FieldType} {ty : FieldType} (τ : CST) (ha : σ.1 a = some (ci, 0)) (hc : cwCl[ci]? = some (Cn, T, N)) (hci : ci < 20) (hN : cN ci = N) (uw : ∀ w ∈ u_ws Cn T N, w ∈ bigW) (hty : ∀ k, k < N → parseFieldDescriptor (T k).2.2.1 = some (ty0 k)) (hnm : ∀ a, a < N → ∀ b, b < N → a ≠ b → (T a).2.1 ≠ (T b).2.1) (hk : k < N) (hl : Cond.fieldLink own index ref (T k).2.1 (T k).2.2.1 ∈ bigW) (hsame : ∀ x, s.fieldFound? (T k).1 (T k).2.1 (T k).2.2.1 = some x → s.fieldFound? ref (T k).2.1 (T k).2.2.1 = some x)
    (hf : (T k).2.2.2 = false ∨ (T k).2.2.2 = true ∧ meth.name = "<init>" ∧ (T k).1 = own) (hpd : parseFieldDescriptor (T k).2.2.1 = some ty) (hn : narrow ty v = v) (hfit : fits ty v = true) (hs : (cF σ a ci).set k v = cF τ a ci) (h1 : τ.1 = σ.1) (h2 : ∀ b y, b ≠ a → cE ca τ b y = cE ca σ b y) (h3 : τ.2.2.2.2 = σ.2.2.2.2) (hd : decode cc pc = .ok (.putfield index, 3))
    (kk : ∀ (H1 : Heap) (locs1 : List Loc), CH D A ca R z τ s H1 locs1 cells slots → W p l e R s m args below meth cx H1 locs1 cells slots Q (F0 m (pc + 3) ls rest)) : W p l e R s m args below meth cx H locs cells slots Q (F0 m pc ls (v :: .ref a :: rest)) := by
  obtain ⟨⟨hx, hb, hml, hown, hts⟩, hsub⟩ := C
  obtain ⟨hK, ⟨ws, hP, hD, hr⟩, hS, hrm, hX, hA⟩ := h
  obtain ⟨j, hj⟩ := hr.2 a (ci, 0) ha
  have hr2 := rep_set hr hD hj ha h1 h2
  rw [cE_obj hci] at hj hr2
  have fin : ∀ (H1 : Heap) (locs1 : List Loc), va_P D cwCl (ws.set j (a, .inr (ci, (cF σ a ci).set k v))) H1 → va_D A (ws.set j (a, .inr (ci, (cF σ a ci).set k v))) → va_S A s.heap H1 locs1 → W p l e R s m args below meth cx H1 locs1 cells slots Q (F0 m (pc + 3) ls rest) := fun H1 locs1 hP1 hD1 hS1 => by
    rw [hs] at hP1 hD1
    exact kk H1 locs1 ⟨hK, ⟨_, hP1, hD1, hr2⟩, hS1, by rw [h3]; exact hrm, ⟨by rw [h3]; exact hX.1, hX.2⟩, hA⟩
  rcases hf with hf | ⟨hf, hin, hdc⟩
  · exact va_put (D := D) (ci := ci) (v := v) (ty := ty) (C := Cn) (T := T) (N := N) hx hb hts (fun w q => hsub w (uw w q)) ty0 hty hnm hown hK hP hD hS j hj hc k hk (hts _ (hsub _ hl)) hsame hf hpd hn hfit (by rw [cF_len, hN]; exact hk) hd fin
  · exact va_putF (D := D) (ci := ci) (v := v) (ty := ty) (C := Cn) (T := T) (N := N) hx hb hts (fun w q => hsub w (uw w q)) ty0 hty hnm hown hK hP hD hS j hj hc k hk (hts _ (hsub _ hl)) hsame hf hin hdc hpd hn hfit (by rw [cF_len, hN]; exact hk) hd fin
theorem sA_ne {σ : CST} {a : Nat} {f : Nat → Int32} (b : Nat) (y : Nat × Nat) (h : b ≠ a) : cE ca (sA σ a f) b y = cE ca σ b y := cE_congr (if_neg h) rfl rfl
theorem sJ_ne {σ : CST} {a : Nat} {f : Nat → Int64} (b : Nat) (y : Nat × Nat) (h : b ≠ a) : cE ca (sJ σ a f) b y = cE ca σ b y := cE_congr rfl (if_neg h) rfl
theorem sB_ne {σ : CST} {a : Nat} {f : Nat → Option Nat} (b : Nat) (y : Nat × Nat) (h : b ≠ a) : cE ca (sB σ a f) b y = cE ca σ b y := cE_congr rfl rfl (if_neg h)
theorem C_puti (C : CFix own p m cx cc nL s args Ts) (h : CH D A ca R z σ s H locs cells slots) (ci k : Nat) {a index : Nat} {Cn ref : String} {T : u_T} {N : Nat} {v : Int32} {ty0 : Nat → FieldType} (ha : σ.1 a = some (ci, 0)) (hc : cwCl[ci]? = some (Cn, T, N)) (hci : ci < 20) (hN : cN ci = N) (uw : ∀ w ∈ u_ws Cn T N, w ∈ bigW) (hty : ∀ k, k < N → parseFieldDescriptor (T k).2.2.1 = some (ty0 k)) (hnm : ∀ a, a < N → ∀ b, b < N → a ≠ b → (T a).2.1 ≠ (T b).2.1) (hk : k < N) (hso : cS ci k = 0) (hl : Cond.fieldLink own index ref (T k).2.1 (T k).2.2.1 ∈ bigW) (hsame : ∀ x, s.fieldFound? (T k).1 (T k).2.1 (T k).2.2.1 = some x → s.fieldFound? ref (T k).2.1 (T k).2.2.1 = some x)
    (hf : (T k).2.2.2 = false ∨ (T k).2.2.2 = true ∧ meth.name = "<init>" ∧ (T k).1 = own) (hpd : parseFieldDescriptor (T k).2.2.1 = some .int) (hd : decode cc pc = .ok (.putfield index, 3))
    (kk : ∀ (H1 : Heap) (locs1 : List Loc), CH D A ca R z (sI σ a k v) s H1 locs1 cells slots → W p l e R s m args below meth cx H1 locs1 cells slots Q (F0 m (pc + 3) ls rest)) : W p l e R s m args below meth cx H locs cells slots Q (F0 m pc ls (.int v :: .ref a :: rest)) :=
  C_put C h ci k (sI σ a k v) ha hc hci hN uw hty hnm hk hl hsame hf hpd rfl rfl (cF_setI (by rw [hN]; exact hk) (by rw [hso]; decide) (by rw [hso]; decide)) rfl (fun b y hb => sA_ne b y hb) rfl hd kk
theorem C_putz (C : CFix own p m cx cc nL s args Ts) (h : CH D A ca R z σ s H locs cells slots) (ci k : Nat) {a index : Nat} {Cn ref : String} {T : u_T} {N : Nat} {v : Int32} {ty0 : Nat → FieldType} (ha : σ.1 a = some (ci, 0)) (hc : cwCl[ci]? = some (Cn, T, N)) (hci : ci < 20) (hN : cN ci = N) (uw : ∀ w ∈ u_ws Cn T N, w ∈ bigW) (hty : ∀ k, k < N → parseFieldDescriptor (T k).2.2.1 = some (ty0 k)) (hnm : ∀ a, a < N → ∀ b, b < N → a ≠ b → (T a).2.1 ≠ (T b).2.1) (hk : k < N) (hso : cS ci k = 3) (hl : Cond.fieldLink own index ref (T k).2.1 (T k).2.2.1 ∈ bigW) (hsame : ∀ x, s.fieldFound? (T k).1 (T k).2.1 (T k).2.2.1 = some x → s.fieldFound? ref (T k).2.1 (T k).2.2.1 = some x)
    (hf : (T k).2.2.2 = false ∨ (T k).2.2.2 = true ∧ meth.name = "<init>" ∧ (T k).1 = own) (hpd : parseFieldDescriptor (T k).2.2.1 = some .boolean) (hv : v = 0 ∨ v = 1) (hd : decode cc pc = .ok (.putfield index, 3))
    (kk : ∀ (H1 : Heap) (locs1 : List Loc), CH D A ca R z (sI σ a k v) s H1 locs1 cells slots → W p l e R s m args below meth cx H1 locs1 cells slots Q (F0 m (pc + 3) ls rest)) : W p l e R s m args below meth cx H locs cells slots Q (F0 m pc ls (.int v :: .ref a :: rest)) :=
  C_put C h ci k (sI σ a k v) ha hc hci hN uw hty hnm hk hl hsame hf hpd (by rcases hv with q | q <;> subst q <;> rfl) (by rcases hv with q | q <;> subst q <;> rfl) (cF_setI (by rw [hN]; exact hk) (by rw [hso]; decide) (by rw [hso]; decide)) rfl (fun b y hb => sA_ne b y hb) rfl hd kk
theorem C_putl (C : CFix own p m cx cc nL s args Ts) (h : CH D A ca R z σ s H locs cells slots) (ci k : Nat) {a index : Nat} {Cn ref : String} {T : u_T} {N : Nat} {v : Int64} {ty0 : Nat → FieldType} (ha : σ.1 a = some (ci, 0)) (hc : cwCl[ci]? = some (Cn, T, N)) (hci : ci < 20) (hN : cN ci = N) (uw : ∀ w ∈ u_ws Cn T N, w ∈ bigW) (hty : ∀ k, k < N → parseFieldDescriptor (T k).2.2.1 = some (ty0 k)) (hnm : ∀ a, a < N → ∀ b, b < N → a ≠ b → (T a).2.1 ≠ (T b).2.1) (hk : k < N) (hso : cS ci k = 1) (hl : Cond.fieldLink own index ref (T k).2.1 (T k).2.2.1 ∈ bigW) (hsame : ∀ x, s.fieldFound? (T k).1 (T k).2.1 (T k).2.2.1 = some x → s.fieldFound? ref (T k).2.1 (T k).2.2.1 = some x)
    (hf : (T k).2.2.2 = false ∨ (T k).2.2.2 = true ∧ meth.name = "<init>" ∧ (T k).1 = own) (hpd : parseFieldDescriptor (T k).2.2.1 = some .long) (hd : decode cc pc = .ok (.putfield index, 3))
    (kk : ∀ (H1 : Heap) (locs1 : List Loc), CH D A ca R z (sL σ a k v) s H1 locs1 cells slots → W p l e R s m args below meth cx H1 locs1 cells slots Q (F0 m (pc + 3) ls rest)) : W p l e R s m args below meth cx H locs cells slots Q (F0 m pc ls (.long v :: .ref a :: rest)) :=
  C_put C h ci k (sL σ a k v) ha hc hci hN uw hty hnm hk hl hsame hf hpd rfl rfl (cF_setL (by rw [hN]; exact hk) hso) rfl (fun b y hb => sJ_ne b y hb) rfl hd kk
theorem C_putr (C : CFix own p m cx cc nL s args Ts) (h : CH D A ca R z σ s H locs cells slots) (ci k : Nat) {a index : Nat} {Cn ref : String} {T : u_T} {N : Nat} {v : Option Nat} {ty0 : Nat → FieldType} {ty : FieldType} (ha : σ.1 a = some (ci, 0)) (hc : cwCl[ci]? = some (Cn, T, N)) (hci : ci < 20) (hN : cN ci = N) (uw : ∀ w ∈ u_ws Cn T N, w ∈ bigW) (hty : ∀ k, k < N → parseFieldDescriptor (T k).2.2.1 = some (ty0 k)) (hnm : ∀ a, a < N → ∀ b, b < N → a ≠ b → (T a).2.1 ≠ (T b).2.1) (hk : k < N) (hso : cS ci k = 2) (hl : Cond.fieldLink own index ref (T k).2.1 (T k).2.2.1 ∈ bigW) (hsame : ∀ x, s.fieldFound? (T k).1 (T k).2.1 (T k).2.2.1 = some x → s.fieldFound? ref (T k).2.1 (T k).2.2.1 = some x)
    (hf : (T k).2.2.2 = false ∨ (T k).2.2.2 = true ∧ meth.name = "<init>" ∧ (T k).1 = own) (hpd : parseFieldDescriptor (T k).2.2.1 = some ty) (hk2 : ∀ x : Option Nat, narrow ty (va_rf x) = va_rf x ∧ fits ty (va_rf x) = true) (hd : decode cc pc = .ok (.putfield index, 3))
    (kk : ∀ (H1 : Heap) (locs1 : List Loc), CH D A ca R z (sR σ a k v) s H1 locs1 cells slots → W p l e R s m args below meth cx H1 locs1 cells slots Q (F0 m (pc + 3) ls rest)) : W p l e R s m args below meth cx H locs cells slots Q (F0 m pc ls (va_rf v :: .ref a :: rest)) :=
  C_put C h ci k (sR σ a k v) ha hc hci hN uw hty hnm hk hl hsame hf hpd (hk2 v).1 (hk2 v).2 (cF_setR (by rw [hN]; exact hk) hso) rfl (fun b y hb => sB_ne b y hb) rfl hd kk
theorem ck_o {n : String} (x : Option Nat) : narrow (.object n) (va_rf x) = va_rf x ∧ fits (.object n) (va_rf x) = true := by cases x <;> exact ⟨rfl, rfl⟩
theorem ck_a {t : FieldType} (x : Option Nat) : narrow (.array t) (va_rf x) = va_rf x ∧ fits (.array t) (va_rf x) = true := by cases x <;> exact ⟨rfl, rfl⟩
end CRows

