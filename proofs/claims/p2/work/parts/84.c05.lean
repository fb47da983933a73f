abbrev g_K_branch : MethodName := ⟨"MapFramer$Machine", "branch", "(I)V"⟩
theorem u_312 : (Cond.methodLink "MapFramer$Machine" 279 ⟨"MapFramer$Method", "branchPlace", "(I)I"⟩ : Cond) ∈ bigW := inB_7 223 (by decide +kernel) rfl
theorem u_313 : (Cond.instanceMethod ⟨"MapFramer$Method", "branchPlace", "(I)I"⟩ : Cond) ∈ bigW := inB_4 30 (by decide +kernel) rfl
theorem u_314 : (Cond.selects "MapFramer$Method" ⟨"MapFramer$Method", "branchPlace", "(I)I"⟩ ⟨"MapFramer$Method", "branchPlace", "(I)I"⟩ : Cond) ∈ bigW := inB_4 31 (by decide +kernel) rfl
theorem u_315 : (Cond.code ⟨"MapFramer$Method", "branchPlace", "(I)I"⟩ prog_7_method_10_code 2 (some .int) : Cond) ∈ bigW := inB_4 32 rfl rfl
theorem u_316 : (Cond.fieldLink "MapFramer$Machine" 137 "MapFramer$Machine" "next" "I" : Cond) ∈ bigW := inB_1 150 (by decide +kernel) rfl
theorem u_317 : (Cond.methodLink "MapFramer$Machine" 276 ⟨"MapFramer$Machine", "isTaken", "(I)Z"⟩ : Cond) ∈ bigW := inB_7 216 (by decide +kernel) rfl
theorem u_318 : (Cond.instanceMethod ⟨"MapFramer$Machine", "isTaken", "(I)Z"⟩ : Cond) ∈ bigW := inB_7 218 (by decide +kernel) rfl
theorem u_319 : (Cond.selects "MapFramer$Machine" ⟨"MapFramer$Machine", "isTaken", "(I)Z"⟩ ⟨"MapFramer$Machine", "isTaken", "(I)Z"⟩ : Cond) ∈ bigW := inS (y := ⟨"MapFramer$Machine", "isTaken", "(I)Z"⟩) (n := 14) (List.mem_of_getElem? (i := 66) (by decide +kernel))
theorem u_320 : (Cond.code ⟨"MapFramer$Machine", "isTaken", "(I)Z"⟩ prog_6_method_21_code 4 (some .boolean) : Cond) ∈ bigW := inB_7 219 rfl rfl
theorem h_K_branch_0 : decode prog_6_method_20_code 0 = .ok (.iload_n 1, 1) := by decide +kernel
theorem h_K_branch_1 : decode prog_6_method_20_code 1 = .ok (.sipush 167, 3) := by decide +kernel
theorem h_K_branch_4 : decode prog_6_method_20_code 4 = .ok (.if_icmp .eq 11, 3) := by decide +kernel
theorem h_K_branch_7 : decode prog_6_method_20_code 7 = .ok (.aload_n 0, 1) := by decide +kernel
theorem h_K_branch_8 : decode prog_6_method_20_code 8 = .ok (.iload_n 1, 1) := by decide +kernel
theorem h_K_branch_9 : decode prog_6_method_20_code 9 = .ok (.invokevirtual 276, 3) := by decide +kernel
theorem h_K_branch_12 : decode prog_6_method_20_code 12 = .ok (.ifCond .eq 24, 3) := by decide +kernel
theorem h_K_branch_15 : decode prog_6_method_20_code 15 = .ok (.aload_n 0, 1) := by decide +kernel
theorem h_K_branch_16 : decode prog_6_method_20_code 16 = .ok (.aload_n 0, 1) := by decide +kernel
theorem h_K_branch_17 : decode prog_6_method_20_code 17 = .ok (.getfield 76, 3) := by decide +kernel
theorem h_K_branch_20 : decode prog_6_method_20_code 20 = .ok (.getfield 80, 3) := by decide +kernel
theorem h_K_branch_23 : decode prog_6_method_20_code 23 = .ok (.aload_n 0, 1) := by decide +kernel
theorem h_K_branch_24 : decode prog_6_method_20_code 24 = .ok (.getfield 76, 3) := by decide +kernel
theorem h_K_branch_27 : decode prog_6_method_20_code 27 = .ok (.getfield 84, 3) := by decide +kernel
theorem h_K_branch_30 : decode prog_6_method_20_code 30 = .ok (.invokevirtual 279, 3) := by decide +kernel
theorem h_K_branch_33 : decode prog_6_method_20_code 33 = .ok (.putfield 137, 3) := by decide +kernel
theorem h_K_branch_36 : decode prog_6_method_20_code 36 = .ok (.return_, 1) := by decide +kernel
def x_K_branch_15 (a0 : Nat) (P : CST → Prop) (σ : CST) : Prop := σ.1 a0 = some (2, 0) ∧ (∀ b2 : Option Nat, b2 = (σ.2.2.2.1 a0 5) → (∃ r3 : Nat, b2 = some r3 ∧ (σ.1 r3 = some (0, 0) ∧ (∀ b5 : Option Nat, b5 = (σ.2.2.2.1 r3 0) → ∀ b6 : Option Nat, b6 = (σ.2.2.2.1 a0 5) → (∃ r7 : Nat, b6 = some r7 ∧ (σ.1 r7 = some (0, 0) ∧ ((∃ r9 : Nat, b5 = some r9 ∧ (σ.1 r9 = some (5, 0) ∧ (x_E_branchPlace r9 (σ.2.1 r7 1) σ (fun r12 σ11 => σ11.1 a0 = some (2, 0) ∧ (∀ σ14 : CST, σ14 = sI σ11 a0 6 r12 → P σ14))))))))))))
def x_K_branch (a0 : Nat) (x1 : Int32) (σ0 : CST) (P : CST → Prop) : Prop := ((x1 = 167 → x_K_branch_15 a0 P σ0) ∧ (¬ x1 = 167 → σ0.1 a0 = some (2, 0) ∧ (x_K_isTaken a0 x1 σ0 (fun r18 σ17 => ((r18 = 0 → P σ17) ∧ (¬ r18 = 0 → x_K_branch_15 a0 P σ17))))))
set_option maxHeartbeats 4000000 in
set_option maxRecDepth 100000 in
theorem X_K_branch (l : Launch) (dC : Nat → ClassId) (dI : Nat → Nat → Nat) (ca : Nat → ClassId) (H0 : Heap) (σ0 : CST) (a0 : Nat) (x1 : Int32) {P : CST → Prop} (hw : x_K_branch a0 x1 σ0 P) : Met l g_K_branch (mW g_K_branch prog_6_method_20_code 2 none) ({ frames := 3, cells := σ0.2.2.2.2.1, slots := σ0.2.2.2.2.2.1, locals := 63 } : Room) (va_Pc [.ref a0, .int x1] (CPre (dC, dI) ca σ0 H0)) (va_Qv P (CB (dC, dI) ca σ0 H0) (cA σ0 H0.size)) σ0.2.2.2.2.1 σ0.2.2.2.2.2.1 (cA σ0 H0.size) := by
  refine C_ofv (by decide +kernel) rfl rfl rfl (Nat.le_of_ble_eq_true rfl) ?_
  intro p e s m below meth cx Q A ls C hnm hend hH0 h hl
  subst hH0
  have C0 := C
  obtain ⟨⟨hx, hb, hml, hown, hts⟩, hsub⟩ := C0
  obtain ⟨cells, e_cells⟩ : ∃ z : Nat, z = 0 := ⟨_, rfl⟩
  obtain ⟨slots, e_slots⟩ : ∃ z : Nat, z = 0 := ⟨_, rfl⟩
  have h : CH (dC, dI) A ca ({ frames := 3, cells := σ0.2.2.2.2.1, slots := σ0.2.2.2.2.2.1, locals := 63 } : Room) σ0.2.2.2.2.2.2 σ0 s s.heap [] cells slots := by rw [e_cells, e_slots]; exact h
  show W p l e ({ frames := 3, cells := σ0.2.2.2.2.1, slots := σ0.2.2.2.2.2.1, locals := 63 } : Room) s m ([.ref a0, .int x1] : List Value).toArray below meth cx s.heap [] 0 0 Q (F0 m 0 ls [])
  rw [show W p l e ({ frames := 3, cells := σ0.2.2.2.2.1, slots := σ0.2.2.2.2.2.1, locals := 63 } : Room) s m ([.ref a0, .int x1] : List Value).toArray below meth cx s.heap [] 0 0 Q (F0 m 0 ls []) = W p l e ({ frames := 3, cells := σ0.2.2.2.2.1, slots := σ0.2.2.2.2.2.1, locals := 63 } : Room) s m ([.ref a0, .int x1] : List Value).toArray below meth cx s.heap [] cells slots Q (F0 m 0 ls []) by rw [e_cells, e_slots]]
  have K_15 : ∀ (u9 : Unit), ∀ (σ : CST) (H : Heap) (locs : List Loc) (cells slots : Nat) (ls : Array Slot), x_K_branch_15 a0 P σ → CH (dC, dI) A ca ({ frames := 3, cells := σ0.2.2.2.2.1, slots := σ0.2.2.2.2.2.1, locals := 63 } : Room) σ0.2.2.2.2.2.2 σ s H locs cells slots → lv_has ls 2 [(0, .ref a0)] → W p l e ({ frames := 3, cells := σ0.2.2.2.2.1, slots := σ0.2.2.2.2.2.1, locals := 63 } : Room) s m ([.ref a0, .int x1] : List Value).toArray below meth cx H locs cells slots Q (F0 m 15 ls []) := by
    intro u9  σ H locs cells slots ls hw h hl
    unfold x_K_branch_15 at hw
    refine lv_aload_n hx hb h_K_branch_15 rfl (lv_at hl 0 rfl) ?_
    refine lv_aload_n hx hb h_K_branch_16 rfl (lv_at hl 0 rfl) ?_
    obtain ⟨g1, hw⟩ := hw
    refine C_get C h 2 5 (v := va_rf (σ.2.2.2.1 a0 5)) g1 rfl (Cn := R_K) (T := T_K) (N := 14) rfl (by decide) rfl uw_K (by decide) u_231 (fun _ q => q) h_K_branch_17 ?_
    refine lv_topq (fun b2 e_b2 => ?_)
    replace hw := hw b2 e_b2
    obtain ⟨r3, e_r3, hw⟩ := hw
    subst e_r3
    have hl : lv_has ls 2 [(0, .ref a0)] := hl
    refine W.eq (g2 := F0 m 20 ls [.ref r3, .ref a0]) rfl ?_
    obtain ⟨g4, hw⟩ := hw
    refine C_get C h 0 0 (v := va_rf (σ.2.2.2.1 r3 0)) g4 rfl (Cn := R_C) (T := T_C) (N := 5) rfl (by decide) rfl uw_C (by decide) u_222 (fun _ q => q) h_K_branch_20 ?_
    refine lv_topq (fun b5 e_b5 => ?_)
    replace hw := hw b5 e_b5
    refine lv_aload_n hx hb h_K_branch_23 rfl (lv_at hl 0 rfl) ?_
    refine C_get C h 2 5 (v := va_rf (σ.2.2.2.1 a0 5)) g1 rfl (Cn := R_K) (T := T_K) (N := 14) rfl (by decide) rfl uw_K (by decide) u_231 (fun _ q => q) h_K_branch_24 ?_
    refine lv_topq (fun b6 e_b6 => ?_)
    replace hw := hw b6 e_b6
    obtain ⟨r7, e_r7, hw⟩ := hw
    subst e_r7
    have hl : lv_has ls 2 [(0, .ref a0)] := hl
    refine W.eq (g2 := F0 m 27 ls [.ref r7, va_rf b5, .ref a0]) rfl ?_
    obtain ⟨g8, hw⟩ := hw
    refine C_get C h 0 1 (v := .int (σ.2.1 r7 1)) g8 rfl (Cn := R_C) (T := T_C) (N := 5) rfl (by decide) rfl uw_C (by decide) u_237 (fun _ q => q) h_K_branch_27 ?_
    obtain ⟨r9, e_r9, hw⟩ := hw
    subst e_r9
    have hl : lv_has ls 2 [(0, .ref a0)] := hl
    refine W.eq (g2 := F0 m 30 ls [.int (σ.2.1 r7 1), .ref r9, .ref a0]) rfl ?_
    obtain ⟨g10, hw⟩ := hw
    refine C_callVi (As := [.int (σ.2.1 r7 1)]) (rest := [.ref a0]) C h (ci := 5) (Cn := R_E) (T := T_E) (N := 13) g10 rfl (by decide) (X_E_branchPlace l dC dI ca H σ r9 (σ.2.1 r7 1) hw) (cwV 1 hts (gV hsub u_312 u_313 u_314 u_229 u_315) rfl rfl rfl (by decide +kernel) ⟨(Nat.le_of_ble_eq_true rfl), (Nat.le_of_ble_eq_true rfl)⟩) rfl hl.1 (Nat.le_of_ble_eq_true rfl) h_K_branch_30 (fun r12 σ11 H locs cells slots hw9 h9 => ?_)
    clear hw h; have hw := hw9; have h := h9; clear hw9 h9
    refine W.eq (g2 := F0 m 33 ls [.int r12, .ref a0]) rfl ?_
    obtain ⟨g13, hw⟩ := hw
    refine C_puti C h 2 6 g13 (Cn := R_K) (T := T_K) (N := 14) rfl (by decide) rfl uw_K tok_K nm_K (by decide) rfl u_316 (fun _ q => q) (Or.inl rfl) (by decide +kernel) h_K_branch_33 (fun H locs h => ?_)
    obtain ⟨σ14, e_σ14⟩ : ∃ z : CST, z = sI σ11 a0 6 r12 := ⟨_, rfl⟩
    rw [← e_σ14] at h
    replace hw := hw σ14 e_σ14
    exact hend σ14 _ _ _ _ _ _ hw h h_K_branch_36
  have hl : lv_has ls 2 [(0, .ref a0), (1, .int x1)] := hl
  unfold x_K_branch at hw
  refine lv_iload_n hx hb h_K_branch_0 rfl (lv_at hl 1 rfl) ?_
  refine lv_sipush (v := 167) hx hb h_K_branch_1 (by decide) ?_
  refine lv_icmp_eq (tgt := 15) hx hb h_K_branch_4 (by decide) (fun c15 => ?_) (fun c15 => ?_)
  · skip
    replace hw := hw.1 c15
    exact K_15 () σ0 _ _ _ _ _ hw h (lv_sub hl [0] rfl)
  · skip
    replace hw := hw.2 c15
    refine lv_aload_n hx hb h_K_branch_7 rfl (lv_at hl 0 rfl) ?_
    refine lv_iload_n hx hb h_K_branch_8 rfl (lv_at hl 1 rfl) ?_
    obtain ⟨g16, hw⟩ := hw
    refine C_callVi (As := [.int x1]) (rest := []) C h (ci := 2) (Cn := R_K) (T := T_K) (N := 14) g16 rfl (by decide) (X_K_isTaken l dC dI ca s.heap σ0 a0 x1 hw) (cwV 1 hts (gV hsub u_317 u_318 u_319 u_260 u_320) rfl rfl rfl (by decide +kernel) ⟨(Nat.le_of_ble_eq_true rfl), (Nat.le_of_ble_eq_true rfl)⟩) rfl hl.1 (Nat.le_of_ble_eq_true rfl) h_K_branch_9 (fun r18 σ17 H locs cells slots hw9 h9 => ?_)
    clear hw h; have hw := hw9; have h := h9; clear hw9 h9
    refine W.eq (g2 := F0 m 12 ls [.int r18]) rfl ?_
    refine lv_if_eq (tgt := 36) hx hb h_K_branch_12 (by decide) (fun c19 => ?_) (fun c19 => ?_)
    · skip
      replace hw := hw.1 c19
      exact hend σ17 _ _ _ _ _ _ hw h h_K_branch_36
    · skip
      replace hw := hw.2 c19
      exact K_15 () σ17 _ _ _ _ _ hw h (lv_sub hl [0] rfl)
abbrev g_K_pushTyped : MethodName := ⟨"MapFramer$Machine", "pushTyped", "(LMapFramer$Call;IJ)V"⟩
theorem h_K_pushTyped_0 : decode prog_6_method_24_code 0 = .ok (.iload_n 1, 1) := by decide +kernel
theorem h_K_pushTyped_1 : decode prog_6_method_24_code 1 = .ok (.iconst 2, 1) := by decide +kernel
theorem h_K_pushTyped_2 : decode prog_6_method_24_code 2 = .ok (.if_icmp .ne 11, 3) := by decide +kernel
theorem h_K_pushTyped_5 : decode prog_6_method_24_code 5 = .ok (.aload_n 0, 1) := by decide +kernel
theorem h_K_pushTyped_6 : decode prog_6_method_24_code 6 = .ok (.lload_n 2, 1) := by decide +kernel
theorem h_K_pushTyped_7 : decode prog_6_method_24_code 7 = .ok (.invokevirtual 234, 3) := by decide +kernel
theorem h_K_pushTyped_10 : decode prog_6_method_24_code 10 = .ok (.goto 12, 3) := by decide +kernel
theorem h_K_pushTyped_13 : decode prog_6_method_24_code 13 = .ok (.iload_n 1, 1) := by decide +kernel
theorem h_K_pushTyped_14 : decode prog_6_method_24_code 14 = .ok (.ifCond .eq 8, 3) := by decide +kernel
theorem h_K_pushTyped_17 : decode prog_6_method_24_code 17 = .ok (.aload_n 0, 1) := by decide +kernel
theorem h_K_pushTyped_18 : decode prog_6_method_24_code 18 = .ok (.lload_n 2, 1) := by decide +kernel
theorem h_K_pushTyped_19 : decode prog_6_method_24_code 19 = .ok (.invokevirtual 147, 3) := by decide +kernel
theorem h_K_pushTyped_22 : decode prog_6_method_24_code 22 = .ok (.return_, 1) := by decide +kernel
def x_K_pushTyped (a0 : Nat) (x1 : Int32) (x2 : Int64) (σ0 : CST) (P : CST → Prop) : Prop := ((x1 = 2 → σ0.1 a0 = some (0, 0) ∧ (x_C_pushLong a0 x2 σ0 (fun σ7 => P σ7))) ∧ (¬ x1 = 2 → ((x1 = 0 → P σ0) ∧ (¬ x1 = 0 → σ0.1 a0 = some (0, 0) ∧ (x_C_push a0 x2 σ0 (fun σ4 => P σ4))))))
set_option maxHeartbeats 4000000 in
set_option maxRecDepth 100000 in
theorem X_K_pushTyped (l : Launch) (dC : Nat → ClassId) (dI : Nat → Nat → Nat) (ca : Nat → ClassId) (H0 : Heap) (σ0 : CST) (a0 : Nat) (x1 : Int32) (x2 : Int64) {P : CST → Prop} (hw : x_K_pushTyped a0 x1 x2 σ0 P) : Met l g_K_pushTyped (mW g_K_pushTyped prog_6_method_24_code 4 none) ({ frames := 2, cells := σ0.2.2.2.2.1, slots := σ0.2.2.2.2.2.1, locals := 44 } : Room) (va_Pc [.ref a0, .int x1, .long x2] (CPre (dC, dI) ca σ0 H0)) (va_Qv P (CB (dC, dI) ca σ0 H0) (cA σ0 H0.size)) σ0.2.2.2.2.1 σ0.2.2.2.2.2.1 (cA σ0 H0.size) := by
  refine C_ofv (by decide +kernel) rfl rfl rfl (Nat.le_of_ble_eq_true rfl) ?_
  intro p e s m below meth cx Q A ls C hnm hend hH0 h hl
  subst hH0
  have C0 := C
  obtain ⟨⟨hx, hb, hml, hown, hts⟩, hsub⟩ := C0
  obtain ⟨cells, e_cells⟩ : ∃ z : Nat, z = 0 := ⟨_, rfl⟩
  obtain ⟨slots, e_slots⟩ : ∃ z : Nat, z = 0 := ⟨_, rfl⟩
  have h : CH (dC, dI) A ca ({ frames := 2, cells := σ0.2.2.2.2.1, slots := σ0.2.2.2.2.2.1, locals := 44 } : Room) σ0.2.2.2.2.2.2 σ0 s s.heap [] cells slots := by rw [e_cells, e_slots]; exact h
  show W p l e ({ frames := 2, cells := σ0.2.2.2.2.1, slots := σ0.2.2.2.2.2.1, locals := 44 } : Room) s m ([.ref a0, .int x1, .long x2] : List Value).toArray below meth cx s.heap [] 0 0 Q (F0 m 0 ls [])
  rw [show W p l e ({ frames := 2, cells := σ0.2.2.2.2.1, slots := σ0.2.2.2.2.2.1, locals := 44 } : Room) s m ([.ref a0, .int x1, .long x2] : List Value).toArray below meth cx s.heap [] 0 0 Q (F0 m 0 ls []) = W p l e ({ frames := 2, cells := σ0.2.2.2.2.1, slots := σ0.2.2.2.2.2.1, locals := 44 } : Room) s m ([.ref a0, .int x1, .long x2] : List Value).toArray below meth cx s.heap [] cells slots Q (F0 m 0 ls []) by rw [e_cells, e_slots]]
  have hl : lv_has ls 4 [(0, .ref a0), (1, .int x1), (2, .long x2)] := hl
  unfold x_K_pushTyped at hw
  refine lv_iload_n hx hb h_K_pushTyped_0 rfl (lv_at hl 1 rfl) ?_
  refine lv_iconst (v := 2) hx hb h_K_pushTyped_1 (by decide) ?_
  refine lv_icmp_ne (tgt := 13) hx hb h_K_pushTyped_2 (by decide) (fun c1 => ?_) (fun c1 => ?_)
  · skip
    replace hw := hw.2 c1
    refine lv_iload_n hx hb h_K_pushTyped_13 rfl (lv_at hl 1 rfl) ?_
    refine lv_if_eq (tgt := 22) hx hb h_K_pushTyped_14 (by decide) (fun c2 => ?_) (fun c2 => ?_)
    · skip
      replace hw := hw.1 c2
      exact hend σ0 _ _ _ _ _ _ hw h h_K_pushTyped_22
    · skip
      replace hw := hw.2 c2
      refine lv_aload_n hx hb h_K_pushTyped_17 rfl (lv_at hl 0 rfl) ?_
      refine lv_lload_n hx hb h_K_pushTyped_18 rfl (lv_at hl 2 rfl) ?_
      obtain ⟨g3, hw⟩ := hw
      refine C_callVv (As := [.long x2]) (rest := []) C h (ci := 0) (Cn := R_C) (T := T_C) (N := 5) g3 rfl (by decide) (X_C_push l dC dI ca s.heap σ0 a0 x2 hw) (cwV 1 hts (gV hsub u_232 u_10 u_11 u_12 u_13) rfl rfl rfl (by decide +kernel) ⟨(Nat.le_of_ble_eq_true rfl), (Nat.le_of_ble_eq_true rfl)⟩) rfl hl.1 (Nat.le_of_ble_eq_true rfl) h_K_pushTyped_19 (fun σ4 H locs cells slots hw9 h9 => ?_)
      clear hw h; have hw := hw9; have h := h9; clear hw9 h9
      refine W.eq (g2 := F0 m 22 ls []) rfl ?_
      exact hend σ4 _ _ _ _ _ _ hw h h_K_pushTyped_22
  · skip
    replace hw := hw.1 c1
    refine lv_aload_n hx hb h_K_pushTyped_5 rfl (lv_at hl 0 rfl) ?_
    refine lv_lload_n hx hb h_K_pushTyped_6 rfl (lv_at hl 2 rfl) ?_
    obtain ⟨g6, hw⟩ := hw
    refine C_callVv (As := [.long x2]) (rest := []) C h (ci := 0) (Cn := R_C) (T := T_C) (N := 5) g6 rfl (by decide) (X_C_pushLong l dC dI ca s.heap σ0 a0 x2 hw) (cwV 1 hts (gV hsub u_233 u_234 u_235 u_12 u_236) rfl rfl rfl (by decide +kernel) ⟨(Nat.le_of_ble_eq_true rfl), (Nat.le_of_ble_eq_true rfl)⟩) rfl hl.1 (Nat.le_of_ble_eq_true rfl) h_K_pushTyped_7 (fun σ7 H locs cells slots hw9 h9 => ?_)
    clear hw h; have hw := hw9; have h := h9; clear hw9 h9
    refine W.eq (g2 := F0 m 10 ls []) rfl ?_
    refine lv_goto (tgt := 22) hx hb h_K_pushTyped_10 (by decide) ?_
    exact hend σ7 _ _ _ _ _ _ hw h h_K_pushTyped_22
abbrev g_K_leave : MethodName := ⟨"MapFramer$Machine", "leave", "()V"⟩
theorem u_321 : (Cond.fieldLink "MapFramer$Machine" 62 "MapFramer$Machine" "depth" "I" : Cond) ∈ bigW := inB_1 148 (by decide +kernel) rfl
theorem u_322 : (Cond.methodLink "MapFramer$Machine" 286 ⟨"MapFramer$Machine", "pushTyped", "(LMapFramer$Call;IJ)V"⟩ : Cond) ∈ bigW := inB_7 228 (by decide +kernel) rfl
theorem u_323 : (Cond.static ⟨"MapFramer$Machine", "pushTyped", "(LMapFramer$Call;IJ)V"⟩ : Cond) ∈ bigW := inB_7 229 (by decide +kernel) rfl
theorem u_324 : (Cond.code ⟨"MapFramer$Machine", "pushTyped", "(LMapFramer$Call;IJ)V"⟩ prog_6_method_24_code 4 none : Cond) ∈ bigW := inB_7 230 rfl rfl
theorem u_325 : (Cond.methodLink "MapFramer$Machine" 177 ⟨"MapFramer$Op", "length", "(I)I"⟩ : Cond) ∈ bigW := inB_7 111 (by decide +kernel) rfl
theorem u_326 : (Cond.static ⟨"MapFramer$Op", "length", "(I)I"⟩ : Cond) ∈ bigW := inB_3 231 (by decide +kernel) rfl
theorem u_327 : (Cond.initialized "MapFramer$Op" : Cond) ∈ bigW := inB_1 24 (by decide +kernel) rfl
theorem u_328 : (Cond.code ⟨"MapFramer$Op", "length", "(I)I"⟩ prog_8_method_2_code 1 (some .int) : Cond) ∈ bigW := inB_3 232 rfl rfl
theorem u_329 : (Cond.fieldLink "MapFramer$Machine" 59 "MapFramer$Machine" "result" "J" : Cond) ∈ bigW := inB_1 154 (by decide +kernel) rfl
theorem u_330 : (Cond.fieldLink "MapFramer$Machine" 51 "MapFramer$Method" "result" "I" : Cond) ∈ bigW := inB_2 162 (by decide +kernel) rfl
theorem h_K_leave_0 : decode prog_6_method_23_code 0 = .ok (.aload_n 0, 1) := by decide +kernel
theorem h_K_leave_1 : decode prog_6_method_23_code 1 = .ok (.getfield 76, 3) := by decide +kernel
theorem h_K_leave_4 : decode prog_6_method_23_code 4 = .ok (.getfield 80, 3) := by decide +kernel
theorem h_K_leave_7 : decode prog_6_method_23_code 7 = .ok (.getfield 51, 3) := by decide +kernel
theorem h_K_leave_10 : decode prog_6_method_23_code 10 = .ok (.istore_n 1, 1) := by decide +kernel
theorem h_K_leave_11 : decode prog_6_method_23_code 11 = .ok (.iload_n 1, 1) := by decide +kernel
theorem h_K_leave_12 : decode prog_6_method_23_code 12 = .ok (.ifCond .ne 7, 3) := by decide +kernel
theorem h_K_leave_15 : decode prog_6_method_23_code 15 = .ok (.lconst 0, 1) := by decide +kernel
theorem h_K_leave_16 : decode prog_6_method_23_code 16 = .ok (.goto 25, 3) := by decide +kernel
theorem h_K_leave_19 : decode prog_6_method_23_code 19 = .ok (.iload_n 1, 1) := by decide +kernel
theorem h_K_leave_20 : decode prog_6_method_23_code 20 = .ok (.iconst 2, 1) := by decide +kernel
theorem h_K_leave_21 : decode prog_6_method_23_code 21 = .ok (.if_icmp .ne 13, 3) := by decide +kernel
theorem h_K_leave_24 : decode prog_6_method_23_code 24 = .ok (.aload_n 0, 1) := by decide +kernel
theorem h_K_leave_25 : decode prog_6_method_23_code 25 = .ok (.getfield 76, 3) := by decide +kernel
theorem h_K_leave_28 : decode prog_6_method_23_code 28 = .ok (.invokevirtual 241, 3) := by decide +kernel
theorem h_K_leave_31 : decode prog_6_method_23_code 31 = .ok (.goto 10, 3) := by decide +kernel
theorem h_K_leave_34 : decode prog_6_method_23_code 34 = .ok (.aload_n 0, 1) := by decide +kernel
theorem h_K_leave_35 : decode prog_6_method_23_code 35 = .ok (.getfield 76, 3) := by decide +kernel
theorem h_K_leave_38 : decode prog_6_method_23_code 38 = .ok (.invokevirtual 245, 3) := by decide +kernel
theorem h_K_leave_41 : decode prog_6_method_23_code 41 = .ok (.lstore_n 2, 1) := by decide +kernel
theorem h_K_leave_42 : decode prog_6_method_23_code 42 = .ok (.aload_n 0, 1) := by decide +kernel
theorem h_K_leave_43 : decode prog_6_method_23_code 43 = .ok (.dup, 1) := by decide +kernel
theorem h_K_leave_44 : decode prog_6_method_23_code 44 = .ok (.getfield 62, 3) := by decide +kernel
theorem h_K_leave_47 : decode prog_6_method_23_code 47 = .ok (.iconst 1, 1) := by decide +kernel
theorem h_K_leave_48 : decode prog_6_method_23_code 48 = .ok (.isub, 1) := by decide +kernel
theorem h_K_leave_49 : decode prog_6_method_23_code 49 = .ok (.putfield 62, 3) := by decide +kernel
theorem h_K_leave_52 : decode prog_6_method_23_code 52 = .ok (.aload_n 0, 1) := by decide +kernel
theorem h_K_leave_53 : decode prog_6_method_23_code 53 = .ok (.getfield 62, 3) := by decide +kernel
theorem h_K_leave_56 : decode prog_6_method_23_code 56 = .ok (.ifCond .ne 14, 3) := by decide +kernel
theorem h_K_leave_59 : decode prog_6_method_23_code 59 = .ok (.aload_n 0, 1) := by decide +kernel
theorem h_K_leave_60 : decode prog_6_method_23_code 60 = .ok (.lload_n 2, 1) := by decide +kernel
theorem h_K_leave_61 : decode prog_6_method_23_code 61 = .ok (.putfield 59, 3) := by decide +kernel
theorem h_K_leave_64 : decode prog_6_method_23_code 64 = .ok (.aload_n 0, 1) := by decide +kernel
theorem h_K_leave_65 : decode prog_6_method_23_code 65 = .ok (.iconst 0, 1) := by decide +kernel
theorem h_K_leave_66 : decode prog_6_method_23_code 66 = .ok (.putfield 30, 3) := by decide +kernel
theorem h_K_leave_69 : decode prog_6_method_23_code 69 = .ok (.return_, 1) := by decide +kernel
theorem h_K_leave_70 : decode prog_6_method_23_code 70 = .ok (.aload_n 0, 1) := by decide +kernel
theorem h_K_leave_71 : decode prog_6_method_23_code 71 = .ok (.getfield 26, 3) := by decide +kernel
theorem h_K_leave_74 : decode prog_6_method_23_code 74 = .ok (.aload_n 0, 1) := by decide +kernel
theorem h_K_leave_75 : decode prog_6_method_23_code 75 = .ok (.getfield 62, 3) := by decide +kernel
theorem h_K_leave_78 : decode prog_6_method_23_code 78 = .ok (.iconst 1, 1) := by decide +kernel
theorem h_K_leave_79 : decode prog_6_method_23_code 79 = .ok (.isub, 1) := by decide +kernel
theorem h_K_leave_80 : decode prog_6_method_23_code 80 = .ok (.aaload, 1) := by decide +kernel
theorem h_K_leave_81 : decode prog_6_method_23_code 81 = .ok (.astore 4, 2) := by decide +kernel
theorem h_K_leave_83 : decode prog_6_method_23_code 83 = .ok (.aload 4, 2) := by decide +kernel
theorem h_K_leave_85 : decode prog_6_method_23_code 85 = .ok (.iload_n 1, 1) := by decide +kernel
theorem h_K_leave_86 : decode prog_6_method_23_code 86 = .ok (.lload_n 2, 1) := by decide +kernel
theorem h_K_leave_87 : decode prog_6_method_23_code 87 = .ok (.invokestatic 286, 3) := by decide +kernel
theorem h_K_leave_90 : decode prog_6_method_23_code 90 = .ok (.aload 4, 2) := by decide +kernel
theorem h_K_leave_92 : decode prog_6_method_23_code 92 = .ok (.dup, 1) := by decide +kernel
theorem h_K_leave_93 : decode prog_6_method_23_code 93 = .ok (.getfield 84, 3) := by decide +kernel
theorem h_K_leave_96 : decode prog_6_method_23_code 96 = .ok (.sipush 184, 3) := by decide +kernel
theorem h_K_leave_99 : decode prog_6_method_23_code 99 = .ok (.invokestatic 177, 3) := by decide +kernel
theorem h_K_leave_102 : decode prog_6_method_23_code 102 = .ok (.iadd, 1) := by decide +kernel
theorem h_K_leave_103 : decode prog_6_method_23_code 103 = .ok (.putfield 84, 3) := by decide +kernel
theorem h_K_leave_106 : decode prog_6_method_23_code 106 = .ok (.return_, 1) := by decide +kernel
def x_K_leave_41 (a0 : Nat) (P : CST → Prop) (z1 : Int32) (s0 : Int64) (σ : CST) : Prop := σ.1 a0 = some (2, 0) ∧ (∀ σ2 : CST, σ2 = sI σ a0 4 ((σ.2.1 a0 4) - 1) → σ2.1 a0 = some (2, 0) ∧ ((((σ2.2.1 a0 4) = 0 → ∀ σ19 : CST, σ19 = sL σ2 a0 10 s0 → σ19.1 a0 = some (2, 0) ∧ (∀ σ21 : CST, σ21 = sI σ19 a0 11 (0 : Int32) → P σ21)) ∧ (¬ (σ2.2.1 a0 4) = 0 → ∀ b5 : Option Nat, b5 = (σ2.2.2.2.1 a0 2) → (∃ r6 : Nat, b5 = some r6 ∧ ((∃ n8 : Nat, σ2.1 r6 = some (26, n8) ∧ (vp_in ((σ2.2.1 a0 4) - 1) n8 ∧ (∀ b10 : Option Nat, b10 = (σ2.2.2.2.1 r6 (((σ2.2.1 a0 4) - 1) : Int32).toNatClampNeg) → (∃ r11 : Nat, b10 = some r11 ∧ (x_K_pushTyped r11 z1 s0 σ2 (fun σ12 => σ12.1 r11 = some (0, 0) ∧ (x_Op_length (184 : Int32) σ12 (fun r16 σ15 => σ15.1 r11 = some (0, 0) ∧ (∀ σ18 : CST, σ18 = sI σ15 r11 1 ((σ12.2.1 r11 1) + r16) → P σ18)))))))))))))))
def x_K_leave (a0 : Nat) (σ0 : CST) (P : CST → Prop) : Prop := σ0.1 a0 = some (2, 0) ∧ (∀ b23 : Option Nat, b23 = (σ0.2.2.2.1 a0 5) → (∃ r24 : Nat, b23 = some r24 ∧ (σ0.1 r24 = some (0, 0) ∧ (∀ b26 : Option Nat, b26 = (σ0.2.2.2.1 r24 0) → (∃ r27 : Nat, b26 = some r27 ∧ (σ0.1 r27 = some (5, 0) ∧ ((((σ0.2.1 r27 1) = 0 → x_K_leave_41 a0 P (σ0.2.1 r27 1) 0 σ0) ∧ (¬ (σ0.2.1 r27 1) = 0 → (((σ0.2.1 r27 1) = 2 → ∀ b36 : Option Nat, b36 = (σ0.2.2.2.1 a0 5) → (∃ r37 : Nat, b36 = some r37 ∧ (σ0.1 r37 = some (0, 0) ∧ (x_C_popLong r37 σ0 (fun r40 σ39 => x_K_leave_41 a0 P (σ0.2.1 r27 1) r40 σ39))))) ∧ (¬ (σ0.2.1 r27 1) = 2 → ∀ b31 : Option Nat, b31 = (σ0.2.2.2.1 a0 5) → (∃ r32 : Nat, b31 = some r32 ∧ (σ0.1 r32 = some (0, 0) ∧ (x_C_pop r32 σ0 (fun r35 σ34 => x_K_leave_41 a0 P (σ0.2.1 r27 1) r35 σ34)))))))))))))))
set_option maxHeartbeats 4000000 in
set_option maxRecDepth 100000 in
theorem X_K_leave (l : Launch) (dC : Nat → ClassId) (dI : Nat → Nat → Nat) (ca : Nat → ClassId) (H0 : Heap) (σ0 : CST) (a0 : Nat) {P : CST → Prop} (hw : x_K_leave a0 σ0 P) : Met l g_K_leave (mW g_K_leave prog_6_method_23_code 5 none) ({ frames := 3, cells := σ0.2.2.2.2.1, slots := σ0.2.2.2.2.2.1, locals := 67 } : Room) (va_Pc [.ref a0] (CPre (dC, dI) ca σ0 H0)) (va_Qv P (CB (dC, dI) ca σ0 H0) (cA σ0 H0.size)) σ0.2.2.2.2.1 σ0.2.2.2.2.2.1 (cA σ0 H0.size) := by
  refine C_ofv (by decide +kernel) rfl rfl rfl (Nat.le_of_ble_eq_true rfl) ?_
  intro p e s m below meth cx Q A ls C hnm hend hH0 h hl
  subst hH0
  have C0 := C
  obtain ⟨⟨hx, hb, hml, hown, hts⟩, hsub⟩ := C0
  obtain ⟨cells, e_cells⟩ : ∃ z : Nat, z = 0 := ⟨_, rfl⟩
  obtain ⟨slots, e_slots⟩ : ∃ z : Nat, z = 0 := ⟨_, rfl⟩
  have h : CH (dC, dI) A ca ({ frames := 3, cells := σ0.2.2.2.2.1, slots := σ0.2.2.2.2.2.1, locals := 67 } : Room) σ0.2.2.2.2.2.2 σ0 s s.heap [] cells slots := by rw [e_cells, e_slots]; exact h
  show W p l e ({ frames := 3, cells := σ0.2.2.2.2.1, slots := σ0.2.2.2.2.2.1, locals := 67 } : Room) s m ([.ref a0] : List Value).toArray below meth cx s.heap [] 0 0 Q (F0 m 0 ls [])
  rw [show W p l e ({ frames := 3, cells := σ0.2.2.2.2.1, slots := σ0.2.2.2.2.2.1, locals := 67 } : Room) s m ([.ref a0] : List Value).toArray below meth cx s.heap [] 0 0 Q (F0 m 0 ls []) = W p l e ({ frames := 3, cells := σ0.2.2.2.2.1, slots := σ0.2.2.2.2.2.1, locals := 67 } : Room) s m ([.ref a0] : List Value).toArray below meth cx s.heap [] cells slots Q (F0 m 0 ls []) by rw [e_cells, e_slots]]
  have K_41 : ∀ (u9 : Unit), ∀ (z1 : Int32) (s0 : Int64) (σ : CST) (H : Heap) (locs : List Loc) (cells slots : Nat) (ls : Array Slot), x_K_leave_41 a0 P z1 s0 σ → CH (dC, dI) A ca ({ frames := 3, cells := σ0.2.2.2.2.1, slots := σ0.2.2.2.2.2.1, locals := 67 } : Room) σ0.2.2.2.2.2.2 σ s H locs cells slots → lv_has ls 5 [(0, .ref a0), (1, .int z1)] → W p l e ({ frames := 3, cells := σ0.2.2.2.2.1, slots := σ0.2.2.2.2.2.1, locals := 67 } : Room) s m ([.ref a0] : List Value).toArray below meth cx H locs cells slots Q (F0 m 41 ls [.long s0]) := by
    intro u9 z1 s0 σ H locs cells slots ls hw h hl
    unfold x_K_leave_41 at hw
    refine lv_lstore_n (i := 2) (lv' := [(2, .long s0), (0, .ref a0), (1, .int z1)]) hx hb h_K_leave_41 rfl hl (by decide) rfl (fun ls hl => ?_)
    refine lv_aload_n hx hb h_K_leave_42 rfl (lv_at hl 1 rfl) ?_
    refine lv_dup hx hb h_K_leave_43 rfl ?_
    obtain ⟨g1, hw⟩ := hw
    refine C_get C h 2 4 (v := .int (σ.2.1 a0 4)) g1 rfl (Cn := R_K) (T := T_K) (N := 14) rfl (by decide) rfl uw_K (by decide) u_321 (fun _ q => q) h_K_leave_44 ?_
    refine lv_iconst (v := 1) hx hb h_K_leave_47 (by decide) ?_
    refine lv_isub hx hb h_K_leave_48 ?_
    refine C_puti C h 2 4 g1 (Cn := R_K) (T := T_K) (N := 14) rfl (by decide) rfl uw_K tok_K nm_K (by decide) rfl u_321 (fun _ q => q) (Or.inl rfl) (by decide +kernel) h_K_leave_49 (fun H locs h => ?_)
    obtain ⟨σ2, e_σ2⟩ : ∃ z : CST, z = sI σ a0 4 ((σ.2.1 a0 4) - 1) := ⟨_, rfl⟩
    rw [← e_σ2] at h
    replace hw := hw σ2 e_σ2
    refine lv_aload_n hx hb h_K_leave_52 rfl (lv_at hl 1 rfl) ?_
    obtain ⟨g3, hw⟩ := hw
    refine C_get C h 2 4 (v := .int (σ2.2.1 a0 4)) g3 rfl (Cn := R_K) (T := T_K) (N := 14) rfl (by decide) rfl uw_K (by decide) u_321 (fun _ q => q) h_K_leave_53 ?_
    refine lv_if_ne (tgt := 70) hx hb h_K_leave_56 (by decide) (fun c4 => ?_) (fun c4 => ?_)
    · skip
      replace hw := hw.2 c4
      refine lv_aload_n hx hb h_K_leave_70 rfl (lv_at hl 1 rfl) ?_
      refine C_get C h 2 2 (v := va_rf (σ2.2.2.2.1 a0 2)) g3 rfl (Cn := R_K) (T := T_K) (N := 14) rfl (by decide) rfl uw_K (by decide) u_203 (fun _ q => q) h_K_leave_71 ?_
      refine lv_topq (fun b5 e_b5 => ?_)
      replace hw := hw b5 e_b5
      refine lv_aload_n hx hb h_K_leave_74 rfl (lv_at hl 1 rfl) ?_
      refine C_get C h 2 4 (v := .int (σ2.2.1 a0 4)) g3 rfl (Cn := R_K) (T := T_K) (N := 14) rfl (by decide) rfl uw_K (by decide) u_321 (fun _ q => q) h_K_leave_75 ?_
      refine lv_iconst (v := 1) hx hb h_K_leave_78 (by decide) ?_
      refine lv_isub hx hb h_K_leave_79 ?_
      obtain ⟨r6, e_r6, hw⟩ := hw
      subst e_r6
      have hl : lv_has ls 5 [(2, .long s0), (0, .ref a0), (1, .int z1)] := hl
      refine W.eq (g2 := F0 m 80 ls [.int ((σ2.2.1 a0 4) - 1), .ref r6]) rfl ?_
      obtain ⟨n8, g7, hw⟩ := hw
      obtain ⟨g9, hw⟩ := hw
      refine C_aald C h 26 5 rfl (by decide) g7 g9 h_K_leave_80 ?_
      refine lv_topq (fun b10 e_b10 => ?_)
      replace hw := hw b10 e_b10
      refine cq_astore (lv' := [(4, va_rf b10), (2, .long s0), (0, .ref a0), (1, .int z1)]) hx hb h_K_leave_81 hl (by decide) rfl (fun ls hl => ?_)
      refine cq_aload hx hb h_K_leave_83 (lv_at hl 0 rfl) ?_
      refine lv_iload_n hx hb h_K_leave_85 rfl (lv_at hl 3 rfl) ?_
      refine lv_lload_n hx hb h_K_leave_86 rfl (lv_at hl 1 rfl) ?_
      obtain ⟨r11, e_r11, hw⟩ := hw
      subst e_r11
      have hl : lv_has ls 5 [(4, .ref r11), (2, .long s0), (0, .ref a0), (1, .int z1)] := hl
      refine W.eq (g2 := F0 m 87 ls [.long s0, .int z1, .ref r11]) rfl ?_
      refine C_callSv (As := [.ref r11, .int z1, .long s0]) (rest := []) C h (X_K_pushTyped l dC dI ca H σ2 r11 z1 s0 hw) (va_cwS 3 hts (gS hsub u_322 u_323 u_260 u_324) rfl rfl rfl (by decide +kernel) ⟨(Nat.le_of_ble_eq_true rfl), (Nat.le_of_ble_eq_true rfl)⟩) rfl hl.1 (Nat.le_of_ble_eq_true rfl) h_K_leave_87 (fun σ12 H locs cells slots hw9 h9 => ?_)
      clear hw h; have hw := hw9; have h := h9; clear hw9 h9
      refine W.eq (g2 := F0 m 90 ls []) rfl ?_
      refine lv_aload hx hb h_K_leave_90 (lv_at hl 0 rfl) ?_
      refine lv_dup hx hb h_K_leave_92 rfl ?_
      obtain ⟨g14, hw⟩ := hw
      refine C_get C h 0 1 (v := .int (σ12.2.1 r11 1)) g14 rfl (Cn := R_C) (T := T_C) (N := 5) rfl (by decide) rfl uw_C (by decide) u_237 (fun _ q => q) h_K_leave_93 ?_
      refine lv_sipush (v := 184) hx hb h_K_leave_96 (by decide) ?_
      refine C_callSi (As := [.int 184]) (rest := [.int (σ12.2.1 r11 1), .ref r11]) C h (X_Op_length l dC dI ca H σ12 (184 : Int32) hw) (va_cwS 1 hts (gS hsub u_325 u_326 u_327 u_328) rfl rfl rfl (by decide +kernel) ⟨(Nat.le_of_ble_eq_true rfl), (Nat.le_of_ble_eq_true rfl)⟩) rfl hl.1 (Nat.le_of_ble_eq_true rfl) h_K_leave_99 (fun r16 σ15 H locs cells slots hw9 h9 => ?_)
      clear hw h; have hw := hw9; have h := h9; clear hw9 h9
      refine W.eq (g2 := F0 m 102 ls [.int r16, .int (σ12.2.1 r11 1), .ref r11]) rfl ?_
      refine lv_iadd hx hb h_K_leave_102 ?_
      obtain ⟨g17, hw⟩ := hw
      refine C_puti C h 0 1 g17 (Cn := R_C) (T := T_C) (N := 5) rfl (by decide) rfl uw_C tok_C nm_C (by decide) rfl u_237 (fun _ q => q) (Or.inl rfl) (by decide +kernel) h_K_leave_103 (fun H locs h => ?_)
      obtain ⟨σ18, e_σ18⟩ : ∃ z : CST, z = sI σ15 r11 1 ((σ12.2.1 r11 1) + r16) := ⟨_, rfl⟩
      rw [← e_σ18] at h
      replace hw := hw σ18 e_σ18
      exact hend σ18 _ _ _ _ _ _ hw h h_K_leave_106
    · skip
      replace hw := hw.1 c4
      refine lv_aload_n hx hb h_K_leave_59 rfl (lv_at hl 1 rfl) ?_
      refine lv_lload_n hx hb h_K_leave_60 rfl (lv_at hl 0 rfl) ?_
      refine C_putl C h 2 10 g3 (Cn := R_K) (T := T_K) (N := 14) rfl (by decide) rfl uw_K tok_K nm_K (by decide) rfl u_329 (fun _ q => q) (Or.inl rfl) (by decide +kernel) h_K_leave_61 (fun H locs h => ?_)
      obtain ⟨σ19, e_σ19⟩ : ∃ z : CST, z = sL σ2 a0 10 s0 := ⟨_, rfl⟩
      rw [← e_σ19] at h
      replace hw := hw σ19 e_σ19
      refine lv_aload_n hx hb h_K_leave_64 rfl (lv_at hl 1 rfl) ?_
      refine lv_iconst (v := 0) hx hb h_K_leave_65 (by decide) ?_
      obtain ⟨g20, hw⟩ := hw
      refine C_puti C h 2 11 g20 (Cn := R_K) (T := T_K) (N := 14) rfl (by decide) rfl uw_K tok_K nm_K (by decide) rfl u_215 (fun _ q => q) (Or.inl rfl) (by decide +kernel) h_K_leave_66 (fun H locs h => ?_)
      obtain ⟨σ21, e_σ21⟩ : ∃ z : CST, z = sI σ19 a0 11 (0 : Int32) := ⟨_, rfl⟩
      rw [← e_σ21] at h
      replace hw := hw σ21 e_σ21
      exact hend σ21 _ _ _ _ _ _ hw h h_K_leave_69
  have hl : lv_has ls 5 [(0, .ref a0)] := hl
  unfold x_K_leave at hw
  refine lv_aload_n hx hb h_K_leave_0 rfl (lv_at hl 0 rfl) ?_
  obtain ⟨g22, hw⟩ := hw
  refine C_get C h 2 5 (v := va_rf (σ0.2.2.2.1 a0 5)) g22 rfl (Cn := R_K) (T := T_K) (N := 14) rfl (by decide) rfl uw_K (by decide) u_231 (fun _ q => q) h_K_leave_1 ?_
  refine lv_topq (fun b23 e_b23 => ?_)
  replace hw := hw b23 e_b23
  obtain ⟨r24, e_r24, hw⟩ := hw
  subst e_r24
  have hl : lv_has ls 5 [(0, .ref a0)] := hl
  refine W.eq (g2 := F0 m 4 ls [.ref r24]) rfl ?_
  obtain ⟨g25, hw⟩ := hw
  refine C_get C h 0 0 (v := va_rf (σ0.2.2.2.1 r24 0)) g25 rfl (Cn := R_C) (T := T_C) (N := 5) rfl (by decide) rfl uw_C (by decide) u_222 (fun _ q => q) h_K_leave_4 ?_
  refine lv_topq (fun b26 e_b26 => ?_)
  replace hw := hw b26 e_b26
  obtain ⟨r27, e_r27, hw⟩ := hw
  subst e_r27
  have hl : lv_has ls 5 [(0, .ref a0)] := hl
  refine W.eq (g2 := F0 m 7 ls [.ref r27]) rfl ?_
  obtain ⟨g28, hw⟩ := hw
  refine C_get C h 5 1 (v := .int (σ0.2.1 r27 1)) g28 rfl (Cn := R_E) (T := T_E) (N := 13) rfl (by decide) rfl uw_E (by decide) u_330 (fun _ q => q) h_K_leave_7 ?_
  refine lv_istore_n (i := 1) (lv' := [(1, .int (σ0.2.1 r27 1)), (0, .ref a0)]) hx hb h_K_leave_10 rfl hl (by decide) rfl (fun ls hl => ?_)
  refine lv_iload_n hx hb h_K_leave_11 rfl (lv_at hl 0 rfl) ?_
  refine lv_if_ne (tgt := 19) hx hb h_K_leave_12 (by decide) (fun c29 => ?_) (fun c29 => ?_)
  · skip
    replace hw := hw.2 c29
    refine lv_iload_n hx hb h_K_leave_19 rfl (lv_at hl 0 rfl) ?_
    refine lv_iconst (v := 2) hx hb h_K_leave_20 (by decide) ?_
    refine lv_icmp_ne (tgt := 34) hx hb h_K_leave_21 (by decide) (fun c30 => ?_) (fun c30 => ?_)
    · skip
      replace hw := hw.2 c30
      refine lv_aload_n hx hb h_K_leave_34 rfl (lv_at hl 1 rfl) ?_
      refine C_get C h 2 5 (v := va_rf (σ0.2.2.2.1 a0 5)) g22 rfl (Cn := R_K) (T := T_K) (N := 14) rfl (by decide) rfl uw_K (by decide) u_231 (fun _ q => q) h_K_leave_35 ?_
      refine lv_topq (fun b31 e_b31 => ?_)
      replace hw := hw b31 e_b31
      obtain ⟨r32, e_r32, hw⟩ := hw
      subst e_r32
      have hl : lv_has ls 5 [(1, .int (σ0.2.1 r27 1)), (0, .ref a0)] := hl
      refine W.eq (g2 := F0 m 38 ls [.ref r32]) rfl ?_
      obtain ⟨g33, hw⟩ := hw
      refine C_callVl (As := []) (rest := []) C h (ci := 0) (Cn := R_C) (T := T_C) (N := 5) g33 rfl (by decide) (X_C_pop l dC dI ca s.heap σ0 r32 hw) (cwV 0 hts (gV hsub u_270 u_15 u_16 u_12 u_17) rfl rfl rfl (by decide +kernel) ⟨(Nat.le_of_ble_eq_true rfl), (Nat.le_of_ble_eq_true rfl)⟩) rfl hl.1 (Nat.le_of_ble_eq_true rfl) h_K_leave_38 (fun r35 σ34 H locs cells slots hw9 h9 => ?_)
      clear hw h; have hw := hw9; have h := h9; clear hw9 h9
      refine W.eq (g2 := F0 m 41 ls [.long r35]) rfl ?_
      exact K_41 () (σ0.2.1 r27 1) r35 σ34 _ _ _ _ _ hw h (lv_sub hl [1, 0] rfl)
    · skip
      replace hw := hw.1 c30
      refine lv_aload_n hx hb h_K_leave_24 rfl (lv_at hl 1 rfl) ?_
      refine C_get C h 2 5 (v := va_rf (σ0.2.2.2.1 a0 5)) g22 rfl (Cn := R_K) (T := T_K) (N := 14) rfl (by decide) rfl uw_K (by decide) u_231 (fun _ q => q) h_K_leave_25 ?_
      refine lv_topq (fun b36 e_b36 => ?_)
      replace hw := hw b36 e_b36
      obtain ⟨r37, e_r37, hw⟩ := hw
      subst e_r37
      have hl : lv_has ls 5 [(1, .int (σ0.2.1 r27 1)), (0, .ref a0)] := hl
      refine W.eq (g2 := F0 m 28 ls [.ref r37]) rfl ?_
      obtain ⟨g38, hw⟩ := hw
      refine C_callVl (As := []) (rest := []) C h (ci := 0) (Cn := R_C) (T := T_C) (N := 5) g38 rfl (by decide) (X_C_popLong l dC dI ca s.heap σ0 r37 hw) (cwV 0 hts (gV hsub u_266 u_267 u_268 u_12 u_269) rfl rfl rfl (by decide +kernel) ⟨(Nat.le_of_ble_eq_true rfl), (Nat.le_of_ble_eq_true rfl)⟩) rfl hl.1 (Nat.le_of_ble_eq_true rfl) h_K_leave_28 (fun r40 σ39 H locs cells slots hw9 h9 => ?_)
      clear hw h; have hw := hw9; have h := h9; clear hw9 h9
      refine W.eq (g2 := F0 m 31 ls [.long r40]) rfl ?_
      refine lv_goto (tgt := 41) hx hb h_K_leave_31 (by decide) ?_
      exact K_41 () (σ0.2.1 r27 1) r40 σ39 _ _ _ _ _ hw h (lv_sub hl [1, 0] rfl)
  · skip
    replace hw := hw.1 c29
    refine lv_lconst (v := 0) hx hb h_K_leave_15 (by decide) ?_
    refine lv_goto (tgt := 41) hx hb h_K_leave_16 (by decide) ?_
    exact K_41 () (σ0.2.1 r27 1) 0 σ0 _ _ _ _ _ hw h (lv_sub hl [1, 0] rfl)
abbrev g_W_fieldType : MethodName := ⟨"MapFramer$World", "fieldType", "(I)I"⟩
theorem u_331 : (Cond.fieldLink "MapFramer$World" 41 "MapFramer$World" "fieldCount" "I" : Cond) ∈ bigW := inB_1 61 (by decide +kernel) rfl
theorem u_332 : (Cond.fieldLink "MapFramer$World" 25 "MapFramer$World" "fieldTypes" "[I" : Cond) ∈ bigW := inB_1 59 (by decide +kernel) rfl
theorem h_W_fieldType_0 : decode prog_12_method_18_code 0 = .ok (.iload_n 1, 1) := by decide +kernel
theorem h_W_fieldType_1 : decode prog_12_method_18_code 1 = .ok (.ifCond .lt 20, 3) := by decide +kernel
theorem h_W_fieldType_4 : decode prog_12_method_18_code 4 = .ok (.iload_n 1, 1) := by decide +kernel
theorem h_W_fieldType_5 : decode prog_12_method_18_code 5 = .ok (.aload_n 0, 1) := by decide +kernel
theorem h_W_fieldType_6 : decode prog_12_method_18_code 6 = .ok (.getfield 41, 3) := by decide +kernel
theorem h_W_fieldType_9 : decode prog_12_method_18_code 9 = .ok (.if_icmp .ge 12, 3) := by decide +kernel
theorem h_W_fieldType_12 : decode prog_12_method_18_code 12 = .ok (.aload_n 0, 1) := by decide +kernel
theorem h_W_fieldType_13 : decode prog_12_method_18_code 13 = .ok (.getfield 25, 3) := by decide +kernel
theorem h_W_fieldType_16 : decode prog_12_method_18_code 16 = .ok (.iload_n 1, 1) := by decide +kernel
theorem h_W_fieldType_17 : decode prog_12_method_18_code 17 = .ok (.iaload, 1) := by decide +kernel
theorem h_W_fieldType_18 : decode prog_12_method_18_code 18 = .ok (.goto 4, 3) := by decide +kernel
theorem h_W_fieldType_21 : decode prog_12_method_18_code 21 = .ok (.iconst 0, 1) := by decide +kernel
theorem h_W_fieldType_22 : decode prog_12_method_18_code 22 = .ok (.ireturn, 1) := by decide +kernel
def x_W_fieldType (a0 : Nat) (x1 : Int32) (σ0 : CST) (P : Int32 → CST → Prop) : Prop := ((x1 < 0 → P (0 : Int32) σ0) ∧ (¬ x1 < 0 → σ0.1 a0 = some (3, 0) ∧ ((((σ0.2.1 a0 7) ≤ x1 → P (0 : Int32) σ0) ∧ (¬ (σ0.2.1 a0 7) ≤ x1 → ∀ b4 : Option Nat, b4 = (σ0.2.2.2.1 a0 5) → (∃ r5 : Nat, b4 = some r5 ∧ ((∃ n7 : Nat, σ0.1 r5 = some (20, n7) ∧ (vp_in x1 n7 ∧ (∀ b9 : Int32, b9 = (σ0.2.1 r5 (x1 : Int32).toNatClampNeg) → P b9 σ0))))))))))
set_option maxHeartbeats 4000000 in
set_option maxRecDepth 100000 in
theorem X_W_fieldType (l : Launch) (dC : Nat → ClassId) (dI : Nat → Nat → Nat) (ca : Nat → ClassId) (H0 : Heap) (σ0 : CST) (a0 : Nat) (x1 : Int32) {P : Int32 → CST → Prop} (hw : x_W_fieldType a0 x1 σ0 P) : Met l g_W_fieldType (mW g_W_fieldType prog_12_method_18_code 2 (some .int)) ({ frames := 0, cells := σ0.2.2.2.2.1, slots := σ0.2.2.2.2.2.1, locals := 0 } : Room) (va_Pc [.ref a0, .int x1] (CPre (dC, dI) ca σ0 H0)) (va_Qi P (CB (dC, dI) ca σ0 H0) (cA σ0 H0.size)) σ0.2.2.2.2.1 σ0.2.2.2.2.2.1 (cA σ0 H0.size) := by
  refine C_ofi (by decide +kernel) rfl rfl rfl (Nat.le_of_ble_eq_true rfl) ?_
  intro p e s m below meth cx Q A ls C hnm hend hH0 h hl
  subst hH0
  have C0 := C
  obtain ⟨⟨hx, hb, hml, hown, hts⟩, hsub⟩ := C0
  obtain ⟨cells, e_cells⟩ : ∃ z : Nat, z = 0 := ⟨_, rfl⟩
  obtain ⟨slots, e_slots⟩ : ∃ z : Nat, z = 0 := ⟨_, rfl⟩
  have h : CH (dC, dI) A ca ({ frames := 0, cells := σ0.2.2.2.2.1, slots := σ0.2.2.2.2.2.1, locals := 0 } : Room) σ0.2.2.2.2.2.2 σ0 s s.heap [] cells slots := by rw [e_cells, e_slots]; exact h
  show W p l e ({ frames := 0, cells := σ0.2.2.2.2.1, slots := σ0.2.2.2.2.2.1, locals := 0 } : Room) s m ([.ref a0, .int x1] : List Value).toArray below meth cx s.heap [] 0 0 Q (F0 m 0 ls [])
  rw [show W p l e ({ frames := 0, cells := σ0.2.2.2.2.1, slots := σ0.2.2.2.2.2.1, locals := 0 } : Room) s m ([.ref a0, .int x1] : List Value).toArray below meth cx s.heap [] 0 0 Q (F0 m 0 ls []) = W p l e ({ frames := 0, cells := σ0.2.2.2.2.1, slots := σ0.2.2.2.2.2.1, locals := 0 } : Room) s m ([.ref a0, .int x1] : List Value).toArray below meth cx s.heap [] cells slots Q (F0 m 0 ls []) by rw [e_cells, e_slots]]
  have hl : lv_has ls 2 [(0, .ref a0), (1, .int x1)] := hl
  unfold x_W_fieldType at hw
  refine lv_iload_n hx hb h_W_fieldType_0 rfl (lv_at hl 1 rfl) ?_
  refine lv_if_lt (tgt := 21) hx hb h_W_fieldType_1 (by decide) (fun c1 => ?_) (fun c1 => ?_)
  · skip
    replace hw := hw.1 c1
    refine lv_iconst (v := 0) hx hb h_W_fieldType_21 (by decide) ?_
    exact hend (0 : Int32) σ0 _ _ _ _ _ _ hw h h_W_fieldType_22
  · skip
    replace hw := hw.2 c1
    refine lv_iload_n hx hb h_W_fieldType_4 rfl (lv_at hl 1 rfl) ?_
    refine lv_aload_n hx hb h_W_fieldType_5 rfl (lv_at hl 0 rfl) ?_
    obtain ⟨g2, hw⟩ := hw
    refine C_get C h 3 7 (v := .int (σ0.2.1 a0 7)) g2 rfl (Cn := R_W) (T := T_W) (N := 10) rfl (by decide) rfl uw_W (by decide) u_331 (fun _ q => q) h_W_fieldType_6 ?_
    refine lv_icmp_ge (tgt := 21) hx hb h_W_fieldType_9 (by decide) (fun c3 => ?_) (fun c3 => ?_)
    · skip
      replace hw := hw.1 c3
      refine lv_iconst (v := 0) hx hb h_W_fieldType_21 (by decide) ?_
      exact hend (0 : Int32) σ0 _ _ _ _ _ _ hw h h_W_fieldType_22
    · skip
      replace hw := hw.2 c3
      refine lv_aload_n hx hb h_W_fieldType_12 rfl (lv_at hl 0 rfl) ?_
      refine C_get C h 3 5 (v := va_rf (σ0.2.2.2.1 a0 5)) g2 rfl (Cn := R_W) (T := T_W) (N := 10) rfl (by decide) rfl uw_W (by decide) u_332 (fun _ q => q) h_W_fieldType_13 ?_
      refine lv_topq (fun b4 e_b4 => ?_)
      replace hw := hw b4 e_b4
      refine lv_iload_n hx hb h_W_fieldType_16 rfl (lv_at hl 1 rfl) ?_
      obtain ⟨r5, e_r5, hw⟩ := hw
      subst e_r5
      have hl : lv_has ls 2 [(0, .ref a0), (1, .int x1)] := hl
      refine W.eq (g2 := F0 m 17 ls [.int x1, .ref r5]) rfl ?_
      obtain ⟨n7, g6, hw⟩ := hw
      obtain ⟨g8, hw⟩ := hw
      refine C_iald C h g6 g8 h_W_fieldType_17 ?_
      refine lv_topi (fun b9 e_b9 => ?_)
      replace hw := hw b9 e_b9
      refine lv_goto (tgt := 22) hx hb h_W_fieldType_18 (by decide) ?_
      exact hend b9 σ0 _ _ _ _ _ _ hw h h_W_fieldType_22
abbrev g_K_useField : MethodName := ⟨"MapFramer$Machine", "useField", "(II)V"⟩
theorem u_333 : (Cond.methodLink "MapFramer$Machine" 297 ⟨"MapFramer$World", "fieldType", "(I)I"⟩ : Cond) ∈ bigW := inB_7 235 (by decide +kernel) rfl
theorem u_334 : (Cond.instanceMethod ⟨"MapFramer$World", "fieldType", "(I)I"⟩ : Cond) ∈ bigW := inB_4 238 (by decide +kernel) rfl
theorem u_335 : (Cond.selects "MapFramer$World" ⟨"MapFramer$World", "fieldType", "(I)I"⟩ ⟨"MapFramer$World", "fieldType", "(I)I"⟩ : Cond) ∈ bigW := inB_4 239 (by decide +kernel) rfl
theorem u_336 : (Cond.code ⟨"MapFramer$World", "fieldType", "(I)I"⟩ prog_12_method_18_code 2 (some .int) : Cond) ∈ bigW := inB_5 0 rfl rfl
theorem h_K_useField_0 : decode prog_6_method_26_code 0 = .ok (.aload_n 0, 1) := by decide +kernel
theorem h_K_useField_1 : decode prog_6_method_26_code 1 = .ok (.getfield 38, 3) := by decide +kernel
theorem h_K_useField_4 : decode prog_6_method_26_code 4 = .ok (.iload_n 2, 1) := by decide +kernel
theorem h_K_useField_5 : decode prog_6_method_26_code 5 = .ok (.invokevirtual 297, 3) := by decide +kernel
theorem h_K_useField_8 : decode prog_6_method_26_code 8 = .ok (.istore_n 3, 1) := by decide +kernel
theorem h_K_useField_9 : decode prog_6_method_26_code 9 = .ok (.iload_n 1, 1) := by decide +kernel
theorem h_K_useField_10 : decode prog_6_method_26_code 10 = .ok (.sipush 179, 3) := by decide +kernel
theorem h_K_useField_13 : decode prog_6_method_26_code 13 = .ok (.if_icmp .eq 10, 3) := by decide +kernel
theorem h_K_useField_16 : decode prog_6_method_26_code 16 = .ok (.iload_n 1, 1) := by decide +kernel
theorem h_K_useField_17 : decode prog_6_method_26_code 17 = .ok (.sipush 181, 3) := by decide +kernel
theorem h_K_useField_20 : decode prog_6_method_26_code 20 = .ok (.if_icmp .ne 7, 3) := by decide +kernel
theorem h_K_useField_23 : decode prog_6_method_26_code 23 = .ok (.iconst 1, 1) := by decide +kernel
theorem h_K_useField_24 : decode prog_6_method_26_code 24 = .ok (.goto 4, 3) := by decide +kernel
theorem h_K_useField_27 : decode prog_6_method_26_code 27 = .ok (.iconst 0, 1) := by decide +kernel
theorem h_K_useField_28 : decode prog_6_method_26_code 28 = .ok (.istore 4, 2) := by decide +kernel
theorem h_K_useField_30 : decode prog_6_method_26_code 30 = .ok (.iload 4, 2) := by decide +kernel
theorem h_K_useField_32 : decode prog_6_method_26_code 32 = .ok (.ifCond .ne 7, 3) := by decide +kernel
theorem h_K_useField_35 : decode prog_6_method_26_code 35 = .ok (.lconst 0, 1) := by decide +kernel
theorem h_K_useField_36 : decode prog_6_method_26_code 36 = .ok (.goto 25, 3) := by decide +kernel
theorem h_K_useField_39 : decode prog_6_method_26_code 39 = .ok (.iload_n 3, 1) := by decide +kernel
theorem h_K_useField_40 : decode prog_6_method_26_code 40 = .ok (.iconst 2, 1) := by decide +kernel
theorem h_K_useField_41 : decode prog_6_method_26_code 41 = .ok (.if_icmp .ne 13, 3) := by decide +kernel
theorem h_K_useField_44 : decode prog_6_method_26_code 44 = .ok (.aload_n 0, 1) := by decide +kernel
theorem h_K_useField_45 : decode prog_6_method_26_code 45 = .ok (.getfield 76, 3) := by decide +kernel
theorem h_K_useField_48 : decode prog_6_method_26_code 48 = .ok (.invokevirtual 241, 3) := by decide +kernel
theorem h_K_useField_51 : decode prog_6_method_26_code 51 = .ok (.goto 10, 3) := by decide +kernel
theorem h_K_useField_54 : decode prog_6_method_26_code 54 = .ok (.aload_n 0, 1) := by decide +kernel
theorem h_K_useField_55 : decode prog_6_method_26_code 55 = .ok (.getfield 76, 3) := by decide +kernel
theorem h_K_useField_58 : decode prog_6_method_26_code 58 = .ok (.invokevirtual 245, 3) := by decide +kernel
theorem h_K_useField_61 : decode prog_6_method_26_code 61 = .ok (.lstore 5, 2) := by decide +kernel
theorem h_K_useField_63 : decode prog_6_method_26_code 63 = .ok (.iload_n 2, 1) := by decide +kernel
theorem h_K_useField_64 : decode prog_6_method_26_code 64 = .ok (.aload_n 0, 1) := by decide +kernel
theorem h_K_useField_65 : decode prog_6_method_26_code 65 = .ok (.getfield 20, 3) := by decide +kernel
theorem h_K_useField_68 : decode prog_6_method_26_code 68 = .ok (.arraylength, 1) := by decide +kernel
theorem h_K_useField_69 : decode prog_6_method_26_code 69 = .ok (.if_icmp .lt 4, 3) := by decide +kernel
theorem h_K_useField_72 : decode prog_6_method_26_code 72 = .ok (.return_, 1) := by decide +kernel
theorem h_K_useField_73 : decode prog_6_method_26_code 73 = .ok (.iload_n 1, 1) := by decide +kernel
theorem h_K_useField_74 : decode prog_6_method_26_code 74 = .ok (.sipush 178, 3) := by decide +kernel
theorem h_K_useField_77 : decode prog_6_method_26_code 77 = .ok (.if_icmp .ne 20, 3) := by decide +kernel
theorem h_K_useField_80 : decode prog_6_method_26_code 80 = .ok (.aload_n 0, 1) := by decide +kernel
theorem h_K_useField_81 : decode prog_6_method_26_code 81 = .ok (.getfield 76, 3) := by decide +kernel
theorem h_K_useField_84 : decode prog_6_method_26_code 84 = .ok (.iload_n 3, 1) := by decide +kernel
theorem h_K_useField_85 : decode prog_6_method_26_code 85 = .ok (.aload_n 0, 1) := by decide +kernel
theorem h_K_useField_86 : decode prog_6_method_26_code 86 = .ok (.getfield 20, 3) := by decide +kernel
theorem h_K_useField_89 : decode prog_6_method_26_code 89 = .ok (.iload_n 2, 1) := by decide +kernel
theorem h_K_useField_90 : decode prog_6_method_26_code 90 = .ok (.laload, 1) := by decide +kernel
theorem h_K_useField_91 : decode prog_6_method_26_code 91 = .ok (.invokestatic 286, 3) := by decide +kernel
theorem h_K_useField_94 : decode prog_6_method_26_code 94 = .ok (.goto 81, 3) := by decide +kernel
theorem h_K_useField_97 : decode prog_6_method_26_code 97 = .ok (.iload_n 1, 1) := by decide +kernel
theorem h_K_useField_98 : decode prog_6_method_26_code 98 = .ok (.sipush 179, 3) := by decide +kernel
theorem h_K_useField_101 : decode prog_6_method_26_code 101 = .ok (.if_icmp .ne 14, 3) := by decide +kernel
theorem h_K_useField_104 : decode prog_6_method_26_code 104 = .ok (.aload_n 0, 1) := by decide +kernel
theorem h_K_useField_105 : decode prog_6_method_26_code 105 = .ok (.getfield 20, 3) := by decide +kernel
theorem h_K_useField_108 : decode prog_6_method_26_code 108 = .ok (.iload_n 2, 1) := by decide +kernel
theorem h_K_useField_109 : decode prog_6_method_26_code 109 = .ok (.lload 5, 2) := by decide +kernel
theorem h_K_useField_111 : decode prog_6_method_26_code 111 = .ok (.lastore, 1) := by decide +kernel
theorem h_K_useField_112 : decode prog_6_method_26_code 112 = .ok (.goto 63, 3) := by decide +kernel
theorem h_K_useField_115 : decode prog_6_method_26_code 115 = .ok (.aload_n 0, 1) := by decide +kernel
theorem h_K_useField_116 : decode prog_6_method_26_code 116 = .ok (.getfield 76, 3) := by decide +kernel
theorem h_K_useField_119 : decode prog_6_method_26_code 119 = .ok (.invokevirtual 248, 3) := by decide +kernel
theorem h_K_useField_122 : decode prog_6_method_26_code 122 = .ok (.istore 7, 2) := by decide +kernel
theorem h_K_useField_124 : decode prog_6_method_26_code 124 = .ok (.iload 7, 2) := by decide +kernel
theorem h_K_useField_126 : decode prog_6_method_26_code 126 = .ok (.ifCond .ne 11, 3) := by decide +kernel
theorem h_K_useField_129 : decode prog_6_method_26_code 129 = .ok (.aload_n 0, 1) := by decide +kernel
theorem h_K_useField_130 : decode prog_6_method_26_code 130 = .ok (.iconst 1, 1) := by decide +kernel
theorem h_K_useField_131 : decode prog_6_method_26_code 131 = .ok (.putfield 123, 3) := by decide +kernel
theorem h_K_useField_134 : decode prog_6_method_26_code 134 = .ok (.goto 41, 3) := by decide +kernel
theorem h_K_useField_137 : decode prog_6_method_26_code 137 = .ok (.iload 4, 2) := by decide +kernel
theorem h_K_useField_139 : decode prog_6_method_26_code 139 = .ok (.ifCond .eq 18, 3) := by decide +kernel
theorem h_K_useField_142 : decode prog_6_method_26_code 142 = .ok (.aload_n 0, 1) := by decide +kernel
theorem h_K_useField_143 : decode prog_6_method_26_code 143 = .ok (.getfield 12, 3) := by decide +kernel
theorem h_K_useField_146 : decode prog_6_method_26_code 146 = .ok (.iload 7, 2) := by decide +kernel
theorem h_K_useField_148 : decode prog_6_method_26_code 148 = .ok (.iload_n 2, 1) := by decide +kernel
theorem h_K_useField_149 : decode prog_6_method_26_code 149 = .ok (.lload 5, 2) := by decide +kernel
theorem h_K_useField_151 : decode prog_6_method_26_code 151 = .ok (.invokevirtual 261, 3) := by decide +kernel
theorem h_K_useField_154 : decode prog_6_method_26_code 154 = .ok (.goto 21, 3) := by decide +kernel
theorem h_K_useField_157 : decode prog_6_method_26_code 157 = .ok (.aload_n 0, 1) := by decide +kernel
theorem h_K_useField_158 : decode prog_6_method_26_code 158 = .ok (.getfield 76, 3) := by decide +kernel
theorem h_K_useField_161 : decode prog_6_method_26_code 161 = .ok (.iload_n 3, 1) := by decide +kernel
theorem h_K_useField_162 : decode prog_6_method_26_code 162 = .ok (.aload_n 0, 1) := by decide +kernel
theorem h_K_useField_163 : decode prog_6_method_26_code 163 = .ok (.getfield 12, 3) := by decide +kernel
theorem h_K_useField_166 : decode prog_6_method_26_code 166 = .ok (.iload 7, 2) := by decide +kernel
theorem h_K_useField_168 : decode prog_6_method_26_code 168 = .ok (.iload_n 2, 1) := by decide +kernel
theorem h_K_useField_169 : decode prog_6_method_26_code 169 = .ok (.invokevirtual 254, 3) := by decide +kernel
theorem h_K_useField_172 : decode prog_6_method_26_code 172 = .ok (.invokestatic 286, 3) := by decide +kernel
theorem h_K_useField_175 : decode prog_6_method_26_code 175 = .ok (.return_, 1) := by decide +kernel
def x_K_useField_61 (a0 : Nat) (P : CST → Prop) (z1 : Int32) (z2 : Int32) (z3 : Int32) (z4 : Int32) (s0 : Int64) (σ : CST) : Prop := σ.1 a0 = some (2, 0) ∧ (∀ b2 : Option Nat, b2 = (σ.2.2.2.1 a0 1) → (∃ r3 : Nat, b2 = some r3 ∧ ((∃ n5 : Nat, σ.1 r3 = some (22, n5) ∧ (((z2 < (Int32.ofNat n5) → ((z1 = 178 → ∀ b40 : Option Nat, b40 = (σ.2.2.2.1 a0 5) → ∀ b41 : Option Nat, b41 = (σ.2.2.2.1 a0 1) → (∃ r42 : Nat, b41 = some r42 ∧ ((∃ n44 : Nat, σ.1 r42 = some (22, n44) ∧ (vp_in z2 n44 ∧ (∀ b46 : Int64, b46 = (σ.2.2.1 r42 (z2 : Int32).toNatClampNeg) → (∃ r47 : Nat, b40 = some r47 ∧ (x_K_pushTyped r47 z3 b46 σ (fun σ48 => P σ48))))))))) ∧ (¬ z1 = 178 → ((z1 = 179 → ∀ b34 : Option Nat, b34 = (σ.2.2.2.1 a0 1) → (∃ r35 : Nat, b34 = some r35 ∧ ((∃ n37 : Nat, σ.1 r35 = some (22, n37) ∧ (vp_in z2 n37 ∧ (∀ σ39 : CST, σ39 = sL σ r35 (z2 : Int32).toNatClampNeg s0 → P σ39)))))) ∧ (¬ z1 = 179 → ∀ b9 : Option Nat, b9 = (σ.2.2.2.1 a0 5) → (∃ r10 : Nat, b9 = some r10 ∧ (σ.1 r10 = some (0, 0) ∧ (x_C_popInt r10 σ (fun r13 σ12 => ((r13 = 0 → σ12.1 a0 = some (2, 0) ∧ (∀ σ33 : CST, σ33 = sI σ12 a0 7 (1 : Int32) → P σ33)) ∧ (¬ r13 = 0 → ((z4 = 0 → σ12.1 a0 = some (2, 0) ∧ (∀ b17 : Option Nat, b17 = (σ12.2.2.2.1 a0 5) → ∀ b18 : Option Nat, b18 = (σ12.2.2.2.1 a0 0) → (∃ r19 : Nat, b18 = some r19 ∧ (σ12.1 r19 = some (1, 0) ∧ (x_H_valueAt r19 r13 z2 σ12 (fun r22 σ21 => (∃ r23 : Nat, b17 = some r23 ∧ (x_K_pushTyped r23 z3 r22 σ21 (fun σ24 => P σ24))))))))) ∧ (¬ z4 = 0 → σ12.1 a0 = some (2, 0) ∧ (∀ b27 : Option Nat, b27 = (σ12.2.2.2.1 a0 0) → (∃ r28 : Nat, b27 = some r28 ∧ (σ12.1 r28 = some (1, 0) ∧ (x_H_setValue r28 r13 z2 s0 σ12 (fun σ30 => P σ30)))))))))))))))))) ∧ (¬ z2 < (Int32.ofNat n5) → P σ)))))))
def x_K_useField_28 (a0 : Nat) (P : CST → Prop) (z1 : Int32) (z2 : Int32) (z3 : Int32) (s0 : Int32) (σ : CST) : Prop := ((s0 = 0 → x_K_useField_61 a0 P z1 z2 z3 s0 0 σ) ∧ (¬ s0 = 0 → ((z3 = 2 → σ.1 a0 = some (2, 0) ∧ (∀ b59 : Option Nat, b59 = (σ.2.2.2.1 a0 5) → (∃ r60 : Nat, b59 = some r60 ∧ (σ.1 r60 = some (0, 0) ∧ (x_C_popLong r60 σ (fun r63 σ62 => x_K_useField_61 a0 P z1 z2 z3 s0 r63 σ62)))))) ∧ (¬ z3 = 2 → σ.1 a0 = some (2, 0) ∧ (∀ b53 : Option Nat, b53 = (σ.2.2.2.1 a0 5) → (∃ r54 : Nat, b53 = some r54 ∧ (σ.1 r54 = some (0, 0) ∧ (x_C_pop r54 σ (fun r57 σ56 => x_K_useField_61 a0 P z1 z2 z3 s0 r57 σ56)))))))))
def x_K_useField_23 (a0 : Nat) (P : CST → Prop) (z1 : Int32) (z2 : Int32) (z3 : Int32) (σ : CST) : Prop := x_K_useField_28 a0 P z1 z2 z3 1 σ
def x_K_useField (a0 : Nat) (x1 : Int32) (x2 : Int32) (σ0 : CST) (P : CST → Prop) : Prop := σ0.1 a0 = some (2, 0) ∧ (∀ b65 : Option Nat, b65 = (σ0.2.2.2.1 a0 3) → (∃ r66 : Nat, b65 = some r66 ∧ (σ0.1 r66 = some (3, 0) ∧ (x_W_fieldType r66 x2 σ0 (fun r69 σ68 => ((x1 = 179 → x_K_useField_23 a0 P x1 x2 r69 σ68) ∧ (¬ x1 = 179 → ((x1 = 181 → x_K_useField_23 a0 P x1 x2 r69 σ68) ∧ (¬ x1 = 181 → x_K_useField_28 a0 P x1 x2 r69 0 σ68)))))))))
set_option maxHeartbeats 4000000 in
set_option maxRecDepth 100000 in
theorem X_K_useField (l : Launch) (dC : Nat → ClassId) (dI : Nat → Nat → Nat) (ca : Nat → ClassId) (H0 : Heap) (σ0 : CST) (a0 : Nat) (x1 : Int32) (x2 : Int32) {P : CST → Prop} (hw : x_K_useField a0 x1 x2 σ0 P) : Met l g_K_useField (mW g_K_useField prog_6_method_26_code 8 none) ({ frames := 3, cells := σ0.2.2.2.2.1, slots := σ0.2.2.2.2.2.1, locals := 67 } : Room) (va_Pc [.ref a0, .int x1, .int x2] (CPre (dC, dI) ca σ0 H0)) (va_Qv P (CB (dC, dI) ca σ0 H0) (cA σ0 H0.size)) σ0.2.2.2.2.1 σ0.2.2.2.2.2.1 (cA σ0 H0.size) := by
  refine C_ofv (by decide +kernel) rfl rfl rfl (Nat.le_of_ble_eq_true rfl) ?_
  intro p e s m below meth cx Q A ls C hnm hend hH0 h hl
  subst hH0
  have C0 := C
  obtain ⟨⟨hx, hb, hml, hown, hts⟩, hsub⟩ := C0
  obtain ⟨cells, e_cells⟩ : ∃ z : Nat, z = 0 := ⟨_, rfl⟩
  obtain ⟨slots, e_slots⟩ : ∃ z : Nat, z = 0 := ⟨_, rfl⟩
  have h : CH (dC, dI) A ca ({ frames := 3, cells := σ0.2.2.2.2.1, slots := σ0.2.2.2.2.2.1, locals := 67 } : Room) σ0.2.2.2.2.2.2 σ0 s s.heap [] cells slots := by rw [e_cells, e_slots]; exact h
  show W p l e ({ frames := 3, cells := σ0.2.2.2.2.1, slots := σ0.2.2.2.2.2.1, locals := 67 } : Room) s m ([.ref a0, .int x1, .int x2] : List Value).toArray below meth cx s.heap [] 0 0 Q (F0 m 0 ls [])
  rw [show W p l e ({ frames := 3, cells := σ0.2.2.2.2.1, slots := σ0.2.2.2.2.2.1, locals := 67 } : Room) s m ([.ref a0, .int x1, .int x2] : List Value).toArray below meth cx s.heap [] 0 0 Q (F0 m 0 ls []) = W p l e ({ frames := 3, cells := σ0.2.2.2.2.1, slots := σ0.2.2.2.2.2.1, locals := 67 } : Room) s m ([.ref a0, .int x1, .int x2] : List Value).toArray below meth cx s.heap [] cells slots Q (F0 m 0 ls []) by rw [e_cells, e_slots]]
  have K_61 : ∀ (u9 : Unit), ∀ (z1 : Int32) (z2 : Int32) (z3 : Int32) (z4 : Int32) (s0 : Int64) (σ : CST) (H : Heap) (locs : List Loc) (cells slots : Nat) (ls : Array Slot), x_K_useField_61 a0 P z1 z2 z3 z4 s0 σ → CH (dC, dI) A ca ({ frames := 3, cells := σ0.2.2.2.2.1, slots := σ0.2.2.2.2.2.1, locals := 67 } : Room) σ0.2.2.2.2.2.2 σ s H locs cells slots → lv_has ls 8 [(0, .ref a0), (1, .int z1), (2, .int z2), (3, .int z3), (4, .int z4)] → W p l e ({ frames := 3, cells := σ0.2.2.2.2.1, slots := σ0.2.2.2.2.2.1, locals := 67 } : Room) s m ([.ref a0, .int x1, .int x2] : List Value).toArray below meth cx H locs cells slots Q (F0 m 61 ls [.long s0]) := by
    intro u9 z1 z2 z3 z4 s0 σ H locs cells slots ls hw h hl
    unfold x_K_useField_61 at hw
    refine lv_lstore (lv' := [(5, .long s0), (0, .ref a0), (1, .int z1), (2, .int z2), (3, .int z3), (4, .int z4)]) hx hb h_K_useField_61 hl (by decide) rfl (fun ls hl => ?_)
    refine lv_iload_n hx hb h_K_useField_63 rfl (lv_at hl 3 rfl) ?_
    refine lv_aload_n hx hb h_K_useField_64 rfl (lv_at hl 1 rfl) ?_
    obtain ⟨g1, hw⟩ := hw
    refine C_get C h 2 1 (v := va_rf (σ.2.2.2.1 a0 1)) g1 rfl (Cn := R_K) (T := T_K) (N := 14) rfl (by decide) rfl uw_K (by decide) u_214 (fun _ q => q) h_K_useField_65 ?_
    refine lv_topq (fun b2 e_b2 => ?_)
    replace hw := hw b2 e_b2
    obtain ⟨r3, e_r3, hw⟩ := hw
    subst e_r3
    have hl : lv_has ls 8 [(5, .long s0), (0, .ref a0), (1, .int z1), (2, .int z2), (3, .int z3), (4, .int z4)] := hl
    refine W.eq (g2 := F0 m 68 ls [.ref r3, .int z2]) rfl ?_
    obtain ⟨n5, g4, hw⟩ := hw
    refine C_alen C h 22 2 rfl (by decide) g4 h_K_useField_68 ?_
    refine lv_icmp_lt (tgt := 73) hx hb h_K_useField_69 (by decide) (fun c6 => ?_) (fun c6 => ?_)
    · skip
      replace hw := hw.1 c6
      refine lv_iload_n hx hb h_K_useField_73 rfl (lv_at hl 2 rfl) ?_
      refine lv_sipush (v := 178) hx hb h_K_useField_74 (by decide) ?_
      refine lv_icmp_ne (tgt := 97) hx hb h_K_useField_77 (by decide) (fun c7 => ?_) (fun c7 => ?_)
      · skip
        replace hw := hw.2 c7
        refine lv_iload_n hx hb h_K_useField_97 rfl (lv_at hl 2 rfl) ?_
        refine lv_sipush (v := 179) hx hb h_K_useField_98 (by decide) ?_
        refine lv_icmp_ne (tgt := 115) hx hb h_K_useField_101 (by decide) (fun c8 => ?_) (fun c8 => ?_)
        · skip
          replace hw := hw.2 c8
          refine lv_aload_n hx hb h_K_useField_115 rfl (lv_at hl 1 rfl) ?_
          refine C_get C h 2 5 (v := va_rf (σ.2.2.2.1 a0 5)) g1 rfl (Cn := R_K) (T := T_K) (N := 14) rfl (by decide) rfl uw_K (by decide) u_231 (fun _ q => q) h_K_useField_116 ?_
          refine lv_topq (fun b9 e_b9 => ?_)
          replace hw := hw b9 e_b9
          obtain ⟨r10, e_r10, hw⟩ := hw
          subst e_r10
          have hl : lv_has ls 8 [(5, .long s0), (0, .ref a0), (1, .int z1), (2, .int z2), (3, .int z3), (4, .int z4)] := hl
          refine W.eq (g2 := F0 m 119 ls [.ref r10]) rfl ?_
          obtain ⟨g11, hw⟩ := hw
          refine C_callVi (As := []) (rest := []) C h (ci := 0) (Cn := R_C) (T := T_C) (N := 5) g11 rfl (by decide) (X_C_popInt l dC dI ca H σ r10 hw) (cwV 0 hts (gV hsub u_246 u_247 u_248 u_12 u_249) rfl rfl rfl (by decide +kernel) ⟨(Nat.le_of_ble_eq_true rfl), (Nat.le_of_ble_eq_true rfl)⟩) rfl hl.1 (Nat.le_of_ble_eq_true rfl) h_K_useField_119 (fun r13 σ12 H locs cells slots hw9 h9 => ?_)
          clear hw h; have hw := hw9; have h := h9; clear hw9 h9
          refine W.eq (g2 := F0 m 122 ls [.int r13]) rfl ?_
          refine lv_istore (lv' := [(7, .int r13), (5, .long s0), (0, .ref a0), (1, .int z1), (2, .int z2), (3, .int z3), (4, .int z4)]) hx hb h_K_useField_122 hl (by decide) rfl (fun ls hl => ?_)
          refine lv_iload hx hb h_K_useField_124 (lv_at hl 0 rfl) ?_
          refine lv_if_ne (tgt := 137) hx hb h_K_useField_126 (by decide) (fun c14 => ?_) (fun c14 => ?_)
          · skip
            replace hw := hw.2 c14
            refine lv_iload hx hb h_K_useField_137 (lv_at hl 6 rfl) ?_
            refine lv_if_eq (tgt := 157) hx hb h_K_useField_139 (by decide) (fun c15 => ?_) (fun c15 => ?_)
            · skip
              replace hw := hw.1 c15
              refine lv_aload_n hx hb h_K_useField_157 rfl (lv_at hl 2 rfl) ?_
              obtain ⟨g16, hw⟩ := hw
              refine C_get C h 2 5 (v := va_rf (σ12.2.2.2.1 a0 5)) g16 rfl (Cn := R_K) (T := T_K) (N := 14) rfl (by decide) rfl uw_K (by decide) u_231 (fun _ q => q) h_K_useField_158 ?_
              refine lv_topq (fun b17 e_b17 => ?_)
              replace hw := hw b17 e_b17
              refine lv_iload_n hx hb h_K_useField_161 rfl (lv_at hl 5 rfl) ?_
              refine lv_aload_n hx hb h_K_useField_162 rfl (lv_at hl 2 rfl) ?_
              refine C_get C h 2 0 (v := va_rf (σ12.2.2.2.1 a0 0)) g16 rfl (Cn := R_K) (T := T_K) (N := 14) rfl (by decide) rfl uw_K (by decide) u_213 (fun _ q => q) h_K_useField_163 ?_
              refine lv_topq (fun b18 e_b18 => ?_)
              replace hw := hw b18 e_b18
              refine lv_iload hx hb h_K_useField_166 (lv_at hl 0 rfl) ?_
              refine lv_iload_n hx hb h_K_useField_168 rfl (lv_at hl 4 rfl) ?_
              obtain ⟨r19, e_r19, hw⟩ := hw
              subst e_r19
              have hl : lv_has ls 8 [(7, .int r13), (5, .long s0), (0, .ref a0), (1, .int z1), (2, .int z2), (3, .int z3), (4, .int z4)] := hl
              refine W.eq (g2 := F0 m 169 ls [.int z2, .int r13, .ref r19, .int z3, va_rf b17]) rfl ?_
              obtain ⟨g20, hw⟩ := hw
              refine C_callVl (As := [.int r13, .int z2]) (rest := [.int z3, va_rf b17]) C h (ci := 1) (Cn := R_H) (T := T_H) (N := 4) g20 rfl (by decide) (X_H_valueAt l dC dI ca H σ12 r19 r13 z2 hw) (cwV 2 hts (gV hsub u_251 u_252 u_253 u_197 u_254) rfl rfl rfl (by decide +kernel) ⟨(Nat.le_of_ble_eq_true rfl), (Nat.le_of_ble_eq_true rfl)⟩) rfl hl.1 (by simp only [List.map_cons, List.map_nil, List.sum_cons, List.sum_nil, cq_cat]; exact Nat.le_of_ble_eq_true rfl) h_K_useField_169 (fun r22 σ21 H locs cells slots hw9 h9 => ?_)
              clear hw h; have hw := hw9; have h := h9; clear hw9 h9
              refine W.eq (g2 := F0 m 172 ls [.long r22, .int z3, va_rf b17]) rfl ?_
              obtain ⟨r23, e_r23, hw⟩ := hw
              subst e_r23
              have hl : lv_has ls 8 [(7, .int r13), (5, .long s0), (0, .ref a0), (1, .int z1), (2, .int z2), (3, .int z3), (4, .int z4)] := hl
              refine W.eq (g2 := F0 m 172 ls [.long r22, .int z3, .ref r23]) rfl ?_
              refine C_callSv (As := [.ref r23, .int z3, .long r22]) (rest := []) C h (X_K_pushTyped l dC dI ca H σ21 r23 z3 r22 hw) (va_cwS 3 hts (gS hsub u_322 u_323 u_260 u_324) rfl rfl rfl (by decide +kernel) ⟨(Nat.le_of_ble_eq_true rfl), (Nat.le_of_ble_eq_true rfl)⟩) rfl hl.1 (Nat.le_of_ble_eq_true rfl) h_K_useField_172 (fun σ24 H locs cells slots hw9 h9 => ?_)
              clear hw h; have hw := hw9; have h := h9; clear hw9 h9
              refine W.eq (g2 := F0 m 175 ls []) rfl ?_
              exact hend σ24 _ _ _ _ _ _ hw h h_K_useField_175
            · skip
              replace hw := hw.2 c15
              refine lv_aload_n hx hb h_K_useField_142 rfl (lv_at hl 2 rfl) ?_
              obtain ⟨g26, hw⟩ := hw
              refine C_get C h 2 0 (v := va_rf (σ12.2.2.2.1 a0 0)) g26 rfl (Cn := R_K) (T := T_K) (N := 14) rfl (by decide) rfl uw_K (by decide) u_213 (fun _ q => q) h_K_useField_143 ?_
              refine lv_topq (fun b27 e_b27 => ?_)
              replace hw := hw b27 e_b27
              refine lv_iload hx hb h_K_useField_146 (lv_at hl 0 rfl) ?_
              refine lv_iload_n hx hb h_K_useField_148 rfl (lv_at hl 4 rfl) ?_
              refine lv_lload hx hb h_K_useField_149 (lv_at hl 1 rfl) ?_
              obtain ⟨r28, e_r28, hw⟩ := hw
              subst e_r28
              have hl : lv_has ls 8 [(7, .int r13), (5, .long s0), (0, .ref a0), (1, .int z1), (2, .int z2), (3, .int z3), (4, .int z4)] := hl
              refine W.eq (g2 := F0 m 151 ls [.long s0, .int z2, .int r13, .ref r28]) rfl ?_
              obtain ⟨g29, hw⟩ := hw
              refine C_callVv (As := [.int r13, .int z2, .long s0]) (rest := []) C h (ci := 1) (Cn := R_H) (T := T_H) (N := 4) g29 rfl (by decide) (X_H_setValue l dC dI ca H σ12 r28 r13 z2 s0 hw) (cwV 3 hts (gV hsub u_291 u_292 u_293 u_197 u_294) rfl rfl rfl (by decide +kernel) ⟨(Nat.le_of_ble_eq_true rfl), (Nat.le_of_ble_eq_true rfl)⟩) rfl hl.1 (Nat.le_of_ble_eq_true rfl) h_K_useField_151 (fun σ30 H locs cells slots hw9 h9 => ?_)
              clear hw h; have hw := hw9; have h := h9; clear hw9 h9
              refine W.eq (g2 := F0 m 154 ls []) rfl ?_
              refine lv_goto (tgt := 175) hx hb h_K_useField_154 (by decide) ?_
              exact hend σ30 _ _ _ _ _ _ hw h h_K_useField_175
          · skip
            replace hw := hw.1 c14
            refine lv_aload_n hx hb h_K_useField_129 rfl (lv_at hl 2 rfl) ?_
            refine lv_iconst (v := 1) hx hb h_K_useField_130 (by decide) ?_
            obtain ⟨g32, hw⟩ := hw
            refine C_putz C h 2 7 g32 (Cn := R_K) (T := T_K) (N := 14) rfl (by decide) rfl uw_K tok_K nm_K (by decide) rfl u_255 (fun _ q => q) (Or.inl rfl) (by decide +kernel) (by decide) h_K_useField_131 (fun H locs h => ?_)
            obtain ⟨σ33, e_σ33⟩ : ∃ z : CST, z = sI σ12 a0 7 (1 : Int32) := ⟨_, rfl⟩
            rw [← e_σ33] at h
            replace hw := hw σ33 e_σ33
            refine lv_goto (tgt := 175) hx hb h_K_useField_134 (by decide) ?_
            exact hend σ33 _ _ _ _ _ _ hw h h_K_useField_175
        · skip
          replace hw := hw.1 c8
          refine lv_aload_n hx hb h_K_useField_104 rfl (lv_at hl 1 rfl) ?_
          refine C_get C h 2 1 (v := va_rf (σ.2.2.2.1 a0 1)) g1 rfl (Cn := R_K) (T := T_K) (N := 14) rfl (by decide) rfl uw_K (by decide) u_214 (fun _ q => q) h_K_useField_105 ?_
          refine lv_topq (fun b34 e_b34 => ?_)
          replace hw := hw b34 e_b34
          refine lv_iload_n hx hb h_K_useField_108 rfl (lv_at hl 3 rfl) ?_
          refine lv_lload hx hb h_K_useField_109 (lv_at hl 0 rfl) ?_
          obtain ⟨r35, e_r35, hw⟩ := hw
          subst e_r35
          have hl : lv_has ls 8 [(5, .long s0), (0, .ref a0), (1, .int z1), (2, .int z2), (3, .int z3), (4, .int z4)] := hl
          refine W.eq (g2 := F0 m 111 ls [.long s0, .int z2, .ref r35]) rfl ?_
          obtain ⟨n37, g36, hw⟩ := hw
          obtain ⟨g38, hw⟩ := hw
          refine C_last C h g36 g38 h_K_useField_111 (fun H locs h => ?_)
          obtain ⟨σ39, e_σ39⟩ : ∃ z : CST, z = sL σ r35 (z2 : Int32).toNatClampNeg s0 := ⟨_, rfl⟩
          rw [← e_σ39] at h
          replace hw := hw σ39 e_σ39
          refine lv_goto (tgt := 175) hx hb h_K_useField_112 (by decide) ?_
          exact hend σ39 _ _ _ _ _ _ hw h h_K_useField_175
      · skip
        replace hw := hw.1 c7
        refine lv_aload_n hx hb h_K_useField_80 rfl (lv_at hl 1 rfl) ?_
        refine C_get C h 2 5 (v := va_rf (σ.2.2.2.1 a0 5)) g1 rfl (Cn := R_K) (T := T_K) (N := 14) rfl (by decide) rfl uw_K (by decide) u_231 (fun _ q => q) h_K_useField_81 ?_
        refine lv_topq (fun b40 e_b40 => ?_)
        replace hw := hw b40 e_b40
        refine lv_iload_n hx hb h_K_useField_84 rfl (lv_at hl 4 rfl) ?_
        refine lv_aload_n hx hb h_K_useField_85 rfl (lv_at hl 1 rfl) ?_
        refine C_get C h 2 1 (v := va_rf (σ.2.2.2.1 a0 1)) g1 rfl (Cn := R_K) (T := T_K) (N := 14) rfl (by decide) rfl uw_K (by decide) u_214 (fun _ q => q) h_K_useField_86 ?_
        refine lv_topq (fun b41 e_b41 => ?_)
        replace hw := hw b41 e_b41
        refine lv_iload_n hx hb h_K_useField_89 rfl (lv_at hl 3 rfl) ?_
        obtain ⟨r42, e_r42, hw⟩ := hw
        subst e_r42
        have hl : lv_has ls 8 [(5, .long s0), (0, .ref a0), (1, .int z1), (2, .int z2), (3, .int z3), (4, .int z4)] := hl
        refine W.eq (g2 := F0 m 90 ls [.int z2, .ref r42, .int z3, va_rf b40]) rfl ?_
        obtain ⟨n44, g43, hw⟩ := hw
        obtain ⟨g45, hw⟩ := hw
        refine C_lald C h g43 g45 h_K_useField_90 ?_
        refine lv_topl (fun b46 e_b46 => ?_)
        replace hw := hw b46 e_b46
        obtain ⟨r47, e_r47, hw⟩ := hw
        subst e_r47
        have hl : lv_has ls 8 [(5, .long s0), (0, .ref a0), (1, .int z1), (2, .int z2), (3, .int z3), (4, .int z4)] := hl
        refine W.eq (g2 := F0 m 91 ls [.long b46, .int z3, .ref r47]) rfl ?_
        refine C_callSv (As := [.ref r47, .int z3, .long b46]) (rest := []) C h (X_K_pushTyped l dC dI ca H σ r47 z3 b46 hw) (va_cwS 3 hts (gS hsub u_322 u_323 u_260 u_324) rfl rfl rfl (by decide +kernel) ⟨(Nat.le_of_ble_eq_true rfl), (Nat.le_of_ble_eq_true rfl)⟩) rfl hl.1 (Nat.le_of_ble_eq_true rfl) h_K_useField_91 (fun σ48 H locs cells slots hw9 h9 => ?_)
        clear hw h; have hw := hw9; have h := h9; clear hw9 h9
        refine W.eq (g2 := F0 m 94 ls []) rfl ?_
        refine lv_goto (tgt := 175) hx hb h_K_useField_94 (by decide) ?_
        exact hend σ48 _ _ _ _ _ _ hw h h_K_useField_175
    · skip
      replace hw := hw.2 c6
      exact hend σ _ _ _ _ _ _ hw h h_K_useField_72
  have K_28 : ∀ (u9 : Unit), ∀ (z1 : Int32) (z2 : Int32) (z3 : Int32) (s0 : Int32) (σ : CST) (H : Heap) (locs : List Loc) (cells slots : Nat) (ls : Array Slot), x_K_useField_28 a0 P z1 z2 z3 s0 σ → CH (dC, dI) A ca ({ frames := 3, cells := σ0.2.2.2.2.1, slots := σ0.2.2.2.2.2.1, locals := 67 } : Room) σ0.2.2.2.2.2.2 σ s H locs cells slots → lv_has ls 8 [(0, .ref a0), (1, .int z1), (2, .int z2), (3, .int z3)] → W p l e ({ frames := 3, cells := σ0.2.2.2.2.1, slots := σ0.2.2.2.2.2.1, locals := 67 } : Room) s m ([.ref a0, .int x1, .int x2] : List Value).toArray below meth cx H locs cells slots Q (F0 m 28 ls [.int s0]) := by
    intro u9 z1 z2 z3 s0 σ H locs cells slots ls hw h hl
    unfold x_K_useField_28 at hw
    refine lv_istore (lv' := [(4, .int s0), (0, .ref a0), (1, .int z1), (2, .int z2), (3, .int z3)]) hx hb h_K_useField_28 hl (by decide) rfl (fun ls hl => ?_)
    refine lv_iload hx hb h_K_useField_30 (lv_at hl 0 rfl) ?_
    refine lv_if_ne (tgt := 39) hx hb h_K_useField_32 (by decide) (fun c50 => ?_) (fun c50 => ?_)
    · skip
      replace hw := hw.2 c50
      refine lv_iload_n hx hb h_K_useField_39 rfl (lv_at hl 4 rfl) ?_
      refine lv_iconst (v := 2) hx hb h_K_useField_40 (by decide) ?_
      refine lv_icmp_ne (tgt := 54) hx hb h_K_useField_41 (by decide) (fun c51 => ?_) (fun c51 => ?_)
      · skip
        replace hw := hw.2 c51
        refine lv_aload_n hx hb h_K_useField_54 rfl (lv_at hl 1 rfl) ?_
        obtain ⟨g52, hw⟩ := hw
        refine C_get C h 2 5 (v := va_rf (σ.2.2.2.1 a0 5)) g52 rfl (Cn := R_K) (T := T_K) (N := 14) rfl (by decide) rfl uw_K (by decide) u_231 (fun _ q => q) h_K_useField_55 ?_
        refine lv_topq (fun b53 e_b53 => ?_)
        replace hw := hw b53 e_b53
        obtain ⟨r54, e_r54, hw⟩ := hw
        subst e_r54
        have hl : lv_has ls 8 [(4, .int s0), (0, .ref a0), (1, .int z1), (2, .int z2), (3, .int z3)] := hl
        refine W.eq (g2 := F0 m 58 ls [.ref r54]) rfl ?_
        obtain ⟨g55, hw⟩ := hw
        refine C_callVl (As := []) (rest := []) C h (ci := 0) (Cn := R_C) (T := T_C) (N := 5) g55 rfl (by decide) (X_C_pop l dC dI ca H σ r54 hw) (cwV 0 hts (gV hsub u_270 u_15 u_16 u_12 u_17) rfl rfl rfl (by decide +kernel) ⟨(Nat.le_of_ble_eq_true rfl), (Nat.le_of_ble_eq_true rfl)⟩) rfl hl.1 (Nat.le_of_ble_eq_true rfl) h_K_useField_58 (fun r57 σ56 H locs cells slots hw9 h9 => ?_)
        clear hw h; have hw := hw9; have h := h9; clear hw9 h9
        refine W.eq (g2 := F0 m 61 ls [.long r57]) rfl ?_
        exact K_61 () z1 z2 z3 s0 r57 σ56 _ _ _ _ _ hw h (lv_sub hl [1, 2, 3, 4, 0] rfl)
      · skip
        replace hw := hw.1 c51
        refine lv_aload_n hx hb h_K_useField_44 rfl (lv_at hl 1 rfl) ?_
        obtain ⟨g58, hw⟩ := hw
        refine C_get C h 2 5 (v := va_rf (σ.2.2.2.1 a0 5)) g58 rfl (Cn := R_K) (T := T_K) (N := 14) rfl (by decide) rfl uw_K (by decide) u_231 (fun _ q => q) h_K_useField_45 ?_
        refine lv_topq (fun b59 e_b59 => ?_)
        replace hw := hw b59 e_b59
        obtain ⟨r60, e_r60, hw⟩ := hw
        subst e_r60
        have hl : lv_has ls 8 [(4, .int s0), (0, .ref a0), (1, .int z1), (2, .int z2), (3, .int z3)] := hl
        refine W.eq (g2 := F0 m 48 ls [.ref r60]) rfl ?_
        obtain ⟨g61, hw⟩ := hw
        refine C_callVl (As := []) (rest := []) C h (ci := 0) (Cn := R_C) (T := T_C) (N := 5) g61 rfl (by decide) (X_C_popLong l dC dI ca H σ r60 hw) (cwV 0 hts (gV hsub u_266 u_267 u_268 u_12 u_269) rfl rfl rfl (by decide +kernel) ⟨(Nat.le_of_ble_eq_true rfl), (Nat.le_of_ble_eq_true rfl)⟩) rfl hl.1 (Nat.le_of_ble_eq_true rfl) h_K_useField_48 (fun r63 σ62 H locs cells slots hw9 h9 => ?_)
        clear hw h; have hw := hw9; have h := h9; clear hw9 h9
        refine W.eq (g2 := F0 m 51 ls [.long r63]) rfl ?_
        refine lv_goto (tgt := 61) hx hb h_K_useField_51 (by decide) ?_
        exact K_61 () z1 z2 z3 s0 r63 σ62 _ _ _ _ _ hw h (lv_sub hl [1, 2, 3, 4, 0] rfl)
    · skip
      replace hw := hw.1 c50
      refine lv_lconst (v := 0) hx hb h_K_useField_35 (by decide) ?_
      refine lv_goto (tgt := 61) hx hb h_K_useField_36 (by decide) ?_
      exact K_61 () z1 z2 z3 s0 0 σ _ _ _ _ _ hw h (lv_sub hl [1, 2, 3, 4, 0] rfl)
  have K_23 : ∀ (u9 : Unit), ∀ (z1 : Int32) (z2 : Int32) (z3 : Int32) (σ : CST) (H : Heap) (locs : List Loc) (cells slots : Nat) (ls : Array Slot), x_K_useField_23 a0 P z1 z2 z3 σ → CH (dC, dI) A ca ({ frames := 3, cells := σ0.2.2.2.2.1, slots := σ0.2.2.2.2.2.1, locals := 67 } : Room) σ0.2.2.2.2.2.2 σ s H locs cells slots → lv_has ls 8 [(0, .ref a0), (1, .int z1), (2, .int z2), (3, .int z3)] → W p l e ({ frames := 3, cells := σ0.2.2.2.2.1, slots := σ0.2.2.2.2.2.1, locals := 67 } : Room) s m ([.ref a0, .int x1, .int x2] : List Value).toArray below meth cx H locs cells slots Q (F0 m 23 ls []) := by
    intro u9 z1 z2 z3 σ H locs cells slots ls hw h hl
    unfold x_K_useField_23 at hw
    refine lv_iconst (v := 1) hx hb h_K_useField_23 (by decide) ?_
    refine lv_goto (tgt := 28) hx hb h_K_useField_24 (by decide) ?_
    exact K_28 () z1 z2 z3 1 σ _ _ _ _ _ hw h (lv_sub hl [0, 1, 2, 3] rfl)
  have hl : lv_has ls 8 [(0, .ref a0), (1, .int x1), (2, .int x2)] := hl
  unfold x_K_useField at hw
  refine lv_aload_n hx hb h_K_useField_0 rfl (lv_at hl 0 rfl) ?_
  obtain ⟨g64, hw⟩ := hw
  refine C_get C h 2 3 (v := va_rf (σ0.2.2.2.1 a0 3)) g64 rfl (Cn := R_K) (T := T_K) (N := 14) rfl (by decide) rfl uw_K (by decide) u_282 (fun _ q => q) h_K_useField_1 ?_
  refine lv_topq (fun b65 e_b65 => ?_)
  replace hw := hw b65 e_b65
  refine lv_iload_n hx hb h_K_useField_4 rfl (lv_at hl 2 rfl) ?_
  obtain ⟨r66, e_r66, hw⟩ := hw
  subst e_r66
  have hl : lv_has ls 8 [(0, .ref a0), (1, .int x1), (2, .int x2)] := hl
  refine W.eq (g2 := F0 m 5 ls [.int x2, .ref r66]) rfl ?_
  obtain ⟨g67, hw⟩ := hw
  refine C_callVi (As := [.int x2]) (rest := []) C h (ci := 3) (Cn := R_W) (T := T_W) (N := 10) g67 rfl (by decide) (X_W_fieldType l dC dI ca s.heap σ0 r66 x2 hw) (cwV 1 hts (gV hsub u_333 u_334 u_335 u_51 u_336) rfl rfl rfl (by decide +kernel) ⟨(Nat.le_of_ble_eq_true rfl), (Nat.le_of_ble_eq_true rfl)⟩) rfl hl.1 (Nat.le_of_ble_eq_true rfl) h_K_useField_5 (fun r69 σ68 H locs cells slots hw9 h9 => ?_)
  clear hw h; have hw := hw9; have h := h9; clear hw9 h9
  refine W.eq (g2 := F0 m 8 ls [.int r69]) rfl ?_
  refine lv_istore_n (i := 3) (lv' := [(3, .int r69), (0, .ref a0), (1, .int x1), (2, .int x2)]) hx hb h_K_useField_8 rfl hl (by decide) rfl (fun ls hl => ?_)
  refine lv_iload_n hx hb h_K_useField_9 rfl (lv_at hl 2 rfl) ?_
  refine lv_sipush (v := 179) hx hb h_K_useField_10 (by decide) ?_
  refine lv_icmp_eq (tgt := 23) hx hb h_K_useField_13 (by decide) (fun c70 => ?_) (fun c70 => ?_)
  · skip
    replace hw := hw.1 c70
    exact K_23 () x1 x2 r69 σ68 _ _ _ _ _ hw h (lv_sub hl [1, 2, 3, 0] rfl)
  · skip
    replace hw := hw.2 c70
    refine lv_iload_n hx hb h_K_useField_16 rfl (lv_at hl 2 rfl) ?_
    refine lv_sipush (v := 181) hx hb h_K_useField_17 (by decide) ?_
    refine lv_icmp_ne (tgt := 27) hx hb h_K_useField_20 (by decide) (fun c71 => ?_) (fun c71 => ?_)
    · skip
      replace hw := hw.2 c71
      refine lv_iconst (v := 0) hx hb h_K_useField_27 (by decide) ?_
      exact K_28 () x1 x2 r69 0 σ68 _ _ _ _ _ hw h (lv_sub hl [1, 2, 3, 0] rfl)
    · skip
      replace hw := hw.1 c71
      exact K_23 () x1 x2 r69 σ68 _ _ _ _ _ hw h (lv_sub hl [1, 2, 3, 0] rfl)
abbrev g_W_methodAt : MethodName := ⟨"MapFramer$World", "methodAt", "(I)LMapFramer$Method;"⟩
theorem u_337 : (Cond.fieldLink "MapFramer$World" 52 "MapFramer$World" "methodCount" "I" : Cond) ∈ bigW := inB_1 64 (by decide +kernel) rfl
theorem u_338 : (Cond.fieldLink "MapFramer$World" 33 "MapFramer$World" "methods" "[LMapFramer$Method;" : Cond) ∈ bigW := inB_1 63 (by decide +kernel) rfl
theorem h_W_methodAt_0 : decode prog_12_method_7_code 0 = .ok (.iload_n 1, 1) := by decide +kernel
theorem h_W_methodAt_1 : decode prog_12_method_7_code 1 = .ok (.ifCond .lt 20, 3) := by decide +kernel
theorem h_W_methodAt_4 : decode prog_12_method_7_code 4 = .ok (.iload_n 1, 1) := by decide +kernel
theorem h_W_methodAt_5 : decode prog_12_method_7_code 5 = .ok (.aload_n 0, 1) := by decide +kernel
theorem h_W_methodAt_6 : decode prog_12_method_7_code 6 = .ok (.getfield 52, 3) := by decide +kernel
theorem h_W_methodAt_9 : decode prog_12_method_7_code 9 = .ok (.if_icmp .ge 12, 3) := by decide +kernel
theorem h_W_methodAt_12 : decode prog_12_method_7_code 12 = .ok (.aload_n 0, 1) := by decide +kernel
theorem h_W_methodAt_13 : decode prog_12_method_7_code 13 = .ok (.getfield 33, 3) := by decide +kernel
theorem h_W_methodAt_16 : decode prog_12_method_7_code 16 = .ok (.iload_n 1, 1) := by decide +kernel
theorem h_W_methodAt_17 : decode prog_12_method_7_code 17 = .ok (.aaload, 1) := by decide +kernel
theorem h_W_methodAt_18 : decode prog_12_method_7_code 18 = .ok (.goto 4, 3) := by decide +kernel
theorem h_W_methodAt_21 : decode prog_12_method_7_code 21 = .ok (.aconst_null, 1) := by decide +kernel
theorem h_W_methodAt_22 : decode prog_12_method_7_code 22 = .ok (.areturn, 1) := by decide +kernel
def x_W_methodAt_22 (a0 : Nat) (P : Option Nat → CST → Prop) (s0 : Option Nat) (σ : CST) : Prop := P s0 σ
def x_W_methodAt_21 (a0 : Nat) (P : Option Nat → CST → Prop) (σ : CST) : Prop := x_W_methodAt_22 a0 P none σ
def x_W_methodAt (a0 : Nat) (x1 : Int32) (σ0 : CST) (P : Option Nat → CST → Prop) : Prop := ((x1 < 0 → x_W_methodAt_21 a0 P σ0) ∧ (¬ x1 < 0 → σ0.1 a0 = some (3, 0) ∧ ((((σ0.2.1 a0 9) ≤ x1 → x_W_methodAt_21 a0 P σ0) ∧ (¬ (σ0.2.1 a0 9) ≤ x1 → ∀ b4 : Option Nat, b4 = (σ0.2.2.2.1 a0 8) → (∃ r5 : Nat, b4 = some r5 ∧ ((∃ n7 : Nat, σ0.1 r5 = some (24, n7) ∧ (vp_in x1 n7 ∧ (∀ b9 : Option Nat, b9 = (σ0.2.2.2.1 r5 (x1 : Int32).toNatClampNeg) → x_W_methodAt_22 a0 P b9 σ0))))))))))
set_option maxHeartbeats 4000000 in
set_option maxRecDepth 100000 in
theorem X_W_methodAt (l : Launch) (dC : Nat → ClassId) (dI : Nat → Nat → Nat) (ca : Nat → ClassId) (H0 : Heap) (σ0 : CST) (a0 : Nat) (x1 : Int32) {P : Option Nat → CST → Prop} (hw : x_W_methodAt a0 x1 σ0 P) : Met l g_W_methodAt (mW g_W_methodAt prog_12_method_7_code 2 (some (.object "MapFramer$Method"))) ({ frames := 0, cells := σ0.2.2.2.2.1, slots := σ0.2.2.2.2.2.1, locals := 0 } : Room) (va_Pc [.ref a0, .int x1] (CPre (dC, dI) ca σ0 H0)) (va_Qq P (CB (dC, dI) ca σ0 H0) (cA σ0 H0.size)) σ0.2.2.2.2.1 σ0.2.2.2.2.2.1 (cA σ0 H0.size) := by
  refine C_ofq (Or.inl ⟨_, rfl⟩) (by decide +kernel) rfl rfl rfl (Nat.le_of_ble_eq_true rfl) ?_
  intro p e s m below meth cx Q A ls C hnm hend hH0 h hl
  subst hH0
  have C0 := C
  obtain ⟨⟨hx, hb, hml, hown, hts⟩, hsub⟩ := C0
  obtain ⟨cells, e_cells⟩ : ∃ z : Nat, z = 0 := ⟨_, rfl⟩
  obtain ⟨slots, e_slots⟩ : ∃ z : Nat, z = 0 := ⟨_, rfl⟩
  have h : CH (dC, dI) A ca ({ frames := 0, cells := σ0.2.2.2.2.1, slots := σ0.2.2.2.2.2.1, locals := 0 } : Room) σ0.2.2.2.2.2.2 σ0 s s.heap [] cells slots := by rw [e_cells, e_slots]; exact h
  show W p l e ({ frames := 0, cells := σ0.2.2.2.2.1, slots := σ0.2.2.2.2.2.1, locals := 0 } : Room) s m ([.ref a0, .int x1] : List Value).toArray below meth cx s.heap [] 0 0 Q (F0 m 0 ls [])
  rw [show W p l e ({ frames := 0, cells := σ0.2.2.2.2.1, slots := σ0.2.2.2.2.2.1, locals := 0 } : Room) s m ([.ref a0, .int x1] : List Value).toArray below meth cx s.heap [] 0 0 Q (F0 m 0 ls []) = W p l e ({ frames := 0, cells := σ0.2.2.2.2.1, slots := σ0.2.2.2.2.2.1, locals := 0 } : Room) s m ([.ref a0, .int x1] : List Value).toArray below meth cx s.heap [] cells slots Q (F0 m 0 ls []) by rw [e_cells, e_slots]]
  have K_22 : ∀ (u9 : Unit), ∀ (s0 : Option Nat) (σ : CST) (H : Heap) (locs : List Loc) (cells slots : Nat) (ls : Array Slot), x_W_methodAt_22 a0 P s0 σ → CH (dC, dI) A ca ({ frames := 0, cells := σ0.2.2.2.2.1, slots := σ0.2.2.2.2.2.1, locals := 0 } : Room) σ0.2.2.2.2.2.2 σ s H locs cells slots → lv_has ls 2 [] → W p l e ({ frames := 0, cells := σ0.2.2.2.2.1, slots := σ0.2.2.2.2.2.1, locals := 0 } : Room) s m ([.ref a0, .int x1] : List Value).toArray below meth cx H locs cells slots Q (F0 m 22 ls [va_rf s0]) := by
    intro u9 s0 σ H locs cells slots ls hw h hl
    unfold x_W_methodAt_22 at hw
    exact hend s0 σ _ _ _ _ _ _ hw h h_W_methodAt_22
  have K_21 : ∀ (u9 : Unit), ∀ (σ : CST) (H : Heap) (locs : List Loc) (cells slots : Nat) (ls : Array Slot), x_W_methodAt_21 a0 P σ → CH (dC, dI) A ca ({ frames := 0, cells := σ0.2.2.2.2.1, slots := σ0.2.2.2.2.2.1, locals := 0 } : Room) σ0.2.2.2.2.2.2 σ s H locs cells slots → lv_has ls 2 [] → W p l e ({ frames := 0, cells := σ0.2.2.2.2.1, slots := σ0.2.2.2.2.2.1, locals := 0 } : Room) s m ([.ref a0, .int x1] : List Value).toArray below meth cx H locs cells slots Q (F0 m 21 ls []) := by
    intro u9  σ H locs cells slots ls hw h hl
    unfold x_W_methodAt_21 at hw
    refine lv_null hx hb h_W_methodAt_21 ?_
    exact K_22 () none σ _ _ _ _ _ hw h (lv_sub hl [] rfl)
  have hl : lv_has ls 2 [(0, .ref a0), (1, .int x1)] := hl
  unfold x_W_methodAt at hw
  refine lv_iload_n hx hb h_W_methodAt_0 rfl (lv_at hl 1 rfl) ?_
  refine lv_if_lt (tgt := 21) hx hb h_W_methodAt_1 (by decide) (fun c1 => ?_) (fun c1 => ?_)
  · skip
    replace hw := hw.1 c1
    exact K_21 () σ0 _ _ _ _ _ hw h (lv_sub hl [] rfl)
  · skip
    replace hw := hw.2 c1
    refine lv_iload_n hx hb h_W_methodAt_4 rfl (lv_at hl 1 rfl) ?_
    refine lv_aload_n hx hb h_W_methodAt_5 rfl (lv_at hl 0 rfl) ?_
    obtain ⟨g2, hw⟩ := hw
    refine C_get C h 3 9 (v := .int (σ0.2.1 a0 9)) g2 rfl (Cn := R_W) (T := T_W) (N := 10) rfl (by decide) rfl uw_W (by decide) u_337 (fun _ q => q) h_W_methodAt_6 ?_
    refine lv_icmp_ge (tgt := 21) hx hb h_W_methodAt_9 (by decide) (fun c3 => ?_) (fun c3 => ?_)
    · skip
      replace hw := hw.1 c3
      exact K_21 () σ0 _ _ _ _ _ hw h (lv_sub hl [] rfl)
    · skip
      replace hw := hw.2 c3
      refine lv_aload_n hx hb h_W_methodAt_12 rfl (lv_at hl 0 rfl) ?_
      refine C_get C h 3 8 (v := va_rf (σ0.2.2.2.1 a0 8)) g2 rfl (Cn := R_W) (T := T_W) (N := 10) rfl (by decide) rfl uw_W (by decide) u_338 (fun _ q => q) h_W_methodAt_13 ?_
      refine lv_topq (fun b4 e_b4 => ?_)
      replace hw := hw b4 e_b4
      refine lv_iload_n hx hb h_W_methodAt_16 rfl (lv_at hl 1 rfl) ?_
      obtain ⟨r5, e_r5, hw⟩ := hw
      subst e_r5
      have hl : lv_has ls 2 [(0, .ref a0), (1, .int x1)] := hl
      refine W.eq (g2 := F0 m 17 ls [.int x1, .ref r5]) rfl ?_
      obtain ⟨n7, g6, hw⟩ := hw
      obtain ⟨g8, hw⟩ := hw
      refine C_aald C h 24 3 rfl (by decide) g6 g8 h_W_methodAt_17 ?_
      refine lv_topq (fun b9 e_b9 => ?_)
      replace hw := hw b9 e_b9
      refine lv_goto (tgt := 22) hx hb h_W_methodAt_18 (by decide) ?_
      exact K_22 () b9 σ0 _ _ _ _ _ hw h (lv_sub hl [] rfl)
abbrev g_E_argumentWords : MethodName := ⟨"MapFramer$Method", "argumentWords", "()I"⟩
theorem u_339 : (Cond.methodLink "MapFramer$Method" 48 ⟨"MapFramer$World", "width", "(I)I"⟩ : Cond) ∈ bigW := inB_2 236 (by decide +kernel) rfl
theorem u_340 : (Cond.fieldLink "MapFramer$Method" 35 "MapFramer$Method" "arguments" "[I" : Cond) ∈ bigW := inB_2 157 (by decide +kernel) rfl
theorem h_E_argumentWords_0 : decode prog_7_method_4_code 0 = .ok (.iconst 0, 1) := by decide +kernel
theorem h_E_argumentWords_1 : decode prog_7_method_4_code 1 = .ok (.istore_n 1, 1) := by decide +kernel
theorem h_E_argumentWords_2 : decode prog_7_method_4_code 2 = .ok (.aload_n 0, 1) := by decide +kernel
theorem h_E_argumentWords_3 : decode prog_7_method_4_code 3 = .ok (.getfield 35, 3) := by decide +kernel
theorem h_E_argumentWords_6 : decode prog_7_method_4_code 6 = .ok (.astore_n 2, 1) := by decide +kernel
theorem h_E_argumentWords_7 : decode prog_7_method_4_code 7 = .ok (.aload_n 2, 1) := by decide +kernel
theorem h_E_argumentWords_8 : decode prog_7_method_4_code 8 = .ok (.arraylength, 1) := by decide +kernel
theorem h_E_argumentWords_9 : decode prog_7_method_4_code 9 = .ok (.istore_n 3, 1) := by decide +kernel
theorem h_E_argumentWords_10 : decode prog_7_method_4_code 10 = .ok (.iconst 0, 1) := by decide +kernel
theorem h_E_argumentWords_11 : decode prog_7_method_4_code 11 = .ok (.istore 4, 2) := by decide +kernel
theorem h_E_argumentWords_13 : decode prog_7_method_4_code 13 = .ok (.iload 4, 2) := by decide +kernel
theorem h_E_argumentWords_15 : decode prog_7_method_4_code 15 = .ok (.iload_n 3, 1) := by decide +kernel
theorem h_E_argumentWords_16 : decode prog_7_method_4_code 16 = .ok (.if_icmp .ge 23, 3) := by decide +kernel
theorem h_E_argumentWords_19 : decode prog_7_method_4_code 19 = .ok (.aload_n 2, 1) := by decide +kernel
theorem h_E_argumentWords_20 : decode prog_7_method_4_code 20 = .ok (.iload 4, 2) := by decide +kernel
theorem h_E_argumentWords_22 : decode prog_7_method_4_code 22 = .ok (.iaload, 1) := by decide +kernel
theorem h_E_argumentWords_23 : decode prog_7_method_4_code 23 = .ok (.istore 5, 2) := by decide +kernel
theorem h_E_argumentWords_25 : decode prog_7_method_4_code 25 = .ok (.iload_n 1, 1) := by decide +kernel
theorem h_E_argumentWords_26 : decode prog_7_method_4_code 26 = .ok (.iload 5, 2) := by decide +kernel
theorem h_E_argumentWords_28 : decode prog_7_method_4_code 28 = .ok (.invokestatic 48, 3) := by decide +kernel
theorem h_E_argumentWords_31 : decode prog_7_method_4_code 31 = .ok (.iadd, 1) := by decide +kernel
theorem h_E_argumentWords_32 : decode prog_7_method_4_code 32 = .ok (.istore_n 1, 1) := by decide +kernel
theorem h_E_argumentWords_33 : decode prog_7_method_4_code 33 = .ok (.iinc 4 1, 3) := by decide +kernel
theorem h_E_argumentWords_36 : decode prog_7_method_4_code 36 = .ok (.goto (-23), 3) := by decide +kernel
theorem h_E_argumentWords_39 : decode prog_7_method_4_code 39 = .ok (.iload_n 1, 1) := by decide +kernel
theorem h_E_argumentWords_40 : decode prog_7_method_4_code 40 = .ok (.ireturn, 1) := by decide +kernel
def x_E_argumentWords_13 (a0 : Nat) (P : Int32 → CST → Prop) : Nat → Int32 → Option Nat → Int32 → Int32 → CST → Prop
  | 0, _, _, _, _, _ => False
  | n + 1, z1, z2, z3, z4, σ => ((z3 ≤ z4 → P z1 σ) ∧ (¬ z3 ≤ z4 → (∃ r2 : Nat, z2 = some r2 ∧ ((∃ n4 : Nat, σ.1 r2 = some (20, n4) ∧ (vp_in z4 n4 ∧ (∀ b6 : Int32, b6 = (σ.2.1 r2 (z4 : Int32).toNatClampNeg) → x_W_width b6 σ (fun r8 σ7 => x_E_argumentWords_13 a0 P n (z1 + r8) (some r2) z3 (z4 + 1) σ7))))))))
def x_E_argumentWords (a0 : Nat) (σ0 : CST) (P : Int32 → CST → Prop) : Prop := σ0.1 a0 = some (5, 0) ∧ (∀ b10 : Option Nat, b10 = (σ0.2.2.2.1 a0 0) → (∃ r11 : Nat, b10 = some r11 ∧ ((∃ n13 : Nat, σ0.1 r11 = some (20, n13) ∧ ((∃ n9 : Nat, x_E_argumentWords_13 a0 P n9 0 (some r11) (Int32.ofNat n13) 0 σ0))))))
set_option maxHeartbeats 4000000 in
set_option maxRecDepth 100000 in
theorem X_E_argumentWords (l : Launch) (dC : Nat → ClassId) (dI : Nat → Nat → Nat) (ca : Nat → ClassId) (H0 : Heap) (σ0 : CST) (a0 : Nat) {P : Int32 → CST → Prop} (hw : x_E_argumentWords a0 σ0 P) : Met l g_E_argumentWords (mW g_E_argumentWords prog_7_method_4_code 6 (some .int)) ({ frames := 1, cells := σ0.2.2.2.2.1, slots := σ0.2.2.2.2.2.1, locals := 20 } : Room) (va_Pc [.ref a0] (CPre (dC, dI) ca σ0 H0)) (va_Qi P (CB (dC, dI) ca σ0 H0) (cA σ0 H0.size)) σ0.2.2.2.2.1 σ0.2.2.2.2.2.1 (cA σ0 H0.size) := by
  refine C_ofi (by decide +kernel) rfl rfl rfl (Nat.le_of_ble_eq_true rfl) ?_
  intro p e s m below meth cx Q A ls C hnm hend hH0 h hl
  subst hH0
  have C0 := C
  obtain ⟨⟨hx, hb, hml, hown, hts⟩, hsub⟩ := C0
  obtain ⟨cells, e_cells⟩ : ∃ z : Nat, z = 0 := ⟨_, rfl⟩
  obtain ⟨slots, e_slots⟩ : ∃ z : Nat, z = 0 := ⟨_, rfl⟩
  have h : CH (dC, dI) A ca ({ frames := 1, cells := σ0.2.2.2.2.1, slots := σ0.2.2.2.2.2.1, locals := 20 } : Room) σ0.2.2.2.2.2.2 σ0 s s.heap [] cells slots := by rw [e_cells, e_slots]; exact h
  show W p l e ({ frames := 1, cells := σ0.2.2.2.2.1, slots := σ0.2.2.2.2.2.1, locals := 20 } : Room) s m ([.ref a0] : List Value).toArray below meth cx s.heap [] 0 0 Q (F0 m 0 ls [])
  rw [show W p l e ({ frames := 1, cells := σ0.2.2.2.2.1, slots := σ0.2.2.2.2.2.1, locals := 20 } : Room) s m ([.ref a0] : List Value).toArray below meth cx s.heap [] 0 0 Q (F0 m 0 ls []) = W p l e ({ frames := 1, cells := σ0.2.2.2.2.1, slots := σ0.2.2.2.2.2.1, locals := 20 } : Room) s m ([.ref a0] : List Value).toArray below meth cx s.heap [] cells slots Q (F0 m 0 ls []) by rw [e_cells, e_slots]]
  have K_13 : ∀ (n : Nat), ∀ (z1 : Int32) (z2 : Option Nat) (z3 : Int32) (z4 : Int32) (σ : CST) (H : Heap) (locs : List Loc) (cells slots : Nat) (ls : Array Slot), x_E_argumentWords_13 a0 P n z1 z2 z3 z4 σ → CH (dC, dI) A ca ({ frames := 1, cells := σ0.2.2.2.2.1, slots := σ0.2.2.2.2.2.1, locals := 20 } : Room) σ0.2.2.2.2.2.2 σ s H locs cells slots → lv_has ls 6 [(1, .int z1), (2, va_rf z2), (3, .int z3), (4, .int z4)] → W p l e ({ frames := 1, cells := σ0.2.2.2.2.1, slots := σ0.2.2.2.2.2.1, locals := 20 } : Room) s m ([.ref a0] : List Value).toArray below meth cx H locs cells slots Q (F0 m 13 ls []) := by
    intro  n
    induction n with
    | zero => intro z1 z2 z3 z4 σ H locs cells slots ls hw h hl; unfold x_E_argumentWords_13 at hw; exact hw.elim
    | succ n ih =>
      intro z1 z2 z3 z4 σ H locs cells slots ls hw h hl
      unfold x_E_argumentWords_13 at hw
      refine lv_iload hx hb h_E_argumentWords_13 (lv_at hl 3 rfl) ?_
      refine lv_iload_n hx hb h_E_argumentWords_15 rfl (lv_at hl 2 rfl) ?_
      refine lv_icmp_ge (tgt := 39) hx hb h_E_argumentWords_16 (by decide) (fun c1 => ?_) (fun c1 => ?_)
      · skip
        replace hw := hw.1 c1
        refine lv_iload_n hx hb h_E_argumentWords_39 rfl (lv_at hl 0 rfl) ?_
        exact hend z1 σ _ _ _ _ _ _ hw h h_E_argumentWords_40
      · skip
        replace hw := hw.2 c1
        refine cq_aload_n hx hb h_E_argumentWords_19 rfl (lv_at hl 1 rfl) ?_
        refine lv_iload hx hb h_E_argumentWords_20 (lv_at hl 3 rfl) ?_
        obtain ⟨r2, e_r2, hw⟩ := hw
        subst e_r2
        have hl : lv_has ls 6 [(1, .int z1), (2, .ref r2), (3, .int z3), (4, .int z4)] := hl
        refine W.eq (g2 := F0 m 22 ls [.int z4, .ref r2]) rfl ?_
        obtain ⟨n4, g3, hw⟩ := hw
        obtain ⟨g5, hw⟩ := hw
        refine C_iald C h g3 g5 h_E_argumentWords_22 ?_
        refine lv_topi (fun b6 e_b6 => ?_)
        replace hw := hw b6 e_b6
        refine lv_istore (lv' := [(5, .int b6), (1, .int z1), (2, .ref r2), (3, .int z3), (4, .int z4)]) hx hb h_E_argumentWords_23 hl (by decide) rfl (fun ls hl => ?_)
        refine lv_iload_n hx hb h_E_argumentWords_25 rfl (lv_at hl 1 rfl) ?_
        refine lv_iload hx hb h_E_argumentWords_26 (lv_at hl 0 rfl) ?_
        refine C_callSi (As := [.int b6]) (rest := [.int z1]) C h (X_W_width l dC dI ca H σ b6 hw) (va_cwS 1 hts (gS hsub u_339 u_50 u_51 u_52) rfl rfl rfl (by decide +kernel) ⟨(Nat.le_of_ble_eq_true rfl), (Nat.le_of_ble_eq_true rfl)⟩) rfl hl.1 (Nat.le_of_ble_eq_true rfl) h_E_argumentWords_28 (fun r8 σ7 H locs cells slots hw9 h9 => ?_)
        clear hw h; have hw := hw9; have h := h9; clear hw9 h9
        refine W.eq (g2 := F0 m 31 ls [.int r8, .int z1]) rfl ?_
        refine lv_iadd hx hb h_E_argumentWords_31 ?_
        refine lv_istore_n (i := 1) (lv' := [(1, .int (z1 + r8)), (5, .int b6), (2, .ref r2), (3, .int z3), (4, .int z4)]) hx hb h_E_argumentWords_32 rfl hl (by decide) rfl (fun ls hl => ?_)
        refine lv_iinc (v := (z4 + 1)) (lv' := [(4, .int (z4 + 1)), (1, .int (z1 + r8)), (5, .int b6), (2, .ref r2), (3, .int z3)]) hx hb h_E_argumentWords_33 hl (k := 4) rfl (rfl) (by decide) rfl (fun ls hl => ?_)
        refine lv_goto (tgt := 13) hx hb h_E_argumentWords_36 (by decide) ?_
        exact ih (z1 + r8) (some r2) z3 (z4 + 1) σ7 _ _ _ _ _ hw h (lv_sub hl [1, 3, 4, 0] rfl)
  have hl : lv_has ls 6 [(0, .ref a0)] := hl
  unfold x_E_argumentWords at hw
  refine lv_iconst (v := 0) hx hb h_E_argumentWords_0 (by decide) ?_
  refine lv_istore_n (i := 1) (lv' := [(1, .int 0), (0, .ref a0)]) hx hb h_E_argumentWords_1 rfl hl (by decide) rfl (fun ls hl => ?_)
  refine lv_aload_n hx hb h_E_argumentWords_2 rfl (lv_at hl 1 rfl) ?_
  obtain ⟨g9, hw⟩ := hw
  refine C_get C h 5 0 (v := va_rf (σ0.2.2.2.1 a0 0)) g9 rfl (Cn := R_E) (T := T_E) (N := 13) rfl (by decide) rfl uw_E (by decide) u_340 (fun _ q => q) h_E_argumentWords_3 ?_
  refine lv_topq (fun b10 e_b10 => ?_)
  replace hw := hw b10 e_b10
  refine cq_astore_n (i := 2) (lv' := [(2, va_rf b10), (1, .int 0), (0, .ref a0)]) hx hb h_E_argumentWords_6 rfl hl (by decide) rfl (fun ls hl => ?_)
  refine cq_aload_n hx hb h_E_argumentWords_7 rfl (lv_at hl 0 rfl) ?_
  obtain ⟨r11, e_r11, hw⟩ := hw
  subst e_r11
  have hl : lv_has ls 6 [(2, .ref r11), (1, .int 0), (0, .ref a0)] := hl
  refine W.eq (g2 := F0 m 8 ls [.ref r11]) rfl ?_
  obtain ⟨n13, g12, hw⟩ := hw
  refine C_alen C h 20 0 rfl (by decide) g12 h_E_argumentWords_8 ?_
  refine lv_istore_n (i := 3) (lv' := [(3, .int (Int32.ofNat n13)), (2, .ref r11), (1, .int 0), (0, .ref a0)]) hx hb h_E_argumentWords_9 rfl hl (by decide) rfl (fun ls hl => ?_)
  refine lv_iconst (v := 0) hx hb h_E_argumentWords_10 (by decide) ?_
  refine lv_istore (lv' := [(4, .int 0), (3, .int (Int32.ofNat n13)), (2, .ref r11), (1, .int 0), (0, .ref a0)]) hx hb h_E_argumentWords_11 hl (by decide) rfl (fun ls hl => ?_)
  obtain ⟨n9, hw⟩ := hw
  exact K_13 n9 0 (some r11) (Int32.ofNat n13) 0 σ0 _ _ _ _ _ hw h (lv_sub hl [3, 2, 1, 0] rfl)
abbrev g_K_enter : MethodName := ⟨"MapFramer$Machine", "enter", "()V"⟩
theorem u_341 : (Cond.methodLink "MapFramer$Machine" 290 ⟨"MapFramer$World", "methodAt", "(I)LMapFramer$Method;"⟩ : Cond) ∈ bigW := inB_8 0 (by decide +kernel) rfl
theorem u_342 : (Cond.instanceMethod ⟨"MapFramer$World", "methodAt", "(I)LMapFramer$Method;"⟩ : Cond) ∈ bigW := inB_2 228 (by decide +kernel) rfl
theorem u_343 : (Cond.selects "MapFramer$World" ⟨"MapFramer$World", "methodAt", "(I)LMapFramer$Method;"⟩ ⟨"MapFramer$World", "methodAt", "(I)LMapFramer$Method;"⟩ : Cond) ∈ bigW := inB_2 229 (by decide +kernel) rfl
theorem u_344 : (Cond.code ⟨"MapFramer$World", "methodAt", "(I)LMapFramer$Method;"⟩ prog_12_method_7_code 2 (some (.object "MapFramer$Method")) : Cond) ∈ bigW := inB_2 230 rfl rfl
theorem u_345 : (Cond.methodLink "MapFramer$Machine" 65 ⟨"MapFramer$Call", "start", "(LMapFramer$Method;)V"⟩ : Cond) ∈ bigW := inB_7 94 (by decide +kernel) rfl
theorem u_346 : (Cond.instanceMethod ⟨"MapFramer$Call", "start", "(LMapFramer$Method;)V"⟩ : Cond) ∈ bigW := inB_7 95 (by decide +kernel) rfl
theorem u_347 : (Cond.selects "MapFramer$Call" ⟨"MapFramer$Call", "start", "(LMapFramer$Method;)V"⟩ ⟨"MapFramer$Call", "start", "(LMapFramer$Method;)V"⟩ : Cond) ∈ bigW := inB_7 96 (by decide +kernel) rfl
theorem u_348 : (Cond.code ⟨"MapFramer$Call", "start", "(LMapFramer$Method;)V"⟩ prog_2_method_2_code 2 none : Cond) ∈ bigW := inB_7 97 rfl rfl
theorem u_349 : (Cond.methodLink "MapFramer$Machine" 294 ⟨"MapFramer$Method", "argumentWords", "()I"⟩ : Cond) ∈ bigW := inB_8 1 (by decide +kernel) rfl
theorem u_350 : (Cond.instanceMethod ⟨"MapFramer$Method", "argumentWords", "()I"⟩ : Cond) ∈ bigW := inB_2 233 (by decide +kernel) rfl
theorem u_351 : (Cond.selects "MapFramer$Method" ⟨"MapFramer$Method", "argumentWords", "()I"⟩ ⟨"MapFramer$Method", "argumentWords", "()I"⟩ : Cond) ∈ bigW := inB_2 234 (by decide +kernel) rfl
theorem u_352 : (Cond.code ⟨"MapFramer$Method", "argumentWords", "()I"⟩ prog_7_method_4_code 6 (some .int) : Cond) ∈ bigW := inB_2 235 rfl rfl
theorem h_K_enter_0 : decode prog_6_method_25_code 0 = .ok (.aload_n 0, 1) := by decide +kernel
theorem h_K_enter_1 : decode prog_6_method_25_code 1 = .ok (.getfield 38, 3) := by decide +kernel
theorem h_K_enter_4 : decode prog_6_method_25_code 4 = .ok (.aload_n 0, 1) := by decide +kernel
theorem h_K_enter_5 : decode prog_6_method_25_code 5 = .ok (.invokevirtual 215, 3) := by decide +kernel
theorem h_K_enter_8 : decode prog_6_method_25_code 8 = .ok (.invokevirtual 290, 3) := by decide +kernel
theorem h_K_enter_11 : decode prog_6_method_25_code 11 = .ok (.astore_n 1, 1) := by decide +kernel
theorem h_K_enter_12 : decode prog_6_method_25_code 12 = .ok (.aload_n 1, 1) := by decide +kernel
theorem h_K_enter_13 : decode prog_6_method_25_code 13 = .ok (.ifnull 12, 3) := by decide +kernel
theorem h_K_enter_16 : decode prog_6_method_25_code 16 = .ok (.aload_n 0, 1) := by decide +kernel
theorem h_K_enter_17 : decode prog_6_method_25_code 17 = .ok (.getfield 62, 3) := by decide +kernel
theorem h_K_enter_20 : decode prog_6_method_25_code 20 = .ok (.bipush 24, 2) := by decide +kernel
theorem h_K_enter_22 : decode prog_6_method_25_code 22 = .ok (.if_icmp .lt 9, 3) := by decide +kernel
theorem h_K_enter_25 : decode prog_6_method_25_code 25 = .ok (.aload_n 0, 1) := by decide +kernel
theorem h_K_enter_26 : decode prog_6_method_25_code 26 = .ok (.iconst 3, 1) := by decide +kernel
theorem h_K_enter_27 : decode prog_6_method_25_code 27 = .ok (.putfield 30, 3) := by decide +kernel
theorem h_K_enter_30 : decode prog_6_method_25_code 30 = .ok (.return_, 1) := by decide +kernel
theorem h_K_enter_31 : decode prog_6_method_25_code 31 = .ok (.aload_n 0, 1) := by decide +kernel
theorem h_K_enter_32 : decode prog_6_method_25_code 32 = .ok (.getfield 26, 3) := by decide +kernel
theorem h_K_enter_35 : decode prog_6_method_25_code 35 = .ok (.aload_n 0, 1) := by decide +kernel
theorem h_K_enter_36 : decode prog_6_method_25_code 36 = .ok (.getfield 62, 3) := by decide +kernel
theorem h_K_enter_39 : decode prog_6_method_25_code 39 = .ok (.aaload, 1) := by decide +kernel
theorem h_K_enter_40 : decode prog_6_method_25_code 40 = .ok (.astore_n 2, 1) := by decide +kernel
theorem h_K_enter_41 : decode prog_6_method_25_code 41 = .ok (.aload_n 0, 1) := by decide +kernel
theorem h_K_enter_42 : decode prog_6_method_25_code 42 = .ok (.dup, 1) := by decide +kernel
theorem h_K_enter_43 : decode prog_6_method_25_code 43 = .ok (.getfield 62, 3) := by decide +kernel
theorem h_K_enter_46 : decode prog_6_method_25_code 46 = .ok (.iconst 1, 1) := by decide +kernel
theorem h_K_enter_47 : decode prog_6_method_25_code 47 = .ok (.iadd, 1) := by decide +kernel
theorem h_K_enter_48 : decode prog_6_method_25_code 48 = .ok (.putfield 62, 3) := by decide +kernel
theorem h_K_enter_51 : decode prog_6_method_25_code 51 = .ok (.aload_n 2, 1) := by decide +kernel
theorem h_K_enter_52 : decode prog_6_method_25_code 52 = .ok (.aload_n 1, 1) := by decide +kernel
theorem h_K_enter_53 : decode prog_6_method_25_code 53 = .ok (.invokevirtual 65, 3) := by decide +kernel
theorem h_K_enter_56 : decode prog_6_method_25_code 56 = .ok (.aload_n 1, 1) := by decide +kernel
theorem h_K_enter_57 : decode prog_6_method_25_code 57 = .ok (.invokevirtual 294, 3) := by decide +kernel
theorem h_K_enter_60 : decode prog_6_method_25_code 60 = .ok (.iconst 1, 1) := by decide +kernel
theorem h_K_enter_61 : decode prog_6_method_25_code 61 = .ok (.isub, 1) := by decide +kernel
theorem h_K_enter_62 : decode prog_6_method_25_code 62 = .ok (.istore_n 3, 1) := by decide +kernel
theorem h_K_enter_63 : decode prog_6_method_25_code 63 = .ok (.iload_n 3, 1) := by decide +kernel
theorem h_K_enter_64 : decode prog_6_method_25_code 64 = .ok (.ifCond .lt 21, 3) := by decide +kernel
theorem h_K_enter_67 : decode prog_6_method_25_code 67 = .ok (.aload_n 2, 1) := by decide +kernel
theorem h_K_enter_68 : decode prog_6_method_25_code 68 = .ok (.iload_n 3, 1) := by decide +kernel
theorem h_K_enter_69 : decode prog_6_method_25_code 69 = .ok (.aload_n 0, 1) := by decide +kernel
theorem h_K_enter_70 : decode prog_6_method_25_code 70 = .ok (.getfield 76, 3) := by decide +kernel
theorem h_K_enter_73 : decode prog_6_method_25_code 73 = .ok (.invokevirtual 245, 3) := by decide +kernel
theorem h_K_enter_76 : decode prog_6_method_25_code 76 = .ok (.invokevirtual 102, 3) := by decide +kernel
theorem h_K_enter_79 : decode prog_6_method_25_code 79 = .ok (.iinc 3 (-1), 3) := by decide +kernel
theorem h_K_enter_82 : decode prog_6_method_25_code 82 = .ok (.goto (-19), 3) := by decide +kernel
theorem h_K_enter_85 : decode prog_6_method_25_code 85 = .ok (.aload_n 0, 1) := by decide +kernel
theorem h_K_enter_86 : decode prog_6_method_25_code 86 = .ok (.aload_n 0, 1) := by decide +kernel
theorem h_K_enter_87 : decode prog_6_method_25_code 87 = .ok (.getfield 76, 3) := by decide +kernel
theorem h_K_enter_90 : decode prog_6_method_25_code 90 = .ok (.getfield 84, 3) := by decide +kernel
theorem h_K_enter_93 : decode prog_6_method_25_code 93 = .ok (.putfield 137, 3) := by decide +kernel
theorem h_K_enter_96 : decode prog_6_method_25_code 96 = .ok (.return_, 1) := by decide +kernel
def x_K_enter_25 (a0 : Nat) (P : CST → Prop) (σ : CST) : Prop := σ.1 a0 = some (2, 0) ∧ (∀ σ2 : CST, σ2 = sI σ a0 11 (3 : Int32) → P σ2)
def x_K_enter_63 (a0 : Nat) (P : CST → Prop) : Nat → Option Nat → Int32 → CST → Prop
  | 0, _, _, _ => False
  | n + 1, z2, z3, σ => ((z3 < 0 → σ.1 a0 = some (2, 0) ∧ (∀ b5 : Option Nat, b5 = (σ.2.2.2.1 a0 5) → (∃ r6 : Nat, b5 = some r6 ∧ (σ.1 r6 = some (0, 0) ∧ (∀ σ8 : CST, σ8 = sI σ a0 6 (σ.2.1 r6 1) → P σ8))))) ∧ (¬ z3 < 0 → σ.1 a0 = some (2, 0) ∧ (∀ b10 : Option Nat, b10 = (σ.2.2.2.1 a0 5) → (∃ r11 : Nat, b10 = some r11 ∧ (σ.1 r11 = some (0, 0) ∧ (x_C_pop r11 σ (fun r14 σ13 => (∃ r15 : Nat, z2 = some r15 ∧ (σ13.1 r15 = some (0, 0) ∧ (x_C_setLocal r15 z3 r14 σ13 (fun σ17 => x_K_enter_63 a0 P n (some r15) (z3 + (-1)) σ17)))))))))))
def x_K_enter (a0 : Nat) (σ0 : CST) (P : CST → Prop) : Prop := σ0.1 a0 = some (2, 0) ∧ (∀ b20 : Option Nat, b20 = (σ0.2.2.2.1 a0 3) → x_K_operand a0 σ0 (fun r22 σ21 => (∃ r23 : Nat, b20 = some r23 ∧ (σ21.1 r23 = some (3, 0) ∧ (x_W_methodAt r23 r22 σ21 (fun r26 σ25 => ((r26 = none → x_K_enter_25 a0 P σ25) ∧ (∀ r28 : Nat, r26 = some r28 → σ25.1 a0 = some (2, 0) ∧ ((((σ25.2.1 a0 4) < 24 → ∀ b31 : Option Nat, b31 = (σ25.2.2.2.1 a0 2) → (∃ r32 : Nat, b31 = some r32 ∧ ((∃ n34 : Nat, σ25.1 r32 = some (26, n34) ∧ (vp_in (σ25.2.1 a0 4) n34 ∧ (∀ b36 : Option Nat, b36 = (σ25.2.2.2.1 r32 ((σ25.2.1 a0 4) : Int32).toNatClampNeg) → ∀ σ37 : CST, σ37 = sI σ25 a0 4 ((σ25.2.1 a0 4) + 1) → (∃ r38 : Nat, b36 = some r38 ∧ (σ37.1 r38 = some (0, 0) ∧ (x_C_start r38 r28 σ37 (fun σ40 => σ40.1 r28 = some (5, 0) ∧ (x_E_argumentWords r28 σ40 (fun r44 σ43 => (∃ n9 : Nat, x_K_enter_63 a0 P n9 (some r38) (r44 - 1) σ43))))))))))))) ∧ (¬ (σ25.2.1 a0 4) < 24 → x_K_enter_25 a0 P σ25)))))))))))
set_option maxHeartbeats 4000000 in
set_option maxRecDepth 100000 in
theorem X_K_enter (l : Launch) (dC : Nat → ClassId) (dI : Nat → Nat → Nat) (ca : Nat → ClassId) (H0 : Heap) (σ0 : CST) (a0 : Nat) {P : CST → Prop} (hw : x_K_enter a0 σ0 P) : Met l g_K_enter (mW g_K_enter prog_6_method_25_code 4 none) ({ frames := 2, cells := σ0.2.2.2.2.1, slots := σ0.2.2.2.2.2.1, locals := 45 } : Room) (va_Pc [.ref a0] (CPre (dC, dI) ca σ0 H0)) (va_Qv P (CB (dC, dI) ca σ0 H0) (cA σ0 H0.size)) σ0.2.2.2.2.1 σ0.2.2.2.2.2.1 (cA σ0 H0.size) := by
  refine C_ofv (by decide +kernel) rfl rfl rfl (Nat.le_of_ble_eq_true rfl) ?_
  intro p e s m below meth cx Q A ls C hnm hend hH0 h hl
  subst hH0
  have C0 := C
  obtain ⟨⟨hx, hb, hml, hown, hts⟩, hsub⟩ := C0
  obtain ⟨cells, e_cells⟩ : ∃ z : Nat, z = 0 := ⟨_, rfl⟩
  obtain ⟨slots, e_slots⟩ : ∃ z : Nat, z = 0 := ⟨_, rfl⟩
  have h : CH (dC, dI) A ca ({ frames := 2, cells := σ0.2.2.2.2.1, slots := σ0.2.2.2.2.2.1, locals := 45 } : Room) σ0.2.2.2.2.2.2 σ0 s s.heap [] cells slots := by rw [e_cells, e_slots]; exact h
  show W p l e ({ frames := 2, cells := σ0.2.2.2.2.1, slots := σ0.2.2.2.2.2.1, locals := 45 } : Room) s m ([.ref a0] : List Value).toArray below meth cx s.heap [] 0 0 Q (F0 m 0 ls [])
  rw [show W p l e ({ frames := 2, cells := σ0.2.2.2.2.1, slots := σ0.2.2.2.2.2.1, locals := 45 } : Room) s m ([.ref a0] : List Value).toArray below meth cx s.heap [] 0 0 Q (F0 m 0 ls []) = W p l e ({ frames := 2, cells := σ0.2.2.2.2.1, slots := σ0.2.2.2.2.2.1, locals := 45 } : Room) s m ([.ref a0] : List Value).toArray below meth cx s.heap [] cells slots Q (F0 m 0 ls []) by rw [e_cells, e_slots]]
  have K_25 : ∀ (u9 : Unit), ∀ (σ : CST) (H : Heap) (locs : List Loc) (cells slots : Nat) (ls : Array Slot), x_K_enter_25 a0 P σ → CH (dC, dI) A ca ({ frames := 2, cells := σ0.2.2.2.2.1, slots := σ0.2.2.2.2.2.1, locals := 45 } : Room) σ0.2.2.2.2.2.2 σ s H locs cells slots → lv_has ls 4 [(0, .ref a0)] → W p l e ({ frames := 2, cells := σ0.2.2.2.2.1, slots := σ0.2.2.2.2.2.1, locals := 45 } : Room) s m ([.ref a0] : List Value).toArray below meth cx H locs cells slots Q (F0 m 25 ls []) := by
    intro u9  σ H locs cells slots ls hw h hl
    unfold x_K_enter_25 at hw
    refine lv_aload_n hx hb h_K_enter_25 rfl (lv_at hl 0 rfl) ?_
    refine lv_iconst (v := 3) hx hb h_K_enter_26 (by decide) ?_
    obtain ⟨g1, hw⟩ := hw
    refine C_puti C h 2 11 g1 (Cn := R_K) (T := T_K) (N := 14) rfl (by decide) rfl uw_K tok_K nm_K (by decide) rfl u_215 (fun _ q => q) (Or.inl rfl) (by decide +kernel) h_K_enter_27 (fun H locs h => ?_)
    obtain ⟨σ2, e_σ2⟩ : ∃ z : CST, z = sI σ a0 11 (3 : Int32) := ⟨_, rfl⟩
    rw [← e_σ2] at h
    replace hw := hw σ2 e_σ2
    exact hend σ2 _ _ _ _ _ _ hw h h_K_enter_30
  have K_63 : ∀ (n : Nat), ∀ (z2 : Option Nat) (z3 : Int32) (σ : CST) (H : Heap) (locs : List Loc) (cells slots : Nat) (ls : Array Slot), x_K_enter_63 a0 P n z2 z3 σ → CH (dC, dI) A ca ({ frames := 2, cells := σ0.2.2.2.2.1, slots := σ0.2.2.2.2.2.1, locals := 45 } : Room) σ0.2.2.2.2.2.2 σ s H locs cells slots → lv_has ls 4 [(0, .ref a0), (2, va_rf z2), (3, .int z3)] → W p l e ({ frames := 2, cells := σ0.2.2.2.2.1, slots := σ0.2.2.2.2.2.1, locals := 45 } : Room) s m ([.ref a0] : List Value).toArray below meth cx H locs cells slots Q (F0 m 63 ls []) := by
    intro  n
    induction n with
    | zero => intro z2 z3 σ H locs cells slots ls hw h hl; unfold x_K_enter_63 at hw; exact hw.elim
    | succ n ih =>
      intro z2 z3 σ H locs cells slots ls hw h hl
      unfold x_K_enter_63 at hw
      refine lv_iload_n hx hb h_K_enter_63 rfl (lv_at hl 2 rfl) ?_
      refine lv_if_lt (tgt := 85) hx hb h_K_enter_64 (by decide) (fun c3 => ?_) (fun c3 => ?_)
      · skip
        replace hw := hw.1 c3
        refine lv_aload_n hx hb h_K_enter_85 rfl (lv_at hl 0 rfl) ?_
        refine lv_aload_n hx hb h_K_enter_86 rfl (lv_at hl 0 rfl) ?_
        obtain ⟨g4, hw⟩ := hw
        refine C_get C h 2 5 (v := va_rf (σ.2.2.2.1 a0 5)) g4 rfl (Cn := R_K) (T := T_K) (N := 14) rfl (by decide) rfl uw_K (by decide) u_231 (fun _ q => q) h_K_enter_87 ?_
        refine lv_topq (fun b5 e_b5 => ?_)
        replace hw := hw b5 e_b5
        obtain ⟨r6, e_r6, hw⟩ := hw
        subst e_r6
        have hl : lv_has ls 4 [(0, .ref a0), (2, va_rf z2), (3, .int z3)] := hl
        refine W.eq (g2 := F0 m 90 ls [.ref r6, .ref a0]) rfl ?_
        obtain ⟨g7, hw⟩ := hw
        refine C_get C h 0 1 (v := .int (σ.2.1 r6 1)) g7 rfl (Cn := R_C) (T := T_C) (N := 5) rfl (by decide) rfl uw_C (by decide) u_237 (fun _ q => q) h_K_enter_90 ?_
        refine C_puti C h 2 6 g4 (Cn := R_K) (T := T_K) (N := 14) rfl (by decide) rfl uw_K tok_K nm_K (by decide) rfl u_316 (fun _ q => q) (Or.inl rfl) (by decide +kernel) h_K_enter_93 (fun H locs h => ?_)
        obtain ⟨σ8, e_σ8⟩ : ∃ z : CST, z = sI σ a0 6 (σ.2.1 r6 1) := ⟨_, rfl⟩
        rw [← e_σ8] at h
        replace hw := hw σ8 e_σ8
        exact hend σ8 _ _ _ _ _ _ hw h h_K_enter_96
      · skip
        replace hw := hw.2 c3
        refine cq_aload_n hx hb h_K_enter_67 rfl (lv_at hl 1 rfl) ?_
        refine lv_iload_n hx hb h_K_enter_68 rfl (lv_at hl 2 rfl) ?_
        refine lv_aload_n hx hb h_K_enter_69 rfl (lv_at hl 0 rfl) ?_
        obtain ⟨g9, hw⟩ := hw
        refine C_get C h 2 5 (v := va_rf (σ.2.2.2.1 a0 5)) g9 rfl (Cn := R_K) (T := T_K) (N := 14) rfl (by decide) rfl uw_K (by decide) u_231 (fun _ q => q) h_K_enter_70 ?_
        refine lv_topq (fun b10 e_b10 => ?_)
        replace hw := hw b10 e_b10
        obtain ⟨r11, e_r11, hw⟩ := hw
        subst e_r11
        have hl : lv_has ls 4 [(0, .ref a0), (2, va_rf z2), (3, .int z3)] := hl
        refine W.eq (g2 := F0 m 73 ls [.ref r11, .int z3, va_rf z2]) rfl ?_
        obtain ⟨g12, hw⟩ := hw
        refine C_callVl (As := []) (rest := [.int z3, va_rf z2]) C h (ci := 0) (Cn := R_C) (T := T_C) (N := 5) g12 rfl (by decide) (X_C_pop l dC dI ca H σ r11 hw) (cwV 0 hts (gV hsub u_270 u_15 u_16 u_12 u_17) rfl rfl rfl (by decide +kernel) ⟨(Nat.le_of_ble_eq_true rfl), (Nat.le_of_ble_eq_true rfl)⟩) rfl hl.1 (by simp only [List.map_cons, List.map_nil, List.sum_cons, List.sum_nil, cq_cat]; exact Nat.le_of_ble_eq_true rfl) h_K_enter_73 (fun r14 σ13 H locs cells slots hw9 h9 => ?_)
        clear hw h; have hw := hw9; have h := h9; clear hw9 h9
        refine W.eq (g2 := F0 m 76 ls [.long r14, .int z3, va_rf z2]) rfl ?_
        obtain ⟨r15, e_r15, hw⟩ := hw
        subst e_r15
        have hl : lv_has ls 4 [(0, .ref a0), (2, .ref r15), (3, .int z3)] := hl
        refine W.eq (g2 := F0 m 76 ls [.long r14, .int z3, .ref r15]) rfl ?_
        obtain ⟨g16, hw⟩ := hw
        refine C_callVv (As := [.int z3, .long r14]) (rest := []) C h (ci := 0) (Cn := R_C) (T := T_C) (N := 5) g16 rfl (by decide) (X_C_setLocal l dC dI ca H σ13 r15 z3 r14 hw) (cwV 2 hts (gV hsub u_217 u_218 u_219 u_12 u_220) rfl rfl rfl (by decide +kernel) ⟨(Nat.le_of_ble_eq_true rfl), (Nat.le_of_ble_eq_true rfl)⟩) rfl hl.1 (Nat.le_of_ble_eq_true rfl) h_K_enter_76 (fun σ17 H locs cells slots hw9 h9 => ?_)
        clear hw h; have hw := hw9; have h := h9; clear hw9 h9
        refine W.eq (g2 := F0 m 79 ls []) rfl ?_
        refine lv_iinc (v := (z3 + (-1))) (lv' := [(3, .int (z3 + (-1))), (0, .ref a0), (2, .ref r15)]) hx hb h_K_enter_79 hl (k := 2) rfl (rfl) (by decide) rfl (fun ls hl => ?_)
        refine lv_goto (tgt := 63) hx hb h_K_enter_82 (by decide) ?_
        exact ih (some r15) (z3 + (-1)) σ17 _ _ _ _ _ hw h (lv_sub hl [1, 2, 0] rfl)
  have hl : lv_has ls 4 [(0, .ref a0)] := hl
  unfold x_K_enter at hw
  refine lv_aload_n hx hb h_K_enter_0 rfl (lv_at hl 0 rfl) ?_
  obtain ⟨g19, hw⟩ := hw
  refine C_get C h 2 3 (v := va_rf (σ0.2.2.2.1 a0 3)) g19 rfl (Cn := R_K) (T := T_K) (N := 14) rfl (by decide) rfl uw_K (by decide) u_282 (fun _ q => q) h_K_enter_1 ?_
  refine lv_topq (fun b20 e_b20 => ?_)
  replace hw := hw b20 e_b20
  refine lv_aload_n hx hb h_K_enter_4 rfl (lv_at hl 0 rfl) ?_
  refine C_callVi (As := []) (rest := [va_rf b20]) C h (ci := 2) (Cn := R_K) (T := T_K) (N := 14) g19 rfl (by decide) (X_K_operand l dC dI ca s.heap σ0 a0 hw) (cwV 0 hts (gV hsub u_257 u_258 u_259 u_260 u_261) rfl rfl rfl (by decide +kernel) ⟨(Nat.le_of_ble_eq_true rfl), (Nat.le_of_ble_eq_true rfl)⟩) rfl hl.1 (by simp only [List.map_cons, List.map_nil, List.sum_cons, List.sum_nil, cq_cat]; exact Nat.le_of_ble_eq_true rfl) h_K_enter_5 (fun r22 σ21 H locs cells slots hw9 h9 => ?_)
  clear hw h; have hw := hw9; have h := h9; clear hw9 h9
  refine W.eq (g2 := F0 m 8 ls [.int r22, va_rf b20]) rfl ?_
  obtain ⟨r23, e_r23, hw⟩ := hw
  subst e_r23
  have hl : lv_has ls 4 [(0, .ref a0)] := hl
  refine W.eq (g2 := F0 m 8 ls [.int r22, .ref r23]) rfl ?_
  obtain ⟨g24, hw⟩ := hw
  refine C_callVq (As := [.int r22]) (rest := []) C h (ci := 3) (Cn := R_W) (T := T_W) (N := 10) g24 rfl (by decide) (X_W_methodAt l dC dI ca H σ21 r23 r22 hw) (cwV 1 hts (gV hsub u_341 u_342 u_343 u_51 u_344) rfl rfl rfl (by decide +kernel) ⟨(Nat.le_of_ble_eq_true rfl), (Nat.le_of_ble_eq_true rfl)⟩) rfl hl.1 (Nat.le_of_ble_eq_true rfl) h_K_enter_8 (fun r26 σ25 H locs cells slots hw9 h9 => ?_)
  clear hw h; have hw := hw9; have h := h9; clear hw9 h9
  refine W.eq (g2 := F0 m 11 ls [va_rf r26]) rfl ?_
  refine cq_astore_n (i := 1) (lv' := [(1, va_rf r26), (0, .ref a0)]) hx hb h_K_enter_11 rfl hl (by decide) rfl (fun ls hl => ?_)
  refine cq_aload_n hx hb h_K_enter_12 rfl (lv_at hl 0 rfl) ?_
  rcases cq_or r26 with c27 | ⟨r28, c27⟩
  · subst c27
    replace hw := hw.1 rfl
    have hl : lv_has ls 4 [(1, .null), (0, .ref a0)] := hl
    refine W.eq (g2 := F0 m 13 ls [.null]) rfl ?_
    refine lv_ifnullN (tgt := 25) hx hb h_K_enter_13 (by decide) ?_
    exact K_25 () σ25 _ _ _ _ _ hw h (lv_sub hl [1] rfl)
  · subst c27
    replace hw := hw.2 r28 rfl
    have hl : lv_has ls 4 [(1, .ref r28), (0, .ref a0)] := hl
    refine W.eq (g2 := F0 m 13 ls [.ref r28]) rfl ?_
    refine lv_ifnull hx hb h_K_enter_13 ?_
    refine lv_aload_n hx hb h_K_enter_16 rfl (lv_at hl 1 rfl) ?_
    obtain ⟨g29, hw⟩ := hw
    refine C_get C h 2 4 (v := .int (σ25.2.1 a0 4)) g29 rfl (Cn := R_K) (T := T_K) (N := 14) rfl (by decide) rfl uw_K (by decide) u_321 (fun _ q => q) h_K_enter_17 ?_
    refine lv_bipush (v := 24) hx hb h_K_enter_20 (by decide) ?_
    refine lv_icmp_lt (tgt := 31) hx hb h_K_enter_22 (by decide) (fun c30 => ?_) (fun c30 => ?_)
    · skip
      replace hw := hw.1 c30
      refine lv_aload_n hx hb h_K_enter_31 rfl (lv_at hl 1 rfl) ?_
      refine C_get C h 2 2 (v := va_rf (σ25.2.2.2.1 a0 2)) g29 rfl (Cn := R_K) (T := T_K) (N := 14) rfl (by decide) rfl uw_K (by decide) u_203 (fun _ q => q) h_K_enter_32 ?_
      refine lv_topq (fun b31 e_b31 => ?_)
      replace hw := hw b31 e_b31
      refine lv_aload_n hx hb h_K_enter_35 rfl (lv_at hl 1 rfl) ?_
      refine C_get C h 2 4 (v := .int (σ25.2.1 a0 4)) g29 rfl (Cn := R_K) (T := T_K) (N := 14) rfl (by decide) rfl uw_K (by decide) u_321 (fun _ q => q) h_K_enter_36 ?_
      obtain ⟨r32, e_r32, hw⟩ := hw
      subst e_r32
      have hl : lv_has ls 4 [(1, .ref r28), (0, .ref a0)] := hl
      refine W.eq (g2 := F0 m 39 ls [.int (σ25.2.1 a0 4), .ref r32]) rfl ?_
      obtain ⟨n34, g33, hw⟩ := hw
      obtain ⟨g35, hw⟩ := hw
      refine C_aald C h 26 5 rfl (by decide) g33 g35 h_K_enter_39 ?_
      refine lv_topq (fun b36 e_b36 => ?_)
      replace hw := hw b36 e_b36
      refine cq_astore_n (i := 2) (lv' := [(2, va_rf b36), (1, .ref r28), (0, .ref a0)]) hx hb h_K_enter_40 rfl hl (by decide) rfl (fun ls hl => ?_)
      refine lv_aload_n hx hb h_K_enter_41 rfl (lv_at hl 2 rfl) ?_
      refine lv_dup hx hb h_K_enter_42 rfl ?_
      refine C_get C h 2 4 (v := .int (σ25.2.1 a0 4)) g29 rfl (Cn := R_K) (T := T_K) (N := 14) rfl (by decide) rfl uw_K (by decide) u_321 (fun _ q => q) h_K_enter_43 ?_
      refine lv_iconst (v := 1) hx hb h_K_enter_46 (by decide) ?_
      refine lv_iadd hx hb h_K_enter_47 ?_
      refine C_puti C h 2 4 g29 (Cn := R_K) (T := T_K) (N := 14) rfl (by decide) rfl uw_K tok_K nm_K (by decide) rfl u_321 (fun _ q => q) (Or.inl rfl) (by decide +kernel) h_K_enter_48 (fun H locs h => ?_)
      obtain ⟨σ37, e_σ37⟩ : ∃ z : CST, z = sI σ25 a0 4 ((σ25.2.1 a0 4) + 1) := ⟨_, rfl⟩
      rw [← e_σ37] at h
      replace hw := hw σ37 e_σ37
      refine cq_aload_n hx hb h_K_enter_51 rfl (lv_at hl 0 rfl) ?_
      refine lv_aload_n hx hb h_K_enter_52 rfl (lv_at hl 1 rfl) ?_
      obtain ⟨r38, e_r38, hw⟩ := hw
      subst e_r38
      have hl : lv_has ls 4 [(2, .ref r38), (1, .ref r28), (0, .ref a0)] := hl
      refine W.eq (g2 := F0 m 53 ls [.ref r28, .ref r38]) rfl ?_
      obtain ⟨g39, hw⟩ := hw
      refine C_callVv (As := [.ref r28]) (rest := []) C h (ci := 0) (Cn := R_C) (T := T_C) (N := 5) g39 rfl (by decide) (X_C_start l dC dI ca H σ37 r38 r28 hw) (cwV 1 hts (gV hsub u_345 u_346 u_347 u_12 u_348) rfl rfl rfl (by decide +kernel) ⟨(Nat.le_of_ble_eq_true rfl), (Nat.le_of_ble_eq_true rfl)⟩) rfl hl.1 (Nat.le_of_ble_eq_true rfl) h_K_enter_53 (fun σ40 H locs cells slots hw9 h9 => ?_)
      clear hw h; have hw := hw9; have h := h9; clear hw9 h9
      refine W.eq (g2 := F0 m 56 ls []) rfl ?_
      refine lv_aload_n hx hb h_K_enter_56 rfl (lv_at hl 1 rfl) ?_
      obtain ⟨g42, hw⟩ := hw
      refine C_callVi (As := []) (rest := []) C h (ci := 5) (Cn := R_E) (T := T_E) (N := 13) g42 rfl (by decide) (X_E_argumentWords l dC dI ca H σ40 r28 hw) (cwV 0 hts (gV hsub u_349 u_350 u_351 u_229 u_352) rfl rfl rfl (by decide +kernel) ⟨(Nat.le_of_ble_eq_true rfl), (Nat.le_of_ble_eq_true rfl)⟩) rfl hl.1 (Nat.le_of_ble_eq_true rfl) h_K_enter_57 (fun r44 σ43 H locs cells slots hw9 h9 => ?_)
      clear hw h; have hw := hw9; have h := h9; clear hw9 h9
      refine W.eq (g2 := F0 m 60 ls [.int r44]) rfl ?_
      refine lv_iconst (v := 1) hx hb h_K_enter_60 (by decide) ?_
      refine lv_isub hx hb h_K_enter_61 ?_
      refine lv_istore_n (i := 3) (lv' := [(3, .int (r44 - 1)), (2, .ref r38), (1, .ref r28), (0, .ref a0)]) hx hb h_K_enter_62 rfl hl (by decide) rfl (fun ls hl => ?_)
      obtain ⟨n9, hw⟩ := hw
      exact K_63 n9 (some r38) (r44 - 1) σ43 _ _ _ _ _ hw h (lv_sub hl [3, 1, 0] rfl)
    · skip
      replace hw := hw.2 c30
      exact K_25 () σ25 _ _ _ _ _ hw h (lv_sub hl [1] rfl)
abbrev g_K_pushMade : MethodName := ⟨"MapFramer$Machine", "pushMade", "(II)V"⟩
theorem u_353 : (Cond.methodLink "MapFramer$Machine" 127 ⟨"MapFramer$Heap", "make", "(II)I"⟩ : Cond) ∈ bigW := inB_8 10 (by decide +kernel) rfl
theorem u_354 : (Cond.instanceMethod ⟨"MapFramer$Heap", "make", "(II)I"⟩ : Cond) ∈ bigW := inB_8 11 (by decide +kernel) rfl
theorem u_355 : (Cond.selects "MapFramer$Heap" ⟨"MapFramer$Heap", "make", "(II)I"⟩ ⟨"MapFramer$Heap", "make", "(II)I"⟩ : Cond) ∈ bigW := inB_8 12 (by decide +kernel) rfl
theorem u_356 : (Cond.code ⟨"MapFramer$Heap", "make", "(II)I"⟩ prog_5_method_2_code 3 (some .int) : Cond) ∈ bigW := inB_8 13 rfl rfl
theorem h_K_pushMade_0 : decode prog_6_method_28_code 0 = .ok (.aload_n 0, 1) := by decide +kernel
theorem h_K_pushMade_1 : decode prog_6_method_28_code 1 = .ok (.getfield 12, 3) := by decide +kernel
theorem h_K_pushMade_4 : decode prog_6_method_28_code 4 = .ok (.iload_n 1, 1) := by decide +kernel
theorem h_K_pushMade_5 : decode prog_6_method_28_code 5 = .ok (.iload_n 2, 1) := by decide +kernel
theorem h_K_pushMade_6 : decode prog_6_method_28_code 6 = .ok (.invokevirtual 127, 3) := by decide +kernel
theorem h_K_pushMade_9 : decode prog_6_method_28_code 9 = .ok (.istore_n 3, 1) := by decide +kernel
theorem h_K_pushMade_10 : decode prog_6_method_28_code 10 = .ok (.iload_n 3, 1) := by decide +kernel
theorem h_K_pushMade_11 : decode prog_6_method_28_code 11 = .ok (.ifCond .ne 11, 3) := by decide +kernel
theorem h_K_pushMade_14 : decode prog_6_method_28_code 14 = .ok (.aload_n 0, 1) := by decide +kernel
theorem h_K_pushMade_15 : decode prog_6_method_28_code 15 = .ok (.iconst 4, 1) := by decide +kernel
theorem h_K_pushMade_16 : decode prog_6_method_28_code 16 = .ok (.putfield 30, 3) := by decide +kernel
theorem h_K_pushMade_19 : decode prog_6_method_28_code 19 = .ok (.goto 12, 3) := by decide +kernel
theorem h_K_pushMade_22 : decode prog_6_method_28_code 22 = .ok (.aload_n 0, 1) := by decide +kernel
theorem h_K_pushMade_23 : decode prog_6_method_28_code 23 = .ok (.getfield 76, 3) := by decide +kernel
theorem h_K_pushMade_26 : decode prog_6_method_28_code 26 = .ok (.iload_n 3, 1) := by decide +kernel
theorem h_K_pushMade_27 : decode prog_6_method_28_code 27 = .ok (.i2l, 1) := by decide +kernel
theorem h_K_pushMade_28 : decode prog_6_method_28_code 28 = .ok (.invokevirtual 147, 3) := by decide +kernel
theorem h_K_pushMade_31 : decode prog_6_method_28_code 31 = .ok (.return_, 1) := by decide +kernel
def x_K_pushMade (a0 : Nat) (x1 : Int32) (x2 : Int32) (σ0 : CST) (P : CST → Prop) : Prop := σ0.1 a0 = some (2, 0) ∧ (∀ b2 : Option Nat, b2 = (σ0.2.2.2.1 a0 0) → (∃ r3 : Nat, b2 = some r3 ∧ (σ0.1 r3 = some (1, 0) ∧ (x_H_make r3 x1 x2 σ0 (fun r6 σ5 => ((r6 = 0 → σ5.1 a0 = some (2, 0) ∧ (∀ σ15 : CST, σ15 = sI σ5 a0 11 (4 : Int32) → P σ15)) ∧ (¬ r6 = 0 → σ5.1 a0 = some (2, 0) ∧ (∀ b9 : Option Nat, b9 = (σ5.2.2.2.1 a0 5) → (∃ r10 : Nat, b9 = some r10 ∧ (σ5.1 r10 = some (0, 0) ∧ (x_C_push r10 ((r6 : Int32).toInt64) σ5 (fun σ12 => P σ12))))))))))))
set_option maxHeartbeats 4000000 in
set_option maxRecDepth 100000 in
theorem X_K_pushMade (l : Launch) (dC : Nat → ClassId) (dI : Nat → Nat → Nat) (ca : Nat → ClassId) (H0 : Heap) (σ0 : CST) (a0 : Nat) (x1 : Int32) (x2 : Int32) {P : CST → Prop} (hw : x_K_pushMade a0 x1 x2 σ0 P) : Met l g_K_pushMade (mW g_K_pushMade prog_6_method_28_code 4 none) ({ frames := 3, cells := σ0.2.2.2.2.1, slots := σ0.2.2.2.2.2.1, locals := 69 } : Room) (va_Pc [.ref a0, .int x1, .int x2] (CPre (dC, dI) ca σ0 H0)) (va_Qv P (CB (dC, dI) ca σ0 H0) (cA σ0 H0.size)) σ0.2.2.2.2.1 σ0.2.2.2.2.2.1 (cA σ0 H0.size) := by
  refine C_ofv (by decide +kernel) rfl rfl rfl (Nat.le_of_ble_eq_true rfl) ?_
  intro p e s m below meth cx Q A ls C hnm hend hH0 h hl
  subst hH0
  have C0 := C
  obtain ⟨⟨hx, hb, hml, hown, hts⟩, hsub⟩ := C0
  obtain ⟨cells, e_cells⟩ : ∃ z : Nat, z = 0 := ⟨_, rfl⟩
  obtain ⟨slots, e_slots⟩ : ∃ z : Nat, z = 0 := ⟨_, rfl⟩
  have h : CH (dC, dI) A ca ({ frames := 3, cells := σ0.2.2.2.2.1, slots := σ0.2.2.2.2.2.1, locals := 69 } : Room) σ0.2.2.2.2.2.2 σ0 s s.heap [] cells slots := by rw [e_cells, e_slots]; exact h
  show W p l e ({ frames := 3, cells := σ0.2.2.2.2.1, slots := σ0.2.2.2.2.2.1, locals := 69 } : Room) s m ([.ref a0, .int x1, .int x2] : List Value).toArray below meth cx s.heap [] 0 0 Q (F0 m 0 ls [])
  rw [show W p l e ({ frames := 3, cells := σ0.2.2.2.2.1, slots := σ0.2.2.2.2.2.1, locals := 69 } : Room) s m ([.ref a0, .int x1, .int x2] : List Value).toArray below meth cx s.heap [] 0 0 Q (F0 m 0 ls []) = W p l e ({ frames := 3, cells := σ0.2.2.2.2.1, slots := σ0.2.2.2.2.2.1, locals := 69 } : Room) s m ([.ref a0, .int x1, .int x2] : List Value).toArray below meth cx s.heap [] cells slots Q (F0 m 0 ls []) by rw [e_cells, e_slots]]
  have hl : lv_has ls 4 [(0, .ref a0), (1, .int x1), (2, .int x2)] := hl
  unfold x_K_pushMade at hw
  refine lv_aload_n hx hb h_K_pushMade_0 rfl (lv_at hl 0 rfl) ?_
  obtain ⟨g1, hw⟩ := hw
  refine C_get C h 2 0 (v := va_rf (σ0.2.2.2.1 a0 0)) g1 rfl (Cn := R_K) (T := T_K) (N := 14) rfl (by decide) rfl uw_K (by decide) u_213 (fun _ q => q) h_K_pushMade_1 ?_
  refine lv_topq (fun b2 e_b2 => ?_)
  replace hw := hw b2 e_b2
  refine lv_iload_n hx hb h_K_pushMade_4 rfl (lv_at hl 1 rfl) ?_
  refine lv_iload_n hx hb h_K_pushMade_5 rfl (lv_at hl 2 rfl) ?_
  obtain ⟨r3, e_r3, hw⟩ := hw
  subst e_r3
  have hl : lv_has ls 4 [(0, .ref a0), (1, .int x1), (2, .int x2)] := hl
  refine W.eq (g2 := F0 m 6 ls [.int x2, .int x1, .ref r3]) rfl ?_
  obtain ⟨g4, hw⟩ := hw
  refine C_callVi (As := [.int x1, .int x2]) (rest := []) C h (ci := 1) (Cn := R_H) (T := T_H) (N := 4) g4 rfl (by decide) (X_H_make l dC dI ca s.heap σ0 r3 x1 x2 hw) (cwV 2 hts (gV hsub u_353 u_354 u_355 u_197 u_356) rfl rfl rfl (by decide +kernel) ⟨(Nat.le_of_ble_eq_true rfl), (Nat.le_of_ble_eq_true rfl)⟩) rfl hl.1 (Nat.le_of_ble_eq_true rfl) h_K_pushMade_6 (fun r6 σ5 H locs cells slots hw9 h9 => ?_)
  clear hw h; have hw := hw9; have h := h9; clear hw9 h9
  refine W.eq (g2 := F0 m 9 ls [.int r6]) rfl ?_
  refine lv_istore_n (i := 3) (lv' := [(3, .int r6), (0, .ref a0), (1, .int x1), (2, .int x2)]) hx hb h_K_pushMade_9 rfl hl (by decide) rfl (fun ls hl => ?_)
  refine lv_iload_n hx hb h_K_pushMade_10 rfl (lv_at hl 0 rfl) ?_
  refine lv_if_ne (tgt := 22) hx hb h_K_pushMade_11 (by decide) (fun c7 => ?_) (fun c7 => ?_)
  · skip
    replace hw := hw.2 c7
    refine lv_aload_n hx hb h_K_pushMade_22 rfl (lv_at hl 1 rfl) ?_
    obtain ⟨g8, hw⟩ := hw
    refine C_get C h 2 5 (v := va_rf (σ5.2.2.2.1 a0 5)) g8 rfl (Cn := R_K) (T := T_K) (N := 14) rfl (by decide) rfl uw_K (by decide) u_231 (fun _ q => q) h_K_pushMade_23 ?_
    refine lv_topq (fun b9 e_b9 => ?_)
    replace hw := hw b9 e_b9
    refine lv_iload_n hx hb h_K_pushMade_26 rfl (lv_at hl 0 rfl) ?_
    refine lv_i2l (v := (r6 : Int32).toInt64) hx hb h_K_pushMade_27 rfl ?_
    obtain ⟨r10, e_r10, hw⟩ := hw
    subst e_r10
    have hl : lv_has ls 4 [(3, .int r6), (0, .ref a0), (1, .int x1), (2, .int x2)] := hl
    refine W.eq (g2 := F0 m 28 ls [.long ((r6 : Int32).toInt64), .ref r10]) rfl ?_
    obtain ⟨g11, hw⟩ := hw
    refine C_callVv (As := [.long ((r6 : Int32).toInt64)]) (rest := []) C h (ci := 0) (Cn := R_C) (T := T_C) (N := 5) g11 rfl (by decide) (X_C_push l dC dI ca H σ5 r10 ((r6 : Int32).toInt64) hw) (cwV 1 hts (gV hsub u_232 u_10 u_11 u_12 u_13) rfl rfl rfl (by decide +kernel) ⟨(Nat.le_of_ble_eq_true rfl), (Nat.le_of_ble_eq_true rfl)⟩) rfl hl.1 (Nat.le_of_ble_eq_true rfl) h_K_pushMade_28 (fun σ12 H locs cells slots hw9 h9 => ?_)
    clear hw h; have hw := hw9; have h := h9; clear hw9 h9
    refine W.eq (g2 := F0 m 31 ls []) rfl ?_
    exact hend σ12 _ _ _ _ _ _ hw h h_K_pushMade_31
  · skip
    replace hw := hw.1 c7
    refine lv_aload_n hx hb h_K_pushMade_14 rfl (lv_at hl 1 rfl) ?_
    refine lv_iconst (v := 4) hx hb h_K_pushMade_15 (by decide) ?_
    obtain ⟨g14, hw⟩ := hw
    refine C_puti C h 2 11 g14 (Cn := R_K) (T := T_K) (N := 14) rfl (by decide) rfl uw_K tok_K nm_K (by decide) rfl u_215 (fun _ q => q) (Or.inl rfl) (by decide +kernel) h_K_pushMade_16 (fun H locs h => ?_)
    obtain ⟨σ15, e_σ15⟩ : ∃ z : CST, z = sI σ5 a0 11 (4 : Int32) := ⟨_, rfl⟩
    rw [← e_σ15] at h
    replace hw := hw σ15 e_σ15
    refine lv_goto (tgt := 31) hx hb h_K_pushMade_19 (by decide) ?_
    exact hend σ15 _ _ _ _ _ _ hw h h_K_pushMade_31
abbrev g_K_makeArray : MethodName := ⟨"MapFramer$Machine", "makeArray", "(I)V"⟩
theorem u_357 : (Cond.methodLink "MapFramer$Machine" 300 ⟨"MapFramer$Machine", "pushMade", "(II)V"⟩ : Cond) ∈ bigW := inB_8 6 (by decide +kernel) rfl
theorem u_358 : (Cond.instanceMethod ⟨"MapFramer$Machine", "pushMade", "(II)V"⟩ : Cond) ∈ bigW := inB_8 8 (by decide +kernel) rfl
theorem u_359 : (Cond.selects "MapFramer$Machine" ⟨"MapFramer$Machine", "pushMade", "(II)V"⟩ ⟨"MapFramer$Machine", "pushMade", "(II)V"⟩ : Cond) ∈ bigW := inS (y := ⟨"MapFramer$Machine", "pushMade", "(II)V"⟩) (n := 14) (List.mem_of_getElem? (i := 71) (by decide +kernel))
theorem u_360 : (Cond.code ⟨"MapFramer$Machine", "pushMade", "(II)V"⟩ prog_6_method_28_code 4 none : Cond) ∈ bigW := inB_8 9 rfl rfl
theorem h_K_makeArray_0 : decode prog_6_method_29_code 0 = .ok (.aload_n 0, 1) := by decide +kernel
theorem h_K_makeArray_1 : decode prog_6_method_29_code 1 = .ok (.getfield 76, 3) := by decide +kernel
theorem h_K_makeArray_4 : decode prog_6_method_29_code 4 = .ok (.invokevirtual 248, 3) := by decide +kernel
theorem h_K_makeArray_7 : decode prog_6_method_29_code 7 = .ok (.istore_n 2, 1) := by decide +kernel
theorem h_K_makeArray_8 : decode prog_6_method_29_code 8 = .ok (.iload_n 2, 1) := by decide +kernel
theorem h_K_makeArray_9 : decode prog_6_method_29_code 9 = .ok (.ifCond .lt 9, 3) := by decide +kernel
theorem h_K_makeArray_12 : decode prog_6_method_29_code 12 = .ok (.iload_n 2, 1) := by decide +kernel
theorem h_K_makeArray_13 : decode prog_6_method_29_code 13 = .ok (.bipush 24, 2) := by decide +kernel
theorem h_K_makeArray_15 : decode prog_6_method_29_code 15 = .ok (.if_icmp .le 11, 3) := by decide +kernel
theorem h_K_makeArray_18 : decode prog_6_method_29_code 18 = .ok (.aload_n 0, 1) := by decide +kernel
theorem h_K_makeArray_19 : decode prog_6_method_29_code 19 = .ok (.iconst 1, 1) := by decide +kernel
theorem h_K_makeArray_20 : decode prog_6_method_29_code 20 = .ok (.putfield 123, 3) := by decide +kernel
theorem h_K_makeArray_23 : decode prog_6_method_29_code 23 = .ok (.goto 9, 3) := by decide +kernel
theorem h_K_makeArray_26 : decode prog_6_method_29_code 26 = .ok (.aload_n 0, 1) := by decide +kernel
theorem h_K_makeArray_27 : decode prog_6_method_29_code 27 = .ok (.iload_n 1, 1) := by decide +kernel
theorem h_K_makeArray_28 : decode prog_6_method_29_code 28 = .ok (.iload_n 2, 1) := by decide +kernel
theorem h_K_makeArray_29 : decode prog_6_method_29_code 29 = .ok (.invokevirtual 300, 3) := by decide +kernel
theorem h_K_makeArray_32 : decode prog_6_method_29_code 32 = .ok (.return_, 1) := by decide +kernel
def x_K_makeArray_18 (a0 : Nat) (P : CST → Prop) (σ : CST) : Prop := σ.1 a0 = some (2, 0) ∧ (∀ σ2 : CST, σ2 = sI σ a0 7 (1 : Int32) → P σ2)
def x_K_makeArray (a0 : Nat) (x1 : Int32) (σ0 : CST) (P : CST → Prop) : Prop := σ0.1 a0 = some (2, 0) ∧ (∀ b4 : Option Nat, b4 = (σ0.2.2.2.1 a0 5) → (∃ r5 : Nat, b4 = some r5 ∧ (σ0.1 r5 = some (0, 0) ∧ (x_C_popInt r5 σ0 (fun r8 σ7 => ((r8 < 0 → x_K_makeArray_18 a0 P σ7) ∧ (¬ r8 < 0 → ((r8 ≤ 24 → σ7.1 a0 = some (2, 0) ∧ (x_K_pushMade a0 x1 r8 σ7 (fun σ12 => P σ12))) ∧ (¬ r8 ≤ 24 → x_K_makeArray_18 a0 P σ7)))))))))
set_option maxHeartbeats 4000000 in
set_option maxRecDepth 100000 in
theorem X_K_makeArray (l : Launch) (dC : Nat → ClassId) (dI : Nat → Nat → Nat) (ca : Nat → ClassId) (H0 : Heap) (σ0 : CST) (a0 : Nat) (x1 : Int32) {P : CST → Prop} (hw : x_K_makeArray a0 x1 σ0 P) : Met l g_K_makeArray (mW g_K_makeArray prog_6_method_29_code 3 none) ({ frames := 4, cells := σ0.2.2.2.2.1, slots := σ0.2.2.2.2.2.1, locals := 92 } : Room) (va_Pc [.ref a0, .int x1] (CPre (dC, dI) ca σ0 H0)) (va_Qv P (CB (dC, dI) ca σ0 H0) (cA σ0 H0.size)) σ0.2.2.2.2.1 σ0.2.2.2.2.2.1 (cA σ0 H0.size) := by
  refine C_ofv (by decide +kernel) rfl rfl rfl (Nat.le_of_ble_eq_true rfl) ?_
  intro p e s m below meth cx Q A ls C hnm hend hH0 h hl
  subst hH0
  have C0 := C
  obtain ⟨⟨hx, hb, hml, hown, hts⟩, hsub⟩ := C0
  obtain ⟨cells, e_cells⟩ : ∃ z : Nat, z = 0 := ⟨_, rfl⟩
  obtain ⟨slots, e_slots⟩ : ∃ z : Nat, z = 0 := ⟨_, rfl⟩
  have h : CH (dC, dI) A ca ({ frames := 4, cells := σ0.2.2.2.2.1, slots := σ0.2.2.2.2.2.1, locals := 92 } : Room) σ0.2.2.2.2.2.2 σ0 s s.heap [] cells slots := by rw [e_cells, e_slots]; exact h
  show W p l e ({ frames := 4, cells := σ0.2.2.2.2.1, slots := σ0.2.2.2.2.2.1, locals := 92 } : Room) s m ([.ref a0, .int x1] : List Value).toArray below meth cx s.heap [] 0 0 Q (F0 m 0 ls [])
  rw [show W p l e ({ frames := 4, cells := σ0.2.2.2.2.1, slots := σ0.2.2.2.2.2.1, locals := 92 } : Room) s m ([.ref a0, .int x1] : List Value).toArray below meth cx s.heap [] 0 0 Q (F0 m 0 ls []) = W p l e ({ frames := 4, cells := σ0.2.2.2.2.1, slots := σ0.2.2.2.2.2.1, locals := 92 } : Room) s m ([.ref a0, .int x1] : List Value).toArray below meth cx s.heap [] cells slots Q (F0 m 0 ls []) by rw [e_cells, e_slots]]
  have K_18 : ∀ (u9 : Unit), ∀ (σ : CST) (H : Heap) (locs : List Loc) (cells slots : Nat) (ls : Array Slot), x_K_makeArray_18 a0 P σ → CH (dC, dI) A ca ({ frames := 4, cells := σ0.2.2.2.2.1, slots := σ0.2.2.2.2.2.1, locals := 92 } : Room) σ0.2.2.2.2.2.2 σ s H locs cells slots → lv_has ls 3 [(0, .ref a0)] → W p l e ({ frames := 4, cells := σ0.2.2.2.2.1, slots := σ0.2.2.2.2.2.1, locals := 92 } : Room) s m ([.ref a0, .int x1] : List Value).toArray below meth cx H locs cells slots Q (F0 m 18 ls []) := by
    intro u9  σ H locs cells slots ls hw h hl
    unfold x_K_makeArray_18 at hw
    refine lv_aload_n hx hb h_K_makeArray_18 rfl (lv_at hl 0 rfl) ?_
    refine lv_iconst (v := 1) hx hb h_K_makeArray_19 (by decide) ?_
    obtain ⟨g1, hw⟩ := hw
    refine C_putz C h 2 7 g1 (Cn := R_K) (T := T_K) (N := 14) rfl (by decide) rfl uw_K tok_K nm_K (by decide) rfl u_255 (fun _ q => q) (Or.inl rfl) (by decide +kernel) (by decide) h_K_makeArray_20 (fun H locs h => ?_)
    obtain ⟨σ2, e_σ2⟩ : ∃ z : CST, z = sI σ a0 7 (1 : Int32) := ⟨_, rfl⟩
    rw [← e_σ2] at h
    replace hw := hw σ2 e_σ2
    refine lv_goto (tgt := 32) hx hb h_K_makeArray_23 (by decide) ?_
    exact hend σ2 _ _ _ _ _ _ hw h h_K_makeArray_32
  have hl : lv_has ls 3 [(0, .ref a0), (1, .int x1)] := hl
  unfold x_K_makeArray at hw
  refine lv_aload_n hx hb h_K_makeArray_0 rfl (lv_at hl 0 rfl) ?_
  obtain ⟨g3, hw⟩ := hw
  refine C_get C h 2 5 (v := va_rf (σ0.2.2.2.1 a0 5)) g3 rfl (Cn := R_K) (T := T_K) (N := 14) rfl (by decide) rfl uw_K (by decide) u_231 (fun _ q => q) h_K_makeArray_1 ?_
  refine lv_topq (fun b4 e_b4 => ?_)
  replace hw := hw b4 e_b4
  obtain ⟨r5, e_r5, hw⟩ := hw
  subst e_r5
  have hl : lv_has ls 3 [(0, .ref a0), (1, .int x1)] := hl
  refine W.eq (g2 := F0 m 4 ls [.ref r5]) rfl ?_
  obtain ⟨g6, hw⟩ := hw
  refine C_callVi (As := []) (rest := []) C h (ci := 0) (Cn := R_C) (T := T_C) (N := 5) g6 rfl (by decide) (X_C_popInt l dC dI ca s.heap σ0 r5 hw) (cwV 0 hts (gV hsub u_246 u_247 u_248 u_12 u_249) rfl rfl rfl (by decide +kernel) ⟨(Nat.le_of_ble_eq_true rfl), (Nat.le_of_ble_eq_true rfl)⟩) rfl hl.1 (Nat.le_of_ble_eq_true rfl) h_K_makeArray_4 (fun r8 σ7 H locs cells slots hw9 h9 => ?_)
  clear hw h; have hw := hw9; have h := h9; clear hw9 h9
  refine W.eq (g2 := F0 m 7 ls [.int r8]) rfl ?_
  refine lv_istore_n (i := 2) (lv' := [(2, .int r8), (0, .ref a0), (1, .int x1)]) hx hb h_K_makeArray_7 rfl hl (by decide) rfl (fun ls hl => ?_)
  refine lv_iload_n hx hb h_K_makeArray_8 rfl (lv_at hl 0 rfl) ?_
  refine lv_if_lt (tgt := 18) hx hb h_K_makeArray_9 (by decide) (fun c9 => ?_) (fun c9 => ?_)
  · skip
    replace hw := hw.1 c9
    exact K_18 () σ7 _ _ _ _ _ hw h (lv_sub hl [1] rfl)
  · skip
    replace hw := hw.2 c9
    refine lv_iload_n hx hb h_K_makeArray_12 rfl (lv_at hl 0 rfl) ?_
    refine lv_bipush (v := 24) hx hb h_K_makeArray_13 (by decide) ?_
    refine lv_icmp_le (tgt := 26) hx hb h_K_makeArray_15 (by decide) (fun c10 => ?_) (fun c10 => ?_)
    · skip
      replace hw := hw.1 c10
      refine lv_aload_n hx hb h_K_makeArray_26 rfl (lv_at hl 1 rfl) ?_
      refine lv_iload_n hx hb h_K_makeArray_27 rfl (lv_at hl 2 rfl) ?_
      refine lv_iload_n hx hb h_K_makeArray_28 rfl (lv_at hl 0 rfl) ?_
      obtain ⟨g11, hw⟩ := hw
      refine C_callVv (As := [.int x1, .int r8]) (rest := []) C h (ci := 2) (Cn := R_K) (T := T_K) (N := 14) g11 rfl (by decide) (X_K_pushMade l dC dI ca H σ7 a0 x1 r8 hw) (cwV 2 hts (gV hsub u_357 u_358 u_359 u_260 u_360) rfl rfl rfl (by decide +kernel) ⟨(Nat.le_of_ble_eq_true rfl), (Nat.le_of_ble_eq_true rfl)⟩) rfl hl.1 (Nat.le_of_ble_eq_true rfl) h_K_makeArray_29 (fun σ12 H locs cells slots hw9 h9 => ?_)
      clear hw h; have hw := hw9; have h := h9; clear hw9 h9
      refine W.eq (g2 := F0 m 32 ls []) rfl ?_
      exact hend σ12 _ _ _ _ _ _ hw h h_K_makeArray_32
    · skip
      replace hw := hw.2 c10
      exact K_18 () σ7 _ _ _ _ _ hw h (lv_sub hl [1] rfl)
abbrev g_K_pushLength : MethodName := ⟨"MapFramer$Machine", "pushLength", "()V"⟩
theorem u_361 : (Cond.methodLink "MapFramer$Machine" 312 ⟨"MapFramer$Heap", "lengthOf", "(I)I"⟩ : Cond) ∈ bigW := inB_8 25 (by decide +kernel) rfl
theorem h_K_pushLength_0 : decode prog_6_method_30_code 0 = .ok (.aload_n 0, 1) := by decide +kernel
theorem h_K_pushLength_1 : decode prog_6_method_30_code 1 = .ok (.getfield 76, 3) := by decide +kernel
theorem h_K_pushLength_4 : decode prog_6_method_30_code 4 = .ok (.invokevirtual 248, 3) := by decide +kernel
theorem h_K_pushLength_7 : decode prog_6_method_30_code 7 = .ok (.istore_n 1, 1) := by decide +kernel
theorem h_K_pushLength_8 : decode prog_6_method_30_code 8 = .ok (.iload_n 1, 1) := by decide +kernel
theorem h_K_pushLength_9 : decode prog_6_method_30_code 9 = .ok (.ifCond .ne 11, 3) := by decide +kernel
theorem h_K_pushLength_12 : decode prog_6_method_30_code 12 = .ok (.aload_n 0, 1) := by decide +kernel
theorem h_K_pushLength_13 : decode prog_6_method_30_code 13 = .ok (.iconst 1, 1) := by decide +kernel
theorem h_K_pushLength_14 : decode prog_6_method_30_code 14 = .ok (.putfield 123, 3) := by decide +kernel
theorem h_K_pushLength_17 : decode prog_6_method_30_code 17 = .ok (.goto 19, 3) := by decide +kernel
theorem h_K_pushLength_20 : decode prog_6_method_30_code 20 = .ok (.aload_n 0, 1) := by decide +kernel
theorem h_K_pushLength_21 : decode prog_6_method_30_code 21 = .ok (.getfield 76, 3) := by decide +kernel
theorem h_K_pushLength_24 : decode prog_6_method_30_code 24 = .ok (.aload_n 0, 1) := by decide +kernel
theorem h_K_pushLength_25 : decode prog_6_method_30_code 25 = .ok (.getfield 12, 3) := by decide +kernel
theorem h_K_pushLength_28 : decode prog_6_method_30_code 28 = .ok (.iload_n 1, 1) := by decide +kernel
theorem h_K_pushLength_29 : decode prog_6_method_30_code 29 = .ok (.invokevirtual 312, 3) := by decide +kernel
theorem h_K_pushLength_32 : decode prog_6_method_30_code 32 = .ok (.i2l, 1) := by decide +kernel
theorem h_K_pushLength_33 : decode prog_6_method_30_code 33 = .ok (.invokevirtual 147, 3) := by decide +kernel
theorem h_K_pushLength_36 : decode prog_6_method_30_code 36 = .ok (.return_, 1) := by decide +kernel
def x_K_pushLength (a0 : Nat) (σ0 : CST) (P : CST → Prop) : Prop := σ0.1 a0 = some (2, 0) ∧ (∀ b2 : Option Nat, b2 = (σ0.2.2.2.1 a0 5) → (∃ r3 : Nat, b2 = some r3 ∧ (σ0.1 r3 = some (0, 0) ∧ (x_C_popInt r3 σ0 (fun r6 σ5 => ((r6 = 0 → σ5.1 a0 = some (2, 0) ∧ (∀ σ20 : CST, σ20 = sI σ5 a0 7 (1 : Int32) → P σ20)) ∧ (¬ r6 = 0 → σ5.1 a0 = some (2, 0) ∧ (∀ b9 : Option Nat, b9 = (σ5.2.2.2.1 a0 5) → ∀ b10 : Option Nat, b10 = (σ5.2.2.2.1 a0 0) → (∃ r11 : Nat, b10 = some r11 ∧ (σ5.1 r11 = some (1, 0) ∧ (x_H_lengthOf r11 r6 σ5 (fun r14 σ13 => (∃ r15 : Nat, b9 = some r15 ∧ (σ13.1 r15 = some (0, 0) ∧ (x_C_push r15 ((r14 : Int32).toInt64) σ13 (fun σ17 => P σ17))))))))))))))))
set_option maxHeartbeats 4000000 in
set_option maxRecDepth 100000 in
theorem X_K_pushLength (l : Launch) (dC : Nat → ClassId) (dI : Nat → Nat → Nat) (ca : Nat → ClassId) (H0 : Heap) (σ0 : CST) (a0 : Nat) {P : CST → Prop} (hw : x_K_pushLength a0 σ0 P) : Met l g_K_pushLength (mW g_K_pushLength prog_6_method_30_code 2 none) ({ frames := 2, cells := σ0.2.2.2.2.1, slots := σ0.2.2.2.2.2.1, locals := 40 } : Room) (va_Pc [.ref a0] (CPre (dC, dI) ca σ0 H0)) (va_Qv P (CB (dC, dI) ca σ0 H0) (cA σ0 H0.size)) σ0.2.2.2.2.1 σ0.2.2.2.2.2.1 (cA σ0 H0.size) := by
  refine C_ofv (by decide +kernel) rfl rfl rfl (Nat.le_of_ble_eq_true rfl) ?_
  intro p e s m below meth cx Q A ls C hnm hend hH0 h hl
  subst hH0
  have C0 := C
  obtain ⟨⟨hx, hb, hml, hown, hts⟩, hsub⟩ := C0
  obtain ⟨cells, e_cells⟩ : ∃ z : Nat, z = 0 := ⟨_, rfl⟩
  obtain ⟨slots, e_slots⟩ : ∃ z : Nat, z = 0 := ⟨_, rfl⟩
  have h : CH (dC, dI) A ca ({ frames := 2, cells := σ0.2.2.2.2.1, slots := σ0.2.2.2.2.2.1, locals := 40 } : Room) σ0.2.2.2.2.2.2 σ0 s s.heap [] cells slots := by rw [e_cells, e_slots]; exact h
  show W p l e ({ frames := 2, cells := σ0.2.2.2.2.1, slots := σ0.2.2.2.2.2.1, locals := 40 } : Room) s m ([.ref a0] : List Value).toArray below meth cx s.heap [] 0 0 Q (F0 m 0 ls [])
  rw [show W p l e ({ frames := 2, cells := σ0.2.2.2.2.1, slots := σ0.2.2.2.2.2.1, locals := 40 } : Room) s m ([.ref a0] : List Value).toArray below meth cx s.heap [] 0 0 Q (F0 m 0 ls []) = W p l e ({ frames := 2, cells := σ0.2.2.2.2.1, slots := σ0.2.2.2.2.2.1, locals := 40 } : Room) s m ([.ref a0] : List Value).toArray below meth cx s.heap [] cells slots Q (F0 m 0 ls []) by rw [e_cells, e_slots]]
  have hl : lv_has ls 2 [(0, .ref a0)] := hl
  unfold x_K_pushLength at hw
  refine lv_aload_n hx hb h_K_pushLength_0 rfl (lv_at hl 0 rfl) ?_
  obtain ⟨g1, hw⟩ := hw
  refine C_get C h 2 5 (v := va_rf (σ0.2.2.2.1 a0 5)) g1 rfl (Cn := R_K) (T := T_K) (N := 14) rfl (by decide) rfl uw_K (by decide) u_231 (fun _ q => q) h_K_pushLength_1 ?_
  refine lv_topq (fun b2 e_b2 => ?_)
  replace hw := hw b2 e_b2
  obtain ⟨r3, e_r3, hw⟩ := hw
  subst e_r3
  have hl : lv_has ls 2 [(0, .ref a0)] := hl
  refine W.eq (g2 := F0 m 4 ls [.ref r3]) rfl ?_
  obtain ⟨g4, hw⟩ := hw
  refine C_callVi (As := []) (rest := []) C h (ci := 0) (Cn := R_C) (T := T_C) (N := 5) g4 rfl (by decide) (X_C_popInt l dC dI ca s.heap σ0 r3 hw) (cwV 0 hts (gV hsub u_246 u_247 u_248 u_12 u_249) rfl rfl rfl (by decide +kernel) ⟨(Nat.le_of_ble_eq_true rfl), (Nat.le_of_ble_eq_true rfl)⟩) rfl hl.1 (Nat.le_of_ble_eq_true rfl) h_K_pushLength_4 (fun r6 σ5 H locs cells slots hw9 h9 => ?_)
  clear hw h; have hw := hw9; have h := h9; clear hw9 h9
  refine W.eq (g2 := F0 m 7 ls [.int r6]) rfl ?_
  refine lv_istore_n (i := 1) (lv' := [(1, .int r6), (0, .ref a0)]) hx hb h_K_pushLength_7 rfl hl (by decide) rfl (fun ls hl => ?_)
  refine lv_iload_n hx hb h_K_pushLength_8 rfl (lv_at hl 0 rfl) ?_
  refine lv_if_ne (tgt := 20) hx hb h_K_pushLength_9 (by decide) (fun c7 => ?_) (fun c7 => ?_)
  · skip
    replace hw := hw.2 c7
    refine lv_aload_n hx hb h_K_pushLength_20 rfl (lv_at hl 1 rfl) ?_
    obtain ⟨g8, hw⟩ := hw
    refine C_get C h 2 5 (v := va_rf (σ5.2.2.2.1 a0 5)) g8 rfl (Cn := R_K) (T := T_K) (N := 14) rfl (by decide) rfl uw_K (by decide) u_231 (fun _ q => q) h_K_pushLength_21 ?_
    refine lv_topq (fun b9 e_b9 => ?_)
    replace hw := hw b9 e_b9
    refine lv_aload_n hx hb h_K_pushLength_24 rfl (lv_at hl 1 rfl) ?_
    refine C_get C h 2 0 (v := va_rf (σ5.2.2.2.1 a0 0)) g8 rfl (Cn := R_K) (T := T_K) (N := 14) rfl (by decide) rfl uw_K (by decide) u_213 (fun _ q => q) h_K_pushLength_25 ?_
    refine lv_topq (fun b10 e_b10 => ?_)
    replace hw := hw b10 e_b10
    refine lv_iload_n hx hb h_K_pushLength_28 rfl (lv_at hl 0 rfl) ?_
    obtain ⟨r11, e_r11, hw⟩ := hw
    subst e_r11
    have hl : lv_has ls 2 [(1, .int r6), (0, .ref a0)] := hl
    refine W.eq (g2 := F0 m 29 ls [.int r6, .ref r11, va_rf b9]) rfl ?_
    obtain ⟨g12, hw⟩ := hw
    refine C_callVi (As := [.int r6]) (rest := [va_rf b9]) C h (ci := 1) (Cn := R_H) (T := T_H) (N := 4) g12 rfl (by decide) (X_H_lengthOf l dC dI ca H σ5 r11 r6 hw) (cwV 1 hts (gV hsub u_361 u_195 u_196 u_197 u_198) rfl rfl rfl (by decide +kernel) ⟨(Nat.le_of_ble_eq_true rfl), (Nat.le_of_ble_eq_true rfl)⟩) rfl hl.1 (by simp only [List.map_cons, List.map_nil, List.sum_cons, List.sum_nil, cq_cat]; exact Nat.le_of_ble_eq_true rfl) h_K_pushLength_29 (fun r14 σ13 H locs cells slots hw9 h9 => ?_)
    clear hw h; have hw := hw9; have h := h9; clear hw9 h9
    refine W.eq (g2 := F0 m 32 ls [.int r14, va_rf b9]) rfl ?_
    refine lv_i2l (v := (r14 : Int32).toInt64) hx hb h_K_pushLength_32 rfl ?_
    obtain ⟨r15, e_r15, hw⟩ := hw
    subst e_r15
    have hl : lv_has ls 2 [(1, .int r6), (0, .ref a0)] := hl
    refine W.eq (g2 := F0 m 33 ls [.long ((r14 : Int32).toInt64), .ref r15]) rfl ?_
    obtain ⟨g16, hw⟩ := hw
    refine C_callVv (As := [.long ((r14 : Int32).toInt64)]) (rest := []) C h (ci := 0) (Cn := R_C) (T := T_C) (N := 5) g16 rfl (by decide) (X_C_push l dC dI ca H σ13 r15 ((r14 : Int32).toInt64) hw) (cwV 1 hts (gV hsub u_232 u_10 u_11 u_12 u_13) rfl rfl rfl (by decide +kernel) ⟨(Nat.le_of_ble_eq_true rfl), (Nat.le_of_ble_eq_true rfl)⟩) rfl hl.1 (Nat.le_of_ble_eq_true rfl) h_K_pushLength_33 (fun σ17 H locs cells slots hw9 h9 => ?_)
    clear hw h; have hw := hw9; have h := h9; clear hw9 h9
    refine W.eq (g2 := F0 m 36 ls []) rfl ?_
    exact hend σ17 _ _ _ _ _ _ hw h h_K_pushLength_36
  · skip
    replace hw := hw.1 c7
    refine lv_aload_n hx hb h_K_pushLength_12 rfl (lv_at hl 1 rfl) ?_
    refine lv_iconst (v := 1) hx hb h_K_pushLength_13 (by decide) ?_
    obtain ⟨g19, hw⟩ := hw
    refine C_putz C h 2 7 g19 (Cn := R_K) (T := T_K) (N := 14) rfl (by decide) rfl uw_K tok_K nm_K (by decide) rfl u_255 (fun _ q => q) (Or.inl rfl) (by decide +kernel) (by decide) h_K_pushLength_14 (fun H locs h => ?_)
    obtain ⟨σ20, e_σ20⟩ : ∃ z : CST, z = sI σ5 a0 7 (1 : Int32) := ⟨_, rfl⟩
    rw [← e_σ20] at h
    replace hw := hw σ20 e_σ20
    refine lv_goto (tgt := 36) hx hb h_K_pushLength_17 (by decide) ?_
    exact hend σ20 _ _ _ _ _ _ hw h h_K_pushLength_36
abbrev g_K_cast : MethodName := ⟨"MapFramer$Machine", "cast", "()V"⟩
theorem h_K_cast_0 : decode prog_6_method_31_code 0 = .ok (.aload_n 0, 1) := by decide +kernel
theorem h_K_cast_1 : decode prog_6_method_31_code 1 = .ok (.getfield 76, 3) := by decide +kernel
theorem h_K_cast_4 : decode prog_6_method_31_code 4 = .ok (.invokevirtual 248, 3) := by decide +kernel
theorem h_K_cast_7 : decode prog_6_method_31_code 7 = .ok (.istore_n 1, 1) := by decide +kernel
theorem h_K_cast_8 : decode prog_6_method_31_code 8 = .ok (.aload_n 0, 1) := by decide +kernel
theorem h_K_cast_9 : decode prog_6_method_31_code 9 = .ok (.iload_n 1, 1) := by decide +kernel
theorem h_K_cast_10 : decode prog_6_method_31_code 10 = .ok (.bipush 32, 2) := by decide +kernel
theorem h_K_cast_12 : decode prog_6_method_31_code 12 = .ok (.aload_n 0, 1) := by decide +kernel
theorem h_K_cast_13 : decode prog_6_method_31_code 13 = .ok (.invokevirtual 215, 3) := by decide +kernel
theorem h_K_cast_16 : decode prog_6_method_31_code 16 = .ok (.iadd, 1) := by decide +kernel
theorem h_K_cast_17 : decode prog_6_method_31_code 17 = .ok (.invokevirtual 258, 3) := by decide +kernel
theorem h_K_cast_20 : decode prog_6_method_31_code 20 = .ok (.ifCond .eq 15, 3) := by decide +kernel
theorem h_K_cast_23 : decode prog_6_method_31_code 23 = .ok (.aload_n 0, 1) := by decide +kernel
theorem h_K_cast_24 : decode prog_6_method_31_code 24 = .ok (.getfield 76, 3) := by decide +kernel
theorem h_K_cast_27 : decode prog_6_method_31_code 27 = .ok (.iload_n 1, 1) := by decide +kernel
theorem h_K_cast_28 : decode prog_6_method_31_code 28 = .ok (.i2l, 1) := by decide +kernel
theorem h_K_cast_29 : decode prog_6_method_31_code 29 = .ok (.invokevirtual 147, 3) := by decide +kernel
theorem h_K_cast_32 : decode prog_6_method_31_code 32 = .ok (.goto 8, 3) := by decide +kernel
theorem h_K_cast_35 : decode prog_6_method_31_code 35 = .ok (.aload_n 0, 1) := by decide +kernel
theorem h_K_cast_36 : decode prog_6_method_31_code 36 = .ok (.iconst 1, 1) := by decide +kernel
theorem h_K_cast_37 : decode prog_6_method_31_code 37 = .ok (.putfield 123, 3) := by decide +kernel
theorem h_K_cast_40 : decode prog_6_method_31_code 40 = .ok (.return_, 1) := by decide +kernel
def x_K_cast (a0 : Nat) (σ0 : CST) (P : CST → Prop) : Prop := σ0.1 a0 = some (2, 0) ∧ (∀ b2 : Option Nat, b2 = (σ0.2.2.2.1 a0 5) → (∃ r3 : Nat, b2 = some r3 ∧ (σ0.1 r3 = some (0, 0) ∧ (x_C_popInt r3 σ0 (fun r6 σ5 => σ5.1 a0 = some (2, 0) ∧ (x_K_operand a0 σ5 (fun r9 σ8 => σ8.1 a0 = some (2, 0) ∧ (x_K_isOf a0 r6 ((32 : Int32) + r9) σ8 (fun r12 σ11 => ((r12 = 0 → σ11.1 a0 = some (2, 0) ∧ (∀ σ15 : CST, σ15 = sI σ11 a0 7 (1 : Int32) → P σ15)) ∧ (¬ r12 = 0 → σ11.1 a0 = some (2, 0) ∧ (∀ b17 : Option Nat, b17 = (σ11.2.2.2.1 a0 5) → (∃ r18 : Nat, b17 = some r18 ∧ (σ11.1 r18 = some (0, 0) ∧ (x_C_push r18 ((r6 : Int32).toInt64) σ11 (fun σ20 => P σ20))))))))))))))))
set_option maxHeartbeats 4000000 in
set_option maxRecDepth 100000 in
theorem X_K_cast (l : Launch) (dC : Nat → ClassId) (dI : Nat → Nat → Nat) (ca : Nat → ClassId) (H0 : Heap) (σ0 : CST) (a0 : Nat) {P : CST → Prop} (hw : x_K_cast a0 σ0 P) : Met l g_K_cast (mW g_K_cast prog_6_method_31_code 2 none) ({ frames := 3, cells := σ0.2.2.2.2.1, slots := σ0.2.2.2.2.2.1, locals := 68 } : Room) (va_Pc [.ref a0] (CPre (dC, dI) ca σ0 H0)) (va_Qv P (CB (dC, dI) ca σ0 H0) (cA σ0 H0.size)) σ0.2.2.2.2.1 σ0.2.2.2.2.2.1 (cA σ0 H0.size) := by
  refine C_ofv (by decide +kernel) rfl rfl rfl (Nat.le_of_ble_eq_true rfl) ?_
  intro p e s m below meth cx Q A ls C hnm hend hH0 h hl
  subst hH0
  have C0 := C
  obtain ⟨⟨hx, hb, hml, hown, hts⟩, hsub⟩ := C0
  obtain ⟨cells, e_cells⟩ : ∃ z : Nat, z = 0 := ⟨_, rfl⟩
  obtain ⟨slots, e_slots⟩ : ∃ z : Nat, z = 0 := ⟨_, rfl⟩
  have h : CH (dC, dI) A ca ({ frames := 3, cells := σ0.2.2.2.2.1, slots := σ0.2.2.2.2.2.1, locals := 68 } : Room) σ0.2.2.2.2.2.2 σ0 s s.heap [] cells slots := by rw [e_cells, e_slots]; exact h
  show W p l e ({ frames := 3, cells := σ0.2.2.2.2.1, slots := σ0.2.2.2.2.2.1, locals := 68 } : Room) s m ([.ref a0] : List Value).toArray below meth cx s.heap [] 0 0 Q (F0 m 0 ls [])
  rw [show W p l e ({ frames := 3, cells := σ0.2.2.2.2.1, slots := σ0.2.2.2.2.2.1, locals := 68 } : Room) s m ([.ref a0] : List Value).toArray below meth cx s.heap [] 0 0 Q (F0 m 0 ls []) = W p l e ({ frames := 3, cells := σ0.2.2.2.2.1, slots := σ0.2.2.2.2.2.1, locals := 68 } : Room) s m ([.ref a0] : List Value).toArray below meth cx s.heap [] cells slots Q (F0 m 0 ls []) by rw [e_cells, e_slots]]
  have hl : lv_has ls 2 [(0, .ref a0)] := hl
  unfold x_K_cast at hw
  refine lv_aload_n hx hb h_K_cast_0 rfl (lv_at hl 0 rfl) ?_
  obtain ⟨g1, hw⟩ := hw
  refine C_get C h 2 5 (v := va_rf (σ0.2.2.2.1 a0 5)) g1 rfl (Cn := R_K) (T := T_K) (N := 14) rfl (by decide) rfl uw_K (by decide) u_231 (fun _ q => q) h_K_cast_1 ?_
  refine lv_topq (fun b2 e_b2 => ?_)
  replace hw := hw b2 e_b2
  obtain ⟨r3, e_r3, hw⟩ := hw
  subst e_r3
  have hl : lv_has ls 2 [(0, .ref a0)] := hl
  refine W.eq (g2 := F0 m 4 ls [.ref r3]) rfl ?_
  obtain ⟨g4, hw⟩ := hw
  refine C_callVi (As := []) (rest := []) C h (ci := 0) (Cn := R_C) (T := T_C) (N := 5) g4 rfl (by decide) (X_C_popInt l dC dI ca s.heap σ0 r3 hw) (cwV 0 hts (gV hsub u_246 u_247 u_248 u_12 u_249) rfl rfl rfl (by decide +kernel) ⟨(Nat.le_of_ble_eq_true rfl), (Nat.le_of_ble_eq_true rfl)⟩) rfl hl.1 (Nat.le_of_ble_eq_true rfl) h_K_cast_4 (fun r6 σ5 H locs cells slots hw9 h9 => ?_)
  clear hw h; have hw := hw9; have h := h9; clear hw9 h9
  refine W.eq (g2 := F0 m 7 ls [.int r6]) rfl ?_
  refine lv_istore_n (i := 1) (lv' := [(1, .int r6), (0, .ref a0)]) hx hb h_K_cast_7 rfl hl (by decide) rfl (fun ls hl => ?_)
  refine lv_aload_n hx hb h_K_cast_8 rfl (lv_at hl 1 rfl) ?_
  refine lv_iload_n hx hb h_K_cast_9 rfl (lv_at hl 0 rfl) ?_
  refine lv_bipush (v := 32) hx hb h_K_cast_10 (by decide) ?_
  refine lv_aload_n hx hb h_K_cast_12 rfl (lv_at hl 1 rfl) ?_
  obtain ⟨g7, hw⟩ := hw
  refine C_callVi (As := []) (rest := [.int 32, .int r6, .ref a0]) C h (ci := 2) (Cn := R_K) (T := T_K) (N := 14) g7 rfl (by decide) (X_K_operand l dC dI ca H σ5 a0 hw) (cwV 0 hts (gV hsub u_257 u_258 u_259 u_260 u_261) rfl rfl rfl (by decide +kernel) ⟨(Nat.le_of_ble_eq_true rfl), (Nat.le_of_ble_eq_true rfl)⟩) rfl hl.1 (Nat.le_of_ble_eq_true rfl) h_K_cast_13 (fun r9 σ8 H locs cells slots hw9 h9 => ?_)
  clear hw h; have hw := hw9; have h := h9; clear hw9 h9
  refine W.eq (g2 := F0 m 16 ls [.int r9, .int 32, .int r6, .ref a0]) rfl ?_
  refine lv_iadd hx hb h_K_cast_16 ?_
  obtain ⟨g10, hw⟩ := hw
  refine C_callVi (As := [.int r6, .int ((32 : Int32) + r9)]) (rest := []) C h (ci := 2) (Cn := R_K) (T := T_K) (N := 14) g10 rfl (by decide) (X_K_isOf l dC dI ca H σ8 a0 r6 ((32 : Int32) + r9) hw) (cwV 2 hts (gV hsub u_295 u_296 u_297 u_260 u_298) rfl rfl rfl (by decide +kernel) ⟨(Nat.le_of_ble_eq_true rfl), (Nat.le_of_ble_eq_true rfl)⟩) rfl hl.1 (Nat.le_of_ble_eq_true rfl) h_K_cast_17 (fun r12 σ11 H locs cells slots hw9 h9 => ?_)
  clear hw h; have hw := hw9; have h := h9; clear hw9 h9
  refine W.eq (g2 := F0 m 20 ls [.int r12]) rfl ?_
  refine lv_if_eq (tgt := 35) hx hb h_K_cast_20 (by decide) (fun c13 => ?_) (fun c13 => ?_)
  · skip
    replace hw := hw.1 c13
    refine lv_aload_n hx hb h_K_cast_35 rfl (lv_at hl 1 rfl) ?_
    refine lv_iconst (v := 1) hx hb h_K_cast_36 (by decide) ?_
    obtain ⟨g14, hw⟩ := hw
    refine C_putz C h 2 7 g14 (Cn := R_K) (T := T_K) (N := 14) rfl (by decide) rfl uw_K tok_K nm_K (by decide) rfl u_255 (fun _ q => q) (Or.inl rfl) (by decide +kernel) (by decide) h_K_cast_37 (fun H locs h => ?_)
    obtain ⟨σ15, e_σ15⟩ : ∃ z : CST, z = sI σ11 a0 7 (1 : Int32) := ⟨_, rfl⟩
    rw [← e_σ15] at h
    replace hw := hw σ15 e_σ15
    exact hend σ15 _ _ _ _ _ _ hw h h_K_cast_40
  · skip
    replace hw := hw.2 c13
    refine lv_aload_n hx hb h_K_cast_23 rfl (lv_at hl 1 rfl) ?_
    obtain ⟨g16, hw⟩ := hw
    refine C_get C h 2 5 (v := va_rf (σ11.2.2.2.1 a0 5)) g16 rfl (Cn := R_K) (T := T_K) (N := 14) rfl (by decide) rfl uw_K (by decide) u_231 (fun _ q => q) h_K_cast_24 ?_
    refine lv_topq (fun b17 e_b17 => ?_)
    replace hw := hw b17 e_b17
    refine lv_iload_n hx hb h_K_cast_27 rfl (lv_at hl 0 rfl) ?_
    refine lv_i2l (v := (r6 : Int32).toInt64) hx hb h_K_cast_28 rfl ?_
    obtain ⟨r18, e_r18, hw⟩ := hw
    subst e_r18
    have hl : lv_has ls 2 [(1, .int r6), (0, .ref a0)] := hl
    refine W.eq (g2 := F0 m 29 ls [.long ((r6 : Int32).toInt64), .ref r18]) rfl ?_
    obtain ⟨g19, hw⟩ := hw
    refine C_callVv (As := [.long ((r6 : Int32).toInt64)]) (rest := []) C h (ci := 0) (Cn := R_C) (T := T_C) (N := 5) g19 rfl (by decide) (X_C_push l dC dI ca H σ11 r18 ((r6 : Int32).toInt64) hw) (cwV 1 hts (gV hsub u_232 u_10 u_11 u_12 u_13) rfl rfl rfl (by decide +kernel) ⟨(Nat.le_of_ble_eq_true rfl), (Nat.le_of_ble_eq_true rfl)⟩) rfl hl.1 (Nat.le_of_ble_eq_true rfl) h_K_cast_29 (fun σ20 H locs cells slots hw9 h9 => ?_)
    clear hw h; have hw := hw9; have h := h9; clear hw9 h9
    refine W.eq (g2 := F0 m 32 ls []) rfl ?_
    refine lv_goto (tgt := 40) hx hb h_K_cast_32 (by decide) ?_
    exact hend σ20 _ _ _ _ _ _ hw h h_K_cast_40
abbrev g_K_useObject : MethodName := ⟨"MapFramer$Machine", "useObject", "(I)V"⟩
theorem u_362 : (Cond.methodLink "MapFramer$Machine" 303 ⟨"MapFramer$Machine", "makeArray", "(I)V"⟩ : Cond) ∈ bigW := inB_8 17 (by decide +kernel) rfl
theorem u_363 : (Cond.instanceMethod ⟨"MapFramer$Machine", "makeArray", "(I)V"⟩ : Cond) ∈ bigW := inB_8 19 (by decide +kernel) rfl
theorem u_364 : (Cond.selects "MapFramer$Machine" ⟨"MapFramer$Machine", "makeArray", "(I)V"⟩ ⟨"MapFramer$Machine", "makeArray", "(I)V"⟩ : Cond) ∈ bigW := inS (y := ⟨"MapFramer$Machine", "makeArray", "(I)V"⟩) (n := 14) (List.mem_of_getElem? (i := 72) (by decide +kernel))
theorem u_365 : (Cond.code ⟨"MapFramer$Machine", "makeArray", "(I)V"⟩ prog_6_method_29_code 3 none : Cond) ∈ bigW := inB_8 20 rfl rfl
theorem u_366 : (Cond.methodLink "MapFramer$Machine" 306 ⟨"MapFramer$Machine", "pushLength", "()V"⟩ : Cond) ∈ bigW := inB_8 21 (by decide +kernel) rfl
theorem u_367 : (Cond.instanceMethod ⟨"MapFramer$Machine", "pushLength", "()V"⟩ : Cond) ∈ bigW := inB_8 23 (by decide +kernel) rfl
theorem u_368 : (Cond.selects "MapFramer$Machine" ⟨"MapFramer$Machine", "pushLength", "()V"⟩ ⟨"MapFramer$Machine", "pushLength", "()V"⟩ : Cond) ∈ bigW := inS (y := ⟨"MapFramer$Machine", "pushLength", "()V"⟩) (n := 14) (List.mem_of_getElem? (i := 73) (by decide +kernel))
theorem u_369 : (Cond.code ⟨"MapFramer$Machine", "pushLength", "()V"⟩ prog_6_method_30_code 2 none : Cond) ∈ bigW := inB_8 24 rfl rfl
theorem u_370 : (Cond.fieldLink "MapFramer$Machine" 131 "MapFramer$Machine" "tossed" "I" : Cond) ∈ bigW := inB_1 152 (by decide +kernel) rfl
theorem u_371 : (Cond.methodLink "MapFramer$Machine" 309 ⟨"MapFramer$Machine", "cast", "()V"⟩ : Cond) ∈ bigW := inB_8 26 (by decide +kernel) rfl
theorem u_372 : (Cond.instanceMethod ⟨"MapFramer$Machine", "cast", "()V"⟩ : Cond) ∈ bigW := inB_8 28 (by decide +kernel) rfl
theorem u_373 : (Cond.selects "MapFramer$Machine" ⟨"MapFramer$Machine", "cast", "()V"⟩ ⟨"MapFramer$Machine", "cast", "()V"⟩ : Cond) ∈ bigW := inS (y := ⟨"MapFramer$Machine", "cast", "()V"⟩) (n := 14) (List.mem_of_getElem? (i := 74) (by decide +kernel))
theorem u_374 : (Cond.code ⟨"MapFramer$Machine", "cast", "()V"⟩ prog_6_method_31_code 2 none : Cond) ∈ bigW := inB_8 29 rfl rfl
theorem h_K_useObject_0 : decode prog_6_method_27_code 0 = .ok (.iload_n 1, 1) := by decide +kernel
theorem h_K_useObject_1 : decode prog_6_method_27_code 1 = .ok (.tableswitch 161 183 192 #[55, 161, 161, 161, 66, 82, 103, 117, 124, 154], 55) := by decide +kernel
theorem h_K_useObject_56 : decode prog_6_method_27_code 56 = .ok (.aload_n 0, 1) := by decide +kernel
theorem h_K_useObject_57 : decode prog_6_method_27_code 57 = .ok (.getfield 76, 3) := by decide +kernel
theorem h_K_useObject_60 : decode prog_6_method_27_code 60 = .ok (.invokevirtual 245, 3) := by decide +kernel
theorem h_K_useObject_63 : decode prog_6_method_27_code 63 = .ok (.pop2, 1) := by decide +kernel
theorem h_K_useObject_64 : decode prog_6_method_27_code 64 = .ok (.goto 137, 3) := by decide +kernel
theorem h_K_useObject_67 : decode prog_6_method_27_code 67 = .ok (.aload_n 0, 1) := by decide +kernel
theorem h_K_useObject_68 : decode prog_6_method_27_code 68 = .ok (.bipush 32, 2) := by decide +kernel
theorem h_K_useObject_70 : decode prog_6_method_27_code 70 = .ok (.aload_n 0, 1) := by decide +kernel
theorem h_K_useObject_71 : decode prog_6_method_27_code 71 = .ok (.invokevirtual 215, 3) := by decide +kernel
theorem h_K_useObject_74 : decode prog_6_method_27_code 74 = .ok (.iadd, 1) := by decide +kernel
theorem h_K_useObject_75 : decode prog_6_method_27_code 75 = .ok (.bipush 16, 2) := by decide +kernel
theorem h_K_useObject_77 : decode prog_6_method_27_code 77 = .ok (.invokevirtual 300, 3) := by decide +kernel
theorem h_K_useObject_80 : decode prog_6_method_27_code 80 = .ok (.goto 121, 3) := by decide +kernel
theorem h_K_useObject_83 : decode prog_6_method_27_code 83 = .ok (.aload_n 0, 1) := by decide +kernel
theorem h_K_useObject_84 : decode prog_6_method_27_code 84 = .ok (.aload_n 0, 1) := by decide +kernel
theorem h_K_useObject_85 : decode prog_6_method_27_code 85 = .ok (.invokevirtual 215, 3) := by decide +kernel
theorem h_K_useObject_88 : decode prog_6_method_27_code 88 = .ok (.bipush 10, 2) := by decide +kernel
theorem h_K_useObject_90 : decode prog_6_method_27_code 90 = .ok (.if_icmp .ne 7, 3) := by decide +kernel
theorem h_K_useObject_93 : decode prog_6_method_27_code 93 = .ok (.iconst 3, 1) := by decide +kernel
theorem h_K_useObject_94 : decode prog_6_method_27_code 94 = .ok (.goto 4, 3) := by decide +kernel
theorem h_K_useObject_97 : decode prog_6_method_27_code 97 = .ok (.iconst 4, 1) := by decide +kernel
theorem h_K_useObject_98 : decode prog_6_method_27_code 98 = .ok (.invokevirtual 303, 3) := by decide +kernel
theorem h_K_useObject_101 : decode prog_6_method_27_code 101 = .ok (.goto 100, 3) := by decide +kernel
theorem h_K_useObject_104 : decode prog_6_method_27_code 104 = .ok (.aload_n 0, 1) := by decide +kernel
theorem h_K_useObject_105 : decode prog_6_method_27_code 105 = .ok (.bipush 64, 2) := by decide +kernel
theorem h_K_useObject_107 : decode prog_6_method_27_code 107 = .ok (.aload_n 0, 1) := by decide +kernel
theorem h_K_useObject_108 : decode prog_6_method_27_code 108 = .ok (.invokevirtual 215, 3) := by decide +kernel
theorem h_K_useObject_111 : decode prog_6_method_27_code 111 = .ok (.iadd, 1) := by decide +kernel
theorem h_K_useObject_112 : decode prog_6_method_27_code 112 = .ok (.invokevirtual 303, 3) := by decide +kernel
theorem h_K_useObject_115 : decode prog_6_method_27_code 115 = .ok (.goto 86, 3) := by decide +kernel
theorem h_K_useObject_118 : decode prog_6_method_27_code 118 = .ok (.aload_n 0, 1) := by decide +kernel
theorem h_K_useObject_119 : decode prog_6_method_27_code 119 = .ok (.invokevirtual 306, 3) := by decide +kernel
theorem h_K_useObject_122 : decode prog_6_method_27_code 122 = .ok (.goto 79, 3) := by decide +kernel
theorem h_K_useObject_125 : decode prog_6_method_27_code 125 = .ok (.aload_n 0, 1) := by decide +kernel
theorem h_K_useObject_126 : decode prog_6_method_27_code 126 = .ok (.aload_n 0, 1) := by decide +kernel
theorem h_K_useObject_127 : decode prog_6_method_27_code 127 = .ok (.getfield 76, 3) := by decide +kernel
theorem h_K_useObject_130 : decode prog_6_method_27_code 130 = .ok (.invokevirtual 248, 3) := by decide +kernel
theorem h_K_useObject_133 : decode prog_6_method_27_code 133 = .ok (.putfield 131, 3) := by decide +kernel
theorem h_K_useObject_136 : decode prog_6_method_27_code 136 = .ok (.aload_n 0, 1) := by decide +kernel
theorem h_K_useObject_137 : decode prog_6_method_27_code 137 = .ok (.aload_n 0, 1) := by decide +kernel
theorem h_K_useObject_138 : decode prog_6_method_27_code 138 = .ok (.getfield 131, 3) := by decide +kernel
theorem h_K_useObject_141 : decode prog_6_method_27_code 141 = .ok (.ifCond .ne 7, 3) := by decide +kernel
theorem h_K_useObject_144 : decode prog_6_method_27_code 144 = .ok (.iconst 1, 1) := by decide +kernel
theorem h_K_useObject_145 : decode prog_6_method_27_code 145 = .ok (.goto 4, 3) := by decide +kernel
theorem h_K_useObject_148 : decode prog_6_method_27_code 148 = .ok (.iconst 0, 1) := by decide +kernel
theorem h_K_useObject_149 : decode prog_6_method_27_code 149 = .ok (.putfield 123, 3) := by decide +kernel
theorem h_K_useObject_152 : decode prog_6_method_27_code 152 = .ok (.goto 49, 3) := by decide +kernel
theorem h_K_useObject_155 : decode prog_6_method_27_code 155 = .ok (.aload_n 0, 1) := by decide +kernel
theorem h_K_useObject_156 : decode prog_6_method_27_code 156 = .ok (.invokevirtual 309, 3) := by decide +kernel
theorem h_K_useObject_159 : decode prog_6_method_27_code 159 = .ok (.goto 42, 3) := by decide +kernel
theorem h_K_useObject_162 : decode prog_6_method_27_code 162 = .ok (.aload_n 0, 1) := by decide +kernel
theorem h_K_useObject_163 : decode prog_6_method_27_code 163 = .ok (.getfield 76, 3) := by decide +kernel
theorem h_K_useObject_166 : decode prog_6_method_27_code 166 = .ok (.invokevirtual 248, 3) := by decide +kernel
theorem h_K_useObject_169 : decode prog_6_method_27_code 169 = .ok (.istore_n 2, 1) := by decide +kernel
theorem h_K_useObject_170 : decode prog_6_method_27_code 170 = .ok (.aload_n 0, 1) := by decide +kernel
theorem h_K_useObject_171 : decode prog_6_method_27_code 171 = .ok (.getfield 76, 3) := by decide +kernel
theorem h_K_useObject_174 : decode prog_6_method_27_code 174 = .ok (.iload_n 2, 1) := by decide +kernel
theorem h_K_useObject_175 : decode prog_6_method_27_code 175 = .ok (.ifCond .eq 22, 3) := by decide +kernel
theorem h_K_useObject_178 : decode prog_6_method_27_code 178 = .ok (.aload_n 0, 1) := by decide +kernel
theorem h_K_useObject_179 : decode prog_6_method_27_code 179 = .ok (.iload_n 2, 1) := by decide +kernel
theorem h_K_useObject_180 : decode prog_6_method_27_code 180 = .ok (.bipush 32, 2) := by decide +kernel
theorem h_K_useObject_182 : decode prog_6_method_27_code 182 = .ok (.aload_n 0, 1) := by decide +kernel
theorem h_K_useObject_183 : decode prog_6_method_27_code 183 = .ok (.invokevirtual 215, 3) := by decide +kernel
theorem h_K_useObject_186 : decode prog_6_method_27_code 186 = .ok (.iadd, 1) := by decide +kernel
theorem h_K_useObject_187 : decode prog_6_method_27_code 187 = .ok (.invokevirtual 258, 3) := by decide +kernel
theorem h_K_useObject_190 : decode prog_6_method_27_code 190 = .ok (.ifCond .eq 7, 3) := by decide +kernel
theorem h_K_useObject_193 : decode prog_6_method_27_code 193 = .ok (.lconst 1, 1) := by decide +kernel
theorem h_K_useObject_194 : decode prog_6_method_27_code 194 = .ok (.goto 4, 3) := by decide +kernel
theorem h_K_useObject_197 : decode prog_6_method_27_code 197 = .ok (.lconst 0, 1) := by decide +kernel
theorem h_K_useObject_198 : decode prog_6_method_27_code 198 = .ok (.invokevirtual 147, 3) := by decide +kernel
theorem h_K_useObject_201 : decode prog_6_method_27_code 201 = .ok (.return_, 1) := by decide +kernel
def x_K_useObject_149 (a0 : Nat) (P : CST → Prop) (s0 : Int32) (σ : CST) : Prop := σ.1 a0 = some (2, 0) ∧ ((s0 = 0 ∨ s0 = 1) ∧ (∀ σ3 : CST, σ3 = sI σ a0 7 s0 → P σ3))
def x_K_useObject_98 (a0 : Nat) (P : CST → Prop) (s0 : Int32) (σ : CST) : Prop := σ.1 a0 = some (2, 0) ∧ (x_K_makeArray a0 s0 σ (fun σ5 => P σ5))
def x_K_useObject_198 (a0 : Nat) (P : CST → Prop) (s0 : Int64) (s1 : Option Nat) (σ : CST) : Prop := (∃ r7 : Nat, s1 = some r7 ∧ (σ.1 r7 = some (0, 0) ∧ (x_C_push r7 s0 σ (fun σ9 => P σ9))))
def x_K_useObject_197 (a0 : Nat) (P : CST → Prop) (s0 : Option Nat) (σ : CST) : Prop := x_K_useObject_198 a0 P 0 s0 σ
def x_K_useObject (a0 : Nat) (x1 : Int32) (σ0 : CST) (P : CST → Prop) : Prop := ((x1 = 183 → σ0.1 a0 = some (2, 0) ∧ (∀ b13 : Option Nat, b13 = (σ0.2.2.2.1 a0 5) → (∃ r14 : Nat, b13 = some r14 ∧ (σ0.1 r14 = some (0, 0) ∧ (x_C_pop r14 σ0 (fun r17 σ16 => P σ16)))))) ∧ (¬ x1 = 183 → ((x1 = 184 → σ0.1 a0 = some (2, 0) ∧ (∀ b20 : Option Nat, b20 = (σ0.2.2.2.1 a0 5) → (∃ r21 : Nat, b20 = some r21 ∧ (σ0.1 r21 = some (0, 0) ∧ (x_C_popInt r21 σ0 (fun r24 σ23 => σ23.1 a0 = some (2, 0) ∧ (∀ b26 : Option Nat, b26 = (σ23.2.2.2.1 a0 5) → ((r24 = 0 → x_K_useObject_197 a0 P b26 σ23) ∧ (¬ r24 = 0 → x_K_operand a0 σ23 (fun r29 σ28 => σ28.1 a0 = some (2, 0) ∧ (x_K_isOf a0 r24 ((32 : Int32) + r29) σ28 (fun r32 σ31 => ((r32 = 0 → x_K_useObject_197 a0 P b26 σ31) ∧ (¬ r32 = 0 → x_K_useObject_198 a0 P 1 b26 σ31)))))))))))))) ∧ (¬ x1 = 184 → ((x1 = 185 → σ0.1 a0 = some (2, 0) ∧ (∀ b36 : Option Nat, b36 = (σ0.2.2.2.1 a0 5) → (∃ r37 : Nat, b36 = some r37 ∧ (σ0.1 r37 = some (0, 0) ∧ (x_C_popInt r37 σ0 (fun r40 σ39 => σ39.1 a0 = some (2, 0) ∧ (∀ b42 : Option Nat, b42 = (σ39.2.2.2.1 a0 5) → ((r40 = 0 → x_K_useObject_197 a0 P b42 σ39) ∧ (¬ r40 = 0 → x_K_operand a0 σ39 (fun r45 σ44 => σ44.1 a0 = some (2, 0) ∧ (x_K_isOf a0 r40 ((32 : Int32) + r45) σ44 (fun r48 σ47 => ((r48 = 0 → x_K_useObject_197 a0 P b42 σ47) ∧ (¬ r48 = 0 → x_K_useObject_198 a0 P 1 b42 σ47)))))))))))))) ∧ (¬ x1 = 185 → ((x1 = 186 → σ0.1 a0 = some (2, 0) ∧ (∀ b52 : Option Nat, b52 = (σ0.2.2.2.1 a0 5) → (∃ r53 : Nat, b52 = some r53 ∧ (σ0.1 r53 = some (0, 0) ∧ (x_C_popInt r53 σ0 (fun r56 σ55 => σ55.1 a0 = some (2, 0) ∧ (∀ b58 : Option Nat, b58 = (σ55.2.2.2.1 a0 5) → ((r56 = 0 → x_K_useObject_197 a0 P b58 σ55) ∧ (¬ r56 = 0 → x_K_operand a0 σ55 (fun r61 σ60 => σ60.1 a0 = some (2, 0) ∧ (x_K_isOf a0 r56 ((32 : Int32) + r61) σ60 (fun r64 σ63 => ((r64 = 0 → x_K_useObject_197 a0 P b58 σ63) ∧ (¬ r64 = 0 → x_K_useObject_198 a0 P 1 b58 σ63)))))))))))))) ∧ (¬ x1 = 186 → ((x1 = 187 → σ0.1 a0 = some (2, 0) ∧ (x_K_operand a0 σ0 (fun r69 σ68 => σ68.1 a0 = some (2, 0) ∧ (x_K_pushMade a0 ((32 : Int32) + r69) (16 : Int32) σ68 (fun σ71 => P σ71))))) ∧ (¬ x1 = 187 → ((x1 = 188 → σ0.1 a0 = some (2, 0) ∧ (x_K_operand a0 σ0 (fun r76 σ75 => ((r76 = 10 → x_K_useObject_98 a0 P 3 σ75) ∧ (¬ r76 = 10 → x_K_useObject_98 a0 P 4 σ75))))) ∧ (¬ x1 = 188 → ((x1 = 189 → σ0.1 a0 = some (2, 0) ∧ (x_K_operand a0 σ0 (fun r81 σ80 => σ80.1 a0 = some (2, 0) ∧ (x_K_makeArray a0 ((64 : Int32) + r81) σ80 (fun σ83 => P σ83))))) ∧ (¬ x1 = 189 → ((x1 = 190 → σ0.1 a0 = some (2, 0) ∧ (x_K_pushLength a0 σ0 (fun σ87 => P σ87))) ∧ (¬ x1 = 190 → ((x1 = 191 → σ0.1 a0 = some (2, 0) ∧ (∀ b91 : Option Nat, b91 = (σ0.2.2.2.1 a0 5) → (∃ r92 : Nat, b91 = some r92 ∧ (σ0.1 r92 = some (0, 0) ∧ (x_C_popInt r92 σ0 (fun r95 σ94 => σ94.1 a0 = some (2, 0) ∧ (∀ σ97 : CST, σ97 = sI σ94 a0 8 r95 → σ97.1 a0 = some (2, 0) ∧ ((((σ97.2.1 a0 8) = 0 → x_K_useObject_149 a0 P 1 σ97) ∧ (¬ (σ97.2.1 a0 8) = 0 → x_K_useObject_149 a0 P 0 σ97)))))))))) ∧ (¬ x1 = 191 → ((x1 = 192 → σ0.1 a0 = some (2, 0) ∧ (x_K_cast a0 σ0 (fun σ102 => P σ102))) ∧ (¬ x1 = 192 → σ0.1 a0 = some (2, 0) ∧ (∀ b105 : Option Nat, b105 = (σ0.2.2.2.1 a0 5) → (∃ r106 : Nat, b105 = some r106 ∧ (σ0.1 r106 = some (0, 0) ∧ (x_C_popInt r106 σ0 (fun r109 σ108 => σ108.1 a0 = some (2, 0) ∧ (∀ b111 : Option Nat, b111 = (σ108.2.2.2.1 a0 5) → ((r109 = 0 → x_K_useObject_197 a0 P b111 σ108) ∧ (¬ r109 = 0 → x_K_operand a0 σ108 (fun r114 σ113 => σ113.1 a0 = some (2, 0) ∧ (x_K_isOf a0 r109 ((32 : Int32) + r114) σ113 (fun r117 σ116 => ((r117 = 0 → x_K_useObject_197 a0 P b111 σ116) ∧ (¬ r117 = 0 → x_K_useObject_198 a0 P 1 b111 σ116)))))))))))))))))))))))))))))))))
set_option maxHeartbeats 4000000 in
set_option maxRecDepth 100000 in
theorem X_K_useObject (l : Launch) (dC : Nat → ClassId) (dI : Nat → Nat → Nat) (ca : Nat → ClassId) (H0 : Heap) (σ0 : CST) (a0 : Nat) (x1 : Int32) {P : CST → Prop} (hw : x_K_useObject a0 x1 σ0 P) : Met l g_K_useObject (mW g_K_useObject prog_6_method_27_code 3 none) ({ frames := 5, cells := σ0.2.2.2.2.1, slots := σ0.2.2.2.2.2.1, locals := 114 } : Room) (va_Pc [.ref a0, .int x1] (CPre (dC, dI) ca σ0 H0)) (va_Qv P (CB (dC, dI) ca σ0 H0) (cA σ0 H0.size)) σ0.2.2.2.2.1 σ0.2.2.2.2.2.1 (cA σ0 H0.size) := by
  refine C_ofv (by decide +kernel) rfl rfl rfl (Nat.le_of_ble_eq_true rfl) ?_
  intro p e s m below meth cx Q A ls C hnm hend hH0 h hl
  subst hH0
  have C0 := C
  obtain ⟨⟨hx, hb, hml, hown, hts⟩, hsub⟩ := C0
  obtain ⟨cells, e_cells⟩ : ∃ z : Nat, z = 0 := ⟨_, rfl⟩
  obtain ⟨slots, e_slots⟩ : ∃ z : Nat, z = 0 := ⟨_, rfl⟩
  have h : CH (dC, dI) A ca ({ frames := 5, cells := σ0.2.2.2.2.1, slots := σ0.2.2.2.2.2.1, locals := 114 } : Room) σ0.2.2.2.2.2.2 σ0 s s.heap [] cells slots := by rw [e_cells, e_slots]; exact h
  show W p l e ({ frames := 5, cells := σ0.2.2.2.2.1, slots := σ0.2.2.2.2.2.1, locals := 114 } : Room) s m ([.ref a0, .int x1] : List Value).toArray below meth cx s.heap [] 0 0 Q (F0 m 0 ls [])
  rw [show W p l e ({ frames := 5, cells := σ0.2.2.2.2.1, slots := σ0.2.2.2.2.2.1, locals := 114 } : Room) s m ([.ref a0, .int x1] : List Value).toArray below meth cx s.heap [] 0 0 Q (F0 m 0 ls []) = W p l e ({ frames := 5, cells := σ0.2.2.2.2.1, slots := σ0.2.2.2.2.2.1, locals := 114 } : Room) s m ([.ref a0, .int x1] : List Value).toArray below meth cx s.heap [] cells slots Q (F0 m 0 ls []) by rw [e_cells, e_slots]]
  have K_149 : ∀ (u9 : Unit), ∀ (s0 : Int32) (σ : CST) (H : Heap) (locs : List Loc) (cells slots : Nat) (ls : Array Slot), x_K_useObject_149 a0 P s0 σ → CH (dC, dI) A ca ({ frames := 5, cells := σ0.2.2.2.2.1, slots := σ0.2.2.2.2.2.1, locals := 114 } : Room) σ0.2.2.2.2.2.2 σ s H locs cells slots → lv_has ls 3 [] → W p l e ({ frames := 5, cells := σ0.2.2.2.2.1, slots := σ0.2.2.2.2.2.1, locals := 114 } : Room) s m ([.ref a0, .int x1] : List Value).toArray below meth cx H locs cells slots Q (F0 m 149 ls [.int s0, .ref a0]) := by
    intro u9 s0 σ H locs cells slots ls hw h hl
    unfold x_K_useObject_149 at hw
    obtain ⟨g1, hw⟩ := hw
    obtain ⟨g2, hw⟩ := hw
    refine C_putz C h 2 7 g1 (Cn := R_K) (T := T_K) (N := 14) rfl (by decide) rfl uw_K tok_K nm_K (by decide) rfl u_255 (fun _ q => q) (Or.inl rfl) (by decide +kernel) g2 h_K_useObject_149 (fun H locs h => ?_)
    obtain ⟨σ3, e_σ3⟩ : ∃ z : CST, z = sI σ a0 7 s0 := ⟨_, rfl⟩
    rw [← e_σ3] at h
    replace hw := hw σ3 e_σ3
    refine lv_goto (tgt := 201) hx hb h_K_useObject_152 (by decide) ?_
    exact hend σ3 _ _ _ _ _ _ hw h h_K_useObject_201
  have K_98 : ∀ (u9 : Unit), ∀ (s0 : Int32) (σ : CST) (H : Heap) (locs : List Loc) (cells slots : Nat) (ls : Array Slot), x_K_useObject_98 a0 P s0 σ → CH (dC, dI) A ca ({ frames := 5, cells := σ0.2.2.2.2.1, slots := σ0.2.2.2.2.2.1, locals := 114 } : Room) σ0.2.2.2.2.2.2 σ s H locs cells slots → lv_has ls 3 [] → W p l e ({ frames := 5, cells := σ0.2.2.2.2.1, slots := σ0.2.2.2.2.2.1, locals := 114 } : Room) s m ([.ref a0, .int x1] : List Value).toArray below meth cx H locs cells slots Q (F0 m 98 ls [.int s0, .ref a0]) := by
    intro u9 s0 σ H locs cells slots ls hw h hl
    unfold x_K_useObject_98 at hw
    obtain ⟨g4, hw⟩ := hw
    refine C_callVv (As := [.int s0]) (rest := []) C h (ci := 2) (Cn := R_K) (T := T_K) (N := 14) g4 rfl (by decide) (X_K_makeArray l dC dI ca H σ a0 s0 hw) (cwV 1 hts (gV hsub u_362 u_363 u_364 u_260 u_365) rfl rfl rfl (by decide +kernel) ⟨(Nat.le_of_ble_eq_true rfl), (Nat.le_of_ble_eq_true rfl)⟩) rfl hl.1 (Nat.le_of_ble_eq_true rfl) h_K_useObject_98 (fun σ5 H locs cells slots hw9 h9 => ?_)
    clear hw h; have hw := hw9; have h := h9; clear hw9 h9
    refine W.eq (g2 := F0 m 101 ls []) rfl ?_
    refine lv_goto (tgt := 201) hx hb h_K_useObject_101 (by decide) ?_
    exact hend σ5 _ _ _ _ _ _ hw h h_K_useObject_201
  have K_198 : ∀ (u9 : Unit), ∀ (s0 : Int64) (s1 : Option Nat) (σ : CST) (H : Heap) (locs : List Loc) (cells slots : Nat) (ls : Array Slot), x_K_useObject_198 a0 P s0 s1 σ → CH (dC, dI) A ca ({ frames := 5, cells := σ0.2.2.2.2.1, slots := σ0.2.2.2.2.2.1, locals := 114 } : Room) σ0.2.2.2.2.2.2 σ s H locs cells slots → lv_has ls 3 [] → W p l e ({ frames := 5, cells := σ0.2.2.2.2.1, slots := σ0.2.2.2.2.2.1, locals := 114 } : Room) s m ([.ref a0, .int x1] : List Value).toArray below meth cx H locs cells slots Q (F0 m 198 ls [.long s0, va_rf s1]) := by
    intro u9 s0 s1 σ H locs cells slots ls hw h hl
    unfold x_K_useObject_198 at hw
    obtain ⟨r7, e_r7, hw⟩ := hw
    subst e_r7
    have hl : lv_has ls 3 [] := hl
    refine W.eq (g2 := F0 m 198 ls [.long s0, .ref r7]) rfl ?_
    obtain ⟨g8, hw⟩ := hw
    refine C_callVv (As := [.long s0]) (rest := []) C h (ci := 0) (Cn := R_C) (T := T_C) (N := 5) g8 rfl (by decide) (X_C_push l dC dI ca H σ r7 s0 hw) (cwV 1 hts (gV hsub u_232 u_10 u_11 u_12 u_13) rfl rfl rfl (by decide +kernel) ⟨(Nat.le_of_ble_eq_true rfl), (Nat.le_of_ble_eq_true rfl)⟩) rfl hl.1 (Nat.le_of_ble_eq_true rfl) h_K_useObject_198 (fun σ9 H locs cells slots hw9 h9 => ?_)
    clear hw h; have hw := hw9; have h := h9; clear hw9 h9
    refine W.eq (g2 := F0 m 201 ls []) rfl ?_
    exact hend σ9 _ _ _ _ _ _ hw h h_K_useObject_201
  have K_197 : ∀ (u9 : Unit), ∀ (s0 : Option Nat) (σ : CST) (H : Heap) (locs : List Loc) (cells slots : Nat) (ls : Array Slot), x_K_useObject_197 a0 P s0 σ → CH (dC, dI) A ca ({ frames := 5, cells := σ0.2.2.2.2.1, slots := σ0.2.2.2.2.2.1, locals := 114 } : Room) σ0.2.2.2.2.2.2 σ s H locs cells slots → lv_has ls 3 [] → W p l e ({ frames := 5, cells := σ0.2.2.2.2.1, slots := σ0.2.2.2.2.2.1, locals := 114 } : Room) s m ([.ref a0, .int x1] : List Value).toArray below meth cx H locs cells slots Q (F0 m 197 ls [va_rf s0]) := by
    intro u9 s0 σ H locs cells slots ls hw h hl
    unfold x_K_useObject_197 at hw
    refine lv_lconst (v := 0) hx hb h_K_useObject_197 (by decide) ?_
    exact K_198 () 0 s0 σ _ _ _ _ _ hw h (lv_sub hl [] rfl)
  have hl : lv_has ls 3 [(0, .ref a0), (1, .int x1)] := hl
  unfold x_K_useObject at hw
  refine lv_iload_n hx hb h_K_useObject_0 rfl (lv_at hl 1 rfl) ?_
  by_cases c11 : x1 = 183
  · skip
    replace hw := hw.1 c11
    refine tp_i 183 c11 ?_
    refine lv_tableIn (off := 55) (tgt := 56) hx hb h_K_useObject_1 (by decide) (by decide) (by decide) (by decide) ?_
    refine lv_aload_n hx hb h_K_useObject_56 rfl (lv_at hl 0 rfl) ?_
    obtain ⟨g12, hw⟩ := hw
    refine C_get C h 2 5 (v := va_rf (σ0.2.2.2.1 a0 5)) g12 rfl (Cn := R_K) (T := T_K) (N := 14) rfl (by decide) rfl uw_K (by decide) u_231 (fun _ q => q) h_K_useObject_57 ?_
    refine lv_topq (fun b13 e_b13 => ?_)
    replace hw := hw b13 e_b13
    obtain ⟨r14, e_r14, hw⟩ := hw
    subst e_r14
    have hl : lv_has ls 3 [(0, .ref a0), (1, .int x1)] := hl
    refine W.eq (g2 := F0 m 60 ls [.ref r14]) rfl ?_
    obtain ⟨g15, hw⟩ := hw
    refine C_callVl (As := []) (rest := []) C h (ci := 0) (Cn := R_C) (T := T_C) (N := 5) g15 rfl (by decide) (X_C_pop l dC dI ca s.heap σ0 r14 hw) (cwV 0 hts (gV hsub u_270 u_15 u_16 u_12 u_17) rfl rfl rfl (by decide +kernel) ⟨(Nat.le_of_ble_eq_true rfl), (Nat.le_of_ble_eq_true rfl)⟩) rfl hl.1 (Nat.le_of_ble_eq_true rfl) h_K_useObject_60 (fun r17 σ16 H locs cells slots hw9 h9 => ?_)
    clear hw h; have hw := hw9; have h := h9; clear hw9 h9
    refine W.eq (g2 := F0 m 63 ls [.long r17]) rfl ?_
    refine lv_pop2_2 hx hb h_K_useObject_63 rfl ?_
    refine lv_goto (tgt := 201) hx hb h_K_useObject_64 (by decide) ?_
    exact hend σ16 _ _ _ _ _ _ hw h h_K_useObject_201
  · skip
    replace hw := hw.2 c11
    by_cases c18 : x1 = 184
    · skip
      replace hw := hw.1 c18
      refine tp_i 184 c18 ?_
      refine lv_tableIn (off := 161) (tgt := 162) hx hb h_K_useObject_1 (by decide) (by decide) (by decide) (by decide) ?_
      refine lv_aload_n hx hb h_K_useObject_162 rfl (lv_at hl 0 rfl) ?_
      obtain ⟨g19, hw⟩ := hw
      refine C_get C h 2 5 (v := va_rf (σ0.2.2.2.1 a0 5)) g19 rfl (Cn := R_K) (T := T_K) (N := 14) rfl (by decide) rfl uw_K (by decide) u_231 (fun _ q => q) h_K_useObject_163 ?_
      refine lv_topq (fun b20 e_b20 => ?_)
      replace hw := hw b20 e_b20
      obtain ⟨r21, e_r21, hw⟩ := hw
      subst e_r21
      have hl : lv_has ls 3 [(0, .ref a0), (1, .int x1)] := hl
      refine W.eq (g2 := F0 m 166 ls [.ref r21]) rfl ?_
      obtain ⟨g22, hw⟩ := hw
      refine C_callVi (As := []) (rest := []) C h (ci := 0) (Cn := R_C) (T := T_C) (N := 5) g22 rfl (by decide) (X_C_popInt l dC dI ca s.heap σ0 r21 hw) (cwV 0 hts (gV hsub u_246 u_247 u_248 u_12 u_249) rfl rfl rfl (by decide +kernel) ⟨(Nat.le_of_ble_eq_true rfl), (Nat.le_of_ble_eq_true rfl)⟩) rfl hl.1 (Nat.le_of_ble_eq_true rfl) h_K_useObject_166 (fun r24 σ23 H locs cells slots hw9 h9 => ?_)
      clear hw h; have hw := hw9; have h := h9; clear hw9 h9
      refine W.eq (g2 := F0 m 169 ls [.int r24]) rfl ?_
      refine lv_istore_n (i := 2) (lv' := [(2, .int r24), (0, .ref a0), (1, .int x1)]) hx hb h_K_useObject_169 rfl hl (by decide) rfl (fun ls hl => ?_)
      refine lv_aload_n hx hb h_K_useObject_170 rfl (lv_at hl 1 rfl) ?_
      obtain ⟨g25, hw⟩ := hw
      refine C_get C h 2 5 (v := va_rf (σ23.2.2.2.1 a0 5)) g25 rfl (Cn := R_K) (T := T_K) (N := 14) rfl (by decide) rfl uw_K (by decide) u_231 (fun _ q => q) h_K_useObject_171 ?_
      refine lv_topq (fun b26 e_b26 => ?_)
      replace hw := hw b26 e_b26
      refine lv_iload_n hx hb h_K_useObject_174 rfl (lv_at hl 0 rfl) ?_
      refine lv_if_eq (tgt := 197) hx hb h_K_useObject_175 (by decide) (fun c27 => ?_) (fun c27 => ?_)
      · skip
        replace hw := hw.1 c27
        exact K_197 () b26 σ23 _ _ _ _ _ hw h (lv_sub hl [] rfl)
      · skip
        replace hw := hw.2 c27
        refine lv_aload_n hx hb h_K_useObject_178 rfl (lv_at hl 1 rfl) ?_
        refine lv_iload_n hx hb h_K_useObject_179 rfl (lv_at hl 0 rfl) ?_
        refine lv_bipush (v := 32) hx hb h_K_useObject_180 (by decide) ?_
        refine lv_aload_n hx hb h_K_useObject_182 rfl (lv_at hl 1 rfl) ?_
        refine C_callVi (As := []) (rest := [.int 32, .int r24, .ref a0, va_rf b26]) C h (ci := 2) (Cn := R_K) (T := T_K) (N := 14) g25 rfl (by decide) (X_K_operand l dC dI ca H σ23 a0 hw) (cwV 0 hts (gV hsub u_257 u_258 u_259 u_260 u_261) rfl rfl rfl (by decide +kernel) ⟨(Nat.le_of_ble_eq_true rfl), (Nat.le_of_ble_eq_true rfl)⟩) rfl hl.1 (by simp only [List.map_cons, List.map_nil, List.sum_cons, List.sum_nil, cq_cat]; exact Nat.le_of_ble_eq_true rfl) h_K_useObject_183 (fun r29 σ28 H locs cells slots hw9 h9 => ?_)
        clear hw h; have hw := hw9; have h := h9; clear hw9 h9
        refine W.eq (g2 := F0 m 186 ls [.int r29, .int 32, .int r24, .ref a0, va_rf b26]) rfl ?_
        refine lv_iadd hx hb h_K_useObject_186 ?_
        obtain ⟨g30, hw⟩ := hw
        refine C_callVi (As := [.int r24, .int ((32 : Int32) + r29)]) (rest := [va_rf b26]) C h (ci := 2) (Cn := R_K) (T := T_K) (N := 14) g30 rfl (by decide) (X_K_isOf l dC dI ca H σ28 a0 r24 ((32 : Int32) + r29) hw) (cwV 2 hts (gV hsub u_295 u_296 u_297 u_260 u_298) rfl rfl rfl (by decide +kernel) ⟨(Nat.le_of_ble_eq_true rfl), (Nat.le_of_ble_eq_true rfl)⟩) rfl hl.1 (by simp only [List.map_cons, List.map_nil, List.sum_cons, List.sum_nil, cq_cat]; exact Nat.le_of_ble_eq_true rfl) h_K_useObject_187 (fun r32 σ31 H locs cells slots hw9 h9 => ?_)
        clear hw h; have hw := hw9; have h := h9; clear hw9 h9
        refine W.eq (g2 := F0 m 190 ls [.int r32, va_rf b26]) rfl ?_
        refine lv_if_eq (tgt := 197) hx hb h_K_useObject_190 (by decide) (fun c33 => ?_) (fun c33 => ?_)
        · skip
          replace hw := hw.1 c33
          exact K_197 () b26 σ31 _ _ _ _ _ hw h (lv_sub hl [] rfl)
        · skip
          replace hw := hw.2 c33
          refine lv_lconst (v := 1) hx hb h_K_useObject_193 (by decide) ?_
          refine lv_goto (tgt := 198) hx hb h_K_useObject_194 (by decide) ?_
          exact K_198 () 1 b26 σ31 _ _ _ _ _ hw h (lv_sub hl [] rfl)
    · skip
      replace hw := hw.2 c18
      by_cases c34 : x1 = 185
      · skip
        replace hw := hw.1 c34
        refine tp_i 185 c34 ?_
        refine lv_tableIn (off := 161) (tgt := 162) hx hb h_K_useObject_1 (by decide) (by decide) (by decide) (by decide) ?_
        refine lv_aload_n hx hb h_K_useObject_162 rfl (lv_at hl 0 rfl) ?_
        obtain ⟨g35, hw⟩ := hw
        refine C_get C h 2 5 (v := va_rf (σ0.2.2.2.1 a0 5)) g35 rfl (Cn := R_K) (T := T_K) (N := 14) rfl (by decide) rfl uw_K (by decide) u_231 (fun _ q => q) h_K_useObject_163 ?_
        refine lv_topq (fun b36 e_b36 => ?_)
        replace hw := hw b36 e_b36
        obtain ⟨r37, e_r37, hw⟩ := hw
        subst e_r37
        have hl : lv_has ls 3 [(0, .ref a0), (1, .int x1)] := hl
        refine W.eq (g2 := F0 m 166 ls [.ref r37]) rfl ?_
        obtain ⟨g38, hw⟩ := hw
        refine C_callVi (As := []) (rest := []) C h (ci := 0) (Cn := R_C) (T := T_C) (N := 5) g38 rfl (by decide) (X_C_popInt l dC dI ca s.heap σ0 r37 hw) (cwV 0 hts (gV hsub u_246 u_247 u_248 u_12 u_249) rfl rfl rfl (by decide +kernel) ⟨(Nat.le_of_ble_eq_true rfl), (Nat.le_of_ble_eq_true rfl)⟩) rfl hl.1 (Nat.le_of_ble_eq_true rfl) h_K_useObject_166 (fun r40 σ39 H locs cells slots hw9 h9 => ?_)
        clear hw h; have hw := hw9; have h := h9; clear hw9 h9
        refine W.eq (g2 := F0 m 169 ls [.int r40]) rfl ?_
        refine lv_istore_n (i := 2) (lv' := [(2, .int r40), (0, .ref a0), (1, .int x1)]) hx hb h_K_useObject_169 rfl hl (by decide) rfl (fun ls hl => ?_)
        refine lv_aload_n hx hb h_K_useObject_170 rfl (lv_at hl 1 rfl) ?_
        obtain ⟨g41, hw⟩ := hw
        refine C_get C h 2 5 (v := va_rf (σ39.2.2.2.1 a0 5)) g41 rfl (Cn := R_K) (T := T_K) (N := 14) rfl (by decide) rfl uw_K (by decide) u_231 (fun _ q => q) h_K_useObject_171 ?_
        refine lv_topq (fun b42 e_b42 => ?_)
        replace hw := hw b42 e_b42
        refine lv_iload_n hx hb h_K_useObject_174 rfl (lv_at hl 0 rfl) ?_
        refine lv_if_eq (tgt := 197) hx hb h_K_useObject_175 (by decide) (fun c43 => ?_) (fun c43 => ?_)
        · skip
          replace hw := hw.1 c43
          exact K_197 () b42 σ39 _ _ _ _ _ hw h (lv_sub hl [] rfl)
        · skip
          replace hw := hw.2 c43
          refine lv_aload_n hx hb h_K_useObject_178 rfl (lv_at hl 1 rfl) ?_
          refine lv_iload_n hx hb h_K_useObject_179 rfl (lv_at hl 0 rfl) ?_
          refine lv_bipush (v := 32) hx hb h_K_useObject_180 (by decide) ?_
          refine lv_aload_n hx hb h_K_useObject_182 rfl (lv_at hl 1 rfl) ?_
          refine C_callVi (As := []) (rest := [.int 32, .int r40, .ref a0, va_rf b42]) C h (ci := 2) (Cn := R_K) (T := T_K) (N := 14) g41 rfl (by decide) (X_K_operand l dC dI ca H σ39 a0 hw) (cwV 0 hts (gV hsub u_257 u_258 u_259 u_260 u_261) rfl rfl rfl (by decide +kernel) ⟨(Nat.le_of_ble_eq_true rfl), (Nat.le_of_ble_eq_true rfl)⟩) rfl hl.1 (by simp only [List.map_cons, List.map_nil, List.sum_cons, List.sum_nil, cq_cat]; exact Nat.le_of_ble_eq_true rfl) h_K_useObject_183 (fun r45 σ44 H locs cells slots hw9 h9 => ?_)
          clear hw h; have hw := hw9; have h := h9; clear hw9 h9
          refine W.eq (g2 := F0 m 186 ls [.int r45, .int 32, .int r40, .ref a0, va_rf b42]) rfl ?_
          refine lv_iadd hx hb h_K_useObject_186 ?_
          obtain ⟨g46, hw⟩ := hw
          refine C_callVi (As := [.int r40, .int ((32 : Int32) + r45)]) (rest := [va_rf b42]) C h (ci := 2) (Cn := R_K) (T := T_K) (N := 14) g46 rfl (by decide) (X_K_isOf l dC dI ca H σ44 a0 r40 ((32 : Int32) + r45) hw) (cwV 2 hts (gV hsub u_295 u_296 u_297 u_260 u_298) rfl rfl rfl (by decide +kernel) ⟨(Nat.le_of_ble_eq_true rfl), (Nat.le_of_ble_eq_true rfl)⟩) rfl hl.1 (by simp only [List.map_cons, List.map_nil, List.sum_cons, List.sum_nil, cq_cat]; exact Nat.le_of_ble_eq_true rfl) h_K_useObject_187 (fun r48 σ47 H locs cells slots hw9 h9 => ?_)
          clear hw h; have hw := hw9; have h := h9; clear hw9 h9
          refine W.eq (g2 := F0 m 190 ls [.int r48, va_rf b42]) rfl ?_
          refine lv_if_eq (tgt := 197) hx hb h_K_useObject_190 (by decide) (fun c49 => ?_) (fun c49 => ?_)
          · skip
            replace hw := hw.1 c49
            exact K_197 () b42 σ47 _ _ _ _ _ hw h (lv_sub hl [] rfl)
          · skip
            replace hw := hw.2 c49
            refine lv_lconst (v := 1) hx hb h_K_useObject_193 (by decide) ?_
            refine lv_goto (tgt := 198) hx hb h_K_useObject_194 (by decide) ?_
            exact K_198 () 1 b42 σ47 _ _ _ _ _ hw h (lv_sub hl [] rfl)
      · skip
        replace hw := hw.2 c34
        by_cases c50 : x1 = 186
        · skip
          replace hw := hw.1 c50
          refine tp_i 186 c50 ?_
          refine lv_tableIn (off := 161) (tgt := 162) hx hb h_K_useObject_1 (by decide) (by decide) (by decide) (by decide) ?_
          refine lv_aload_n hx hb h_K_useObject_162 rfl (lv_at hl 0 rfl) ?_
          obtain ⟨g51, hw⟩ := hw
          refine C_get C h 2 5 (v := va_rf (σ0.2.2.2.1 a0 5)) g51 rfl (Cn := R_K) (T := T_K) (N := 14) rfl (by decide) rfl uw_K (by decide) u_231 (fun _ q => q) h_K_useObject_163 ?_
          refine lv_topq (fun b52 e_b52 => ?_)
          replace hw := hw b52 e_b52
          obtain ⟨r53, e_r53, hw⟩ := hw
          subst e_r53
          have hl : lv_has ls 3 [(0, .ref a0), (1, .int x1)] := hl
          refine W.eq (g2 := F0 m 166 ls [.ref r53]) rfl ?_
          obtain ⟨g54, hw⟩ := hw
          refine C_callVi (As := []) (rest := []) C h (ci := 0) (Cn := R_C) (T := T_C) (N := 5) g54 rfl (by decide) (X_C_popInt l dC dI ca s.heap σ0 r53 hw) (cwV 0 hts (gV hsub u_246 u_247 u_248 u_12 u_249) rfl rfl rfl (by decide +kernel) ⟨(Nat.le_of_ble_eq_true rfl), (Nat.le_of_ble_eq_true rfl)⟩) rfl hl.1 (Nat.le_of_ble_eq_true rfl) h_K_useObject_166 (fun r56 σ55 H locs cells slots hw9 h9 => ?_)
          clear hw h; have hw := hw9; have h := h9; clear hw9 h9
          refine W.eq (g2 := F0 m 169 ls [.int r56]) rfl ?_
          refine lv_istore_n (i := 2) (lv' := [(2, .int r56), (0, .ref a0), (1, .int x1)]) hx hb h_K_useObject_169 rfl hl (by decide) rfl (fun ls hl => ?_)
          refine lv_aload_n hx hb h_K_useObject_170 rfl (lv_at hl 1 rfl) ?_
          obtain ⟨g57, hw⟩ := hw
          refine C_get C h 2 5 (v := va_rf (σ55.2.2.2.1 a0 5)) g57 rfl (Cn := R_K) (T := T_K) (N := 14) rfl (by decide) rfl uw_K (by decide) u_231 (fun _ q => q) h_K_useObject_171 ?_
          refine lv_topq (fun b58 e_b58 => ?_)
          replace hw := hw b58 e_b58
          refine lv_iload_n hx hb h_K_useObject_174 rfl (lv_at hl 0 rfl) ?_
          refine lv_if_eq (tgt := 197) hx hb h_K_useObject_175 (by decide) (fun c59 => ?_) (fun c59 => ?_)
          · skip
            replace hw := hw.1 c59
            exact K_197 () b58 σ55 _ _ _ _ _ hw h (lv_sub hl [] rfl)
          · skip
            replace hw := hw.2 c59
            refine lv_aload_n hx hb h_K_useObject_178 rfl (lv_at hl 1 rfl) ?_
            refine lv_iload_n hx hb h_K_useObject_179 rfl (lv_at hl 0 rfl) ?_
            refine lv_bipush (v := 32) hx hb h_K_useObject_180 (by decide) ?_
            refine lv_aload_n hx hb h_K_useObject_182 rfl (lv_at hl 1 rfl) ?_
            refine C_callVi (As := []) (rest := [.int 32, .int r56, .ref a0, va_rf b58]) C h (ci := 2) (Cn := R_K) (T := T_K) (N := 14) g57 rfl (by decide) (X_K_operand l dC dI ca H σ55 a0 hw) (cwV 0 hts (gV hsub u_257 u_258 u_259 u_260 u_261) rfl rfl rfl (by decide +kernel) ⟨(Nat.le_of_ble_eq_true rfl), (Nat.le_of_ble_eq_true rfl)⟩) rfl hl.1 (by simp only [List.map_cons, List.map_nil, List.sum_cons, List.sum_nil, cq_cat]; exact Nat.le_of_ble_eq_true rfl) h_K_useObject_183 (fun r61 σ60 H locs cells slots hw9 h9 => ?_)
            clear hw h; have hw := hw9; have h := h9; clear hw9 h9
            refine W.eq (g2 := F0 m 186 ls [.int r61, .int 32, .int r56, .ref a0, va_rf b58]) rfl ?_
            refine lv_iadd hx hb h_K_useObject_186 ?_
            obtain ⟨g62, hw⟩ := hw
            refine C_callVi (As := [.int r56, .int ((32 : Int32) + r61)]) (rest := [va_rf b58]) C h (ci := 2) (Cn := R_K) (T := T_K) (N := 14) g62 rfl (by decide) (X_K_isOf l dC dI ca H σ60 a0 r56 ((32 : Int32) + r61) hw) (cwV 2 hts (gV hsub u_295 u_296 u_297 u_260 u_298) rfl rfl rfl (by decide +kernel) ⟨(Nat.le_of_ble_eq_true rfl), (Nat.le_of_ble_eq_true rfl)⟩) rfl hl.1 (by simp only [List.map_cons, List.map_nil, List.sum_cons, List.sum_nil, cq_cat]; exact Nat.le_of_ble_eq_true rfl) h_K_useObject_187 (fun r64 σ63 H locs cells slots hw9 h9 => ?_)
            clear hw h; have hw := hw9; have h := h9; clear hw9 h9
            refine W.eq (g2 := F0 m 190 ls [.int r64, va_rf b58]) rfl ?_
            refine lv_if_eq (tgt := 197) hx hb h_K_useObject_190 (by decide) (fun c65 => ?_) (fun c65 => ?_)
            · skip
              replace hw := hw.1 c65
              exact K_197 () b58 σ63 _ _ _ _ _ hw h (lv_sub hl [] rfl)
            · skip
              replace hw := hw.2 c65
              refine lv_lconst (v := 1) hx hb h_K_useObject_193 (by decide) ?_
              refine lv_goto (tgt := 198) hx hb h_K_useObject_194 (by decide) ?_
              exact K_198 () 1 b58 σ63 _ _ _ _ _ hw h (lv_sub hl [] rfl)
        · skip
          replace hw := hw.2 c50
          by_cases c66 : x1 = 187
          · skip
            replace hw := hw.1 c66
            refine tp_i 187 c66 ?_
            refine lv_tableIn (off := 66) (tgt := 67) hx hb h_K_useObject_1 (by decide) (by decide) (by decide) (by decide) ?_
            refine lv_aload_n hx hb h_K_useObject_67 rfl (lv_at hl 0 rfl) ?_
            refine lv_bipush (v := 32) hx hb h_K_useObject_68 (by decide) ?_
            refine lv_aload_n hx hb h_K_useObject_70 rfl (lv_at hl 0 rfl) ?_
            obtain ⟨g67, hw⟩ := hw
            refine C_callVi (As := []) (rest := [.int 32, .ref a0]) C h (ci := 2) (Cn := R_K) (T := T_K) (N := 14) g67 rfl (by decide) (X_K_operand l dC dI ca s.heap σ0 a0 hw) (cwV 0 hts (gV hsub u_257 u_258 u_259 u_260 u_261) rfl rfl rfl (by decide +kernel) ⟨(Nat.le_of_ble_eq_true rfl), (Nat.le_of_ble_eq_true rfl)⟩) rfl hl.1 (Nat.le_of_ble_eq_true rfl) h_K_useObject_71 (fun r69 σ68 H locs cells slots hw9 h9 => ?_)
            clear hw h; have hw := hw9; have h := h9; clear hw9 h9
            refine W.eq (g2 := F0 m 74 ls [.int r69, .int 32, .ref a0]) rfl ?_
            refine lv_iadd hx hb h_K_useObject_74 ?_
            refine lv_bipush (v := 16) hx hb h_K_useObject_75 (by decide) ?_
            obtain ⟨g70, hw⟩ := hw
            refine C_callVv (As := [.int ((32 : Int32) + r69), .int 16]) (rest := []) C h (ci := 2) (Cn := R_K) (T := T_K) (N := 14) g70 rfl (by decide) (X_K_pushMade l dC dI ca H σ68 a0 ((32 : Int32) + r69) (16 : Int32) hw) (cwV 2 hts (gV hsub u_357 u_358 u_359 u_260 u_360) rfl rfl rfl (by decide +kernel) ⟨(Nat.le_of_ble_eq_true rfl), (Nat.le_of_ble_eq_true rfl)⟩) rfl hl.1 (Nat.le_of_ble_eq_true rfl) h_K_useObject_77 (fun σ71 H locs cells slots hw9 h9 => ?_)
            clear hw h; have hw := hw9; have h := h9; clear hw9 h9
            refine W.eq (g2 := F0 m 80 ls []) rfl ?_
            refine lv_goto (tgt := 201) hx hb h_K_useObject_80 (by decide) ?_
            exact hend σ71 _ _ _ _ _ _ hw h h_K_useObject_201
          · skip
            replace hw := hw.2 c66
            by_cases c73 : x1 = 188
            · skip
              replace hw := hw.1 c73
              refine tp_i 188 c73 ?_
              refine lv_tableIn (off := 82) (tgt := 83) hx hb h_K_useObject_1 (by decide) (by decide) (by decide) (by decide) ?_
              refine lv_aload_n hx hb h_K_useObject_83 rfl (lv_at hl 0 rfl) ?_
              refine lv_aload_n hx hb h_K_useObject_84 rfl (lv_at hl 0 rfl) ?_
              obtain ⟨g74, hw⟩ := hw
              refine C_callVi (As := []) (rest := [.ref a0]) C h (ci := 2) (Cn := R_K) (T := T_K) (N := 14) g74 rfl (by decide) (X_K_operand l dC dI ca s.heap σ0 a0 hw) (cwV 0 hts (gV hsub u_257 u_258 u_259 u_260 u_261) rfl rfl rfl (by decide +kernel) ⟨(Nat.le_of_ble_eq_true rfl), (Nat.le_of_ble_eq_true rfl)⟩) rfl hl.1 (Nat.le_of_ble_eq_true rfl) h_K_useObject_85 (fun r76 σ75 H locs cells slots hw9 h9 => ?_)
              clear hw h; have hw := hw9; have h := h9; clear hw9 h9
              refine W.eq (g2 := F0 m 88 ls [.int r76, .ref a0]) rfl ?_
              refine lv_bipush (v := 10) hx hb h_K_useObject_88 (by decide) ?_
              refine lv_icmp_ne (tgt := 97) hx hb h_K_useObject_90 (by decide) (fun c77 => ?_) (fun c77 => ?_)
              · skip
                replace hw := hw.2 c77
                refine lv_iconst (v := 4) hx hb h_K_useObject_97 (by decide) ?_
                exact K_98 () 4 σ75 _ _ _ _ _ hw h (lv_sub hl [] rfl)
              · skip
                replace hw := hw.1 c77
                refine lv_iconst (v := 3) hx hb h_K_useObject_93 (by decide) ?_
                refine lv_goto (tgt := 98) hx hb h_K_useObject_94 (by decide) ?_
                exact K_98 () 3 σ75 _ _ _ _ _ hw h (lv_sub hl [] rfl)
            · skip
              replace hw := hw.2 c73
              by_cases c78 : x1 = 189
              · skip
                replace hw := hw.1 c78
                refine tp_i 189 c78 ?_
                refine lv_tableIn (off := 103) (tgt := 104) hx hb h_K_useObject_1 (by decide) (by decide) (by decide) (by decide) ?_
                refine lv_aload_n hx hb h_K_useObject_104 rfl (lv_at hl 0 rfl) ?_
                refine lv_bipush (v := 64) hx hb h_K_useObject_105 (by decide) ?_
                refine lv_aload_n hx hb h_K_useObject_107 rfl (lv_at hl 0 rfl) ?_
                obtain ⟨g79, hw⟩ := hw
                refine C_callVi (As := []) (rest := [.int 64, .ref a0]) C h (ci := 2) (Cn := R_K) (T := T_K) (N := 14) g79 rfl (by decide) (X_K_operand l dC dI ca s.heap σ0 a0 hw) (cwV 0 hts (gV hsub u_257 u_258 u_259 u_260 u_261) rfl rfl rfl (by decide +kernel) ⟨(Nat.le_of_ble_eq_true rfl), (Nat.le_of_ble_eq_true rfl)⟩) rfl hl.1 (Nat.le_of_ble_eq_true rfl) h_K_useObject_108 (fun r81 σ80 H locs cells slots hw9 h9 => ?_)
                clear hw h; have hw := hw9; have h := h9; clear hw9 h9
                refine W.eq (g2 := F0 m 111 ls [.int r81, .int 64, .ref a0]) rfl ?_
                refine lv_iadd hx hb h_K_useObject_111 ?_
                obtain ⟨g82, hw⟩ := hw
                refine C_callVv (As := [.int ((64 : Int32) + r81)]) (rest := []) C h (ci := 2) (Cn := R_K) (T := T_K) (N := 14) g82 rfl (by decide) (X_K_makeArray l dC dI ca H σ80 a0 ((64 : Int32) + r81) hw) (cwV 1 hts (gV hsub u_362 u_363 u_364 u_260 u_365) rfl rfl rfl (by decide +kernel) ⟨(Nat.le_of_ble_eq_true rfl), (Nat.le_of_ble_eq_true rfl)⟩) rfl hl.1 (Nat.le_of_ble_eq_true rfl) h_K_useObject_112 (fun σ83 H locs cells slots hw9 h9 => ?_)
                clear hw h; have hw := hw9; have h := h9; clear hw9 h9
                refine W.eq (g2 := F0 m 115 ls []) rfl ?_
                refine lv_goto (tgt := 201) hx hb h_K_useObject_115 (by decide) ?_
                exact hend σ83 _ _ _ _ _ _ hw h h_K_useObject_201
              · skip
                replace hw := hw.2 c78
                by_cases c85 : x1 = 190
                · skip
                  replace hw := hw.1 c85
                  refine tp_i 190 c85 ?_
                  refine lv_tableIn (off := 117) (tgt := 118) hx hb h_K_useObject_1 (by decide) (by decide) (by decide) (by decide) ?_
                  refine lv_aload_n hx hb h_K_useObject_118 rfl (lv_at hl 0 rfl) ?_
                  obtain ⟨g86, hw⟩ := hw
                  refine C_callVv (As := []) (rest := []) C h (ci := 2) (Cn := R_K) (T := T_K) (N := 14) g86 rfl (by decide) (X_K_pushLength l dC dI ca s.heap σ0 a0 hw) (cwV 0 hts (gV hsub u_366 u_367 u_368 u_260 u_369) rfl rfl rfl (by decide +kernel) ⟨(Nat.le_of_ble_eq_true rfl), (Nat.le_of_ble_eq_true rfl)⟩) rfl hl.1 (Nat.le_of_ble_eq_true rfl) h_K_useObject_119 (fun σ87 H locs cells slots hw9 h9 => ?_)
                  clear hw h; have hw := hw9; have h := h9; clear hw9 h9
                  refine W.eq (g2 := F0 m 122 ls []) rfl ?_
                  refine lv_goto (tgt := 201) hx hb h_K_useObject_122 (by decide) ?_
                  exact hend σ87 _ _ _ _ _ _ hw h h_K_useObject_201
                · skip
                  replace hw := hw.2 c85
                  by_cases c89 : x1 = 191
                  · skip
                    replace hw := hw.1 c89
                    refine tp_i 191 c89 ?_
                    refine lv_tableIn (off := 124) (tgt := 125) hx hb h_K_useObject_1 (by decide) (by decide) (by decide) (by decide) ?_
                    refine lv_aload_n hx hb h_K_useObject_125 rfl (lv_at hl 0 rfl) ?_
                    refine lv_aload_n hx hb h_K_useObject_126 rfl (lv_at hl 0 rfl) ?_
                    obtain ⟨g90, hw⟩ := hw
                    refine C_get C h 2 5 (v := va_rf (σ0.2.2.2.1 a0 5)) g90 rfl (Cn := R_K) (T := T_K) (N := 14) rfl (by decide) rfl uw_K (by decide) u_231 (fun _ q => q) h_K_useObject_127 ?_
                    refine lv_topq (fun b91 e_b91 => ?_)
                    replace hw := hw b91 e_b91
                    obtain ⟨r92, e_r92, hw⟩ := hw
                    subst e_r92
                    have hl : lv_has ls 3 [(0, .ref a0), (1, .int x1)] := hl
                    refine W.eq (g2 := F0 m 130 ls [.ref r92, .ref a0]) rfl ?_
                    obtain ⟨g93, hw⟩ := hw
                    refine C_callVi (As := []) (rest := [.ref a0]) C h (ci := 0) (Cn := R_C) (T := T_C) (N := 5) g93 rfl (by decide) (X_C_popInt l dC dI ca s.heap σ0 r92 hw) (cwV 0 hts (gV hsub u_246 u_247 u_248 u_12 u_249) rfl rfl rfl (by decide +kernel) ⟨(Nat.le_of_ble_eq_true rfl), (Nat.le_of_ble_eq_true rfl)⟩) rfl hl.1 (Nat.le_of_ble_eq_true rfl) h_K_useObject_130 (fun r95 σ94 H locs cells slots hw9 h9 => ?_)
                    clear hw h; have hw := hw9; have h := h9; clear hw9 h9
                    refine W.eq (g2 := F0 m 133 ls [.int r95, .ref a0]) rfl ?_
                    obtain ⟨g96, hw⟩ := hw
                    refine C_puti C h 2 8 g96 (Cn := R_K) (T := T_K) (N := 14) rfl (by decide) rfl uw_K tok_K nm_K (by decide) rfl u_370 (fun _ q => q) (Or.inl rfl) (by decide +kernel) h_K_useObject_133 (fun H locs h => ?_)
                    obtain ⟨σ97, e_σ97⟩ : ∃ z : CST, z = sI σ94 a0 8 r95 := ⟨_, rfl⟩
                    rw [← e_σ97] at h
                    replace hw := hw σ97 e_σ97
                    refine lv_aload_n hx hb h_K_useObject_136 rfl (lv_at hl 0 rfl) ?_
                    refine lv_aload_n hx hb h_K_useObject_137 rfl (lv_at hl 0 rfl) ?_
                    obtain ⟨g98, hw⟩ := hw
                    refine C_get C h 2 8 (v := .int (σ97.2.1 a0 8)) g98 rfl (Cn := R_K) (T := T_K) (N := 14) rfl (by decide) rfl uw_K (by decide) u_370 (fun _ q => q) h_K_useObject_138 ?_
                    refine lv_if_ne (tgt := 148) hx hb h_K_useObject_141 (by decide) (fun c99 => ?_) (fun c99 => ?_)
                    · skip
                      replace hw := hw.2 c99
                      refine lv_iconst (v := 0) hx hb h_K_useObject_148 (by decide) ?_
                      exact K_149 () 0 σ97 _ _ _ _ _ hw h (lv_sub hl [] rfl)
                    · skip
                      replace hw := hw.1 c99
                      refine lv_iconst (v := 1) hx hb h_K_useObject_144 (by decide) ?_
                      refine lv_goto (tgt := 149) hx hb h_K_useObject_145 (by decide) ?_
                      exact K_149 () 1 σ97 _ _ _ _ _ hw h (lv_sub hl [] rfl)
                  · skip
                    replace hw := hw.2 c89
                    by_cases c100 : x1 = 192
                    · skip
                      replace hw := hw.1 c100
                      refine tp_i 192 c100 ?_
                      refine lv_tableIn (off := 154) (tgt := 155) hx hb h_K_useObject_1 (by decide) (by decide) (by decide) (by decide) ?_
                      refine lv_aload_n hx hb h_K_useObject_155 rfl (lv_at hl 0 rfl) ?_
                      obtain ⟨g101, hw⟩ := hw
                      refine C_callVv (As := []) (rest := []) C h (ci := 2) (Cn := R_K) (T := T_K) (N := 14) g101 rfl (by decide) (X_K_cast l dC dI ca s.heap σ0 a0 hw) (cwV 0 hts (gV hsub u_371 u_372 u_373 u_260 u_374) rfl rfl rfl (by decide +kernel) ⟨(Nat.le_of_ble_eq_true rfl), (Nat.le_of_ble_eq_true rfl)⟩) rfl hl.1 (Nat.le_of_ble_eq_true rfl) h_K_useObject_156 (fun σ102 H locs cells slots hw9 h9 => ?_)
                      clear hw h; have hw := hw9; have h := h9; clear hw9 h9
                      refine W.eq (g2 := F0 m 159 ls []) rfl ?_
                      refine lv_goto (tgt := 201) hx hb h_K_useObject_159 (by decide) ?_
                      exact hend σ102 _ _ _ _ _ _ hw h h_K_useObject_201
                    · skip
                      replace hw := hw.2 c100
                      have h9 : (x1 : Int32).toInt < 183 ∨ 192 < (x1 : Int32).toInt := by simp only [← Int32.toInt_inj, Int32.reduceToInt] at c11 c18 c34 c50 c66 c73 c78 c85 c89 c100; omega
                      refine lv_tableOut (tgt := 162) hx hb h_K_useObject_1 h9 (by decide) ?_
                      refine lv_aload_n hx hb h_K_useObject_162 rfl (lv_at hl 0 rfl) ?_
                      obtain ⟨g104, hw⟩ := hw
                      refine C_get C h 2 5 (v := va_rf (σ0.2.2.2.1 a0 5)) g104 rfl (Cn := R_K) (T := T_K) (N := 14) rfl (by decide) rfl uw_K (by decide) u_231 (fun _ q => q) h_K_useObject_163 ?_
                      refine lv_topq (fun b105 e_b105 => ?_)
                      replace hw := hw b105 e_b105
                      obtain ⟨r106, e_r106, hw⟩ := hw
                      subst e_r106
                      have hl : lv_has ls 3 [(0, .ref a0), (1, .int x1)] := hl
                      refine W.eq (g2 := F0 m 166 ls [.ref r106]) rfl ?_
                      obtain ⟨g107, hw⟩ := hw
                      refine C_callVi (As := []) (rest := []) C h (ci := 0) (Cn := R_C) (T := T_C) (N := 5) g107 rfl (by decide) (X_C_popInt l dC dI ca s.heap σ0 r106 hw) (cwV 0 hts (gV hsub u_246 u_247 u_248 u_12 u_249) rfl rfl rfl (by decide +kernel) ⟨(Nat.le_of_ble_eq_true rfl), (Nat.le_of_ble_eq_true rfl)⟩) rfl hl.1 (Nat.le_of_ble_eq_true rfl) h_K_useObject_166 (fun r109 σ108 H locs cells slots hw9 h9 => ?_)
                      clear hw h; have hw := hw9; have h := h9; clear hw9 h9
                      refine W.eq (g2 := F0 m 169 ls [.int r109]) rfl ?_
                      refine lv_istore_n (i := 2) (lv' := [(2, .int r109), (0, .ref a0), (1, .int x1)]) hx hb h_K_useObject_169 rfl hl (by decide) rfl (fun ls hl => ?_)
                      refine lv_aload_n hx hb h_K_useObject_170 rfl (lv_at hl 1 rfl) ?_
                      obtain ⟨g110, hw⟩ := hw
                      refine C_get C h 2 5 (v := va_rf (σ108.2.2.2.1 a0 5)) g110 rfl (Cn := R_K) (T := T_K) (N := 14) rfl (by decide) rfl uw_K (by decide) u_231 (fun _ q => q) h_K_useObject_171 ?_
                      refine lv_topq (fun b111 e_b111 => ?_)
                      replace hw := hw b111 e_b111
                      refine lv_iload_n hx hb h_K_useObject_174 rfl (lv_at hl 0 rfl) ?_
                      refine lv_if_eq (tgt := 197) hx hb h_K_useObject_175 (by decide) (fun c112 => ?_) (fun c112 => ?_)
                      · skip
                        replace hw := hw.1 c112
                        exact K_197 () b111 σ108 _ _ _ _ _ hw h (lv_sub hl [] rfl)
                      · skip
                        replace hw := hw.2 c112
                        refine lv_aload_n hx hb h_K_useObject_178 rfl (lv_at hl 1 rfl) ?_
                        refine lv_iload_n hx hb h_K_useObject_179 rfl (lv_at hl 0 rfl) ?_
                        refine lv_bipush (v := 32) hx hb h_K_useObject_180 (by decide) ?_
                        refine lv_aload_n hx hb h_K_useObject_182 rfl (lv_at hl 1 rfl) ?_
                        refine C_callVi (As := []) (rest := [.int 32, .int r109, .ref a0, va_rf b111]) C h (ci := 2) (Cn := R_K) (T := T_K) (N := 14) g110 rfl (by decide) (X_K_operand l dC dI ca H σ108 a0 hw) (cwV 0 hts (gV hsub u_257 u_258 u_259 u_260 u_261) rfl rfl rfl (by decide +kernel) ⟨(Nat.le_of_ble_eq_true rfl), (Nat.le_of_ble_eq_true rfl)⟩) rfl hl.1 (by simp only [List.map_cons, List.map_nil, List.sum_cons, List.sum_nil, cq_cat]; exact Nat.le_of_ble_eq_true rfl) h_K_useObject_183 (fun r114 σ113 H locs cells slots hw9 h9 => ?_)
                        clear hw h; have hw := hw9; have h := h9; clear hw9 h9
                        refine W.eq (g2 := F0 m 186 ls [.int r114, .int 32, .int r109, .ref a0, va_rf b111]) rfl ?_
                        refine lv_iadd hx hb h_K_useObject_186 ?_
                        obtain ⟨g115, hw⟩ := hw
                        refine C_callVi (As := [.int r109, .int ((32 : Int32) + r114)]) (rest := [va_rf b111]) C h (ci := 2) (Cn := R_K) (T := T_K) (N := 14) g115 rfl (by decide) (X_K_isOf l dC dI ca H σ113 a0 r109 ((32 : Int32) + r114) hw) (cwV 2 hts (gV hsub u_295 u_296 u_297 u_260 u_298) rfl rfl rfl (by decide +kernel) ⟨(Nat.le_of_ble_eq_true rfl), (Nat.le_of_ble_eq_true rfl)⟩) rfl hl.1 (by simp only [List.map_cons, List.map_nil, List.sum_cons, List.sum_nil, cq_cat]; exact Nat.le_of_ble_eq_true rfl) h_K_useObject_187 (fun r117 σ116 H locs cells slots hw9 h9 => ?_)
                        clear hw h; have hw := hw9; have h := h9; clear hw9 h9
                        refine W.eq (g2 := F0 m 190 ls [.int r117, va_rf b111]) rfl ?_
                        refine lv_if_eq (tgt := 197) hx hb h_K_useObject_190 (by decide) (fun c118 => ?_) (fun c118 => ?_)
                        · skip
                          replace hw := hw.1 c118
                          exact K_197 () b111 σ116 _ _ _ _ _ hw h (lv_sub hl [] rfl)
                        · skip
                          replace hw := hw.2 c118
                          refine lv_lconst (v := 1) hx hb h_K_useObject_193 (by decide) ?_
                          refine lv_goto (tgt := 198) hx hb h_K_useObject_194 (by decide) ?_
                          exact K_198 () 1 b111 σ116 _ _ _ _ _ hw h (lv_sub hl [] rfl)
