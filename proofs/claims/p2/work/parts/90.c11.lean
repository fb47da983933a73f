abbrev g_Ve_checkOperand : MethodName := ⟨"MapFramer$Verifier", "checkOperand", "(III)V"⟩
theorem u_723 : (Cond.methodLink "MapFramer$Verifier" 89 ⟨"MapFramer$Verifier", "hasMember", "(II)Z"⟩ : Cond) ∈ bigW := inB_4 10 (by decide +kernel) rfl
theorem u_724 : (Cond.instanceMethod ⟨"MapFramer$Verifier", "hasMember", "(II)Z"⟩ : Cond) ∈ bigW := inB_4 12 (by decide +kernel) rfl
theorem u_725 : (Cond.selects "MapFramer$Verifier" ⟨"MapFramer$Verifier", "hasMember", "(II)Z"⟩ ⟨"MapFramer$Verifier", "hasMember", "(II)Z"⟩ : Cond) ∈ bigW := inS (y := ⟨"MapFramer$Verifier", "hasMember", "(II)Z"⟩) (n := 10) (List.mem_of_getElem? (i := 5) (by decide +kernel))
theorem u_726 : (Cond.initialized "MapFramer$Verifier" : Cond) ∈ bigW := inB_1 21 (by decide +kernel) rfl
theorem u_727 : (Cond.code ⟨"MapFramer$Verifier", "hasMember", "(II)Z"⟩ prog_11_method_5_code 4 (some .boolean) : Cond) ∈ bigW := inB_4 13 rfl rfl
theorem u_728 : (Cond.methodLink "MapFramer$Verifier" 76 ⟨"MapFramer$Method", "fail", "(II)V"⟩ : Cond) ∈ bigW := inB_3 235 (by decide +kernel) rfl
theorem u_729 : (Cond.instanceMethod ⟨"MapFramer$Method", "fail", "(II)V"⟩ : Cond) ∈ bigW := inB_3 236 (by decide +kernel) rfl
theorem u_730 : (Cond.selects "MapFramer$Method" ⟨"MapFramer$Method", "fail", "(II)V"⟩ ⟨"MapFramer$Method", "fail", "(II)V"⟩ : Cond) ∈ bigW := inB_3 237 (by decide +kernel) rfl
theorem u_731 : (Cond.code ⟨"MapFramer$Method", "fail", "(II)V"⟩ prog_7_method_11_code 3 none : Cond) ∈ bigW := inB_3 238 rfl rfl
theorem u_732 : (Cond.methodLink "MapFramer$Verifier" 86 ⟨"MapFramer$Verifier", "localsUsed", "(I)I"⟩ : Cond) ∈ bigW := inB_4 7 (by decide +kernel) rfl
theorem u_733 : (Cond.static ⟨"MapFramer$Verifier", "localsUsed", "(I)I"⟩ : Cond) ∈ bigW := inB_4 8 (by decide +kernel) rfl
theorem u_734 : (Cond.code ⟨"MapFramer$Verifier", "localsUsed", "(I)I"⟩ prog_11_method_4_code 1 (some .int) : Cond) ∈ bigW := inB_4 9 rfl rfl
theorem h_Ve_checkOperand_0 : decode prog_11_method_3_code 0 = .ok (.iload_n 2, 1) := by decide +kernel
theorem h_Ve_checkOperand_1 : decode prog_11_method_3_code 1 = .ok (.iload_n 1, 1) := by decide +kernel
theorem h_Ve_checkOperand_2 : decode prog_11_method_3_code 2 = .ok (.invokestatic 86, 3) := by decide +kernel
theorem h_Ve_checkOperand_5 : decode prog_11_method_3_code 5 = .ok (.iadd, 1) := by decide +kernel
theorem h_Ve_checkOperand_6 : decode prog_11_method_3_code 6 = .ok (.aload_n 0, 1) := by decide +kernel
theorem h_Ve_checkOperand_7 : decode prog_11_method_3_code 7 = .ok (.getfield 15, 3) := by decide +kernel
theorem h_Ve_checkOperand_10 : decode prog_11_method_3_code 10 = .ok (.getfield 47, 3) := by decide +kernel
theorem h_Ve_checkOperand_13 : decode prog_11_method_3_code 13 = .ok (.if_icmp .le 19, 3) := by decide +kernel
theorem h_Ve_checkOperand_16 : decode prog_11_method_3_code 16 = .ok (.iload_n 1, 1) := by decide +kernel
theorem h_Ve_checkOperand_17 : decode prog_11_method_3_code 17 = .ok (.invokestatic 86, 3) := by decide +kernel
theorem h_Ve_checkOperand_20 : decode prog_11_method_3_code 20 = .ok (.ifCond .le 12, 3) := by decide +kernel
theorem h_Ve_checkOperand_23 : decode prog_11_method_3_code 23 = .ok (.aload_n 0, 1) := by decide +kernel
theorem h_Ve_checkOperand_24 : decode prog_11_method_3_code 24 = .ok (.getfield 15, 3) := by decide +kernel
theorem h_Ve_checkOperand_27 : decode prog_11_method_3_code 27 = .ok (.iconst 2, 1) := by decide +kernel
theorem h_Ve_checkOperand_28 : decode prog_11_method_3_code 28 = .ok (.iload_n 3, 1) := by decide +kernel
theorem h_Ve_checkOperand_29 : decode prog_11_method_3_code 29 = .ok (.invokevirtual 76, 3) := by decide +kernel
theorem h_Ve_checkOperand_32 : decode prog_11_method_3_code 32 = .ok (.aload_n 0, 1) := by decide +kernel
theorem h_Ve_checkOperand_33 : decode prog_11_method_3_code 33 = .ok (.iload_n 1, 1) := by decide +kernel
theorem h_Ve_checkOperand_34 : decode prog_11_method_3_code 34 = .ok (.iload_n 2, 1) := by decide +kernel
theorem h_Ve_checkOperand_35 : decode prog_11_method_3_code 35 = .ok (.invokevirtual 89, 3) := by decide +kernel
theorem h_Ve_checkOperand_38 : decode prog_11_method_3_code 38 = .ok (.ifCond .ne 12, 3) := by decide +kernel
theorem h_Ve_checkOperand_41 : decode prog_11_method_3_code 41 = .ok (.aload_n 0, 1) := by decide +kernel
theorem h_Ve_checkOperand_42 : decode prog_11_method_3_code 42 = .ok (.getfield 15, 3) := by decide +kernel
theorem h_Ve_checkOperand_45 : decode prog_11_method_3_code 45 = .ok (.iconst 3, 1) := by decide +kernel
theorem h_Ve_checkOperand_46 : decode prog_11_method_3_code 46 = .ok (.iload_n 3, 1) := by decide +kernel
theorem h_Ve_checkOperand_47 : decode prog_11_method_3_code 47 = .ok (.invokevirtual 76, 3) := by decide +kernel
theorem h_Ve_checkOperand_50 : decode prog_11_method_3_code 50 = .ok (.return_, 1) := by decide +kernel
def x_Ve_checkOperand_32 (a0 : Nat) (P : CST → Prop) (z1 : Int32) (z2 : Int32) (z3 : Int32) (σ : CST) : Prop := σ.1 a0 = some (10, 0) ∧ (x_Ve_hasMember a0 z1 z2 σ (fun r3 σ2 => ((r3 = 0 → σ2.1 a0 = some (10, 0) ∧ (∀ b6 : Option Nat, b6 = (σ2.2.2.2.1 a0 1) → (∃ r7 : Nat, b6 = some r7 ∧ (σ2.1 r7 = some (5, 0) ∧ (x_E_fail r7 (3 : Int32) z3 σ2 (fun σ9 => P σ9)))))) ∧ (¬ r3 = 0 → P σ2))))
def x_Ve_checkOperand (a0 : Nat) (x1 : Int32) (x2 : Int32) (x3 : Int32) (σ0 : CST) (P : CST → Prop) : Prop := x_Ve_localsUsed x1 σ0 (fun r12 σ11 => σ11.1 a0 = some (10, 0) ∧ (∀ b14 : Option Nat, b14 = (σ11.2.2.2.1 a0 1) → (∃ r15 : Nat, b14 = some r15 ∧ (σ11.1 r15 = some (5, 0) ∧ ((((x2 + r12) ≤ (σ11.2.1 r15 4) → x_Ve_checkOperand_32 a0 P x1 x2 x3 σ11) ∧ (¬ (x2 + r12) ≤ (σ11.2.1 r15 4) → x_Ve_localsUsed x1 σ11 (fun r19 σ18 => ((r19 ≤ 0 → x_Ve_checkOperand_32 a0 P x1 x2 x3 σ18) ∧ (¬ r19 ≤ 0 → σ18.1 a0 = some (10, 0) ∧ (∀ b22 : Option Nat, b22 = (σ18.2.2.2.1 a0 1) → (∃ r23 : Nat, b22 = some r23 ∧ (σ18.1 r23 = some (5, 0) ∧ (x_E_fail r23 (2 : Int32) x3 σ18 (fun σ25 => x_Ve_checkOperand_32 a0 P x1 x2 x3 σ25)))))))))))))))
set_option maxHeartbeats 4000000 in
set_option maxRecDepth 100000 in
theorem X_Ve_checkOperand (l : Launch) (dC : Nat → ClassId) (dI : Nat → Nat → Nat) (ca : Nat → ClassId) (H0 : Heap) (σ0 : CST) (a0 : Nat) (x1 : Int32) (x2 : Int32) (x3 : Int32) {P : CST → Prop} (hw : x_Ve_checkOperand a0 x1 x2 x3 σ0 P) : Met l g_Ve_checkOperand (mW g_Ve_checkOperand prog_11_method_3_code 4 none) ({ frames := 3, cells := σ0.2.2.2.2.1, slots := σ0.2.2.2.2.2.1, locals := 65 } : Room) (va_Pc [.ref a0, .int x1, .int x2, .int x3] (CPre (dC, dI) ca σ0 H0)) (va_Qv P (CB (dC, dI) ca σ0 H0) (cA σ0 H0.size)) σ0.2.2.2.2.1 σ0.2.2.2.2.2.1 (cA σ0 H0.size) := by
  refine C_ofv (by decide +kernel) rfl rfl rfl (Nat.le_of_ble_eq_true rfl) ?_
  intro p e s m below meth cx Q A ls C hnm hend hH0 h hl
  subst hH0
  have C0 := C
  obtain ⟨⟨hx, hb, hml, hown, hts⟩, hsub⟩ := C0
  obtain ⟨cells, e_cells⟩ : ∃ z : Nat, z = 0 := ⟨_, rfl⟩
  obtain ⟨slots, e_slots⟩ : ∃ z : Nat, z = 0 := ⟨_, rfl⟩
  have h : CH (dC, dI) A ca ({ frames := 3, cells := σ0.2.2.2.2.1, slots := σ0.2.2.2.2.2.1, locals := 65 } : Room) σ0.2.2.2.2.2.2 σ0 s s.heap [] cells slots := by rw [e_cells, e_slots]; exact h
  show W p l e ({ frames := 3, cells := σ0.2.2.2.2.1, slots := σ0.2.2.2.2.2.1, locals := 65 } : Room) s m ([.ref a0, .int x1, .int x2, .int x3] : List Value).toArray below meth cx s.heap [] 0 0 Q (F0 m 0 ls [])
  rw [show W p l e ({ frames := 3, cells := σ0.2.2.2.2.1, slots := σ0.2.2.2.2.2.1, locals := 65 } : Room) s m ([.ref a0, .int x1, .int x2, .int x3] : List Value).toArray below meth cx s.heap [] 0 0 Q (F0 m 0 ls []) = W p l e ({ frames := 3, cells := σ0.2.2.2.2.1, slots := σ0.2.2.2.2.2.1, locals := 65 } : Room) s m ([.ref a0, .int x1, .int x2, .int x3] : List Value).toArray below meth cx s.heap [] cells slots Q (F0 m 0 ls []) by rw [e_cells, e_slots]]
  have K_32 : ∀ (u9 : Unit), ∀ (z1 : Int32) (z2 : Int32) (z3 : Int32) (σ : CST) (H : Heap) (locs : List Loc) (cells slots : Nat) (ls : Array Slot), x_Ve_checkOperand_32 a0 P z1 z2 z3 σ → CH (dC, dI) A ca ({ frames := 3, cells := σ0.2.2.2.2.1, slots := σ0.2.2.2.2.2.1, locals := 65 } : Room) σ0.2.2.2.2.2.2 σ s H locs cells slots → lv_has ls 4 [(0, .ref a0), (1, .int z1), (2, .int z2), (3, .int z3)] → W p l e ({ frames := 3, cells := σ0.2.2.2.2.1, slots := σ0.2.2.2.2.2.1, locals := 65 } : Room) s m ([.ref a0, .int x1, .int x2, .int x3] : List Value).toArray below meth cx H locs cells slots Q (F0 m 32 ls []) := by
    intro u9 z1 z2 z3 σ H locs cells slots ls hw h hl
    unfold x_Ve_checkOperand_32 at hw
    refine lv_aload_n hx hb h_Ve_checkOperand_32 rfl (lv_at hl 0 rfl) ?_
    refine lv_iload_n hx hb h_Ve_checkOperand_33 rfl (lv_at hl 1 rfl) ?_
    refine lv_iload_n hx hb h_Ve_checkOperand_34 rfl (lv_at hl 2 rfl) ?_
    obtain ⟨g1, hw⟩ := hw
    refine C_callVi (As := [.int z1, .int z2]) (rest := []) C h (ci := 10) (Cn := R_Ve) (T := T_Ve) (N := 10) g1 rfl (by decide) (X_Ve_hasMember l dC dI ca H σ a0 z1 z2 hw) (cwV 2 hts (gV hsub u_723 u_724 u_725 u_726 u_727) rfl rfl rfl (by decide +kernel) ⟨(Nat.le_of_ble_eq_true rfl), (Nat.le_of_ble_eq_true rfl)⟩) rfl hl.1 (Nat.le_of_ble_eq_true rfl) h_Ve_checkOperand_35 (fun r3 σ2 H locs cells slots hw9 h9 => ?_)
    clear hw h; have hw := hw9; have h := h9; clear hw9 h9
    refine W.eq (g2 := F0 m 38 ls [.int r3]) rfl ?_
    refine lv_if_ne (tgt := 50) hx hb h_Ve_checkOperand_38 (by decide) (fun c4 => ?_) (fun c4 => ?_)
    · skip
      replace hw := hw.2 c4
      exact hend σ2 _ _ _ _ _ _ hw h h_Ve_checkOperand_50
    · skip
      replace hw := hw.1 c4
      refine lv_aload_n hx hb h_Ve_checkOperand_41 rfl (lv_at hl 0 rfl) ?_
      obtain ⟨g5, hw⟩ := hw
      refine C_get C h 10 1 (v := va_rf (σ2.2.2.2.1 a0 1)) g5 rfl (Cn := R_Ve) (T := T_Ve) (N := 10) rfl (by decide) rfl uw_Ve (by decide) u_681 (fun _ q => q) h_Ve_checkOperand_42 ?_
      refine lv_topq (fun b6 e_b6 => ?_)
      replace hw := hw b6 e_b6
      refine lv_iconst (v := 3) hx hb h_Ve_checkOperand_45 (by decide) ?_
      refine lv_iload_n hx hb h_Ve_checkOperand_46 rfl (lv_at hl 3 rfl) ?_
      obtain ⟨r7, e_r7, hw⟩ := hw
      subst e_r7
      have hl : lv_has ls 4 [(0, .ref a0), (1, .int z1), (2, .int z2), (3, .int z3)] := hl
      refine W.eq (g2 := F0 m 47 ls [.int z3, .int 3, .ref r7]) rfl ?_
      obtain ⟨g8, hw⟩ := hw
      refine C_callVv (As := [.int 3, .int z3]) (rest := []) C h (ci := 5) (Cn := R_E) (T := T_E) (N := 13) g8 rfl (by decide) (X_E_fail l dC dI ca H σ2 r7 (3 : Int32) z3 hw) (cwV 2 hts (gV hsub u_728 u_729 u_730 u_229 u_731) rfl rfl rfl (by decide +kernel) ⟨(Nat.le_of_ble_eq_true rfl), (Nat.le_of_ble_eq_true rfl)⟩) rfl hl.1 (Nat.le_of_ble_eq_true rfl) h_Ve_checkOperand_47 (fun σ9 H locs cells slots hw9 h9 => ?_)
      clear hw h; have hw := hw9; have h := h9; clear hw9 h9
      refine W.eq (g2 := F0 m 50 ls []) rfl ?_
      exact hend σ9 _ _ _ _ _ _ hw h h_Ve_checkOperand_50
  have hl : lv_has ls 4 [(0, .ref a0), (1, .int x1), (2, .int x2), (3, .int x3)] := hl
  unfold x_Ve_checkOperand at hw
  refine lv_iload_n hx hb h_Ve_checkOperand_0 rfl (lv_at hl 2 rfl) ?_
  refine lv_iload_n hx hb h_Ve_checkOperand_1 rfl (lv_at hl 1 rfl) ?_
  refine C_callSi (As := [.int x1]) (rest := [.int x2]) C h (X_Ve_localsUsed l dC dI ca s.heap σ0 x1 hw) (va_cwS 1 hts (gS hsub u_732 u_733 u_726 u_734) rfl rfl rfl (by decide +kernel) ⟨(Nat.le_of_ble_eq_true rfl), (Nat.le_of_ble_eq_true rfl)⟩) rfl hl.1 (Nat.le_of_ble_eq_true rfl) h_Ve_checkOperand_2 (fun r12 σ11 H locs cells slots hw9 h9 => ?_)
  clear hw h; have hw := hw9; have h := h9; clear hw9 h9
  refine W.eq (g2 := F0 m 5 ls [.int r12, .int x2]) rfl ?_
  refine lv_iadd hx hb h_Ve_checkOperand_5 ?_
  refine lv_aload_n hx hb h_Ve_checkOperand_6 rfl (lv_at hl 0 rfl) ?_
  obtain ⟨g13, hw⟩ := hw
  refine C_get C h 10 1 (v := va_rf (σ11.2.2.2.1 a0 1)) g13 rfl (Cn := R_Ve) (T := T_Ve) (N := 10) rfl (by decide) rfl uw_Ve (by decide) u_681 (fun _ q => q) h_Ve_checkOperand_7 ?_
  refine lv_topq (fun b14 e_b14 => ?_)
  replace hw := hw b14 e_b14
  obtain ⟨r15, e_r15, hw⟩ := hw
  subst e_r15
  have hl : lv_has ls 4 [(0, .ref a0), (1, .int x1), (2, .int x2), (3, .int x3)] := hl
  refine W.eq (g2 := F0 m 10 ls [.ref r15, .int (x2 + r12)]) rfl ?_
  obtain ⟨g16, hw⟩ := hw
  refine C_get C h 5 4 (v := .int (σ11.2.1 r15 4)) g16 rfl (Cn := R_E) (T := T_E) (N := 13) rfl (by decide) rfl uw_E (by decide) u_695 (fun _ q => q) h_Ve_checkOperand_10 ?_
  refine lv_icmp_le (tgt := 32) hx hb h_Ve_checkOperand_13 (by decide) (fun c17 => ?_) (fun c17 => ?_)
  · skip
    replace hw := hw.1 c17
    exact K_32 () x1 x2 x3 σ11 _ _ _ _ _ hw h (lv_sub hl [0, 1, 2, 3] rfl)
  · skip
    replace hw := hw.2 c17
    refine lv_iload_n hx hb h_Ve_checkOperand_16 rfl (lv_at hl 1 rfl) ?_
    refine C_callSi (As := [.int x1]) (rest := []) C h (X_Ve_localsUsed l dC dI ca H σ11 x1 hw) (va_cwS 1 hts (gS hsub u_732 u_733 u_726 u_734) rfl rfl rfl (by decide +kernel) ⟨(Nat.le_of_ble_eq_true rfl), (Nat.le_of_ble_eq_true rfl)⟩) rfl hl.1 (Nat.le_of_ble_eq_true rfl) h_Ve_checkOperand_17 (fun r19 σ18 H locs cells slots hw9 h9 => ?_)
    clear hw h; have hw := hw9; have h := h9; clear hw9 h9
    refine W.eq (g2 := F0 m 20 ls [.int r19]) rfl ?_
    refine lv_if_le (tgt := 32) hx hb h_Ve_checkOperand_20 (by decide) (fun c20 => ?_) (fun c20 => ?_)
    · skip
      replace hw := hw.1 c20
      exact K_32 () x1 x2 x3 σ18 _ _ _ _ _ hw h (lv_sub hl [0, 1, 2, 3] rfl)
    · skip
      replace hw := hw.2 c20
      refine lv_aload_n hx hb h_Ve_checkOperand_23 rfl (lv_at hl 0 rfl) ?_
      obtain ⟨g21, hw⟩ := hw
      refine C_get C h 10 1 (v := va_rf (σ18.2.2.2.1 a0 1)) g21 rfl (Cn := R_Ve) (T := T_Ve) (N := 10) rfl (by decide) rfl uw_Ve (by decide) u_681 (fun _ q => q) h_Ve_checkOperand_24 ?_
      refine lv_topq (fun b22 e_b22 => ?_)
      replace hw := hw b22 e_b22
      refine lv_iconst (v := 2) hx hb h_Ve_checkOperand_27 (by decide) ?_
      refine lv_iload_n hx hb h_Ve_checkOperand_28 rfl (lv_at hl 3 rfl) ?_
      obtain ⟨r23, e_r23, hw⟩ := hw
      subst e_r23
      have hl : lv_has ls 4 [(0, .ref a0), (1, .int x1), (2, .int x2), (3, .int x3)] := hl
      refine W.eq (g2 := F0 m 29 ls [.int x3, .int 2, .ref r23]) rfl ?_
      obtain ⟨g24, hw⟩ := hw
      refine C_callVv (As := [.int 2, .int x3]) (rest := []) C h (ci := 5) (Cn := R_E) (T := T_E) (N := 13) g24 rfl (by decide) (X_E_fail l dC dI ca H σ18 r23 (2 : Int32) x3 hw) (cwV 2 hts (gV hsub u_728 u_729 u_730 u_229 u_731) rfl rfl rfl (by decide +kernel) ⟨(Nat.le_of_ble_eq_true rfl), (Nat.le_of_ble_eq_true rfl)⟩) rfl hl.1 (Nat.le_of_ble_eq_true rfl) h_Ve_checkOperand_29 (fun σ25 H locs cells slots hw9 h9 => ?_)
      clear hw h; have hw := hw9; have h := h9; clear hw9 h9
      refine W.eq (g2 := F0 m 32 ls []) rfl ?_
      exact K_32 () x1 x2 x3 σ25 _ _ _ _ _ hw h (lv_sub hl [0, 1, 2, 3] rfl)
abbrev g_Ve_checkInstructions : MethodName := ⟨"MapFramer$Verifier", "checkInstructions", "()V"⟩
theorem u_735 : (Cond.fieldLink "MapFramer$Verifier" 67 "MapFramer$Method" "fault" "I" : Cond) ∈ bigW := inB_2 178 (by decide +kernel) rfl
theorem u_736 : (Cond.methodLink "MapFramer$Verifier" 70 ⟨"MapFramer$Op", "length", "(I)I"⟩ : Cond) ∈ bigW := inB_3 230 (by decide +kernel) rfl
theorem u_737 : (Cond.methodLink "MapFramer$Verifier" 79 ⟨"MapFramer$Method", "byteAt", "(I)I"⟩ : Cond) ∈ bigW := inB_3 239 (by decide +kernel) rfl
theorem u_738 : (Cond.methodLink "MapFramer$Verifier" 82 ⟨"MapFramer$Verifier", "checkOperand", "(III)V"⟩ : Cond) ∈ bigW := inB_4 3 (by decide +kernel) rfl
theorem u_739 : (Cond.instanceMethod ⟨"MapFramer$Verifier", "checkOperand", "(III)V"⟩ : Cond) ∈ bigW := inB_4 5 (by decide +kernel) rfl
theorem u_740 : (Cond.selects "MapFramer$Verifier" ⟨"MapFramer$Verifier", "checkOperand", "(III)V"⟩ ⟨"MapFramer$Verifier", "checkOperand", "(III)V"⟩ : Cond) ∈ bigW := inS (y := ⟨"MapFramer$Verifier", "checkOperand", "(III)V"⟩) (n := 10) (List.mem_of_getElem? (i := 4) (by decide +kernel))
theorem u_741 : (Cond.code ⟨"MapFramer$Verifier", "checkOperand", "(III)V"⟩ prog_11_method_3_code 4 none : Cond) ∈ bigW := inB_4 6 rfl rfl
theorem h_Ve_checkInstructions_0 : decode prog_11_method_2_code 0 = .ok (.iconst 0, 1) := by decide +kernel
theorem h_Ve_checkInstructions_1 : decode prog_11_method_2_code 1 = .ok (.istore_n 1, 1) := by decide +kernel
theorem h_Ve_checkInstructions_2 : decode prog_11_method_2_code 2 = .ok (.iload_n 1, 1) := by decide +kernel
theorem h_Ve_checkInstructions_3 : decode prog_11_method_2_code 3 = .ok (.aload_n 0, 1) := by decide +kernel
theorem h_Ve_checkInstructions_4 : decode prog_11_method_2_code 4 = .ok (.getfield 15, 3) := by decide +kernel
theorem h_Ve_checkInstructions_7 : decode prog_11_method_2_code 7 = .ok (.getfield 28, 3) := by decide +kernel
theorem h_Ve_checkInstructions_10 : decode prog_11_method_2_code 10 = .ok (.arraylength, 1) := by decide +kernel
theorem h_Ve_checkInstructions_11 : decode prog_11_method_2_code 11 = .ok (.if_icmp .ge 92, 3) := by decide +kernel
theorem h_Ve_checkInstructions_14 : decode prog_11_method_2_code 14 = .ok (.aload_n 0, 1) := by decide +kernel
theorem h_Ve_checkInstructions_15 : decode prog_11_method_2_code 15 = .ok (.getfield 15, 3) := by decide +kernel
theorem h_Ve_checkInstructions_18 : decode prog_11_method_2_code 18 = .ok (.getfield 67, 3) := by decide +kernel
theorem h_Ve_checkInstructions_21 : decode prog_11_method_2_code 21 = .ok (.ifCond .ne 82, 3) := by decide +kernel
theorem h_Ve_checkInstructions_24 : decode prog_11_method_2_code 24 = .ok (.aload_n 0, 1) := by decide +kernel
theorem h_Ve_checkInstructions_25 : decode prog_11_method_2_code 25 = .ok (.getfield 15, 3) := by decide +kernel
theorem h_Ve_checkInstructions_28 : decode prog_11_method_2_code 28 = .ok (.getfield 28, 3) := by decide +kernel
theorem h_Ve_checkInstructions_31 : decode prog_11_method_2_code 31 = .ok (.iload_n 1, 1) := by decide +kernel
theorem h_Ve_checkInstructions_32 : decode prog_11_method_2_code 32 = .ok (.iaload, 1) := by decide +kernel
theorem h_Ve_checkInstructions_33 : decode prog_11_method_2_code 33 = .ok (.invokestatic 70, 3) := by decide +kernel
theorem h_Ve_checkInstructions_36 : decode prog_11_method_2_code 36 = .ok (.istore_n 2, 1) := by decide +kernel
theorem h_Ve_checkInstructions_37 : decode prog_11_method_2_code 37 = .ok (.iload_n 2, 1) := by decide +kernel
theorem h_Ve_checkInstructions_38 : decode prog_11_method_2_code 38 = .ok (.ifCond .eq 17, 3) := by decide +kernel
theorem h_Ve_checkInstructions_41 : decode prog_11_method_2_code 41 = .ok (.iload_n 1, 1) := by decide +kernel
theorem h_Ve_checkInstructions_42 : decode prog_11_method_2_code 42 = .ok (.iload_n 2, 1) := by decide +kernel
theorem h_Ve_checkInstructions_43 : decode prog_11_method_2_code 43 = .ok (.iadd, 1) := by decide +kernel
theorem h_Ve_checkInstructions_44 : decode prog_11_method_2_code 44 = .ok (.aload_n 0, 1) := by decide +kernel
theorem h_Ve_checkInstructions_45 : decode prog_11_method_2_code 45 = .ok (.getfield 15, 3) := by decide +kernel
theorem h_Ve_checkInstructions_48 : decode prog_11_method_2_code 48 = .ok (.getfield 28, 3) := by decide +kernel
theorem h_Ve_checkInstructions_51 : decode prog_11_method_2_code 51 = .ok (.arraylength, 1) := by decide +kernel
theorem h_Ve_checkInstructions_52 : decode prog_11_method_2_code 52 = .ok (.if_icmp .le 13, 3) := by decide +kernel
theorem h_Ve_checkInstructions_55 : decode prog_11_method_2_code 55 = .ok (.aload_n 0, 1) := by decide +kernel
theorem h_Ve_checkInstructions_56 : decode prog_11_method_2_code 56 = .ok (.getfield 15, 3) := by decide +kernel
theorem h_Ve_checkInstructions_59 : decode prog_11_method_2_code 59 = .ok (.iconst 1, 1) := by decide +kernel
theorem h_Ve_checkInstructions_60 : decode prog_11_method_2_code 60 = .ok (.iload_n 1, 1) := by decide +kernel
theorem h_Ve_checkInstructions_61 : decode prog_11_method_2_code 61 = .ok (.invokevirtual 76, 3) := by decide +kernel
theorem h_Ve_checkInstructions_64 : decode prog_11_method_2_code 64 = .ok (.return_, 1) := by decide +kernel
theorem h_Ve_checkInstructions_65 : decode prog_11_method_2_code 65 = .ok (.aload_n 0, 1) := by decide +kernel
theorem h_Ve_checkInstructions_66 : decode prog_11_method_2_code 66 = .ok (.getfield 34, 3) := by decide +kernel
theorem h_Ve_checkInstructions_69 : decode prog_11_method_2_code 69 = .ok (.iload_n 1, 1) := by decide +kernel
theorem h_Ve_checkInstructions_70 : decode prog_11_method_2_code 70 = .ok (.iconst 1, 1) := by decide +kernel
theorem h_Ve_checkInstructions_71 : decode prog_11_method_2_code 71 = .ok (.bastore, 1) := by decide +kernel
theorem h_Ve_checkInstructions_72 : decode prog_11_method_2_code 72 = .ok (.aload_n 0, 1) := by decide +kernel
theorem h_Ve_checkInstructions_73 : decode prog_11_method_2_code 73 = .ok (.aload_n 0, 1) := by decide +kernel
theorem h_Ve_checkInstructions_74 : decode prog_11_method_2_code 74 = .ok (.getfield 15, 3) := by decide +kernel
theorem h_Ve_checkInstructions_77 : decode prog_11_method_2_code 77 = .ok (.getfield 28, 3) := by decide +kernel
theorem h_Ve_checkInstructions_80 : decode prog_11_method_2_code 80 = .ok (.iload_n 1, 1) := by decide +kernel
theorem h_Ve_checkInstructions_81 : decode prog_11_method_2_code 81 = .ok (.iaload, 1) := by decide +kernel
theorem h_Ve_checkInstructions_82 : decode prog_11_method_2_code 82 = .ok (.aload_n 0, 1) := by decide +kernel
theorem h_Ve_checkInstructions_83 : decode prog_11_method_2_code 83 = .ok (.getfield 15, 3) := by decide +kernel
theorem h_Ve_checkInstructions_86 : decode prog_11_method_2_code 86 = .ok (.iload_n 1, 1) := by decide +kernel
theorem h_Ve_checkInstructions_87 : decode prog_11_method_2_code 87 = .ok (.iconst 1, 1) := by decide +kernel
theorem h_Ve_checkInstructions_88 : decode prog_11_method_2_code 88 = .ok (.iadd, 1) := by decide +kernel
theorem h_Ve_checkInstructions_89 : decode prog_11_method_2_code 89 = .ok (.invokevirtual 79, 3) := by decide +kernel
theorem h_Ve_checkInstructions_92 : decode prog_11_method_2_code 92 = .ok (.iload_n 1, 1) := by decide +kernel
theorem h_Ve_checkInstructions_93 : decode prog_11_method_2_code 93 = .ok (.invokevirtual 82, 3) := by decide +kernel
theorem h_Ve_checkInstructions_96 : decode prog_11_method_2_code 96 = .ok (.iload_n 1, 1) := by decide +kernel
theorem h_Ve_checkInstructions_97 : decode prog_11_method_2_code 97 = .ok (.iload_n 2, 1) := by decide +kernel
theorem h_Ve_checkInstructions_98 : decode prog_11_method_2_code 98 = .ok (.iadd, 1) := by decide +kernel
theorem h_Ve_checkInstructions_99 : decode prog_11_method_2_code 99 = .ok (.istore_n 1, 1) := by decide +kernel
theorem h_Ve_checkInstructions_100 : decode prog_11_method_2_code 100 = .ok (.goto (-98), 3) := by decide +kernel
theorem h_Ve_checkInstructions_103 : decode prog_11_method_2_code 103 = .ok (.return_, 1) := by decide +kernel
def x_Ve_checkInstructions_55 (a0 : Nat) (P : CST → Prop) (z1 : Int32) (σ : CST) : Prop := σ.1 a0 = some (10, 0) ∧ (∀ b2 : Option Nat, b2 = (σ.2.2.2.1 a0 1) → (∃ r3 : Nat, b2 = some r3 ∧ (σ.1 r3 = some (5, 0) ∧ (x_E_fail r3 (1 : Int32) z1 σ (fun σ5 => P σ5)))))
def x_Ve_checkInstructions_2 (a0 : Nat) (P : CST → Prop) : Nat → Int32 → CST → Prop
  | 0, _, _ => False
  | n + 1, z1, σ => σ.1 a0 = some (10, 0) ∧ (∀ b8 : Option Nat, b8 = (σ.2.2.2.1 a0 1) → (∃ r9 : Nat, b8 = some r9 ∧ (σ.1 r9 = some (5, 0) ∧ (∀ b11 : Option Nat, b11 = (σ.2.2.2.1 r9 2) → (∃ r12 : Nat, b11 = some r12 ∧ ((∃ n14 : Nat, σ.1 r12 = some (20, n14) ∧ ((((Int32.ofNat n14) ≤ z1 → P σ) ∧ (¬ (Int32.ofNat n14) ≤ z1 → ∀ b16 : Option Nat, b16 = (σ.2.2.2.1 a0 1) → (∃ r17 : Nat, b16 = some r17 ∧ (σ.1 r17 = some (5, 0) ∧ ((((σ.2.1 r17 7) = 0 → ∀ b20 : Option Nat, b20 = (σ.2.2.2.1 a0 1) → (∃ r21 : Nat, b20 = some r21 ∧ (σ.1 r21 = some (5, 0) ∧ (∀ b23 : Option Nat, b23 = (σ.2.2.2.1 r21 2) → (∃ r24 : Nat, b23 = some r24 ∧ ((∃ n26 : Nat, σ.1 r24 = some (20, n26) ∧ (vp_in z1 n26 ∧ (∀ b28 : Int32, b28 = (σ.2.1 r24 (z1 : Int32).toNatClampNeg) → x_Op_length b28 σ (fun r30 σ29 => ((r30 = 0 → x_Ve_checkInstructions_55 a0 P z1 σ29) ∧ (¬ r30 = 0 → σ29.1 a0 = some (10, 0) ∧ (∀ b33 : Option Nat, b33 = (σ29.2.2.2.1 a0 1) → (∃ r34 : Nat, b33 = some r34 ∧ (σ29.1 r34 = some (5, 0) ∧ (∀ b36 : Option Nat, b36 = (σ29.2.2.2.1 r34 2) → (∃ r37 : Nat, b36 = some r37 ∧ ((∃ n39 : Nat, σ29.1 r37 = some (20, n39) ∧ ((((z1 + r30) ≤ (Int32.ofNat n39) → ∀ b41 : Option Nat, b41 = (σ29.2.2.2.1 a0 3) → (∃ r42 : Nat, b41 = some r42 ∧ ((∃ n44 : Nat, σ29.1 r42 = some (21, n44) ∧ (vp_in z1 n44 ∧ (∀ σ46 : CST, σ46 = sI σ29 r42 (z1 : Int32).toNatClampNeg (vp_nar .boolean (1 : Int32)) → σ46.1 a0 = some (10, 0) ∧ (∀ b48 : Option Nat, b48 = (σ46.2.2.2.1 a0 1) → (∃ r49 : Nat, b48 = some r49 ∧ (σ46.1 r49 = some (5, 0) ∧ (∀ b51 : Option Nat, b51 = (σ46.2.2.2.1 r49 2) → (∃ r52 : Nat, b51 = some r52 ∧ ((∃ n54 : Nat, σ46.1 r52 = some (20, n54) ∧ (vp_in z1 n54 ∧ (∀ b56 : Int32, b56 = (σ46.2.1 r52 (z1 : Int32).toNatClampNeg) → ∀ b57 : Option Nat, b57 = (σ46.2.2.2.1 a0 1) → (∃ r58 : Nat, b57 = some r58 ∧ (σ46.1 r58 = some (5, 0) ∧ (x_E_byteAt r58 (z1 + 1) σ46 (fun r61 σ60 => σ60.1 a0 = some (10, 0) ∧ (x_Ve_checkOperand a0 b56 r61 z1 σ60 (fun σ63 => x_Ve_checkInstructions_2 a0 P n (z1 + r30) σ63))))))))))))))))))))) ∧ (¬ (z1 + r30) ≤ (Int32.ofNat n39) → x_Ve_checkInstructions_55 a0 P z1 σ29)))))))))))))))))))))) ∧ (¬ (σ.2.1 r17 7) = 0 → P σ)))))))))))))))
def x_Ve_checkInstructions (a0 : Nat) (σ0 : CST) (P : CST → Prop) : Prop := (∃ n9 : Nat, x_Ve_checkInstructions_2 a0 P n9 0 σ0)
set_option maxHeartbeats 4000000 in
set_option maxRecDepth 100000 in
theorem X_Ve_checkInstructions (l : Launch) (dC : Nat → ClassId) (dI : Nat → Nat → Nat) (ca : Nat → ClassId) (H0 : Heap) (σ0 : CST) (a0 : Nat) {P : CST → Prop} (hw : x_Ve_checkInstructions a0 σ0 P) : Met l g_Ve_checkInstructions (mW g_Ve_checkInstructions prog_11_method_2_code 3 none) ({ frames := 4, cells := σ0.2.2.2.2.1, slots := σ0.2.2.2.2.2.1, locals := 88 } : Room) (va_Pc [.ref a0] (CPre (dC, dI) ca σ0 H0)) (va_Qv P (CB (dC, dI) ca σ0 H0) (cA σ0 H0.size)) σ0.2.2.2.2.1 σ0.2.2.2.2.2.1 (cA σ0 H0.size) := by
  refine C_ofv (by decide +kernel) rfl rfl rfl (Nat.le_of_ble_eq_true rfl) ?_
  intro p e s m below meth cx Q A ls C hnm hend hH0 h hl
  subst hH0
  have C0 := C
  obtain ⟨⟨hx, hb, hml, hown, hts⟩, hsub⟩ := C0
  obtain ⟨cells, e_cells⟩ : ∃ z : Nat, z = 0 := ⟨_, rfl⟩
  obtain ⟨slots, e_slots⟩ : ∃ z : Nat, z = 0 := ⟨_, rfl⟩
  have h : CH (dC, dI) A ca ({ frames := 4, cells := σ0.2.2.2.2.1, slots := σ0.2.2.2.2.2.1, locals := 88 } : Room) σ0.2.2.2.2.2.2 σ0 s s.heap [] cells slots := by rw [e_cells, e_slots]; exact h
  show W p l e ({ frames := 4, cells := σ0.2.2.2.2.1, slots := σ0.2.2.2.2.2.1, locals := 88 } : Room) s m ([.ref a0] : List Value).toArray below meth cx s.heap [] 0 0 Q (F0 m 0 ls [])
  rw [show W p l e ({ frames := 4, cells := σ0.2.2.2.2.1, slots := σ0.2.2.2.2.2.1, locals := 88 } : Room) s m ([.ref a0] : List Value).toArray below meth cx s.heap [] 0 0 Q (F0 m 0 ls []) = W p l e ({ frames := 4, cells := σ0.2.2.2.2.1, slots := σ0.2.2.2.2.2.1, locals := 88 } : Room) s m ([.ref a0] : List Value).toArray below meth cx s.heap [] cells slots Q (F0 m 0 ls []) by rw [e_cells, e_slots]]
  have K_55 : ∀ (u9 : Unit), ∀ (z1 : Int32) (σ : CST) (H : Heap) (locs : List Loc) (cells slots : Nat) (ls : Array Slot), x_Ve_checkInstructions_55 a0 P z1 σ → CH (dC, dI) A ca ({ frames := 4, cells := σ0.2.2.2.2.1, slots := σ0.2.2.2.2.2.1, locals := 88 } : Room) σ0.2.2.2.2.2.2 σ s H locs cells slots → lv_has ls 3 [(0, .ref a0), (1, .int z1)] → W p l e ({ frames := 4, cells := σ0.2.2.2.2.1, slots := σ0.2.2.2.2.2.1, locals := 88 } : Room) s m ([.ref a0] : List Value).toArray below meth cx H locs cells slots Q (F0 m 55 ls []) := by
    intro u9 z1 σ H locs cells slots ls hw h hl
    unfold x_Ve_checkInstructions_55 at hw
    refine lv_aload_n hx hb h_Ve_checkInstructions_55 rfl (lv_at hl 0 rfl) ?_
    obtain ⟨g1, hw⟩ := hw
    refine C_get C h 10 1 (v := va_rf (σ.2.2.2.1 a0 1)) g1 rfl (Cn := R_Ve) (T := T_Ve) (N := 10) rfl (by decide) rfl uw_Ve (by decide) u_681 (fun _ q => q) h_Ve_checkInstructions_56 ?_
    refine lv_topq (fun b2 e_b2 => ?_)
    replace hw := hw b2 e_b2
    refine lv_iconst (v := 1) hx hb h_Ve_checkInstructions_59 (by decide) ?_
    refine lv_iload_n hx hb h_Ve_checkInstructions_60 rfl (lv_at hl 1 rfl) ?_
    obtain ⟨r3, e_r3, hw⟩ := hw
    subst e_r3
    have hl : lv_has ls 3 [(0, .ref a0), (1, .int z1)] := hl
    refine W.eq (g2 := F0 m 61 ls [.int z1, .int 1, .ref r3]) rfl ?_
    obtain ⟨g4, hw⟩ := hw
    refine C_callVv (As := [.int 1, .int z1]) (rest := []) C h (ci := 5) (Cn := R_E) (T := T_E) (N := 13) g4 rfl (by decide) (X_E_fail l dC dI ca H σ r3 (1 : Int32) z1 hw) (cwV 2 hts (gV hsub u_728 u_729 u_730 u_229 u_731) rfl rfl rfl (by decide +kernel) ⟨(Nat.le_of_ble_eq_true rfl), (Nat.le_of_ble_eq_true rfl)⟩) rfl hl.1 (Nat.le_of_ble_eq_true rfl) h_Ve_checkInstructions_61 (fun σ5 H locs cells slots hw9 h9 => ?_)
    clear hw h; have hw := hw9; have h := h9; clear hw9 h9
    refine W.eq (g2 := F0 m 64 ls []) rfl ?_
    exact hend σ5 _ _ _ _ _ _ hw h h_Ve_checkInstructions_64
  have K_2 : ∀ (n : Nat), ∀ (z1 : Int32) (σ : CST) (H : Heap) (locs : List Loc) (cells slots : Nat) (ls : Array Slot), x_Ve_checkInstructions_2 a0 P n z1 σ → CH (dC, dI) A ca ({ frames := 4, cells := σ0.2.2.2.2.1, slots := σ0.2.2.2.2.2.1, locals := 88 } : Room) σ0.2.2.2.2.2.2 σ s H locs cells slots → lv_has ls 3 [(0, .ref a0), (1, .int z1)] → W p l e ({ frames := 4, cells := σ0.2.2.2.2.1, slots := σ0.2.2.2.2.2.1, locals := 88 } : Room) s m ([.ref a0] : List Value).toArray below meth cx H locs cells slots Q (F0 m 2 ls []) := by
    intro  n
    induction n with
    | zero => intro z1 σ H locs cells slots ls hw h hl; unfold x_Ve_checkInstructions_2 at hw; exact hw.elim
    | succ n ih =>
      intro z1 σ H locs cells slots ls hw h hl
      unfold x_Ve_checkInstructions_2 at hw
      refine lv_iload_n hx hb h_Ve_checkInstructions_2 rfl (lv_at hl 1 rfl) ?_
      refine lv_aload_n hx hb h_Ve_checkInstructions_3 rfl (lv_at hl 0 rfl) ?_
      obtain ⟨g7, hw⟩ := hw
      refine C_get C h 10 1 (v := va_rf (σ.2.2.2.1 a0 1)) g7 rfl (Cn := R_Ve) (T := T_Ve) (N := 10) rfl (by decide) rfl uw_Ve (by decide) u_681 (fun _ q => q) h_Ve_checkInstructions_4 ?_
      refine lv_topq (fun b8 e_b8 => ?_)
      replace hw := hw b8 e_b8
      obtain ⟨r9, e_r9, hw⟩ := hw
      subst e_r9
      have hl : lv_has ls 3 [(0, .ref a0), (1, .int z1)] := hl
      refine W.eq (g2 := F0 m 7 ls [.ref r9, .int z1]) rfl ?_
      obtain ⟨g10, hw⟩ := hw
      refine C_get C h 5 2 (v := va_rf (σ.2.2.2.1 r9 2)) g10 rfl (Cn := R_E) (T := T_E) (N := 13) rfl (by decide) rfl uw_E (by decide) u_688 (fun _ q => q) h_Ve_checkInstructions_7 ?_
      refine lv_topq (fun b11 e_b11 => ?_)
      replace hw := hw b11 e_b11
      obtain ⟨r12, e_r12, hw⟩ := hw
      subst e_r12
      have hl : lv_has ls 3 [(0, .ref a0), (1, .int z1)] := hl
      refine W.eq (g2 := F0 m 10 ls [.ref r12, .int z1]) rfl ?_
      obtain ⟨n14, g13, hw⟩ := hw
      refine C_alen C h 20 0 rfl (by decide) g13 h_Ve_checkInstructions_10 ?_
      refine lv_icmp_ge (tgt := 103) hx hb h_Ve_checkInstructions_11 (by decide) (fun c15 => ?_) (fun c15 => ?_)
      · skip
        replace hw := hw.1 c15
        exact hend σ _ _ _ _ _ _ hw h h_Ve_checkInstructions_103
      · skip
        replace hw := hw.2 c15
        refine lv_aload_n hx hb h_Ve_checkInstructions_14 rfl (lv_at hl 0 rfl) ?_
        refine C_get C h 10 1 (v := va_rf (σ.2.2.2.1 a0 1)) g7 rfl (Cn := R_Ve) (T := T_Ve) (N := 10) rfl (by decide) rfl uw_Ve (by decide) u_681 (fun _ q => q) h_Ve_checkInstructions_15 ?_
        refine lv_topq (fun b16 e_b16 => ?_)
        replace hw := hw b16 e_b16
        obtain ⟨r17, e_r17, hw⟩ := hw
        subst e_r17
        have hl : lv_has ls 3 [(0, .ref a0), (1, .int z1)] := hl
        refine W.eq (g2 := F0 m 18 ls [.ref r17]) rfl ?_
        obtain ⟨g18, hw⟩ := hw
        refine C_get C h 5 7 (v := .int (σ.2.1 r17 7)) g18 rfl (Cn := R_E) (T := T_E) (N := 13) rfl (by decide) rfl uw_E (by decide) u_735 (fun _ q => q) h_Ve_checkInstructions_18 ?_
        refine lv_if_ne (tgt := 103) hx hb h_Ve_checkInstructions_21 (by decide) (fun c19 => ?_) (fun c19 => ?_)
        · skip
          replace hw := hw.2 c19
          exact hend σ _ _ _ _ _ _ hw h h_Ve_checkInstructions_103
        · skip
          replace hw := hw.1 c19
          refine lv_aload_n hx hb h_Ve_checkInstructions_24 rfl (lv_at hl 0 rfl) ?_
          refine C_get C h 10 1 (v := va_rf (σ.2.2.2.1 a0 1)) g7 rfl (Cn := R_Ve) (T := T_Ve) (N := 10) rfl (by decide) rfl uw_Ve (by decide) u_681 (fun _ q => q) h_Ve_checkInstructions_25 ?_
          refine lv_topq (fun b20 e_b20 => ?_)
          replace hw := hw b20 e_b20
          obtain ⟨r21, e_r21, hw⟩ := hw
          subst e_r21
          have hl : lv_has ls 3 [(0, .ref a0), (1, .int z1)] := hl
          refine W.eq (g2 := F0 m 28 ls [.ref r21]) rfl ?_
          obtain ⟨g22, hw⟩ := hw
          refine C_get C h 5 2 (v := va_rf (σ.2.2.2.1 r21 2)) g22 rfl (Cn := R_E) (T := T_E) (N := 13) rfl (by decide) rfl uw_E (by decide) u_688 (fun _ q => q) h_Ve_checkInstructions_28 ?_
          refine lv_topq (fun b23 e_b23 => ?_)
          replace hw := hw b23 e_b23
          refine lv_iload_n hx hb h_Ve_checkInstructions_31 rfl (lv_at hl 1 rfl) ?_
          obtain ⟨r24, e_r24, hw⟩ := hw
          subst e_r24
          have hl : lv_has ls 3 [(0, .ref a0), (1, .int z1)] := hl
          refine W.eq (g2 := F0 m 32 ls [.int z1, .ref r24]) rfl ?_
          obtain ⟨n26, g25, hw⟩ := hw
          obtain ⟨g27, hw⟩ := hw
          refine C_iald C h g25 g27 h_Ve_checkInstructions_32 ?_
          refine lv_topi (fun b28 e_b28 => ?_)
          replace hw := hw b28 e_b28
          refine C_callSi (As := [.int b28]) (rest := []) C h (X_Op_length l dC dI ca H σ b28 hw) (va_cwS 1 hts (gS hsub u_736 u_326 u_327 u_328) rfl rfl rfl (by decide +kernel) ⟨(Nat.le_of_ble_eq_true rfl), (Nat.le_of_ble_eq_true rfl)⟩) rfl hl.1 (Nat.le_of_ble_eq_true rfl) h_Ve_checkInstructions_33 (fun r30 σ29 H locs cells slots hw9 h9 => ?_)
          clear hw h; have hw := hw9; have h := h9; clear hw9 h9
          refine W.eq (g2 := F0 m 36 ls [.int r30]) rfl ?_
          refine lv_istore_n (i := 2) (lv' := [(2, .int r30), (0, .ref a0), (1, .int z1)]) hx hb h_Ve_checkInstructions_36 rfl hl (by decide) rfl (fun ls hl => ?_)
          refine lv_iload_n hx hb h_Ve_checkInstructions_37 rfl (lv_at hl 0 rfl) ?_
          refine lv_if_eq (tgt := 55) hx hb h_Ve_checkInstructions_38 (by decide) (fun c31 => ?_) (fun c31 => ?_)
          · skip
            replace hw := hw.1 c31
            exact K_55 () z1 σ29 _ _ _ _ _ hw h (lv_sub hl [1, 2] rfl)
          · skip
            replace hw := hw.2 c31
            refine lv_iload_n hx hb h_Ve_checkInstructions_41 rfl (lv_at hl 2 rfl) ?_
            refine lv_iload_n hx hb h_Ve_checkInstructions_42 rfl (lv_at hl 0 rfl) ?_
            refine lv_iadd hx hb h_Ve_checkInstructions_43 ?_
            refine lv_aload_n hx hb h_Ve_checkInstructions_44 rfl (lv_at hl 1 rfl) ?_
            obtain ⟨g32, hw⟩ := hw
            refine C_get C h 10 1 (v := va_rf (σ29.2.2.2.1 a0 1)) g32 rfl (Cn := R_Ve) (T := T_Ve) (N := 10) rfl (by decide) rfl uw_Ve (by decide) u_681 (fun _ q => q) h_Ve_checkInstructions_45 ?_
            refine lv_topq (fun b33 e_b33 => ?_)
            replace hw := hw b33 e_b33
            obtain ⟨r34, e_r34, hw⟩ := hw
            subst e_r34
            have hl : lv_has ls 3 [(2, .int r30), (0, .ref a0), (1, .int z1)] := hl
            refine W.eq (g2 := F0 m 48 ls [.ref r34, .int (z1 + r30)]) rfl ?_
            obtain ⟨g35, hw⟩ := hw
            refine C_get C h 5 2 (v := va_rf (σ29.2.2.2.1 r34 2)) g35 rfl (Cn := R_E) (T := T_E) (N := 13) rfl (by decide) rfl uw_E (by decide) u_688 (fun _ q => q) h_Ve_checkInstructions_48 ?_
            refine lv_topq (fun b36 e_b36 => ?_)
            replace hw := hw b36 e_b36
            obtain ⟨r37, e_r37, hw⟩ := hw
            subst e_r37
            have hl : lv_has ls 3 [(2, .int r30), (0, .ref a0), (1, .int z1)] := hl
            refine W.eq (g2 := F0 m 51 ls [.ref r37, .int (z1 + r30)]) rfl ?_
            obtain ⟨n39, g38, hw⟩ := hw
            refine C_alen C h 20 0 rfl (by decide) g38 h_Ve_checkInstructions_51 ?_
            refine lv_icmp_le (tgt := 65) hx hb h_Ve_checkInstructions_52 (by decide) (fun c40 => ?_) (fun c40 => ?_)
            · skip
              replace hw := hw.1 c40
              refine lv_aload_n hx hb h_Ve_checkInstructions_65 rfl (lv_at hl 1 rfl) ?_
              refine C_get C h 10 3 (v := va_rf (σ29.2.2.2.1 a0 3)) g32 rfl (Cn := R_Ve) (T := T_Ve) (N := 10) rfl (by decide) rfl uw_Ve (by decide) u_690 (fun _ q => q) h_Ve_checkInstructions_66 ?_
              refine lv_topq (fun b41 e_b41 => ?_)
              replace hw := hw b41 e_b41
              refine lv_iload_n hx hb h_Ve_checkInstructions_69 rfl (lv_at hl 2 rfl) ?_
              refine lv_iconst (v := 1) hx hb h_Ve_checkInstructions_70 (by decide) ?_
              obtain ⟨r42, e_r42, hw⟩ := hw
              subst e_r42
              have hl : lv_has ls 3 [(2, .int r30), (0, .ref a0), (1, .int z1)] := hl
              refine W.eq (g2 := F0 m 71 ls [.int 1, .int z1, .ref r42]) rfl ?_
              obtain ⟨n44, g43, hw⟩ := hw
              obtain ⟨g45, hw⟩ := hw
              refine C_zast C h g43 g45 h_Ve_checkInstructions_71 (fun H locs h => ?_)
              obtain ⟨σ46, e_σ46⟩ : ∃ z : CST, z = sI σ29 r42 (z1 : Int32).toNatClampNeg (vp_nar .boolean (1 : Int32)) := ⟨_, rfl⟩
              rw [← e_σ46] at h
              replace hw := hw σ46 e_σ46
              refine lv_aload_n hx hb h_Ve_checkInstructions_72 rfl (lv_at hl 1 rfl) ?_
              refine lv_aload_n hx hb h_Ve_checkInstructions_73 rfl (lv_at hl 1 rfl) ?_
              obtain ⟨g47, hw⟩ := hw
              refine C_get C h 10 1 (v := va_rf (σ46.2.2.2.1 a0 1)) g47 rfl (Cn := R_Ve) (T := T_Ve) (N := 10) rfl (by decide) rfl uw_Ve (by decide) u_681 (fun _ q => q) h_Ve_checkInstructions_74 ?_
              refine lv_topq (fun b48 e_b48 => ?_)
              replace hw := hw b48 e_b48
              obtain ⟨r49, e_r49, hw⟩ := hw
              subst e_r49
              have hl : lv_has ls 3 [(2, .int r30), (0, .ref a0), (1, .int z1)] := hl
              refine W.eq (g2 := F0 m 77 ls [.ref r49, .ref a0]) rfl ?_
              obtain ⟨g50, hw⟩ := hw
              refine C_get C h 5 2 (v := va_rf (σ46.2.2.2.1 r49 2)) g50 rfl (Cn := R_E) (T := T_E) (N := 13) rfl (by decide) rfl uw_E (by decide) u_688 (fun _ q => q) h_Ve_checkInstructions_77 ?_
              refine lv_topq (fun b51 e_b51 => ?_)
              replace hw := hw b51 e_b51
              refine lv_iload_n hx hb h_Ve_checkInstructions_80 rfl (lv_at hl 2 rfl) ?_
              obtain ⟨r52, e_r52, hw⟩ := hw
              subst e_r52
              have hl : lv_has ls 3 [(2, .int r30), (0, .ref a0), (1, .int z1)] := hl
              refine W.eq (g2 := F0 m 81 ls [.int z1, .ref r52, .ref a0]) rfl ?_
              obtain ⟨n54, g53, hw⟩ := hw
              obtain ⟨g55, hw⟩ := hw
              refine C_iald C h g53 g55 h_Ve_checkInstructions_81 ?_
              refine lv_topi (fun b56 e_b56 => ?_)
              replace hw := hw b56 e_b56
              refine lv_aload_n hx hb h_Ve_checkInstructions_82 rfl (lv_at hl 1 rfl) ?_
              refine C_get C h 10 1 (v := va_rf (σ46.2.2.2.1 a0 1)) g47 rfl (Cn := R_Ve) (T := T_Ve) (N := 10) rfl (by decide) rfl uw_Ve (by decide) u_681 (fun _ q => q) h_Ve_checkInstructions_83 ?_
              refine lv_topq (fun b57 e_b57 => ?_)
              replace hw := hw b57 e_b57
              refine lv_iload_n hx hb h_Ve_checkInstructions_86 rfl (lv_at hl 2 rfl) ?_
              refine lv_iconst (v := 1) hx hb h_Ve_checkInstructions_87 (by decide) ?_
              refine lv_iadd hx hb h_Ve_checkInstructions_88 ?_
              obtain ⟨r58, e_r58, hw⟩ := hw
              subst e_r58
              have hl : lv_has ls 3 [(2, .int r30), (0, .ref a0), (1, .int z1)] := hl
              refine W.eq (g2 := F0 m 89 ls [.int (z1 + 1), .ref r58, .int b56, .ref a0]) rfl ?_
              obtain ⟨g59, hw⟩ := hw
              refine C_callVi (As := [.int (z1 + 1)]) (rest := [.int b56, .ref a0]) C h (ci := 5) (Cn := R_E) (T := T_E) (N := 13) g59 rfl (by decide) (X_E_byteAt l dC dI ca H σ46 r58 (z1 + 1) hw) (cwV 1 hts (gV hsub u_737 u_227 u_228 u_229 u_230) rfl rfl rfl (by decide +kernel) ⟨(Nat.le_of_ble_eq_true rfl), (Nat.le_of_ble_eq_true rfl)⟩) rfl hl.1 (Nat.le_of_ble_eq_true rfl) h_Ve_checkInstructions_89 (fun r61 σ60 H locs cells slots hw9 h9 => ?_)
              clear hw h; have hw := hw9; have h := h9; clear hw9 h9
              refine W.eq (g2 := F0 m 92 ls [.int r61, .int b56, .ref a0]) rfl ?_
              refine lv_iload_n hx hb h_Ve_checkInstructions_92 rfl (lv_at hl 2 rfl) ?_
              obtain ⟨g62, hw⟩ := hw
              refine C_callVv (As := [.int b56, .int r61, .int z1]) (rest := []) C h (ci := 10) (Cn := R_Ve) (T := T_Ve) (N := 10) g62 rfl (by decide) (X_Ve_checkOperand l dC dI ca H σ60 a0 b56 r61 z1 hw) (cwV 3 hts (gV hsub u_738 u_739 u_740 u_726 u_741) rfl rfl rfl (by decide +kernel) ⟨(Nat.le_of_ble_eq_true rfl), (Nat.le_of_ble_eq_true rfl)⟩) rfl hl.1 (Nat.le_of_ble_eq_true rfl) h_Ve_checkInstructions_93 (fun σ63 H locs cells slots hw9 h9 => ?_)
              clear hw h; have hw := hw9; have h := h9; clear hw9 h9
              refine W.eq (g2 := F0 m 96 ls []) rfl ?_
              refine lv_iload_n hx hb h_Ve_checkInstructions_96 rfl (lv_at hl 2 rfl) ?_
              refine lv_iload_n hx hb h_Ve_checkInstructions_97 rfl (lv_at hl 0 rfl) ?_
              refine lv_iadd hx hb h_Ve_checkInstructions_98 ?_
              refine lv_istore_n (i := 1) (lv' := [(1, .int (z1 + r30)), (2, .int r30), (0, .ref a0)]) hx hb h_Ve_checkInstructions_99 rfl hl (by decide) rfl (fun ls hl => ?_)
              refine lv_goto (tgt := 2) hx hb h_Ve_checkInstructions_100 (by decide) ?_
              exact ih (z1 + r30) σ63 _ _ _ _ _ hw h (lv_sub hl [2, 0] rfl)
            · skip
              replace hw := hw.2 c40
              exact K_55 () z1 σ29 _ _ _ _ _ hw h (lv_sub hl [1, 2] rfl)
  have hl : lv_has ls 3 [(0, .ref a0)] := hl
  unfold x_Ve_checkInstructions at hw
  refine lv_iconst (v := 0) hx hb h_Ve_checkInstructions_0 (by decide) ?_
  refine lv_istore_n (i := 1) (lv' := [(1, .int 0), (0, .ref a0)]) hx hb h_Ve_checkInstructions_1 rfl hl (by decide) rfl (fun ls hl => ?_)
  obtain ⟨n9, hw⟩ := hw
  exact K_2 n9 0 σ0 _ _ _ _ _ hw h (lv_sub hl [1, 0] rfl)
abbrev g_Ve_isBeginning : MethodName := ⟨"MapFramer$Verifier", "isBeginning", "(I)Z"⟩
theorem h_Ve_isBeginning_0 : decode prog_11_method_7_code 0 = .ok (.iload_n 1, 1) := by decide +kernel
theorem h_Ve_isBeginning_1 : decode prog_11_method_7_code 1 = .ok (.ifCond .lt 25, 3) := by decide +kernel
theorem h_Ve_isBeginning_4 : decode prog_11_method_7_code 4 = .ok (.iload_n 1, 1) := by decide +kernel
theorem h_Ve_isBeginning_5 : decode prog_11_method_7_code 5 = .ok (.aload_n 0, 1) := by decide +kernel
theorem h_Ve_isBeginning_6 : decode prog_11_method_7_code 6 = .ok (.getfield 34, 3) := by decide +kernel
theorem h_Ve_isBeginning_9 : decode prog_11_method_7_code 9 = .ok (.arraylength, 1) := by decide +kernel
theorem h_Ve_isBeginning_10 : decode prog_11_method_7_code 10 = .ok (.if_icmp .ge 16, 3) := by decide +kernel
theorem h_Ve_isBeginning_13 : decode prog_11_method_7_code 13 = .ok (.aload_n 0, 1) := by decide +kernel
theorem h_Ve_isBeginning_14 : decode prog_11_method_7_code 14 = .ok (.getfield 34, 3) := by decide +kernel
theorem h_Ve_isBeginning_17 : decode prog_11_method_7_code 17 = .ok (.iload_n 1, 1) := by decide +kernel
theorem h_Ve_isBeginning_18 : decode prog_11_method_7_code 18 = .ok (.baload, 1) := by decide +kernel
theorem h_Ve_isBeginning_19 : decode prog_11_method_7_code 19 = .ok (.ifCond .eq 7, 3) := by decide +kernel
theorem h_Ve_isBeginning_22 : decode prog_11_method_7_code 22 = .ok (.iconst 1, 1) := by decide +kernel
theorem h_Ve_isBeginning_23 : decode prog_11_method_7_code 23 = .ok (.goto 4, 3) := by decide +kernel
theorem h_Ve_isBeginning_26 : decode prog_11_method_7_code 26 = .ok (.iconst 0, 1) := by decide +kernel
theorem h_Ve_isBeginning_27 : decode prog_11_method_7_code 27 = .ok (.ireturn, 1) := by decide +kernel
def x_Ve_isBeginning (a0 : Nat) (x1 : Int32) (σ0 : CST) (P : Int32 → CST → Prop) : Prop := ((x1 < 0 → P (0 : Int32) σ0) ∧ (¬ x1 < 0 → σ0.1 a0 = some (10, 0) ∧ (∀ b3 : Option Nat, b3 = (σ0.2.2.2.1 a0 3) → (∃ r4 : Nat, b3 = some r4 ∧ ((∃ n6 : Nat, σ0.1 r4 = some (21, n6) ∧ ((((Int32.ofNat n6) ≤ x1 → P (0 : Int32) σ0) ∧ (¬ (Int32.ofNat n6) ≤ x1 → ∀ b8 : Option Nat, b8 = (σ0.2.2.2.1 a0 3) → (∃ r9 : Nat, b8 = some r9 ∧ ((∃ n11 : Nat, σ0.1 r9 = some (21, n11) ∧ (vp_in x1 n11 ∧ (∀ b13 : Int32, b13 = (σ0.2.1 r9 (x1 : Int32).toNatClampNeg) → ((b13 = 0 → P (0 : Int32) σ0) ∧ (¬ b13 = 0 → P (1 : Int32) σ0))))))))))))))))
set_option maxHeartbeats 4000000 in
set_option maxRecDepth 100000 in
theorem X_Ve_isBeginning (l : Launch) (dC : Nat → ClassId) (dI : Nat → Nat → Nat) (ca : Nat → ClassId) (H0 : Heap) (σ0 : CST) (a0 : Nat) (x1 : Int32) {P : Int32 → CST → Prop} (hw : x_Ve_isBeginning a0 x1 σ0 P) : Met l g_Ve_isBeginning (mW g_Ve_isBeginning prog_11_method_7_code 2 (some .boolean)) ({ frames := 0, cells := σ0.2.2.2.2.1, slots := σ0.2.2.2.2.2.1, locals := 0 } : Room) (va_Pc [.ref a0, .int x1] (CPre (dC, dI) ca σ0 H0)) (va_Qi P (CB (dC, dI) ca σ0 H0) (cA σ0 H0.size)) σ0.2.2.2.2.1 σ0.2.2.2.2.2.1 (cA σ0 H0.size) := by
  refine C_ofz (by decide +kernel) rfl rfl rfl (Nat.le_of_ble_eq_true rfl) ?_
  intro p e s m below meth cx Q A ls C hnm hend hH0 h hl
  subst hH0
  have C0 := C
  obtain ⟨⟨hx, hb, hml, hown, hts⟩, hsub⟩ := C0
  obtain ⟨cells, e_cells⟩ : ∃ z : Nat, z = 0 := ⟨_, rfl⟩
  obtain ⟨slots, e_slots⟩ : ∃ z : Nat, z = 0 := ⟨_, rfl⟩
  have h : CH (dC, dI) A ca ({ frames := 0, cells := σ0.2.2.2.2.1, slots := σ0.2.2.2.2.2.1, locals := 0 } : Room) σ0.2.2.2.2.2.2 σ0 s s.heap [] cells slots := by rw [e_cells, e_slots]; exact h
  show W p l e ({ frames := 0, cells := σ0.2.2.2.2.1, slots := σ0.2.2.2.2.2.1, locals := 0 } : Room) s m ([.ref a0, .int x1] : List Value).toArray below meth cx s.heap [] 0 0 Q (F0 m 0 ls [])
  rw [show W p l e ({ frames := 0, cells := σ0.2.2.2.2.1, slots := σ0.2.2.2.2.2.1, locals := 0 } : Room) s m ([.ref a0, .int x1] : List Value).toArray below meth cx s.heap [] 0 0 Q (F0 m 0 ls []) = W p l e ({ frames := 0, cells := σ0.2.2.2.2.1, slots := σ0.2.2.2.2.2.1, locals := 0 } : Room) s m ([.ref a0, .int x1] : List Value).toArray below meth cx s.heap [] cells slots Q (F0 m 0 ls []) by rw [e_cells, e_slots]]
  have hl : lv_has ls 2 [(0, .ref a0), (1, .int x1)] := hl
  unfold x_Ve_isBeginning at hw
  refine lv_iload_n hx hb h_Ve_isBeginning_0 rfl (lv_at hl 1 rfl) ?_
  refine lv_if_lt (tgt := 26) hx hb h_Ve_isBeginning_1 (by decide) (fun c1 => ?_) (fun c1 => ?_)
  · skip
    replace hw := hw.1 c1
    refine lv_iconst (v := 0) hx hb h_Ve_isBeginning_26 (by decide) ?_
    exact hend (0 : Int32) σ0 _ _ _ _ _ _ rfl hw h h_Ve_isBeginning_27
  · skip
    replace hw := hw.2 c1
    refine lv_iload_n hx hb h_Ve_isBeginning_4 rfl (lv_at hl 1 rfl) ?_
    refine lv_aload_n hx hb h_Ve_isBeginning_5 rfl (lv_at hl 0 rfl) ?_
    obtain ⟨g2, hw⟩ := hw
    refine C_get C h 10 3 (v := va_rf (σ0.2.2.2.1 a0 3)) g2 rfl (Cn := R_Ve) (T := T_Ve) (N := 10) rfl (by decide) rfl uw_Ve (by decide) u_690 (fun _ q => q) h_Ve_isBeginning_6 ?_
    refine lv_topq (fun b3 e_b3 => ?_)
    replace hw := hw b3 e_b3
    obtain ⟨r4, e_r4, hw⟩ := hw
    subst e_r4
    have hl : lv_has ls 2 [(0, .ref a0), (1, .int x1)] := hl
    refine W.eq (g2 := F0 m 9 ls [.ref r4, .int x1]) rfl ?_
    obtain ⟨n6, g5, hw⟩ := hw
    refine C_alen C h 21 1 rfl (by decide) g5 h_Ve_isBeginning_9 ?_
    refine lv_icmp_ge (tgt := 26) hx hb h_Ve_isBeginning_10 (by decide) (fun c7 => ?_) (fun c7 => ?_)
    · skip
      replace hw := hw.1 c7
      refine lv_iconst (v := 0) hx hb h_Ve_isBeginning_26 (by decide) ?_
      exact hend (0 : Int32) σ0 _ _ _ _ _ _ rfl hw h h_Ve_isBeginning_27
    · skip
      replace hw := hw.2 c7
      refine lv_aload_n hx hb h_Ve_isBeginning_13 rfl (lv_at hl 0 rfl) ?_
      refine C_get C h 10 3 (v := va_rf (σ0.2.2.2.1 a0 3)) g2 rfl (Cn := R_Ve) (T := T_Ve) (N := 10) rfl (by decide) rfl uw_Ve (by decide) u_690 (fun _ q => q) h_Ve_isBeginning_14 ?_
      refine lv_topq (fun b8 e_b8 => ?_)
      replace hw := hw b8 e_b8
      refine lv_iload_n hx hb h_Ve_isBeginning_17 rfl (lv_at hl 1 rfl) ?_
      obtain ⟨r9, e_r9, hw⟩ := hw
      subst e_r9
      have hl : lv_has ls 2 [(0, .ref a0), (1, .int x1)] := hl
      refine W.eq (g2 := F0 m 18 ls [.int x1, .ref r9]) rfl ?_
      obtain ⟨n11, g10, hw⟩ := hw
      obtain ⟨g12, hw⟩ := hw
      refine C_zald C h g10 g12 h_Ve_isBeginning_18 ?_
      refine lv_topi (fun b13 e_b13 => ?_)
      replace hw := hw b13 e_b13
      refine lv_if_eq (tgt := 26) hx hb h_Ve_isBeginning_19 (by decide) (fun c14 => ?_) (fun c14 => ?_)
      · skip
        replace hw := hw.1 c14
        refine lv_iconst (v := 0) hx hb h_Ve_isBeginning_26 (by decide) ?_
        exact hend (0 : Int32) σ0 _ _ _ _ _ _ rfl hw h h_Ve_isBeginning_27
      · skip
        replace hw := hw.2 c14
        refine lv_iconst (v := 1) hx hb h_Ve_isBeginning_22 (by decide) ?_
        refine lv_goto (tgt := 27) hx hb h_Ve_isBeginning_23 (by decide) ?_
        exact hend (1 : Int32) σ0 _ _ _ _ _ _ rfl hw h h_Ve_isBeginning_27
abbrev g_Ve_checkBranches : MethodName := ⟨"MapFramer$Verifier", "checkBranches", "()V"⟩
theorem u_742 : (Cond.methodLink "MapFramer$Verifier" 114 ⟨"MapFramer$Op", "isBranch", "(I)Z"⟩ : Cond) ∈ bigW := inB_4 26 (by decide +kernel) rfl
theorem u_743 : (Cond.methodLink "MapFramer$Verifier" 117 ⟨"MapFramer$Method", "branchPlace", "(I)I"⟩ : Cond) ∈ bigW := inB_4 29 (by decide +kernel) rfl
theorem u_744 : (Cond.methodLink "MapFramer$Verifier" 120 ⟨"MapFramer$Verifier", "isBeginning", "(I)Z"⟩ : Cond) ∈ bigW := inB_4 38 (by decide +kernel) rfl
theorem u_745 : (Cond.instanceMethod ⟨"MapFramer$Verifier", "isBeginning", "(I)Z"⟩ : Cond) ∈ bigW := inB_4 40 (by decide +kernel) rfl
theorem u_746 : (Cond.selects "MapFramer$Verifier" ⟨"MapFramer$Verifier", "isBeginning", "(I)Z"⟩ ⟨"MapFramer$Verifier", "isBeginning", "(I)Z"⟩ : Cond) ∈ bigW := inS (y := ⟨"MapFramer$Verifier", "isBeginning", "(I)Z"⟩) (n := 10) (List.mem_of_getElem? (i := 6) (by decide +kernel))
theorem u_747 : (Cond.code ⟨"MapFramer$Verifier", "isBeginning", "(I)Z"⟩ prog_11_method_7_code 2 (some .boolean) : Cond) ∈ bigW := inB_4 41 rfl rfl
theorem h_Ve_checkBranches_0 : decode prog_11_method_6_code 0 = .ok (.iconst 0, 1) := by decide +kernel
theorem h_Ve_checkBranches_1 : decode prog_11_method_6_code 1 = .ok (.istore_n 1, 1) := by decide +kernel
theorem h_Ve_checkBranches_2 : decode prog_11_method_6_code 2 = .ok (.iload_n 1, 1) := by decide +kernel
theorem h_Ve_checkBranches_3 : decode prog_11_method_6_code 3 = .ok (.aload_n 0, 1) := by decide +kernel
theorem h_Ve_checkBranches_4 : decode prog_11_method_6_code 4 = .ok (.getfield 34, 3) := by decide +kernel
theorem h_Ve_checkBranches_7 : decode prog_11_method_6_code 7 = .ok (.arraylength, 1) := by decide +kernel
theorem h_Ve_checkBranches_8 : decode prog_11_method_6_code 8 = .ok (.if_icmp .ge 67, 3) := by decide +kernel
theorem h_Ve_checkBranches_11 : decode prog_11_method_6_code 11 = .ok (.aload_n 0, 1) := by decide +kernel
theorem h_Ve_checkBranches_12 : decode prog_11_method_6_code 12 = .ok (.getfield 15, 3) := by decide +kernel
theorem h_Ve_checkBranches_15 : decode prog_11_method_6_code 15 = .ok (.getfield 67, 3) := by decide +kernel
theorem h_Ve_checkBranches_18 : decode prog_11_method_6_code 18 = .ok (.ifCond .ne 57, 3) := by decide +kernel
theorem h_Ve_checkBranches_21 : decode prog_11_method_6_code 21 = .ok (.aload_n 0, 1) := by decide +kernel
theorem h_Ve_checkBranches_22 : decode prog_11_method_6_code 22 = .ok (.getfield 34, 3) := by decide +kernel
theorem h_Ve_checkBranches_25 : decode prog_11_method_6_code 25 = .ok (.iload_n 1, 1) := by decide +kernel
theorem h_Ve_checkBranches_26 : decode prog_11_method_6_code 26 = .ok (.baload, 1) := by decide +kernel
theorem h_Ve_checkBranches_27 : decode prog_11_method_6_code 27 = .ok (.ifCond .eq 42, 3) := by decide +kernel
theorem h_Ve_checkBranches_30 : decode prog_11_method_6_code 30 = .ok (.aload_n 0, 1) := by decide +kernel
theorem h_Ve_checkBranches_31 : decode prog_11_method_6_code 31 = .ok (.getfield 15, 3) := by decide +kernel
theorem h_Ve_checkBranches_34 : decode prog_11_method_6_code 34 = .ok (.getfield 28, 3) := by decide +kernel
theorem h_Ve_checkBranches_37 : decode prog_11_method_6_code 37 = .ok (.iload_n 1, 1) := by decide +kernel
theorem h_Ve_checkBranches_38 : decode prog_11_method_6_code 38 = .ok (.iaload, 1) := by decide +kernel
theorem h_Ve_checkBranches_39 : decode prog_11_method_6_code 39 = .ok (.invokestatic 114, 3) := by decide +kernel
theorem h_Ve_checkBranches_42 : decode prog_11_method_6_code 42 = .ok (.ifCond .eq 27, 3) := by decide +kernel
theorem h_Ve_checkBranches_45 : decode prog_11_method_6_code 45 = .ok (.aload_n 0, 1) := by decide +kernel
theorem h_Ve_checkBranches_46 : decode prog_11_method_6_code 46 = .ok (.aload_n 0, 1) := by decide +kernel
theorem h_Ve_checkBranches_47 : decode prog_11_method_6_code 47 = .ok (.getfield 15, 3) := by decide +kernel
theorem h_Ve_checkBranches_50 : decode prog_11_method_6_code 50 = .ok (.iload_n 1, 1) := by decide +kernel
theorem h_Ve_checkBranches_51 : decode prog_11_method_6_code 51 = .ok (.invokevirtual 117, 3) := by decide +kernel
theorem h_Ve_checkBranches_54 : decode prog_11_method_6_code 54 = .ok (.invokevirtual 120, 3) := by decide +kernel
theorem h_Ve_checkBranches_57 : decode prog_11_method_6_code 57 = .ok (.ifCond .ne 12, 3) := by decide +kernel
theorem h_Ve_checkBranches_60 : decode prog_11_method_6_code 60 = .ok (.aload_n 0, 1) := by decide +kernel
theorem h_Ve_checkBranches_61 : decode prog_11_method_6_code 61 = .ok (.getfield 15, 3) := by decide +kernel
theorem h_Ve_checkBranches_64 : decode prog_11_method_6_code 64 = .ok (.iconst 4, 1) := by decide +kernel
theorem h_Ve_checkBranches_65 : decode prog_11_method_6_code 65 = .ok (.iload_n 1, 1) := by decide +kernel
theorem h_Ve_checkBranches_66 : decode prog_11_method_6_code 66 = .ok (.invokevirtual 76, 3) := by decide +kernel
theorem h_Ve_checkBranches_69 : decode prog_11_method_6_code 69 = .ok (.iinc 1 1, 3) := by decide +kernel
theorem h_Ve_checkBranches_72 : decode prog_11_method_6_code 72 = .ok (.goto (-70), 3) := by decide +kernel
theorem h_Ve_checkBranches_75 : decode prog_11_method_6_code 75 = .ok (.return_, 1) := by decide +kernel
def x_Ve_checkBranches_69 (a0 : Nat) (K2 : Int32 → CST → Prop) (P : CST → Prop) (z1 : Int32) (σ : CST) : Prop := K2 (z1 + 1) σ
def x_Ve_checkBranches_2 (a0 : Nat) (P : CST → Prop) : Nat → Int32 → CST → Prop
  | 0, _, _ => False
  | n + 1, z1, σ => σ.1 a0 = some (10, 0) ∧ (∀ b2 : Option Nat, b2 = (σ.2.2.2.1 a0 3) → (∃ r3 : Nat, b2 = some r3 ∧ ((∃ n5 : Nat, σ.1 r3 = some (21, n5) ∧ ((((Int32.ofNat n5) ≤ z1 → P σ) ∧ (¬ (Int32.ofNat n5) ≤ z1 → ∀ b7 : Option Nat, b7 = (σ.2.2.2.1 a0 1) → (∃ r8 : Nat, b7 = some r8 ∧ (σ.1 r8 = some (5, 0) ∧ ((((σ.2.1 r8 7) = 0 → ∀ b11 : Option Nat, b11 = (σ.2.2.2.1 a0 3) → (∃ r12 : Nat, b11 = some r12 ∧ ((∃ n14 : Nat, σ.1 r12 = some (21, n14) ∧ (vp_in z1 n14 ∧ (∀ b16 : Int32, b16 = (σ.2.1 r12 (z1 : Int32).toNatClampNeg) → ((b16 = 0 → x_Ve_checkBranches_69 a0 (x_Ve_checkBranches_2 a0 P n) P z1 σ) ∧ (¬ b16 = 0 → ∀ b18 : Option Nat, b18 = (σ.2.2.2.1 a0 1) → (∃ r19 : Nat, b18 = some r19 ∧ (σ.1 r19 = some (5, 0) ∧ (∀ b21 : Option Nat, b21 = (σ.2.2.2.1 r19 2) → (∃ r22 : Nat, b21 = some r22 ∧ ((∃ n24 : Nat, σ.1 r22 = some (20, n24) ∧ (vp_in z1 n24 ∧ (∀ b26 : Int32, b26 = (σ.2.1 r22 (z1 : Int32).toNatClampNeg) → x_Op_isBranch b26 σ (fun r28 σ27 => ((r28 = 0 → x_Ve_checkBranches_69 a0 (x_Ve_checkBranches_2 a0 P n) P z1 σ27) ∧ (¬ r28 = 0 → σ27.1 a0 = some (10, 0) ∧ (∀ b31 : Option Nat, b31 = (σ27.2.2.2.1 a0 1) → (∃ r32 : Nat, b31 = some r32 ∧ (σ27.1 r32 = some (5, 0) ∧ (x_E_branchPlace r32 z1 σ27 (fun r35 σ34 => σ34.1 a0 = some (10, 0) ∧ (x_Ve_isBeginning a0 r35 σ34 (fun r38 σ37 => ((r38 = 0 → σ37.1 a0 = some (10, 0) ∧ (∀ b41 : Option Nat, b41 = (σ37.2.2.2.1 a0 1) → (∃ r42 : Nat, b41 = some r42 ∧ (σ37.1 r42 = some (5, 0) ∧ (x_E_fail r42 (4 : Int32) z1 σ37 (fun σ44 => x_Ve_checkBranches_69 a0 (x_Ve_checkBranches_2 a0 P n) P z1 σ44)))))) ∧ (¬ r38 = 0 → x_Ve_checkBranches_69 a0 (x_Ve_checkBranches_2 a0 P n) P z1 σ37)))))))))))))))))))))))))))) ∧ (¬ (σ.2.1 r8 7) = 0 → P σ))))))))))))
def x_Ve_checkBranches (a0 : Nat) (σ0 : CST) (P : CST → Prop) : Prop := (∃ n9 : Nat, x_Ve_checkBranches_2 a0 P n9 0 σ0)
set_option maxHeartbeats 4000000 in
set_option maxRecDepth 100000 in
theorem X_Ve_checkBranches (l : Launch) (dC : Nat → ClassId) (dI : Nat → Nat → Nat) (ca : Nat → ClassId) (H0 : Heap) (σ0 : CST) (a0 : Nat) {P : CST → Prop} (hw : x_Ve_checkBranches a0 σ0 P) : Met l g_Ve_checkBranches (mW g_Ve_checkBranches prog_11_method_6_code 2 none) ({ frames := 3, cells := σ0.2.2.2.2.1, slots := σ0.2.2.2.2.2.1, locals := 63 } : Room) (va_Pc [.ref a0] (CPre (dC, dI) ca σ0 H0)) (va_Qv P (CB (dC, dI) ca σ0 H0) (cA σ0 H0.size)) σ0.2.2.2.2.1 σ0.2.2.2.2.2.1 (cA σ0 H0.size) := by
  refine C_ofv (by decide +kernel) rfl rfl rfl (Nat.le_of_ble_eq_true rfl) ?_
  intro p e s m below meth cx Q A ls C hnm hend hH0 h hl
  subst hH0
  have C0 := C
  obtain ⟨⟨hx, hb, hml, hown, hts⟩, hsub⟩ := C0
  obtain ⟨cells, e_cells⟩ : ∃ z : Nat, z = 0 := ⟨_, rfl⟩
  obtain ⟨slots, e_slots⟩ : ∃ z : Nat, z = 0 := ⟨_, rfl⟩
  have h : CH (dC, dI) A ca ({ frames := 3, cells := σ0.2.2.2.2.1, slots := σ0.2.2.2.2.2.1, locals := 63 } : Room) σ0.2.2.2.2.2.2 σ0 s s.heap [] cells slots := by rw [e_cells, e_slots]; exact h
  show W p l e ({ frames := 3, cells := σ0.2.2.2.2.1, slots := σ0.2.2.2.2.2.1, locals := 63 } : Room) s m ([.ref a0] : List Value).toArray below meth cx s.heap [] 0 0 Q (F0 m 0 ls [])
  rw [show W p l e ({ frames := 3, cells := σ0.2.2.2.2.1, slots := σ0.2.2.2.2.2.1, locals := 63 } : Room) s m ([.ref a0] : List Value).toArray below meth cx s.heap [] 0 0 Q (F0 m 0 ls []) = W p l e ({ frames := 3, cells := σ0.2.2.2.2.1, slots := σ0.2.2.2.2.2.1, locals := 63 } : Room) s m ([.ref a0] : List Value).toArray below meth cx s.heap [] cells slots Q (F0 m 0 ls []) by rw [e_cells, e_slots]]
  have K_69 : ∀ (K2 : Int32 → CST → Prop) (hK2 : ∀ (z1 : Int32) (σ : CST) (H : Heap) (locs : List Loc) (cells slots : Nat) (ls : Array Slot), K2 z1 σ → CH (dC, dI) A ca ({ frames := 3, cells := σ0.2.2.2.2.1, slots := σ0.2.2.2.2.2.1, locals := 63 } : Room) σ0.2.2.2.2.2.2 σ s H locs cells slots → lv_has ls 2 [(0, .ref a0), (1, .int z1)] → W p l e ({ frames := 3, cells := σ0.2.2.2.2.1, slots := σ0.2.2.2.2.2.1, locals := 63 } : Room) s m ([.ref a0] : List Value).toArray below meth cx H locs cells slots Q (F0 m 2 ls [])), ∀ (z1 : Int32) (σ : CST) (H : Heap) (locs : List Loc) (cells slots : Nat) (ls : Array Slot), x_Ve_checkBranches_69 a0 K2 P z1 σ → CH (dC, dI) A ca ({ frames := 3, cells := σ0.2.2.2.2.1, slots := σ0.2.2.2.2.2.1, locals := 63 } : Room) σ0.2.2.2.2.2.2 σ s H locs cells slots → lv_has ls 2 [(0, .ref a0), (1, .int z1)] → W p l e ({ frames := 3, cells := σ0.2.2.2.2.1, slots := σ0.2.2.2.2.2.1, locals := 63 } : Room) s m ([.ref a0] : List Value).toArray below meth cx H locs cells slots Q (F0 m 69 ls []) := by
    intro K2 hK2 z1 σ H locs cells slots ls hw h hl
    unfold x_Ve_checkBranches_69 at hw
    refine lv_iinc (v := (z1 + 1)) (lv' := [(1, .int (z1 + 1)), (0, .ref a0)]) hx hb h_Ve_checkBranches_69 hl (k := 1) rfl (rfl) (by decide) rfl (fun ls hl => ?_)
    refine lv_goto (tgt := 2) hx hb h_Ve_checkBranches_72 (by decide) ?_
    exact hK2 (z1 + 1) σ _ _ _ _ _ hw h (lv_sub hl [1, 0] rfl)
  have K_2 : ∀ (n : Nat), ∀ (z1 : Int32) (σ : CST) (H : Heap) (locs : List Loc) (cells slots : Nat) (ls : Array Slot), x_Ve_checkBranches_2 a0 P n z1 σ → CH (dC, dI) A ca ({ frames := 3, cells := σ0.2.2.2.2.1, slots := σ0.2.2.2.2.2.1, locals := 63 } : Room) σ0.2.2.2.2.2.2 σ s H locs cells slots → lv_has ls 2 [(0, .ref a0), (1, .int z1)] → W p l e ({ frames := 3, cells := σ0.2.2.2.2.1, slots := σ0.2.2.2.2.2.1, locals := 63 } : Room) s m ([.ref a0] : List Value).toArray below meth cx H locs cells slots Q (F0 m 2 ls []) := by
    intro  n
    induction n with
    | zero => intro z1 σ H locs cells slots ls hw h hl; unfold x_Ve_checkBranches_2 at hw; exact hw.elim
    | succ n ih =>
      intro z1 σ H locs cells slots ls hw h hl
      unfold x_Ve_checkBranches_2 at hw
      refine lv_iload_n hx hb h_Ve_checkBranches_2 rfl (lv_at hl 1 rfl) ?_
      refine lv_aload_n hx hb h_Ve_checkBranches_3 rfl (lv_at hl 0 rfl) ?_
      obtain ⟨g1, hw⟩ := hw
      refine C_get C h 10 3 (v := va_rf (σ.2.2.2.1 a0 3)) g1 rfl (Cn := R_Ve) (T := T_Ve) (N := 10) rfl (by decide) rfl uw_Ve (by decide) u_690 (fun _ q => q) h_Ve_checkBranches_4 ?_
      refine lv_topq (fun b2 e_b2 => ?_)
      replace hw := hw b2 e_b2
      obtain ⟨r3, e_r3, hw⟩ := hw
      subst e_r3
      have hl : lv_has ls 2 [(0, .ref a0), (1, .int z1)] := hl
      refine W.eq (g2 := F0 m 7 ls [.ref r3, .int z1]) rfl ?_
      obtain ⟨n5, g4, hw⟩ := hw
      refine C_alen C h 21 1 rfl (by decide) g4 h_Ve_checkBranches_7 ?_
      refine lv_icmp_ge (tgt := 75) hx hb h_Ve_checkBranches_8 (by decide) (fun c6 => ?_) (fun c6 => ?_)
      · skip
        replace hw := hw.1 c6
        exact hend σ _ _ _ _ _ _ hw h h_Ve_checkBranches_75
      · skip
        replace hw := hw.2 c6
        refine lv_aload_n hx hb h_Ve_checkBranches_11 rfl (lv_at hl 0 rfl) ?_
        refine C_get C h 10 1 (v := va_rf (σ.2.2.2.1 a0 1)) g1 rfl (Cn := R_Ve) (T := T_Ve) (N := 10) rfl (by decide) rfl uw_Ve (by decide) u_681 (fun _ q => q) h_Ve_checkBranches_12 ?_
        refine lv_topq (fun b7 e_b7 => ?_)
        replace hw := hw b7 e_b7
        obtain ⟨r8, e_r8, hw⟩ := hw
        subst e_r8
        have hl : lv_has ls 2 [(0, .ref a0), (1, .int z1)] := hl
        refine W.eq (g2 := F0 m 15 ls [.ref r8]) rfl ?_
        obtain ⟨g9, hw⟩ := hw
        refine C_get C h 5 7 (v := .int (σ.2.1 r8 7)) g9 rfl (Cn := R_E) (T := T_E) (N := 13) rfl (by decide) rfl uw_E (by decide) u_735 (fun _ q => q) h_Ve_checkBranches_15 ?_
        refine lv_if_ne (tgt := 75) hx hb h_Ve_checkBranches_18 (by decide) (fun c10 => ?_) (fun c10 => ?_)
        · skip
          replace hw := hw.2 c10
          exact hend σ _ _ _ _ _ _ hw h h_Ve_checkBranches_75
        · skip
          replace hw := hw.1 c10
          refine lv_aload_n hx hb h_Ve_checkBranches_21 rfl (lv_at hl 0 rfl) ?_
          refine C_get C h 10 3 (v := va_rf (σ.2.2.2.1 a0 3)) g1 rfl (Cn := R_Ve) (T := T_Ve) (N := 10) rfl (by decide) rfl uw_Ve (by decide) u_690 (fun _ q => q) h_Ve_checkBranches_22 ?_
          refine lv_topq (fun b11 e_b11 => ?_)
          replace hw := hw b11 e_b11
          refine lv_iload_n hx hb h_Ve_checkBranches_25 rfl (lv_at hl 1 rfl) ?_
          obtain ⟨r12, e_r12, hw⟩ := hw
          subst e_r12
          have hl : lv_has ls 2 [(0, .ref a0), (1, .int z1)] := hl
          refine W.eq (g2 := F0 m 26 ls [.int z1, .ref r12]) rfl ?_
          obtain ⟨n14, g13, hw⟩ := hw
          obtain ⟨g15, hw⟩ := hw
          refine C_zald C h g13 g15 h_Ve_checkBranches_26 ?_
          refine lv_topi (fun b16 e_b16 => ?_)
          replace hw := hw b16 e_b16
          refine lv_if_eq (tgt := 69) hx hb h_Ve_checkBranches_27 (by decide) (fun c17 => ?_) (fun c17 => ?_)
          · skip
            replace hw := hw.1 c17
            exact K_69 _ ih z1 σ _ _ _ _ _ hw h (lv_sub hl [0, 1] rfl)
          · skip
            replace hw := hw.2 c17
            refine lv_aload_n hx hb h_Ve_checkBranches_30 rfl (lv_at hl 0 rfl) ?_
            refine C_get C h 10 1 (v := va_rf (σ.2.2.2.1 a0 1)) g1 rfl (Cn := R_Ve) (T := T_Ve) (N := 10) rfl (by decide) rfl uw_Ve (by decide) u_681 (fun _ q => q) h_Ve_checkBranches_31 ?_
            refine lv_topq (fun b18 e_b18 => ?_)
            replace hw := hw b18 e_b18
            obtain ⟨r19, e_r19, hw⟩ := hw
            subst e_r19
            have hl : lv_has ls 2 [(0, .ref a0), (1, .int z1)] := hl
            refine W.eq (g2 := F0 m 34 ls [.ref r19]) rfl ?_
            obtain ⟨g20, hw⟩ := hw
            refine C_get C h 5 2 (v := va_rf (σ.2.2.2.1 r19 2)) g20 rfl (Cn := R_E) (T := T_E) (N := 13) rfl (by decide) rfl uw_E (by decide) u_688 (fun _ q => q) h_Ve_checkBranches_34 ?_
            refine lv_topq (fun b21 e_b21 => ?_)
            replace hw := hw b21 e_b21
            refine lv_iload_n hx hb h_Ve_checkBranches_37 rfl (lv_at hl 1 rfl) ?_
            obtain ⟨r22, e_r22, hw⟩ := hw
            subst e_r22
            have hl : lv_has ls 2 [(0, .ref a0), (1, .int z1)] := hl
            refine W.eq (g2 := F0 m 38 ls [.int z1, .ref r22]) rfl ?_
            obtain ⟨n24, g23, hw⟩ := hw
            obtain ⟨g25, hw⟩ := hw
            refine C_iald C h g23 g25 h_Ve_checkBranches_38 ?_
            refine lv_topi (fun b26 e_b26 => ?_)
            replace hw := hw b26 e_b26
            refine C_callSi (As := [.int b26]) (rest := []) C h (X_Op_isBranch l dC dI ca H σ b26 hw) (va_cwS 1 hts (gS hsub u_742 u_379 u_327 u_380) rfl rfl rfl (by decide +kernel) ⟨(Nat.le_of_ble_eq_true rfl), (Nat.le_of_ble_eq_true rfl)⟩) rfl hl.1 (Nat.le_of_ble_eq_true rfl) h_Ve_checkBranches_39 (fun r28 σ27 H locs cells slots hw9 h9 => ?_)
            clear hw h; have hw := hw9; have h := h9; clear hw9 h9
            refine W.eq (g2 := F0 m 42 ls [.int r28]) rfl ?_
            refine lv_if_eq (tgt := 69) hx hb h_Ve_checkBranches_42 (by decide) (fun c29 => ?_) (fun c29 => ?_)
            · skip
              replace hw := hw.1 c29
              exact K_69 _ ih z1 σ27 _ _ _ _ _ hw h (lv_sub hl [0, 1] rfl)
            · skip
              replace hw := hw.2 c29
              refine lv_aload_n hx hb h_Ve_checkBranches_45 rfl (lv_at hl 0 rfl) ?_
              refine lv_aload_n hx hb h_Ve_checkBranches_46 rfl (lv_at hl 0 rfl) ?_
              obtain ⟨g30, hw⟩ := hw
              refine C_get C h 10 1 (v := va_rf (σ27.2.2.2.1 a0 1)) g30 rfl (Cn := R_Ve) (T := T_Ve) (N := 10) rfl (by decide) rfl uw_Ve (by decide) u_681 (fun _ q => q) h_Ve_checkBranches_47 ?_
              refine lv_topq (fun b31 e_b31 => ?_)
              replace hw := hw b31 e_b31
              refine lv_iload_n hx hb h_Ve_checkBranches_50 rfl (lv_at hl 1 rfl) ?_
              obtain ⟨r32, e_r32, hw⟩ := hw
              subst e_r32
              have hl : lv_has ls 2 [(0, .ref a0), (1, .int z1)] := hl
              refine W.eq (g2 := F0 m 51 ls [.int z1, .ref r32, .ref a0]) rfl ?_
              obtain ⟨g33, hw⟩ := hw
              refine C_callVi (As := [.int z1]) (rest := [.ref a0]) C h (ci := 5) (Cn := R_E) (T := T_E) (N := 13) g33 rfl (by decide) (X_E_branchPlace l dC dI ca H σ27 r32 z1 hw) (cwV 1 hts (gV hsub u_743 u_313 u_314 u_229 u_315) rfl rfl rfl (by decide +kernel) ⟨(Nat.le_of_ble_eq_true rfl), (Nat.le_of_ble_eq_true rfl)⟩) rfl hl.1 (Nat.le_of_ble_eq_true rfl) h_Ve_checkBranches_51 (fun r35 σ34 H locs cells slots hw9 h9 => ?_)
              clear hw h; have hw := hw9; have h := h9; clear hw9 h9
              refine W.eq (g2 := F0 m 54 ls [.int r35, .ref a0]) rfl ?_
              obtain ⟨g36, hw⟩ := hw
              refine C_callVi (As := [.int r35]) (rest := []) C h (ci := 10) (Cn := R_Ve) (T := T_Ve) (N := 10) g36 rfl (by decide) (X_Ve_isBeginning l dC dI ca H σ34 a0 r35 hw) (cwV 1 hts (gV hsub u_744 u_745 u_746 u_726 u_747) rfl rfl rfl (by decide +kernel) ⟨(Nat.le_of_ble_eq_true rfl), (Nat.le_of_ble_eq_true rfl)⟩) rfl hl.1 (Nat.le_of_ble_eq_true rfl) h_Ve_checkBranches_54 (fun r38 σ37 H locs cells slots hw9 h9 => ?_)
              clear hw h; have hw := hw9; have h := h9; clear hw9 h9
              refine W.eq (g2 := F0 m 57 ls [.int r38]) rfl ?_
              refine lv_if_ne (tgt := 69) hx hb h_Ve_checkBranches_57 (by decide) (fun c39 => ?_) (fun c39 => ?_)
              · skip
                replace hw := hw.2 c39
                exact K_69 _ ih z1 σ37 _ _ _ _ _ hw h (lv_sub hl [0, 1] rfl)
              · skip
                replace hw := hw.1 c39
                refine lv_aload_n hx hb h_Ve_checkBranches_60 rfl (lv_at hl 0 rfl) ?_
                obtain ⟨g40, hw⟩ := hw
                refine C_get C h 10 1 (v := va_rf (σ37.2.2.2.1 a0 1)) g40 rfl (Cn := R_Ve) (T := T_Ve) (N := 10) rfl (by decide) rfl uw_Ve (by decide) u_681 (fun _ q => q) h_Ve_checkBranches_61 ?_
                refine lv_topq (fun b41 e_b41 => ?_)
                replace hw := hw b41 e_b41
                refine lv_iconst (v := 4) hx hb h_Ve_checkBranches_64 (by decide) ?_
                refine lv_iload_n hx hb h_Ve_checkBranches_65 rfl (lv_at hl 1 rfl) ?_
                obtain ⟨r42, e_r42, hw⟩ := hw
                subst e_r42
                have hl : lv_has ls 2 [(0, .ref a0), (1, .int z1)] := hl
                refine W.eq (g2 := F0 m 66 ls [.int z1, .int 4, .ref r42]) rfl ?_
                obtain ⟨g43, hw⟩ := hw
                refine C_callVv (As := [.int 4, .int z1]) (rest := []) C h (ci := 5) (Cn := R_E) (T := T_E) (N := 13) g43 rfl (by decide) (X_E_fail l dC dI ca H σ37 r42 (4 : Int32) z1 hw) (cwV 2 hts (gV hsub u_728 u_729 u_730 u_229 u_731) rfl rfl rfl (by decide +kernel) ⟨(Nat.le_of_ble_eq_true rfl), (Nat.le_of_ble_eq_true rfl)⟩) rfl hl.1 (Nat.le_of_ble_eq_true rfl) h_Ve_checkBranches_66 (fun σ44 H locs cells slots hw9 h9 => ?_)
                clear hw h; have hw := hw9; have h := h9; clear hw9 h9
                refine W.eq (g2 := F0 m 69 ls []) rfl ?_
                exact K_69 _ ih z1 σ44 _ _ _ _ _ hw h (lv_sub hl [0, 1] rfl)
  have hl : lv_has ls 2 [(0, .ref a0)] := hl
  unfold x_Ve_checkBranches at hw
  refine lv_iconst (v := 0) hx hb h_Ve_checkBranches_0 (by decide) ?_
  refine lv_istore_n (i := 1) (lv' := [(1, .int 0), (0, .ref a0)]) hx hb h_Ve_checkBranches_1 rfl hl (by decide) rfl (fun ls hl => ?_)
  obtain ⟨n9, hw⟩ := hw
  exact K_2 n9 0 σ0 _ _ _ _ _ hw h (lv_sub hl [1, 0] rfl)
abbrev g_Ve_checkHandlers : MethodName := ⟨"MapFramer$Verifier", "checkHandlers", "()V"⟩
theorem u_748 : (Cond.fieldLink "MapFramer$Verifier" 142 "MapFramer$Handler" "from" "I" : Cond) ∈ bigW := inB_3 49 (by decide +kernel) rfl
theorem u_749 : (Cond.fieldLink "MapFramer$Verifier" 139 "MapFramer$Handler" "to" "I" : Cond) ∈ bigW := inB_3 52 (by decide +kernel) rfl
theorem u_750 : (Cond.fieldLink "MapFramer$Verifier" 145 "MapFramer$Handler" "place" "I" : Cond) ∈ bigW := inB_3 56 (by decide +kernel) rfl
theorem u_751 : (Cond.fieldLink "MapFramer$Verifier" 123 "MapFramer$Method" "handlers" "Ljava/util/ArrayList;" : Cond) ∈ bigW := inB_2 175 (by decide +kernel) rfl
theorem u_752 : (Cond.methodLink "MapFramer$Verifier" 127 ⟨"java/util/ArrayList", "size", "()I"⟩ : Cond) ∈ bigW := inB_4 46 (by decide +kernel) rfl
theorem u_753 : (Cond.methodLink "MapFramer$Verifier" 133 ⟨"java/util/ArrayList", "get", "(I)Ljava/lang/Object;"⟩ : Cond) ∈ bigW := inB_4 47 (by decide +kernel) rfl
theorem u_754 : (Cond.classLink "MapFramer$Verifier" 137 "MapFramer$Handler" : Cond) ∈ bigW := inB_4 61 (by decide +kernel) rfl
theorem h_Ve_checkHandlers_0 : decode prog_11_method_8_code 0 = .ok (.iconst 0, 1) := by decide +kernel
theorem h_Ve_checkHandlers_1 : decode prog_11_method_8_code 1 = .ok (.istore_n 1, 1) := by decide +kernel
theorem h_Ve_checkHandlers_2 : decode prog_11_method_8_code 2 = .ok (.iload_n 1, 1) := by decide +kernel
theorem h_Ve_checkHandlers_3 : decode prog_11_method_8_code 3 = .ok (.aload_n 0, 1) := by decide +kernel
theorem h_Ve_checkHandlers_4 : decode prog_11_method_8_code 4 = .ok (.getfield 15, 3) := by decide +kernel
theorem h_Ve_checkHandlers_7 : decode prog_11_method_8_code 7 = .ok (.getfield 123, 3) := by decide +kernel
theorem h_Ve_checkHandlers_10 : decode prog_11_method_8_code 10 = .ok (.invokevirtual 127, 3) := by decide +kernel
theorem h_Ve_checkHandlers_13 : decode prog_11_method_8_code 13 = .ok (.if_icmp .ge 112, 3) := by decide +kernel
theorem h_Ve_checkHandlers_16 : decode prog_11_method_8_code 16 = .ok (.aload_n 0, 1) := by decide +kernel
theorem h_Ve_checkHandlers_17 : decode prog_11_method_8_code 17 = .ok (.getfield 15, 3) := by decide +kernel
theorem h_Ve_checkHandlers_20 : decode prog_11_method_8_code 20 = .ok (.getfield 67, 3) := by decide +kernel
theorem h_Ve_checkHandlers_23 : decode prog_11_method_8_code 23 = .ok (.ifCond .ne 102, 3) := by decide +kernel
theorem h_Ve_checkHandlers_26 : decode prog_11_method_8_code 26 = .ok (.aload_n 0, 1) := by decide +kernel
theorem h_Ve_checkHandlers_27 : decode prog_11_method_8_code 27 = .ok (.getfield 15, 3) := by decide +kernel
theorem h_Ve_checkHandlers_30 : decode prog_11_method_8_code 30 = .ok (.getfield 123, 3) := by decide +kernel
theorem h_Ve_checkHandlers_33 : decode prog_11_method_8_code 33 = .ok (.iload_n 1, 1) := by decide +kernel
theorem h_Ve_checkHandlers_34 : decode prog_11_method_8_code 34 = .ok (.invokevirtual 133, 3) := by decide +kernel
theorem h_Ve_checkHandlers_37 : decode prog_11_method_8_code 37 = .ok (.checkcast 137, 3) := by decide +kernel
theorem h_Ve_checkHandlers_40 : decode prog_11_method_8_code 40 = .ok (.astore_n 2, 1) := by decide +kernel
theorem h_Ve_checkHandlers_41 : decode prog_11_method_8_code 41 = .ok (.aload_n 2, 1) := by decide +kernel
theorem h_Ve_checkHandlers_42 : decode prog_11_method_8_code 42 = .ok (.getfield 139, 3) := by decide +kernel
theorem h_Ve_checkHandlers_45 : decode prog_11_method_8_code 45 = .ok (.aload_n 0, 1) := by decide +kernel
theorem h_Ve_checkHandlers_46 : decode prog_11_method_8_code 46 = .ok (.getfield 15, 3) := by decide +kernel
theorem h_Ve_checkHandlers_49 : decode prog_11_method_8_code 49 = .ok (.getfield 28, 3) := by decide +kernel
theorem h_Ve_checkHandlers_52 : decode prog_11_method_8_code 52 = .ok (.arraylength, 1) := by decide +kernel
theorem h_Ve_checkHandlers_53 : decode prog_11_method_8_code 53 = .ok (.if_icmp .eq 14, 3) := by decide +kernel
theorem h_Ve_checkHandlers_56 : decode prog_11_method_8_code 56 = .ok (.aload_n 0, 1) := by decide +kernel
theorem h_Ve_checkHandlers_57 : decode prog_11_method_8_code 57 = .ok (.aload_n 2, 1) := by decide +kernel
theorem h_Ve_checkHandlers_58 : decode prog_11_method_8_code 58 = .ok (.getfield 139, 3) := by decide +kernel
theorem h_Ve_checkHandlers_61 : decode prog_11_method_8_code 61 = .ok (.invokevirtual 120, 3) := by decide +kernel
theorem h_Ve_checkHandlers_64 : decode prog_11_method_8_code 64 = .ok (.ifCond .eq 7, 3) := by decide +kernel
theorem h_Ve_checkHandlers_67 : decode prog_11_method_8_code 67 = .ok (.iconst 1, 1) := by decide +kernel
theorem h_Ve_checkHandlers_68 : decode prog_11_method_8_code 68 = .ok (.goto 4, 3) := by decide +kernel
theorem h_Ve_checkHandlers_71 : decode prog_11_method_8_code 71 = .ok (.iconst 0, 1) := by decide +kernel
theorem h_Ve_checkHandlers_72 : decode prog_11_method_8_code 72 = .ok (.istore_n 3, 1) := by decide +kernel
theorem h_Ve_checkHandlers_73 : decode prog_11_method_8_code 73 = .ok (.aload_n 2, 1) := by decide +kernel
theorem h_Ve_checkHandlers_74 : decode prog_11_method_8_code 74 = .ok (.getfield 142, 3) := by decide +kernel
theorem h_Ve_checkHandlers_77 : decode prog_11_method_8_code 77 = .ok (.aload_n 2, 1) := by decide +kernel
theorem h_Ve_checkHandlers_78 : decode prog_11_method_8_code 78 = .ok (.getfield 139, 3) := by decide +kernel
theorem h_Ve_checkHandlers_81 : decode prog_11_method_8_code 81 = .ok (.if_icmp .ge 29, 3) := by decide +kernel
theorem h_Ve_checkHandlers_84 : decode prog_11_method_8_code 84 = .ok (.iload_n 3, 1) := by decide +kernel
theorem h_Ve_checkHandlers_85 : decode prog_11_method_8_code 85 = .ok (.ifCond .eq 25, 3) := by decide +kernel
theorem h_Ve_checkHandlers_88 : decode prog_11_method_8_code 88 = .ok (.aload_n 0, 1) := by decide +kernel
theorem h_Ve_checkHandlers_89 : decode prog_11_method_8_code 89 = .ok (.aload_n 2, 1) := by decide +kernel
theorem h_Ve_checkHandlers_90 : decode prog_11_method_8_code 90 = .ok (.getfield 142, 3) := by decide +kernel
theorem h_Ve_checkHandlers_93 : decode prog_11_method_8_code 93 = .ok (.invokevirtual 120, 3) := by decide +kernel
theorem h_Ve_checkHandlers_96 : decode prog_11_method_8_code 96 = .ok (.ifCond .eq 14, 3) := by decide +kernel
theorem h_Ve_checkHandlers_99 : decode prog_11_method_8_code 99 = .ok (.aload_n 0, 1) := by decide +kernel
theorem h_Ve_checkHandlers_100 : decode prog_11_method_8_code 100 = .ok (.aload_n 2, 1) := by decide +kernel
theorem h_Ve_checkHandlers_101 : decode prog_11_method_8_code 101 = .ok (.getfield 145, 3) := by decide +kernel
theorem h_Ve_checkHandlers_104 : decode prog_11_method_8_code 104 = .ok (.invokevirtual 120, 3) := by decide +kernel
theorem h_Ve_checkHandlers_107 : decode prog_11_method_8_code 107 = .ok (.ifCond .ne 12, 3) := by decide +kernel
theorem h_Ve_checkHandlers_110 : decode prog_11_method_8_code 110 = .ok (.aload_n 0, 1) := by decide +kernel
theorem h_Ve_checkHandlers_111 : decode prog_11_method_8_code 111 = .ok (.getfield 15, 3) := by decide +kernel
theorem h_Ve_checkHandlers_114 : decode prog_11_method_8_code 114 = .ok (.iconst 5, 1) := by decide +kernel
theorem h_Ve_checkHandlers_115 : decode prog_11_method_8_code 115 = .ok (.iload_n 1, 1) := by decide +kernel
theorem h_Ve_checkHandlers_116 : decode prog_11_method_8_code 116 = .ok (.invokevirtual 76, 3) := by decide +kernel
theorem h_Ve_checkHandlers_119 : decode prog_11_method_8_code 119 = .ok (.iinc 1 1, 3) := by decide +kernel
theorem h_Ve_checkHandlers_122 : decode prog_11_method_8_code 122 = .ok (.goto (-120), 3) := by decide +kernel
theorem h_Ve_checkHandlers_125 : decode prog_11_method_8_code 125 = .ok (.return_, 1) := by decide +kernel
def x_Ve_checkHandlers_119 (a0 : Nat) (K2 : Int32 → CST → Prop) (P : CST → Prop) (z1 : Int32) (σ : CST) : Prop := K2 (z1 + 1) σ
def x_Ve_checkHandlers_110 (a0 : Nat) (K2 : Int32 → CST → Prop) (P : CST → Prop) (z1 : Int32) (σ : CST) : Prop := σ.1 a0 = some (10, 0) ∧ (∀ b2 : Option Nat, b2 = (σ.2.2.2.1 a0 1) → (∃ r3 : Nat, b2 = some r3 ∧ (σ.1 r3 = some (5, 0) ∧ (x_E_fail r3 (5 : Int32) z1 σ (fun σ5 => x_Ve_checkHandlers_119 a0 K2 P z1 σ5)))))
def x_Ve_checkHandlers_72 (a0 : Nat) (K2 : Int32 → CST → Prop) (P : CST → Prop) (z1 : Int32) (z2 : Option Nat) (s0 : Int32) (σ : CST) : Prop := (∃ r7 : Nat, z2 = some r7 ∧ (σ.1 r7 = some (7, 0) ∧ ((((σ.2.1 r7 1) ≤ (σ.2.1 r7 0) → x_Ve_checkHandlers_110 a0 K2 P z1 σ) ∧ (¬ (σ.2.1 r7 1) ≤ (σ.2.1 r7 0) → ((s0 = 0 → x_Ve_checkHandlers_110 a0 K2 P z1 σ) ∧ (¬ s0 = 0 → σ.1 a0 = some (10, 0) ∧ (x_Ve_isBeginning a0 (σ.2.1 r7 0) σ (fun r13 σ12 => ((r13 = 0 → x_Ve_checkHandlers_110 a0 K2 P z1 σ12) ∧ (¬ r13 = 0 → σ12.1 r7 = some (7, 0) ∧ (σ12.1 a0 = some (10, 0) ∧ (x_Ve_isBeginning a0 (σ12.2.1 r7 2) σ12 (fun r18 σ17 => ((r18 = 0 → x_Ve_checkHandlers_110 a0 K2 P z1 σ17) ∧ (¬ r18 = 0 → x_Ve_checkHandlers_119 a0 K2 P z1 σ17))))))))))))))))
def x_Ve_checkHandlers_67 (a0 : Nat) (K2 : Int32 → CST → Prop) (P : CST → Prop) (z1 : Int32) (z2 : Option Nat) (σ : CST) : Prop := x_Ve_checkHandlers_72 a0 K2 P z1 z2 1 σ
def x_Ve_checkHandlers_2 (a0 : Nat) (P : CST → Prop) : Nat → Int32 → CST → Prop
  | 0, _, _ => False
  | n + 1, z1, σ => σ.1 a0 = some (10, 0) ∧ (∀ b21 : Option Nat, b21 = (σ.2.2.2.1 a0 1) → (∃ r22 : Nat, b21 = some r22 ∧ (σ.1 r22 = some (5, 0) ∧ (∀ b24 : Option Nat, b24 = (σ.2.2.2.1 r22 5) → (∃ r25 : Nat, b24 = some r25 ∧ (σ.1 r25 = some (6, 0) ∧ (x_AL_size r25 σ (fun r28 σ27 => ((r28 ≤ z1 → P σ27) ∧ (¬ r28 ≤ z1 → σ27.1 a0 = some (10, 0) ∧ (∀ b31 : Option Nat, b31 = (σ27.2.2.2.1 a0 1) → (∃ r32 : Nat, b31 = some r32 ∧ (σ27.1 r32 = some (5, 0) ∧ ((((σ27.2.1 r32 7) = 0 → ∀ b35 : Option Nat, b35 = (σ27.2.2.2.1 a0 1) → (∃ r36 : Nat, b35 = some r36 ∧ (σ27.1 r36 = some (5, 0) ∧ (∀ b38 : Option Nat, b38 = (σ27.2.2.2.1 r36 5) → (∃ r39 : Nat, b38 = some r39 ∧ (σ27.1 r39 = some (6, 0) ∧ (x_AL_get r39 z1 σ27 (fun r42 σ41 => ((r42 = none → False) ∧ (∀ r44 : Nat, r42 = some r44 → σ41.1 r44 = some (7, 0) ∧ (σ41.1 a0 = some (10, 0) ∧ (∀ b47 : Option Nat, b47 = (σ41.2.2.2.1 a0 1) → (∃ r48 : Nat, b47 = some r48 ∧ (σ41.1 r48 = some (5, 0) ∧ (∀ b50 : Option Nat, b50 = (σ41.2.2.2.1 r48 2) → (∃ r51 : Nat, b50 = some r51 ∧ ((∃ n53 : Nat, σ41.1 r51 = some (20, n53) ∧ ((((σ41.2.1 r44 1) = (Int32.ofNat n53) → x_Ve_checkHandlers_67 a0 (x_Ve_checkHandlers_2 a0 P n) P z1 (some r44) σ41) ∧ (¬ (σ41.2.1 r44 1) = (Int32.ofNat n53) → x_Ve_isBeginning a0 (σ41.2.1 r44 1) σ41 (fun r56 σ55 => ((r56 = 0 → x_Ve_checkHandlers_72 a0 (x_Ve_checkHandlers_2 a0 P n) P z1 (some r44) 0 σ55) ∧ (¬ r56 = 0 → x_Ve_checkHandlers_67 a0 (x_Ve_checkHandlers_2 a0 P n) P z1 (some r44) σ55)))))))))))))))))))))))) ∧ (¬ (σ27.2.1 r32 7) = 0 → P σ27))))))))))))))))
def x_Ve_checkHandlers (a0 : Nat) (σ0 : CST) (P : CST → Prop) : Prop := (∃ n9 : Nat, x_Ve_checkHandlers_2 a0 P n9 0 σ0)
set_option maxHeartbeats 4000000 in
set_option maxRecDepth 100000 in
theorem X_Ve_checkHandlers (l : Launch) (dC : Nat → ClassId) (dI : Nat → Nat → Nat) (ca : Nat → ClassId) (H0 : Heap) (σ0 : CST) (a0 : Nat) {P : CST → Prop} (hw : x_Ve_checkHandlers a0 σ0 P) : Met l g_Ve_checkHandlers (mW g_Ve_checkHandlers prog_11_method_8_code 4 none) ({ frames := 3, cells := σ0.2.2.2.2.1, slots := σ0.2.2.2.2.2.1, locals := 64 } : Room) (va_Pc [.ref a0] (CPre (dC, dI) ca σ0 H0)) (va_Qv P (CB (dC, dI) ca σ0 H0) (cA σ0 H0.size)) σ0.2.2.2.2.1 σ0.2.2.2.2.2.1 (cA σ0 H0.size) := by
  refine C_ofv (by decide +kernel) rfl rfl rfl (Nat.le_of_ble_eq_true rfl) ?_
  intro p e s m below meth cx Q A ls C hnm hend hH0 h hl
  subst hH0
  have C0 := C
  obtain ⟨⟨hx, hb, hml, hown, hts⟩, hsub⟩ := C0
  obtain ⟨cells, e_cells⟩ : ∃ z : Nat, z = 0 := ⟨_, rfl⟩
  obtain ⟨slots, e_slots⟩ : ∃ z : Nat, z = 0 := ⟨_, rfl⟩
  have h : CH (dC, dI) A ca ({ frames := 3, cells := σ0.2.2.2.2.1, slots := σ0.2.2.2.2.2.1, locals := 64 } : Room) σ0.2.2.2.2.2.2 σ0 s s.heap [] cells slots := by rw [e_cells, e_slots]; exact h
  show W p l e ({ frames := 3, cells := σ0.2.2.2.2.1, slots := σ0.2.2.2.2.2.1, locals := 64 } : Room) s m ([.ref a0] : List Value).toArray below meth cx s.heap [] 0 0 Q (F0 m 0 ls [])
  rw [show W p l e ({ frames := 3, cells := σ0.2.2.2.2.1, slots := σ0.2.2.2.2.2.1, locals := 64 } : Room) s m ([.ref a0] : List Value).toArray below meth cx s.heap [] 0 0 Q (F0 m 0 ls []) = W p l e ({ frames := 3, cells := σ0.2.2.2.2.1, slots := σ0.2.2.2.2.2.1, locals := 64 } : Room) s m ([.ref a0] : List Value).toArray below meth cx s.heap [] cells slots Q (F0 m 0 ls []) by rw [e_cells, e_slots]]
  have K_119 : ∀ (K2 : Int32 → CST → Prop) (hK2 : ∀ (z1 : Int32) (σ : CST) (H : Heap) (locs : List Loc) (cells slots : Nat) (ls : Array Slot), K2 z1 σ → CH (dC, dI) A ca ({ frames := 3, cells := σ0.2.2.2.2.1, slots := σ0.2.2.2.2.2.1, locals := 64 } : Room) σ0.2.2.2.2.2.2 σ s H locs cells slots → lv_has ls 4 [(0, .ref a0), (1, .int z1)] → W p l e ({ frames := 3, cells := σ0.2.2.2.2.1, slots := σ0.2.2.2.2.2.1, locals := 64 } : Room) s m ([.ref a0] : List Value).toArray below meth cx H locs cells slots Q (F0 m 2 ls [])), ∀ (z1 : Int32) (σ : CST) (H : Heap) (locs : List Loc) (cells slots : Nat) (ls : Array Slot), x_Ve_checkHandlers_119 a0 K2 P z1 σ → CH (dC, dI) A ca ({ frames := 3, cells := σ0.2.2.2.2.1, slots := σ0.2.2.2.2.2.1, locals := 64 } : Room) σ0.2.2.2.2.2.2 σ s H locs cells slots → lv_has ls 4 [(0, .ref a0), (1, .int z1)] → W p l e ({ frames := 3, cells := σ0.2.2.2.2.1, slots := σ0.2.2.2.2.2.1, locals := 64 } : Room) s m ([.ref a0] : List Value).toArray below meth cx H locs cells slots Q (F0 m 119 ls []) := by
    intro K2 hK2 z1 σ H locs cells slots ls hw h hl
    unfold x_Ve_checkHandlers_119 at hw
    refine lv_iinc (v := (z1 + 1)) (lv' := [(1, .int (z1 + 1)), (0, .ref a0)]) hx hb h_Ve_checkHandlers_119 hl (k := 1) rfl (rfl) (by decide) rfl (fun ls hl => ?_)
    refine lv_goto (tgt := 2) hx hb h_Ve_checkHandlers_122 (by decide) ?_
    exact hK2 (z1 + 1) σ _ _ _ _ _ hw h (lv_sub hl [1, 0] rfl)
  have K_110 : ∀ (K2 : Int32 → CST → Prop) (hK2 : ∀ (z1 : Int32) (σ : CST) (H : Heap) (locs : List Loc) (cells slots : Nat) (ls : Array Slot), K2 z1 σ → CH (dC, dI) A ca ({ frames := 3, cells := σ0.2.2.2.2.1, slots := σ0.2.2.2.2.2.1, locals := 64 } : Room) σ0.2.2.2.2.2.2 σ s H locs cells slots → lv_has ls 4 [(0, .ref a0), (1, .int z1)] → W p l e ({ frames := 3, cells := σ0.2.2.2.2.1, slots := σ0.2.2.2.2.2.1, locals := 64 } : Room) s m ([.ref a0] : List Value).toArray below meth cx H locs cells slots Q (F0 m 2 ls [])), ∀ (z1 : Int32) (σ : CST) (H : Heap) (locs : List Loc) (cells slots : Nat) (ls : Array Slot), x_Ve_checkHandlers_110 a0 K2 P z1 σ → CH (dC, dI) A ca ({ frames := 3, cells := σ0.2.2.2.2.1, slots := σ0.2.2.2.2.2.1, locals := 64 } : Room) σ0.2.2.2.2.2.2 σ s H locs cells slots → lv_has ls 4 [(0, .ref a0), (1, .int z1)] → W p l e ({ frames := 3, cells := σ0.2.2.2.2.1, slots := σ0.2.2.2.2.2.1, locals := 64 } : Room) s m ([.ref a0] : List Value).toArray below meth cx H locs cells slots Q (F0 m 110 ls []) := by
    intro K2 hK2 z1 σ H locs cells slots ls hw h hl
    unfold x_Ve_checkHandlers_110 at hw
    refine lv_aload_n hx hb h_Ve_checkHandlers_110 rfl (lv_at hl 0 rfl) ?_
    obtain ⟨g1, hw⟩ := hw
    refine C_get C h 10 1 (v := va_rf (σ.2.2.2.1 a0 1)) g1 rfl (Cn := R_Ve) (T := T_Ve) (N := 10) rfl (by decide) rfl uw_Ve (by decide) u_681 (fun _ q => q) h_Ve_checkHandlers_111 ?_
    refine lv_topq (fun b2 e_b2 => ?_)
    replace hw := hw b2 e_b2
    refine lv_iconst (v := 5) hx hb h_Ve_checkHandlers_114 (by decide) ?_
    refine lv_iload_n hx hb h_Ve_checkHandlers_115 rfl (lv_at hl 1 rfl) ?_
    obtain ⟨r3, e_r3, hw⟩ := hw
    subst e_r3
    have hl : lv_has ls 4 [(0, .ref a0), (1, .int z1)] := hl
    refine W.eq (g2 := F0 m 116 ls [.int z1, .int 5, .ref r3]) rfl ?_
    obtain ⟨g4, hw⟩ := hw
    refine C_callVv (As := [.int 5, .int z1]) (rest := []) C h (ci := 5) (Cn := R_E) (T := T_E) (N := 13) g4 rfl (by decide) (X_E_fail l dC dI ca H σ r3 (5 : Int32) z1 hw) (cwV 2 hts (gV hsub u_728 u_729 u_730 u_229 u_731) rfl rfl rfl (by decide +kernel) ⟨(Nat.le_of_ble_eq_true rfl), (Nat.le_of_ble_eq_true rfl)⟩) rfl hl.1 (Nat.le_of_ble_eq_true rfl) h_Ve_checkHandlers_116 (fun σ5 H locs cells slots hw9 h9 => ?_)
    clear hw h; have hw := hw9; have h := h9; clear hw9 h9
    refine W.eq (g2 := F0 m 119 ls []) rfl ?_
    exact K_119 _ hK2 z1 σ5 _ _ _ _ _ hw h (lv_sub hl [0, 1] rfl)
  have K_72 : ∀ (K2 : Int32 → CST → Prop) (hK2 : ∀ (z1 : Int32) (σ : CST) (H : Heap) (locs : List Loc) (cells slots : Nat) (ls : Array Slot), K2 z1 σ → CH (dC, dI) A ca ({ frames := 3, cells := σ0.2.2.2.2.1, slots := σ0.2.2.2.2.2.1, locals := 64 } : Room) σ0.2.2.2.2.2.2 σ s H locs cells slots → lv_has ls 4 [(0, .ref a0), (1, .int z1)] → W p l e ({ frames := 3, cells := σ0.2.2.2.2.1, slots := σ0.2.2.2.2.2.1, locals := 64 } : Room) s m ([.ref a0] : List Value).toArray below meth cx H locs cells slots Q (F0 m 2 ls [])), ∀ (z1 : Int32) (z2 : Option Nat) (s0 : Int32) (σ : CST) (H : Heap) (locs : List Loc) (cells slots : Nat) (ls : Array Slot), x_Ve_checkHandlers_72 a0 K2 P z1 z2 s0 σ → CH (dC, dI) A ca ({ frames := 3, cells := σ0.2.2.2.2.1, slots := σ0.2.2.2.2.2.1, locals := 64 } : Room) σ0.2.2.2.2.2.2 σ s H locs cells slots → lv_has ls 4 [(0, .ref a0), (1, .int z1), (2, va_rf z2)] → W p l e ({ frames := 3, cells := σ0.2.2.2.2.1, slots := σ0.2.2.2.2.2.1, locals := 64 } : Room) s m ([.ref a0] : List Value).toArray below meth cx H locs cells slots Q (F0 m 72 ls [.int s0]) := by
    intro K2 hK2 z1 z2 s0 σ H locs cells slots ls hw h hl
    unfold x_Ve_checkHandlers_72 at hw
    refine lv_istore_n (i := 3) (lv' := [(3, .int s0), (0, .ref a0), (1, .int z1), (2, va_rf z2)]) hx hb h_Ve_checkHandlers_72 rfl hl (by decide) (by simp [cq_cat]) (fun ls hl => ?_)
    refine cq_aload_n hx hb h_Ve_checkHandlers_73 rfl (lv_at hl 3 rfl) ?_
    obtain ⟨r7, e_r7, hw⟩ := hw
    subst e_r7
    have hl : lv_has ls 4 [(3, .int s0), (0, .ref a0), (1, .int z1), (2, .ref r7)] := hl
    refine W.eq (g2 := F0 m 74 ls [.ref r7]) rfl ?_
    obtain ⟨g8, hw⟩ := hw
    refine C_get C h 7 0 (v := .int (σ.2.1 r7 0)) g8 rfl (Cn := R_Ha) (T := T_Ha) (N := 4) rfl (by decide) rfl uw_Ha (by decide) u_748 (fun _ q => q) h_Ve_checkHandlers_74 ?_
    refine lv_aload_n hx hb h_Ve_checkHandlers_77 rfl (lv_at hl 3 rfl) ?_
    refine C_get C h 7 1 (v := .int (σ.2.1 r7 1)) g8 rfl (Cn := R_Ha) (T := T_Ha) (N := 4) rfl (by decide) rfl uw_Ha (by decide) u_749 (fun _ q => q) h_Ve_checkHandlers_78 ?_
    refine lv_icmp_ge (tgt := 110) hx hb h_Ve_checkHandlers_81 (by decide) (fun c9 => ?_) (fun c9 => ?_)
    · skip
      replace hw := hw.1 c9
      exact K_110 _ hK2 z1 σ _ _ _ _ _ hw h (lv_sub hl [1, 2] rfl)
    · skip
      replace hw := hw.2 c9
      refine lv_iload_n hx hb h_Ve_checkHandlers_84 rfl (lv_at hl 0 rfl) ?_
      refine lv_if_eq (tgt := 110) hx hb h_Ve_checkHandlers_85 (by decide) (fun c10 => ?_) (fun c10 => ?_)
      · skip
        replace hw := hw.1 c10
        exact K_110 _ hK2 z1 σ _ _ _ _ _ hw h (lv_sub hl [1, 2] rfl)
      · skip
        replace hw := hw.2 c10
        refine lv_aload_n hx hb h_Ve_checkHandlers_88 rfl (lv_at hl 1 rfl) ?_
        refine lv_aload_n hx hb h_Ve_checkHandlers_89 rfl (lv_at hl 3 rfl) ?_
        refine C_get C h 7 0 (v := .int (σ.2.1 r7 0)) g8 rfl (Cn := R_Ha) (T := T_Ha) (N := 4) rfl (by decide) rfl uw_Ha (by decide) u_748 (fun _ q => q) h_Ve_checkHandlers_90 ?_
        obtain ⟨g11, hw⟩ := hw
        refine C_callVi (As := [.int (σ.2.1 r7 0)]) (rest := []) C h (ci := 10) (Cn := R_Ve) (T := T_Ve) (N := 10) g11 rfl (by decide) (X_Ve_isBeginning l dC dI ca H σ a0 (σ.2.1 r7 0) hw) (cwV 1 hts (gV hsub u_744 u_745 u_746 u_726 u_747) rfl rfl rfl (by decide +kernel) ⟨(Nat.le_of_ble_eq_true rfl), (Nat.le_of_ble_eq_true rfl)⟩) rfl hl.1 (Nat.le_of_ble_eq_true rfl) h_Ve_checkHandlers_93 (fun r13 σ12 H locs cells slots hw9 h9 => ?_)
        clear hw h; have hw := hw9; have h := h9; clear hw9 h9
        refine W.eq (g2 := F0 m 96 ls [.int r13]) rfl ?_
        refine lv_if_eq (tgt := 110) hx hb h_Ve_checkHandlers_96 (by decide) (fun c14 => ?_) (fun c14 => ?_)
        · skip
          replace hw := hw.1 c14
          exact K_110 _ hK2 z1 σ12 _ _ _ _ _ hw h (lv_sub hl [1, 2] rfl)
        · skip
          replace hw := hw.2 c14
          refine lv_aload_n hx hb h_Ve_checkHandlers_99 rfl (lv_at hl 1 rfl) ?_
          refine lv_aload_n hx hb h_Ve_checkHandlers_100 rfl (lv_at hl 3 rfl) ?_
          obtain ⟨g15, hw⟩ := hw
          refine C_get C h 7 2 (v := .int (σ12.2.1 r7 2)) g15 rfl (Cn := R_Ha) (T := T_Ha) (N := 4) rfl (by decide) rfl uw_Ha (by decide) u_750 (fun _ q => q) h_Ve_checkHandlers_101 ?_
          obtain ⟨g16, hw⟩ := hw
          refine C_callVi (As := [.int (σ12.2.1 r7 2)]) (rest := []) C h (ci := 10) (Cn := R_Ve) (T := T_Ve) (N := 10) g16 rfl (by decide) (X_Ve_isBeginning l dC dI ca H σ12 a0 (σ12.2.1 r7 2) hw) (cwV 1 hts (gV hsub u_744 u_745 u_746 u_726 u_747) rfl rfl rfl (by decide +kernel) ⟨(Nat.le_of_ble_eq_true rfl), (Nat.le_of_ble_eq_true rfl)⟩) rfl hl.1 (Nat.le_of_ble_eq_true rfl) h_Ve_checkHandlers_104 (fun r18 σ17 H locs cells slots hw9 h9 => ?_)
          clear hw h; have hw := hw9; have h := h9; clear hw9 h9
          refine W.eq (g2 := F0 m 107 ls [.int r18]) rfl ?_
          refine lv_if_ne (tgt := 119) hx hb h_Ve_checkHandlers_107 (by decide) (fun c19 => ?_) (fun c19 => ?_)
          · skip
            replace hw := hw.2 c19
            exact K_119 _ hK2 z1 σ17 _ _ _ _ _ hw h (lv_sub hl [1, 2] rfl)
          · skip
            replace hw := hw.1 c19
            exact K_110 _ hK2 z1 σ17 _ _ _ _ _ hw h (lv_sub hl [1, 2] rfl)
  have K_67 : ∀ (K2 : Int32 → CST → Prop) (hK2 : ∀ (z1 : Int32) (σ : CST) (H : Heap) (locs : List Loc) (cells slots : Nat) (ls : Array Slot), K2 z1 σ → CH (dC, dI) A ca ({ frames := 3, cells := σ0.2.2.2.2.1, slots := σ0.2.2.2.2.2.1, locals := 64 } : Room) σ0.2.2.2.2.2.2 σ s H locs cells slots → lv_has ls 4 [(0, .ref a0), (1, .int z1)] → W p l e ({ frames := 3, cells := σ0.2.2.2.2.1, slots := σ0.2.2.2.2.2.1, locals := 64 } : Room) s m ([.ref a0] : List Value).toArray below meth cx H locs cells slots Q (F0 m 2 ls [])), ∀ (z1 : Int32) (z2 : Option Nat) (σ : CST) (H : Heap) (locs : List Loc) (cells slots : Nat) (ls : Array Slot), x_Ve_checkHandlers_67 a0 K2 P z1 z2 σ → CH (dC, dI) A ca ({ frames := 3, cells := σ0.2.2.2.2.1, slots := σ0.2.2.2.2.2.1, locals := 64 } : Room) σ0.2.2.2.2.2.2 σ s H locs cells slots → lv_has ls 4 [(0, .ref a0), (1, .int z1), (2, va_rf z2)] → W p l e ({ frames := 3, cells := σ0.2.2.2.2.1, slots := σ0.2.2.2.2.2.1, locals := 64 } : Room) s m ([.ref a0] : List Value).toArray below meth cx H locs cells slots Q (F0 m 67 ls []) := by
    intro K2 hK2 z1 z2 σ H locs cells slots ls hw h hl
    unfold x_Ve_checkHandlers_67 at hw
    refine lv_iconst (v := 1) hx hb h_Ve_checkHandlers_67 (by decide) ?_
    refine lv_goto (tgt := 72) hx hb h_Ve_checkHandlers_68 (by decide) ?_
    exact K_72 _ hK2 z1 z2 1 σ _ _ _ _ _ hw h (lv_sub hl [0, 1, 2] rfl)
  have K_2 : ∀ (n : Nat), ∀ (z1 : Int32) (σ : CST) (H : Heap) (locs : List Loc) (cells slots : Nat) (ls : Array Slot), x_Ve_checkHandlers_2 a0 P n z1 σ → CH (dC, dI) A ca ({ frames := 3, cells := σ0.2.2.2.2.1, slots := σ0.2.2.2.2.2.1, locals := 64 } : Room) σ0.2.2.2.2.2.2 σ s H locs cells slots → lv_has ls 4 [(0, .ref a0), (1, .int z1)] → W p l e ({ frames := 3, cells := σ0.2.2.2.2.1, slots := σ0.2.2.2.2.2.1, locals := 64 } : Room) s m ([.ref a0] : List Value).toArray below meth cx H locs cells slots Q (F0 m 2 ls []) := by
    intro  n
    induction n with
    | zero => intro z1 σ H locs cells slots ls hw h hl; unfold x_Ve_checkHandlers_2 at hw; exact hw.elim
    | succ n ih =>
      intro z1 σ H locs cells slots ls hw h hl
      unfold x_Ve_checkHandlers_2 at hw
      refine lv_iload_n hx hb h_Ve_checkHandlers_2 rfl (lv_at hl 1 rfl) ?_
      refine lv_aload_n hx hb h_Ve_checkHandlers_3 rfl (lv_at hl 0 rfl) ?_
      obtain ⟨g20, hw⟩ := hw
      refine C_get C h 10 1 (v := va_rf (σ.2.2.2.1 a0 1)) g20 rfl (Cn := R_Ve) (T := T_Ve) (N := 10) rfl (by decide) rfl uw_Ve (by decide) u_681 (fun _ q => q) h_Ve_checkHandlers_4 ?_
      refine lv_topq (fun b21 e_b21 => ?_)
      replace hw := hw b21 e_b21
      obtain ⟨r22, e_r22, hw⟩ := hw
      subst e_r22
      have hl : lv_has ls 4 [(0, .ref a0), (1, .int z1)] := hl
      refine W.eq (g2 := F0 m 7 ls [.ref r22, .int z1]) rfl ?_
      obtain ⟨g23, hw⟩ := hw
      refine C_get C h 5 5 (v := va_rf (σ.2.2.2.1 r22 5)) g23 rfl (Cn := R_E) (T := T_E) (N := 13) rfl (by decide) rfl uw_E (by decide) u_751 (fun _ q => q) h_Ve_checkHandlers_7 ?_
      refine lv_topq (fun b24 e_b24 => ?_)
      replace hw := hw b24 e_b24
      obtain ⟨r25, e_r25, hw⟩ := hw
      subst e_r25
      have hl : lv_has ls 4 [(0, .ref a0), (1, .int z1)] := hl
      refine W.eq (g2 := F0 m 10 ls [.ref r25, .int z1]) rfl ?_
      obtain ⟨g26, hw⟩ := hw
      refine C_callVi (As := []) (rest := [.int z1]) C h (ci := 6) (Cn := R_A) (T := T_A) (N := 3) g26 rfl (by decide) (X_AL_size l dC dI ca H σ r25 hw) (cwV 0 hts (gV hsub u_752 u_180 u_181 u_117 u_182) rfl rfl rfl (by decide +kernel) ⟨(Nat.le_of_ble_eq_true rfl), (Nat.le_of_ble_eq_true rfl)⟩) rfl hl.1 (Nat.le_of_ble_eq_true rfl) h_Ve_checkHandlers_10 (fun r28 σ27 H locs cells slots hw9 h9 => ?_)
      clear hw h; have hw := hw9; have h := h9; clear hw9 h9
      refine W.eq (g2 := F0 m 13 ls [.int r28, .int z1]) rfl ?_
      refine lv_icmp_ge (tgt := 125) hx hb h_Ve_checkHandlers_13 (by decide) (fun c29 => ?_) (fun c29 => ?_)
      · skip
        replace hw := hw.1 c29
        exact hend σ27 _ _ _ _ _ _ hw h h_Ve_checkHandlers_125
      · skip
        replace hw := hw.2 c29
        refine lv_aload_n hx hb h_Ve_checkHandlers_16 rfl (lv_at hl 0 rfl) ?_
        obtain ⟨g30, hw⟩ := hw
        refine C_get C h 10 1 (v := va_rf (σ27.2.2.2.1 a0 1)) g30 rfl (Cn := R_Ve) (T := T_Ve) (N := 10) rfl (by decide) rfl uw_Ve (by decide) u_681 (fun _ q => q) h_Ve_checkHandlers_17 ?_
        refine lv_topq (fun b31 e_b31 => ?_)
        replace hw := hw b31 e_b31
        obtain ⟨r32, e_r32, hw⟩ := hw
        subst e_r32
        have hl : lv_has ls 4 [(0, .ref a0), (1, .int z1)] := hl
        refine W.eq (g2 := F0 m 20 ls [.ref r32]) rfl ?_
        obtain ⟨g33, hw⟩ := hw
        refine C_get C h 5 7 (v := .int (σ27.2.1 r32 7)) g33 rfl (Cn := R_E) (T := T_E) (N := 13) rfl (by decide) rfl uw_E (by decide) u_735 (fun _ q => q) h_Ve_checkHandlers_20 ?_
        refine lv_if_ne (tgt := 125) hx hb h_Ve_checkHandlers_23 (by decide) (fun c34 => ?_) (fun c34 => ?_)
        · skip
          replace hw := hw.2 c34
          exact hend σ27 _ _ _ _ _ _ hw h h_Ve_checkHandlers_125
        · skip
          replace hw := hw.1 c34
          refine lv_aload_n hx hb h_Ve_checkHandlers_26 rfl (lv_at hl 0 rfl) ?_
          refine C_get C h 10 1 (v := va_rf (σ27.2.2.2.1 a0 1)) g30 rfl (Cn := R_Ve) (T := T_Ve) (N := 10) rfl (by decide) rfl uw_Ve (by decide) u_681 (fun _ q => q) h_Ve_checkHandlers_27 ?_
          refine lv_topq (fun b35 e_b35 => ?_)
          replace hw := hw b35 e_b35
          obtain ⟨r36, e_r36, hw⟩ := hw
          subst e_r36
          have hl : lv_has ls 4 [(0, .ref a0), (1, .int z1)] := hl
          refine W.eq (g2 := F0 m 30 ls [.ref r36]) rfl ?_
          obtain ⟨g37, hw⟩ := hw
          refine C_get C h 5 5 (v := va_rf (σ27.2.2.2.1 r36 5)) g37 rfl (Cn := R_E) (T := T_E) (N := 13) rfl (by decide) rfl uw_E (by decide) u_751 (fun _ q => q) h_Ve_checkHandlers_30 ?_
          refine lv_topq (fun b38 e_b38 => ?_)
          replace hw := hw b38 e_b38
          refine lv_iload_n hx hb h_Ve_checkHandlers_33 rfl (lv_at hl 1 rfl) ?_
          obtain ⟨r39, e_r39, hw⟩ := hw
          subst e_r39
          have hl : lv_has ls 4 [(0, .ref a0), (1, .int z1)] := hl
          refine W.eq (g2 := F0 m 34 ls [.int z1, .ref r39]) rfl ?_
          obtain ⟨g40, hw⟩ := hw
          refine C_callVq (As := [.int z1]) (rest := []) C h (ci := 6) (Cn := R_A) (T := T_A) (N := 3) g40 rfl (by decide) (X_AL_get l dC dI ca H σ27 r39 z1 hw) (cwV 1 hts (gV hsub u_753 u_172 u_173 u_117 u_174) rfl rfl rfl (by decide +kernel) ⟨(Nat.le_of_ble_eq_true rfl), (Nat.le_of_ble_eq_true rfl)⟩) rfl hl.1 (Nat.le_of_ble_eq_true rfl) h_Ve_checkHandlers_34 (fun r42 σ41 H locs cells slots hw9 h9 => ?_)
          clear hw h; have hw := hw9; have h := h9; clear hw9 h9
          refine W.eq (g2 := F0 m 37 ls [va_rf r42]) rfl ?_
          rcases cq_or r42 with c43 | ⟨r44, c43⟩
          · subst c43
            replace hw := hw.1 rfl
            have hl : lv_has ls 4 [(0, .ref a0), (1, .int z1)] := hl
            refine W.eq (g2 := F0 m 37 ls [.null]) rfl ?_
            refine lv_castN hx hb h_Ve_checkHandlers_37 ?_
            refine lv_astore_nN (i := 2) (lv' := [(2, .null), (0, .ref a0), (1, .int z1)]) hx hb h_Ve_checkHandlers_40 rfl hl (by decide) rfl (fun ls hl => ?_)
            refine lv_aload_nN hx hb h_Ve_checkHandlers_41 rfl (lv_at hl 0 rfl) ?_
            exact hw.elim
          · subst c43
            replace hw := hw.2 r44 rfl
            have hl : lv_has ls 4 [(0, .ref a0), (1, .int z1)] := hl
            refine W.eq (g2 := F0 m 37 ls [.ref r44]) rfl ?_
            obtain ⟨g45, hw⟩ := hw
            refine C_cast C h 7 (Cn := R_Ha) (T := T_Ha) (N := 4) rfl (by decide) u_754 g45 h_Ve_checkHandlers_37 ?_
            refine lv_astore_n (i := 2) (lv' := [(2, .ref r44), (0, .ref a0), (1, .int z1)]) hx hb h_Ve_checkHandlers_40 rfl hl (by decide) rfl (fun ls hl => ?_)
            refine lv_aload_n hx hb h_Ve_checkHandlers_41 rfl (lv_at hl 0 rfl) ?_
            refine C_get C h 7 1 (v := .int (σ41.2.1 r44 1)) g45 rfl (Cn := R_Ha) (T := T_Ha) (N := 4) rfl (by decide) rfl uw_Ha (by decide) u_749 (fun _ q => q) h_Ve_checkHandlers_42 ?_
            refine lv_aload_n hx hb h_Ve_checkHandlers_45 rfl (lv_at hl 1 rfl) ?_
            obtain ⟨g46, hw⟩ := hw
            refine C_get C h 10 1 (v := va_rf (σ41.2.2.2.1 a0 1)) g46 rfl (Cn := R_Ve) (T := T_Ve) (N := 10) rfl (by decide) rfl uw_Ve (by decide) u_681 (fun _ q => q) h_Ve_checkHandlers_46 ?_
            refine lv_topq (fun b47 e_b47 => ?_)
            replace hw := hw b47 e_b47
            obtain ⟨r48, e_r48, hw⟩ := hw
            subst e_r48
            have hl : lv_has ls 4 [(2, .ref r44), (0, .ref a0), (1, .int z1)] := hl
            refine W.eq (g2 := F0 m 49 ls [.ref r48, .int (σ41.2.1 r44 1)]) rfl ?_
            obtain ⟨g49, hw⟩ := hw
            refine C_get C h 5 2 (v := va_rf (σ41.2.2.2.1 r48 2)) g49 rfl (Cn := R_E) (T := T_E) (N := 13) rfl (by decide) rfl uw_E (by decide) u_688 (fun _ q => q) h_Ve_checkHandlers_49 ?_
            refine lv_topq (fun b50 e_b50 => ?_)
            replace hw := hw b50 e_b50
            obtain ⟨r51, e_r51, hw⟩ := hw
            subst e_r51
            have hl : lv_has ls 4 [(2, .ref r44), (0, .ref a0), (1, .int z1)] := hl
            refine W.eq (g2 := F0 m 52 ls [.ref r51, .int (σ41.2.1 r44 1)]) rfl ?_
            obtain ⟨n53, g52, hw⟩ := hw
            refine C_alen C h 20 0 rfl (by decide) g52 h_Ve_checkHandlers_52 ?_
            refine lv_icmp_eq (tgt := 67) hx hb h_Ve_checkHandlers_53 (by decide) (fun c54 => ?_) (fun c54 => ?_)
            · skip
              replace hw := hw.1 c54
              exact K_67 _ ih z1 (some r44) σ41 _ _ _ _ _ hw h (lv_sub hl [1, 2, 0] rfl)
            · skip
              replace hw := hw.2 c54
              refine lv_aload_n hx hb h_Ve_checkHandlers_56 rfl (lv_at hl 1 rfl) ?_
              refine lv_aload_n hx hb h_Ve_checkHandlers_57 rfl (lv_at hl 0 rfl) ?_
              refine C_get C h 7 1 (v := .int (σ41.2.1 r44 1)) g45 rfl (Cn := R_Ha) (T := T_Ha) (N := 4) rfl (by decide) rfl uw_Ha (by decide) u_749 (fun _ q => q) h_Ve_checkHandlers_58 ?_
              refine C_callVi (As := [.int (σ41.2.1 r44 1)]) (rest := []) C h (ci := 10) (Cn := R_Ve) (T := T_Ve) (N := 10) g46 rfl (by decide) (X_Ve_isBeginning l dC dI ca H σ41 a0 (σ41.2.1 r44 1) hw) (cwV 1 hts (gV hsub u_744 u_745 u_746 u_726 u_747) rfl rfl rfl (by decide +kernel) ⟨(Nat.le_of_ble_eq_true rfl), (Nat.le_of_ble_eq_true rfl)⟩) rfl hl.1 (Nat.le_of_ble_eq_true rfl) h_Ve_checkHandlers_61 (fun r56 σ55 H locs cells slots hw9 h9 => ?_)
              clear hw h; have hw := hw9; have h := h9; clear hw9 h9
              refine W.eq (g2 := F0 m 64 ls [.int r56]) rfl ?_
              refine lv_if_eq (tgt := 71) hx hb h_Ve_checkHandlers_64 (by decide) (fun c57 => ?_) (fun c57 => ?_)
              · skip
                replace hw := hw.1 c57
                refine lv_iconst (v := 0) hx hb h_Ve_checkHandlers_71 (by decide) ?_
                exact K_72 _ ih z1 (some r44) 0 σ55 _ _ _ _ _ hw h (lv_sub hl [1, 2, 0] rfl)
              · skip
                replace hw := hw.2 c57
                exact K_67 _ ih z1 (some r44) σ55 _ _ _ _ _ hw h (lv_sub hl [1, 2, 0] rfl)
  have hl : lv_has ls 4 [(0, .ref a0)] := hl
  unfold x_Ve_checkHandlers at hw
  refine lv_iconst (v := 0) hx hb h_Ve_checkHandlers_0 (by decide) ?_
  refine lv_istore_n (i := 1) (lv' := [(1, .int 0), (0, .ref a0)]) hx hb h_Ve_checkHandlers_1 rfl hl (by decide) rfl (fun ls hl => ?_)
  obtain ⟨n9, hw⟩ := hw
  exact K_2 n9 0 σ0 _ _ _ _ _ hw h (lv_sub hl [1, 0] rfl)
abbrev g_Ve_await : MethodName := ⟨"MapFramer$Verifier", "await", "(I)V"⟩
theorem u_755 : (Cond.fieldLink "MapFramer$Verifier" 162 "MapFramer$Verifier" "leastWaiting" "I" : Cond) ∈ bigW := inB_3 200 (by decide +kernel) rfl
theorem u_756 : (Cond.methodLink "MapFramer$Verifier" 211 ⟨"java/lang/Math", "min", "(II)I"⟩ : Cond) ∈ bigW := inB_4 90 (by decide +kernel) rfl
theorem h_Ve_await_0 : decode prog_11_method_13_code 0 = .ok (.aload_n 0, 1) := by decide +kernel
theorem h_Ve_await_1 : decode prog_11_method_13_code 1 = .ok (.getfield 38, 3) := by decide +kernel
theorem h_Ve_await_4 : decode prog_11_method_13_code 4 = .ok (.iload_n 1, 1) := by decide +kernel
theorem h_Ve_await_5 : decode prog_11_method_13_code 5 = .ok (.iconst 1, 1) := by decide +kernel
theorem h_Ve_await_6 : decode prog_11_method_13_code 6 = .ok (.bastore, 1) := by decide +kernel
theorem h_Ve_await_7 : decode prog_11_method_13_code 7 = .ok (.aload_n 0, 1) := by decide +kernel
theorem h_Ve_await_8 : decode prog_11_method_13_code 8 = .ok (.aload_n 0, 1) := by decide +kernel
theorem h_Ve_await_9 : decode prog_11_method_13_code 9 = .ok (.getfield 162, 3) := by decide +kernel
theorem h_Ve_await_12 : decode prog_11_method_13_code 12 = .ok (.iload_n 1, 1) := by decide +kernel
theorem h_Ve_await_13 : decode prog_11_method_13_code 13 = .ok (.invokestatic 211, 3) := by decide +kernel
theorem h_Ve_await_16 : decode prog_11_method_13_code 16 = .ok (.putfield 162, 3) := by decide +kernel
theorem h_Ve_await_19 : decode prog_11_method_13_code 19 = .ok (.return_, 1) := by decide +kernel
def x_Ve_await (a0 : Nat) (x1 : Int32) (σ0 : CST) (P : CST → Prop) : Prop := σ0.1 a0 = some (10, 0) ∧ (∀ b2 : Option Nat, b2 = (σ0.2.2.2.1 a0 4) → (∃ r3 : Nat, b2 = some r3 ∧ ((∃ n5 : Nat, σ0.1 r3 = some (21, n5) ∧ (vp_in x1 n5 ∧ (∀ σ7 : CST, σ7 = sI σ0 r3 (x1 : Int32).toNatClampNeg (vp_nar .boolean (1 : Int32)) → σ7.1 a0 = some (10, 0) ∧ (x_BMath_min (σ7.2.1 a0 5) x1 σ7 (fun r10 σ9 => σ9.1 a0 = some (10, 0) ∧ (∀ σ12 : CST, σ12 = sI σ9 a0 5 r10 → P σ12)))))))))
set_option maxHeartbeats 4000000 in
set_option maxRecDepth 100000 in
theorem X_Ve_await (l : Launch) (dC : Nat → ClassId) (dI : Nat → Nat → Nat) (ca : Nat → ClassId) (H0 : Heap) (σ0 : CST) (a0 : Nat) (x1 : Int32) {P : CST → Prop} (hw : x_Ve_await a0 x1 σ0 P) : Met l g_Ve_await (mW g_Ve_await prog_11_method_13_code 2 none) ({ frames := 1, cells := σ0.2.2.2.2.1, slots := σ0.2.2.2.2.2.1, locals := 21 } : Room) (va_Pc [.ref a0, .int x1] (CPre (dC, dI) ca σ0 H0)) (va_Qv P (CB (dC, dI) ca σ0 H0) (cA σ0 H0.size)) σ0.2.2.2.2.1 σ0.2.2.2.2.2.1 (cA σ0 H0.size) := by
  refine C_ofv (by decide +kernel) rfl rfl rfl (Nat.le_of_ble_eq_true rfl) ?_
  intro p e s m below meth cx Q A ls C hnm hend hH0 h hl
  subst hH0
  have C0 := C
  obtain ⟨⟨hx, hb, hml, hown, hts⟩, hsub⟩ := C0
  obtain ⟨cells, e_cells⟩ : ∃ z : Nat, z = 0 := ⟨_, rfl⟩
  obtain ⟨slots, e_slots⟩ : ∃ z : Nat, z = 0 := ⟨_, rfl⟩
  have h : CH (dC, dI) A ca ({ frames := 1, cells := σ0.2.2.2.2.1, slots := σ0.2.2.2.2.2.1, locals := 21 } : Room) σ0.2.2.2.2.2.2 σ0 s s.heap [] cells slots := by rw [e_cells, e_slots]; exact h
  show W p l e ({ frames := 1, cells := σ0.2.2.2.2.1, slots := σ0.2.2.2.2.2.1, locals := 21 } : Room) s m ([.ref a0, .int x1] : List Value).toArray below meth cx s.heap [] 0 0 Q (F0 m 0 ls [])
  rw [show W p l e ({ frames := 1, cells := σ0.2.2.2.2.1, slots := σ0.2.2.2.2.2.1, locals := 21 } : Room) s m ([.ref a0, .int x1] : List Value).toArray below meth cx s.heap [] 0 0 Q (F0 m 0 ls []) = W p l e ({ frames := 1, cells := σ0.2.2.2.2.1, slots := σ0.2.2.2.2.2.1, locals := 21 } : Room) s m ([.ref a0, .int x1] : List Value).toArray below meth cx s.heap [] cells slots Q (F0 m 0 ls []) by rw [e_cells, e_slots]]
  have hl : lv_has ls 2 [(0, .ref a0), (1, .int x1)] := hl
  unfold x_Ve_await at hw
  refine lv_aload_n hx hb h_Ve_await_0 rfl (lv_at hl 0 rfl) ?_
  obtain ⟨g1, hw⟩ := hw
  refine C_get C h 10 4 (v := va_rf (σ0.2.2.2.1 a0 4)) g1 rfl (Cn := R_Ve) (T := T_Ve) (N := 10) rfl (by decide) rfl uw_Ve (by decide) u_691 (fun _ q => q) h_Ve_await_1 ?_
  refine lv_topq (fun b2 e_b2 => ?_)
  replace hw := hw b2 e_b2
  refine lv_iload_n hx hb h_Ve_await_4 rfl (lv_at hl 1 rfl) ?_
  refine lv_iconst (v := 1) hx hb h_Ve_await_5 (by decide) ?_
  obtain ⟨r3, e_r3, hw⟩ := hw
  subst e_r3
  have hl : lv_has ls 2 [(0, .ref a0), (1, .int x1)] := hl
  refine W.eq (g2 := F0 m 6 ls [.int 1, .int x1, .ref r3]) rfl ?_
  obtain ⟨n5, g4, hw⟩ := hw
  obtain ⟨g6, hw⟩ := hw
  refine C_zast C h g4 g6 h_Ve_await_6 (fun H locs h => ?_)
  obtain ⟨σ7, e_σ7⟩ : ∃ z : CST, z = sI σ0 r3 (x1 : Int32).toNatClampNeg (vp_nar .boolean (1 : Int32)) := ⟨_, rfl⟩
  rw [← e_σ7] at h
  replace hw := hw σ7 e_σ7
  refine lv_aload_n hx hb h_Ve_await_7 rfl (lv_at hl 0 rfl) ?_
  refine lv_aload_n hx hb h_Ve_await_8 rfl (lv_at hl 0 rfl) ?_
  obtain ⟨g8, hw⟩ := hw
  refine C_get C h 10 5 (v := .int (σ7.2.1 a0 5)) g8 rfl (Cn := R_Ve) (T := T_Ve) (N := 10) rfl (by decide) rfl uw_Ve (by decide) u_755 (fun _ q => q) h_Ve_await_9 ?_
  refine lv_iload_n hx hb h_Ve_await_12 rfl (lv_at hl 1 rfl) ?_
  refine C_callSi (As := [.int (σ7.2.1 a0 5), .int x1]) (rest := [.ref a0]) C h (X_BMath_min l dC dI ca H σ7 (σ7.2.1 a0 5) x1 hw) (va_cwS 2 hts (gS hsub u_756 u_27 u_28 u_29) rfl rfl rfl (by decide +kernel) ⟨(Nat.le_of_ble_eq_true rfl), (Nat.le_of_ble_eq_true rfl)⟩) rfl hl.1 (Nat.le_of_ble_eq_true rfl) h_Ve_await_13 (fun r10 σ9 H locs cells slots hw9 h9 => ?_)
  clear hw h; have hw := hw9; have h := h9; clear hw9 h9
  refine W.eq (g2 := F0 m 16 ls [.int r10, .ref a0]) rfl ?_
  obtain ⟨g11, hw⟩ := hw
  refine C_puti C h 10 5 g11 (Cn := R_Ve) (T := T_Ve) (N := 10) rfl (by decide) rfl uw_Ve tok_Ve nm_Ve (by decide) rfl u_755 (fun _ q => q) (Or.inl rfl) (by decide +kernel) h_Ve_await_16 (fun H locs h => ?_)
  obtain ⟨σ12, e_σ12⟩ : ∃ z : CST, z = sI σ9 a0 5 r10 := ⟨_, rfl⟩
  rw [← e_σ12] at h
  replace hw := hw σ12 e_σ12
  exact hend σ12 _ _ _ _ _ _ hw h h_Ve_await_19
abbrev g_Ve_give : MethodName := ⟨"MapFramer$Verifier", "give", "(ILMapFramer$State;)V"⟩
theorem u_757 : (Cond.methodLink "MapFramer$Verifier" 169 ⟨"MapFramer$State", "copy", "(LMapFramer$State;)V"⟩ : Cond) ∈ bigW := inB_4 76 (by decide +kernel) rfl
theorem u_758 : (Cond.instanceMethod ⟨"MapFramer$State", "copy", "(LMapFramer$State;)V"⟩ : Cond) ∈ bigW := inB_4 77 (by decide +kernel) rfl
theorem u_759 : (Cond.selects "MapFramer$State" ⟨"MapFramer$State", "copy", "(LMapFramer$State;)V"⟩ ⟨"MapFramer$State", "copy", "(LMapFramer$State;)V"⟩ : Cond) ∈ bigW := inB_4 78 (by decide +kernel) rfl
theorem u_760 : (Cond.code ⟨"MapFramer$State", "copy", "(LMapFramer$State;)V"⟩ prog_9_method_2_code 2 none : Cond) ∈ bigW := inB_4 79 rfl rfl
theorem u_761 : (Cond.methodLink "MapFramer$Verifier" 201 ⟨"MapFramer$Verifier", "await", "(I)V"⟩ : Cond) ∈ bigW := inB_4 86 (by decide +kernel) rfl
theorem u_762 : (Cond.instanceMethod ⟨"MapFramer$Verifier", "await", "(I)V"⟩ : Cond) ∈ bigW := inB_4 88 (by decide +kernel) rfl
theorem u_763 : (Cond.selects "MapFramer$Verifier" ⟨"MapFramer$Verifier", "await", "(I)V"⟩ ⟨"MapFramer$Verifier", "await", "(I)V"⟩ : Cond) ∈ bigW := inS (y := ⟨"MapFramer$Verifier", "await", "(I)V"⟩) (n := 10) (List.mem_of_getElem? (i := 8) (by decide +kernel))
theorem u_764 : (Cond.code ⟨"MapFramer$Verifier", "await", "(I)V"⟩ prog_11_method_13_code 2 none : Cond) ∈ bigW := inB_4 89 rfl rfl
theorem u_765 : (Cond.methodLink "MapFramer$Verifier" 204 ⟨"MapFramer$State", "fits", "(LMapFramer$World;LMapFramer$State;)Z"⟩ : Cond) ∈ bigW := inB_4 91 (by decide +kernel) rfl
theorem u_766 : (Cond.instanceMethod ⟨"MapFramer$State", "fits", "(LMapFramer$World;LMapFramer$State;)Z"⟩ : Cond) ∈ bigW := inB_4 92 (by decide +kernel) rfl
theorem u_767 : (Cond.selects "MapFramer$State" ⟨"MapFramer$State", "fits", "(LMapFramer$World;LMapFramer$State;)Z"⟩ ⟨"MapFramer$State", "fits", "(LMapFramer$World;LMapFramer$State;)Z"⟩ : Cond) ∈ bigW := inB_4 93 (by decide +kernel) rfl
theorem u_768 : (Cond.code ⟨"MapFramer$State", "fits", "(LMapFramer$World;LMapFramer$State;)Z"⟩ prog_9_method_12_code 4 (some .boolean) : Cond) ∈ bigW := inB_4 94 rfl rfl
theorem u_769 : (Cond.methodLink "MapFramer$Verifier" 208 ⟨"MapFramer$State", "merge", "(LMapFramer$World;LMapFramer$State;)Z"⟩ : Cond) ∈ bigW := inB_4 109 (by decide +kernel) rfl
theorem u_770 : (Cond.instanceMethod ⟨"MapFramer$State", "merge", "(LMapFramer$World;LMapFramer$State;)Z"⟩ : Cond) ∈ bigW := inB_4 110 (by decide +kernel) rfl
theorem u_771 : (Cond.selects "MapFramer$State" ⟨"MapFramer$State", "merge", "(LMapFramer$World;LMapFramer$State;)Z"⟩ ⟨"MapFramer$State", "merge", "(LMapFramer$World;LMapFramer$State;)Z"⟩ : Cond) ∈ bigW := inB_4 111 (by decide +kernel) rfl
theorem u_772 : (Cond.code ⟨"MapFramer$State", "merge", "(LMapFramer$World;LMapFramer$State;)Z"⟩ prog_9_method_13_code 6 (some .boolean) : Cond) ∈ bigW := inB_4 112 rfl rfl
theorem h_Ve_give_0 : decode prog_11_method_12_code 0 = .ok (.aload_n 0, 1) := by decide +kernel
theorem h_Ve_give_1 : decode prog_11_method_12_code 1 = .ok (.getfield 15, 3) := by decide +kernel
theorem h_Ve_give_4 : decode prog_11_method_12_code 4 = .ok (.getfield 67, 3) := by decide +kernel
theorem h_Ve_give_7 : decode prog_11_method_12_code 7 = .ok (.ifCond .ne 16, 3) := by decide +kernel
theorem h_Ve_give_10 : decode prog_11_method_12_code 10 = .ok (.iload_n 1, 1) := by decide +kernel
theorem h_Ve_give_11 : decode prog_11_method_12_code 11 = .ok (.ifCond .lt 12, 3) := by decide +kernel
theorem h_Ve_give_14 : decode prog_11_method_12_code 14 = .ok (.iload_n 1, 1) := by decide +kernel
theorem h_Ve_give_15 : decode prog_11_method_12_code 15 = .ok (.aload_n 0, 1) := by decide +kernel
theorem h_Ve_give_16 : decode prog_11_method_12_code 16 = .ok (.getfield 43, 3) := by decide +kernel
theorem h_Ve_give_19 : decode prog_11_method_12_code 19 = .ok (.arraylength, 1) := by decide +kernel
theorem h_Ve_give_20 : decode prog_11_method_12_code 20 = .ok (.if_icmp .lt 4, 3) := by decide +kernel
theorem h_Ve_give_23 : decode prog_11_method_12_code 23 = .ok (.return_, 1) := by decide +kernel
theorem h_Ve_give_24 : decode prog_11_method_12_code 24 = .ok (.aload_n 0, 1) := by decide +kernel
theorem h_Ve_give_25 : decode prog_11_method_12_code 25 = .ok (.getfield 43, 3) := by decide +kernel
theorem h_Ve_give_28 : decode prog_11_method_12_code 28 = .ok (.iload_n 1, 1) := by decide +kernel
theorem h_Ve_give_29 : decode prog_11_method_12_code 29 = .ok (.aaload, 1) := by decide +kernel
theorem h_Ve_give_30 : decode prog_11_method_12_code 30 = .ok (.ifnonnull 48, 3) := by decide +kernel
theorem h_Ve_give_33 : decode prog_11_method_12_code 33 = .ok (.aload_n 0, 1) := by decide +kernel
theorem h_Ve_give_34 : decode prog_11_method_12_code 34 = .ok (.getfield 43, 3) := by decide +kernel
theorem h_Ve_give_37 : decode prog_11_method_12_code 37 = .ok (.iload_n 1, 1) := by decide +kernel
theorem h_Ve_give_38 : decode prog_11_method_12_code 38 = .ok (.new 41, 3) := by decide +kernel
theorem h_Ve_give_41 : decode prog_11_method_12_code 41 = .ok (.dup, 1) := by decide +kernel
theorem h_Ve_give_42 : decode prog_11_method_12_code 42 = .ok (.aload_n 0, 1) := by decide +kernel
theorem h_Ve_give_43 : decode prog_11_method_12_code 43 = .ok (.getfield 15, 3) := by decide +kernel
theorem h_Ve_give_46 : decode prog_11_method_12_code 46 = .ok (.getfield 47, 3) := by decide +kernel
theorem h_Ve_give_49 : decode prog_11_method_12_code 49 = .ok (.aload_n 0, 1) := by decide +kernel
theorem h_Ve_give_50 : decode prog_11_method_12_code 50 = .ok (.getfield 15, 3) := by decide +kernel
theorem h_Ve_give_53 : decode prog_11_method_12_code 53 = .ok (.getfield 51, 3) := by decide +kernel
theorem h_Ve_give_56 : decode prog_11_method_12_code 56 = .ok (.invokespecial 54, 3) := by decide +kernel
theorem h_Ve_give_59 : decode prog_11_method_12_code 59 = .ok (.aastore, 1) := by decide +kernel
theorem h_Ve_give_60 : decode prog_11_method_12_code 60 = .ok (.aload_n 0, 1) := by decide +kernel
theorem h_Ve_give_61 : decode prog_11_method_12_code 61 = .ok (.getfield 43, 3) := by decide +kernel
theorem h_Ve_give_64 : decode prog_11_method_12_code 64 = .ok (.iload_n 1, 1) := by decide +kernel
theorem h_Ve_give_65 : decode prog_11_method_12_code 65 = .ok (.aaload, 1) := by decide +kernel
theorem h_Ve_give_66 : decode prog_11_method_12_code 66 = .ok (.aload_n 2, 1) := by decide +kernel
theorem h_Ve_give_67 : decode prog_11_method_12_code 67 = .ok (.invokevirtual 169, 3) := by decide +kernel
theorem h_Ve_give_70 : decode prog_11_method_12_code 70 = .ok (.aload_n 0, 1) := by decide +kernel
theorem h_Ve_give_71 : decode prog_11_method_12_code 71 = .ok (.iload_n 1, 1) := by decide +kernel
theorem h_Ve_give_72 : decode prog_11_method_12_code 72 = .ok (.invokevirtual 201, 3) := by decide +kernel
theorem h_Ve_give_75 : decode prog_11_method_12_code 75 = .ok (.goto 55, 3) := by decide +kernel
theorem h_Ve_give_78 : decode prog_11_method_12_code 78 = .ok (.aload_n 0, 1) := by decide +kernel
theorem h_Ve_give_79 : decode prog_11_method_12_code 79 = .ok (.getfield 43, 3) := by decide +kernel
theorem h_Ve_give_82 : decode prog_11_method_12_code 82 = .ok (.iload_n 1, 1) := by decide +kernel
theorem h_Ve_give_83 : decode prog_11_method_12_code 83 = .ok (.aaload, 1) := by decide +kernel
theorem h_Ve_give_84 : decode prog_11_method_12_code 84 = .ok (.aload_n 0, 1) := by decide +kernel
theorem h_Ve_give_85 : decode prog_11_method_12_code 85 = .ok (.getfield 9, 3) := by decide +kernel
theorem h_Ve_give_88 : decode prog_11_method_12_code 88 = .ok (.aload_n 2, 1) := by decide +kernel
theorem h_Ve_give_89 : decode prog_11_method_12_code 89 = .ok (.invokevirtual 204, 3) := by decide +kernel
theorem h_Ve_give_92 : decode prog_11_method_12_code 92 = .ok (.ifCond .ne 16, 3) := by decide +kernel
theorem h_Ve_give_95 : decode prog_11_method_12_code 95 = .ok (.aload_n 0, 1) := by decide +kernel
theorem h_Ve_give_96 : decode prog_11_method_12_code 96 = .ok (.getfield 15, 3) := by decide +kernel
theorem h_Ve_give_99 : decode prog_11_method_12_code 99 = .ok (.bipush 9, 2) := by decide +kernel
theorem h_Ve_give_101 : decode prog_11_method_12_code 101 = .ok (.iload_n 1, 1) := by decide +kernel
theorem h_Ve_give_102 : decode prog_11_method_12_code 102 = .ok (.invokevirtual 76, 3) := by decide +kernel
theorem h_Ve_give_105 : decode prog_11_method_12_code 105 = .ok (.goto 25, 3) := by decide +kernel
theorem h_Ve_give_108 : decode prog_11_method_12_code 108 = .ok (.aload_n 0, 1) := by decide +kernel
theorem h_Ve_give_109 : decode prog_11_method_12_code 109 = .ok (.getfield 43, 3) := by decide +kernel
theorem h_Ve_give_112 : decode prog_11_method_12_code 112 = .ok (.iload_n 1, 1) := by decide +kernel
theorem h_Ve_give_113 : decode prog_11_method_12_code 113 = .ok (.aaload, 1) := by decide +kernel
theorem h_Ve_give_114 : decode prog_11_method_12_code 114 = .ok (.aload_n 0, 1) := by decide +kernel
theorem h_Ve_give_115 : decode prog_11_method_12_code 115 = .ok (.getfield 9, 3) := by decide +kernel
theorem h_Ve_give_118 : decode prog_11_method_12_code 118 = .ok (.aload_n 2, 1) := by decide +kernel
theorem h_Ve_give_119 : decode prog_11_method_12_code 119 = .ok (.invokevirtual 208, 3) := by decide +kernel
theorem h_Ve_give_122 : decode prog_11_method_12_code 122 = .ok (.ifCond .eq 8, 3) := by decide +kernel
theorem h_Ve_give_125 : decode prog_11_method_12_code 125 = .ok (.aload_n 0, 1) := by decide +kernel
theorem h_Ve_give_126 : decode prog_11_method_12_code 126 = .ok (.iload_n 1, 1) := by decide +kernel
theorem h_Ve_give_127 : decode prog_11_method_12_code 127 = .ok (.invokevirtual 201, 3) := by decide +kernel
theorem h_Ve_give_130 : decode prog_11_method_12_code 130 = .ok (.return_, 1) := by decide +kernel
def x_Ve_give (a0 : Nat) (x1 : Int32) (a2 : Nat) (σ0 : CST) (P : CST → Prop) : Prop := σ0.1 a0 = some (10, 0) ∧ (∀ b2 : Option Nat, b2 = (σ0.2.2.2.1 a0 1) → (∃ r3 : Nat, b2 = some r3 ∧ (σ0.1 r3 = some (5, 0) ∧ ((((σ0.2.1 r3 7) = 0 → ((x1 < 0 → P σ0) ∧ (¬ x1 < 0 → ∀ b7 : Option Nat, b7 = (σ0.2.2.2.1 a0 6) → (∃ r8 : Nat, b7 = some r8 ∧ ((∃ n10 : Nat, σ0.1 r8 = some (25, n10) ∧ (((x1 < (Int32.ofNat n10) → ∀ b12 : Option Nat, b12 = (σ0.2.2.2.1 a0 6) → (∃ r13 : Nat, b12 = some r13 ∧ ((∃ n15 : Nat, σ0.1 r13 = some (25, n15) ∧ (vp_in x1 n15 ∧ (∀ b17 : Option Nat, b17 = (σ0.2.2.2.1 r13 (x1 : Int32).toNatClampNeg) → ((b17 = none → ∀ b20 : Option Nat, b20 = (σ0.2.2.2.1 a0 6) → (1 ≤ σ0.2.2.2.2.1 ∧ 4 ≤ σ0.2.2.2.2.2.1 ∧ ∀ q21 : Nat, σ0.1 q21 = none → q21 ≠ σ0.2.2.2.2.2.2.1 → ∀ σ25 : CST, σ25 = nw σ0 q21 8 0 4 → σ25.1 a0 = some (10, 0) ∧ (∀ b27 : Option Nat, b27 = (σ25.2.2.2.1 a0 1) → (∃ r28 : Nat, b27 = some r28 ∧ (σ25.1 r28 = some (5, 0) ∧ (∀ b30 : Option Nat, b30 = (σ25.2.2.2.1 a0 1) → (∃ r31 : Nat, b30 = some r31 ∧ (σ25.1 r31 = some (5, 0) ∧ (x_St_init q21 (σ25.2.1 r28 4) (σ25.2.1 r31 3) σ25 (fun σ33 => (∃ r35 : Nat, b20 = some r35 ∧ ((∃ n37 : Nat, σ33.1 r35 = some (25, n37) ∧ (σ33.1 q21 = some (8, 0) ∧ (vp_in x1 n37 ∧ (∀ σ40 : CST, σ40 = sR σ33 r35 (x1 : Int32).toNatClampNeg (some q21) → σ40.1 a0 = some (10, 0) ∧ (∀ b42 : Option Nat, b42 = (σ40.2.2.2.1 a0 6) → (∃ r43 : Nat, b42 = some r43 ∧ ((∃ n45 : Nat, σ40.1 r43 = some (25, n45) ∧ (vp_in x1 n45 ∧ (∀ b47 : Option Nat, b47 = (σ40.2.2.2.1 r43 (x1 : Int32).toNatClampNeg) → (∃ r48 : Nat, b47 = some r48 ∧ (σ40.1 r48 = some (8, 0) ∧ (x_St_copy r48 a2 σ40 (fun σ50 => σ50.1 a0 = some (10, 0) ∧ (x_Ve_await a0 x1 σ50 (fun σ53 => P σ53)))))))))))))))))))))))))))) ∧ (∀ r19 : Nat, b17 = some r19 → ∀ b55 : Option Nat, b55 = (σ0.2.2.2.1 a0 6) → (∃ r56 : Nat, b55 = some r56 ∧ ((∃ n58 : Nat, σ0.1 r56 = some (25, n58) ∧ (vp_in x1 n58 ∧ (∀ b60 : Option Nat, b60 = (σ0.2.2.2.1 r56 (x1 : Int32).toNatClampNeg) → ∀ b61 : Option Nat, b61 = (σ0.2.2.2.1 a0 0) → (∃ r62 : Nat, b61 = some r62 ∧ ((∃ r63 : Nat, b60 = some r63 ∧ (σ0.1 r63 = some (8, 0) ∧ (x_St_fits r63 r62 a2 σ0 (fun r66 σ65 => ((r66 = 0 → σ65.1 a0 = some (10, 0) ∧ (∀ b86 : Option Nat, b86 = (σ65.2.2.2.1 a0 1) → (∃ r87 : Nat, b86 = some r87 ∧ (σ65.1 r87 = some (5, 0) ∧ (x_E_fail r87 (9 : Int32) x1 σ65 (fun σ89 => P σ89)))))) ∧ (¬ r66 = 0 → σ65.1 a0 = some (10, 0) ∧ (∀ b69 : Option Nat, b69 = (σ65.2.2.2.1 a0 6) → (∃ r70 : Nat, b69 = some r70 ∧ ((∃ n72 : Nat, σ65.1 r70 = some (25, n72) ∧ (vp_in x1 n72 ∧ (∀ b74 : Option Nat, b74 = (σ65.2.2.2.1 r70 (x1 : Int32).toNatClampNeg) → ∀ b75 : Option Nat, b75 = (σ65.2.2.2.1 a0 0) → (∃ r76 : Nat, b75 = some r76 ∧ ((∃ r77 : Nat, b74 = some r77 ∧ (σ65.1 r77 = some (8, 0) ∧ (x_St_merge r77 r76 a2 σ65 (fun r80 σ79 => ((r80 = 0 → P σ79) ∧ (¬ r80 = 0 → σ79.1 a0 = some (10, 0) ∧ (x_Ve_await a0 x1 σ79 (fun σ83 => P σ83))))))))))))))))))))))))))))))))))))) ∧ (¬ x1 < (Int32.ofNat n10) → P σ0))))))))) ∧ (¬ (σ0.2.1 r3 7) = 0 → P σ0))))))
set_option maxHeartbeats 4000000 in
set_option maxRecDepth 100000 in
theorem X_Ve_give (l : Launch) (dC : Nat → ClassId) (dI : Nat → Nat → Nat) (ca : Nat → ClassId) (H0 : Heap) (σ0 : CST) (a0 : Nat) (x1 : Int32) (a2 : Nat) {P : CST → Prop} (hw : x_Ve_give a0 x1 a2 σ0 P) : Met l g_Ve_give (mW g_Ve_give prog_11_method_12_code 3 none) ({ frames := 3, cells := σ0.2.2.2.2.1, slots := σ0.2.2.2.2.2.1, locals := 142 } : Room) (va_Pc [.ref a0, .int x1, .ref a2] (CPre (dC, dI) ca σ0 H0)) (va_Qv P (CB (dC, dI) ca σ0 H0) (cA σ0 H0.size)) σ0.2.2.2.2.1 σ0.2.2.2.2.2.1 (cA σ0 H0.size) := by
  refine C_ofv (by decide +kernel) rfl rfl rfl (Nat.le_of_ble_eq_true rfl) ?_
  intro p e s m below meth cx Q A ls C hnm hend hH0 h hl
  subst hH0
  have C0 := C
  obtain ⟨⟨hx, hb, hml, hown, hts⟩, hsub⟩ := C0
  obtain ⟨cells, e_cells⟩ : ∃ z : Nat, z = 0 := ⟨_, rfl⟩
  obtain ⟨slots, e_slots⟩ : ∃ z : Nat, z = 0 := ⟨_, rfl⟩
  have h : CH (dC, dI) A ca ({ frames := 3, cells := σ0.2.2.2.2.1, slots := σ0.2.2.2.2.2.1, locals := 142 } : Room) σ0.2.2.2.2.2.2 σ0 s s.heap [] cells slots := by rw [e_cells, e_slots]; exact h
  show W p l e ({ frames := 3, cells := σ0.2.2.2.2.1, slots := σ0.2.2.2.2.2.1, locals := 142 } : Room) s m ([.ref a0, .int x1, .ref a2] : List Value).toArray below meth cx s.heap [] 0 0 Q (F0 m 0 ls [])
  rw [show W p l e ({ frames := 3, cells := σ0.2.2.2.2.1, slots := σ0.2.2.2.2.2.1, locals := 142 } : Room) s m ([.ref a0, .int x1, .ref a2] : List Value).toArray below meth cx s.heap [] 0 0 Q (F0 m 0 ls []) = W p l e ({ frames := 3, cells := σ0.2.2.2.2.1, slots := σ0.2.2.2.2.2.1, locals := 142 } : Room) s m ([.ref a0, .int x1, .ref a2] : List Value).toArray below meth cx s.heap [] cells slots Q (F0 m 0 ls []) by rw [e_cells, e_slots]]
  have hl : lv_has ls 3 [(0, .ref a0), (1, .int x1), (2, .ref a2)] := hl
  unfold x_Ve_give at hw
  refine lv_aload_n hx hb h_Ve_give_0 rfl (lv_at hl 0 rfl) ?_
  obtain ⟨g1, hw⟩ := hw
  refine C_get C h 10 1 (v := va_rf (σ0.2.2.2.1 a0 1)) g1 rfl (Cn := R_Ve) (T := T_Ve) (N := 10) rfl (by decide) rfl uw_Ve (by decide) u_681 (fun _ q => q) h_Ve_give_1 ?_
  refine lv_topq (fun b2 e_b2 => ?_)
  replace hw := hw b2 e_b2
  obtain ⟨r3, e_r3, hw⟩ := hw
  subst e_r3
  have hl : lv_has ls 3 [(0, .ref a0), (1, .int x1), (2, .ref a2)] := hl
  refine W.eq (g2 := F0 m 4 ls [.ref r3]) rfl ?_
  obtain ⟨g4, hw⟩ := hw
  refine C_get C h 5 7 (v := .int (σ0.2.1 r3 7)) g4 rfl (Cn := R_E) (T := T_E) (N := 13) rfl (by decide) rfl uw_E (by decide) u_735 (fun _ q => q) h_Ve_give_4 ?_
  refine lv_if_ne (tgt := 23) hx hb h_Ve_give_7 (by decide) (fun c5 => ?_) (fun c5 => ?_)
  · skip
    replace hw := hw.2 c5
    exact hend σ0 _ _ _ _ _ _ hw h h_Ve_give_23
  · skip
    replace hw := hw.1 c5
    refine lv_iload_n hx hb h_Ve_give_10 rfl (lv_at hl 1 rfl) ?_
    refine lv_if_lt (tgt := 23) hx hb h_Ve_give_11 (by decide) (fun c6 => ?_) (fun c6 => ?_)
    · skip
      replace hw := hw.1 c6
      exact hend σ0 _ _ _ _ _ _ hw h h_Ve_give_23
    · skip
      replace hw := hw.2 c6
      refine lv_iload_n hx hb h_Ve_give_14 rfl (lv_at hl 1 rfl) ?_
      refine lv_aload_n hx hb h_Ve_give_15 rfl (lv_at hl 0 rfl) ?_
      refine C_get C h 10 6 (v := va_rf (σ0.2.2.2.1 a0 6)) g1 rfl (Cn := R_Ve) (T := T_Ve) (N := 10) rfl (by decide) rfl uw_Ve (by decide) u_693 (fun _ q => q) h_Ve_give_16 ?_
      refine lv_topq (fun b7 e_b7 => ?_)
      replace hw := hw b7 e_b7
      obtain ⟨r8, e_r8, hw⟩ := hw
      subst e_r8
      have hl : lv_has ls 3 [(0, .ref a0), (1, .int x1), (2, .ref a2)] := hl
      refine W.eq (g2 := F0 m 19 ls [.ref r8, .int x1]) rfl ?_
      obtain ⟨n10, g9, hw⟩ := hw
      refine C_alen C h 25 4 rfl (by decide) g9 h_Ve_give_19 ?_
      refine lv_icmp_lt (tgt := 24) hx hb h_Ve_give_20 (by decide) (fun c11 => ?_) (fun c11 => ?_)
      · skip
        replace hw := hw.1 c11
        refine lv_aload_n hx hb h_Ve_give_24 rfl (lv_at hl 0 rfl) ?_
        refine C_get C h 10 6 (v := va_rf (σ0.2.2.2.1 a0 6)) g1 rfl (Cn := R_Ve) (T := T_Ve) (N := 10) rfl (by decide) rfl uw_Ve (by decide) u_693 (fun _ q => q) h_Ve_give_25 ?_
        refine lv_topq (fun b12 e_b12 => ?_)
        replace hw := hw b12 e_b12
        refine lv_iload_n hx hb h_Ve_give_28 rfl (lv_at hl 1 rfl) ?_
        obtain ⟨r13, e_r13, hw⟩ := hw
        subst e_r13
        have hl : lv_has ls 3 [(0, .ref a0), (1, .int x1), (2, .ref a2)] := hl
        refine W.eq (g2 := F0 m 29 ls [.int x1, .ref r13]) rfl ?_
        obtain ⟨n15, g14, hw⟩ := hw
        obtain ⟨g16, hw⟩ := hw
        refine C_aald C h 25 4 rfl (by decide) g14 g16 h_Ve_give_29 ?_
        refine lv_topq (fun b17 e_b17 => ?_)
        replace hw := hw b17 e_b17
        rcases cq_or b17 with c18 | ⟨r19, c18⟩
        · subst c18
          replace hw := hw.1 rfl
          have hl : lv_has ls 3 [(0, .ref a0), (1, .int x1), (2, .ref a2)] := hl
          refine W.eq (g2 := F0 m 30 ls [.null]) rfl ?_
          refine lv_ifnonnullN hx hb h_Ve_give_30 ?_
          refine lv_aload_n hx hb h_Ve_give_33 rfl (lv_at hl 0 rfl) ?_
          refine C_get C h 10 6 (v := va_rf (σ0.2.2.2.1 a0 6)) g1 rfl (Cn := R_Ve) (T := T_Ve) (N := 10) rfl (by decide) rfl uw_Ve (by decide) u_693 (fun _ q => q) h_Ve_give_34 ?_
          refine lv_topq (fun b20 e_b20 => ?_)
          replace hw := hw b20 e_b20
          refine lv_iload_n hx hb h_Ve_give_37 rfl (lv_at hl 1 rfl) ?_
          obtain ⟨g22, g23, hw⟩ := hw
          refine C_new C h 8 (Cn := R_St) (T := T_St) (N := 4) rfl (by decide) uw_St tok_St (cdf_St rfl rfl rfl) u_692 u_694 u_502 g22 g23 h_Ve_give_38 (fun q21 H g24 hz9 h => ?_)
          replace hw := hw q21 g24 hz9
          obtain ⟨σ25, e_σ25⟩ : ∃ z : CST, z = nw σ0 q21 8 0 4 := ⟨_, rfl⟩
          rw [← e_σ25] at h
          replace hw := hw σ25 e_σ25
          generalize cells + 1 = cells at h ⊢
          generalize slots + 4 = slots at h ⊢
          refine lv_dup hx hb h_Ve_give_41 rfl ?_
          refine lv_aload_n hx hb h_Ve_give_42 rfl (lv_at hl 0 rfl) ?_
          obtain ⟨g26, hw⟩ := hw
          refine C_get C h 10 1 (v := va_rf (σ25.2.2.2.1 a0 1)) g26 rfl (Cn := R_Ve) (T := T_Ve) (N := 10) rfl (by decide) rfl uw_Ve (by decide) u_681 (fun _ q => q) h_Ve_give_43 ?_
          refine lv_topq (fun b27 e_b27 => ?_)
          replace hw := hw b27 e_b27
          obtain ⟨r28, e_r28, hw⟩ := hw
          subst e_r28
          have hl : lv_has ls 3 [(0, .ref a0), (1, .int x1), (2, .ref a2)] := hl
          refine W.eq (g2 := F0 m 46 ls [.ref r28, .ref q21, .ref q21, .int x1, va_rf b20]) rfl ?_
          obtain ⟨g29, hw⟩ := hw
          refine C_get C h 5 4 (v := .int (σ25.2.1 r28 4)) g29 rfl (Cn := R_E) (T := T_E) (N := 13) rfl (by decide) rfl uw_E (by decide) u_695 (fun _ q => q) h_Ve_give_46 ?_
          refine lv_aload_n hx hb h_Ve_give_49 rfl (lv_at hl 0 rfl) ?_
          refine C_get C h 10 1 (v := va_rf (σ25.2.2.2.1 a0 1)) g26 rfl (Cn := R_Ve) (T := T_Ve) (N := 10) rfl (by decide) rfl uw_Ve (by decide) u_681 (fun _ q => q) h_Ve_give_50 ?_
          refine lv_topq (fun b30 e_b30 => ?_)
          replace hw := hw b30 e_b30
          obtain ⟨r31, e_r31, hw⟩ := hw
          subst e_r31
          have hl : lv_has ls 3 [(0, .ref a0), (1, .int x1), (2, .ref a2)] := hl
          refine W.eq (g2 := F0 m 53 ls [.ref r31, .int (σ25.2.1 r28 4), .ref q21, .ref q21, .int x1, va_rf b20]) rfl ?_
          obtain ⟨g32, hw⟩ := hw
          refine C_get C h 5 3 (v := .int (σ25.2.1 r31 3)) g32 rfl (Cn := R_E) (T := T_E) (N := 13) rfl (by decide) rfl uw_E (by decide) u_696 (fun _ q => q) h_Ve_give_53 ?_
          refine C_callIv (As := [.int (σ25.2.1 r28 4), .int (σ25.2.1 r31 3)]) (rest := [.ref q21, .int x1, va_rf b20]) C h (X_St_init l dC dI ca H σ25 q21 (σ25.2.1 r28 4) (σ25.2.1 r31 3) hw) (cwI 2 hts (gC hsub u_697) rfl rfl rfl (hts _ (hsub _ u_502)) (hts _ (hsub _ u_698)) (hts _ (hsub _ u_699)) rfl (by decide +kernel) ⟨(Nat.le_of_ble_eq_true rfl), (Nat.le_of_ble_eq_true rfl)⟩) rfl hl.1 (by simp only [List.map_cons, List.map_nil, List.sum_cons, List.sum_nil, cq_cat]; exact Nat.le_of_ble_eq_true rfl) h_Ve_give_56 (fun σ33 H locs cells slots hw9 h9 => ?_)
          clear hw h; have hw := hw9; have h := h9; clear hw9 h9
          refine W.eq (g2 := F0 m 59 ls [.ref q21, .int x1, va_rf b20]) rfl ?_
          obtain ⟨r35, e_r35, hw⟩ := hw
          subst e_r35
          have hl : lv_has ls 3 [(0, .ref a0), (1, .int x1), (2, .ref a2)] := hl
          refine W.eq (g2 := F0 m 59 ls [.ref q21, .int x1, .ref r35]) rfl ?_
          obtain ⟨n37, g36, hw⟩ := hw
          obtain ⟨g38, hw⟩ := hw
          obtain ⟨g39, hw⟩ := hw
          refine C_aast C h 25 4 (r := (R_St, T_St, 4)) rfl g38 rfl (by decide) (by decide) g36 g39 h_Ve_give_59 (fun H locs h => ?_)
          obtain ⟨σ40, e_σ40⟩ : ∃ z : CST, z = sR σ33 r35 (x1 : Int32).toNatClampNeg (some q21) := ⟨_, rfl⟩
          rw [← e_σ40] at h
          replace hw := hw σ40 e_σ40
          refine lv_aload_n hx hb h_Ve_give_60 rfl (lv_at hl 0 rfl) ?_
          obtain ⟨g41, hw⟩ := hw
          refine C_get C h 10 6 (v := va_rf (σ40.2.2.2.1 a0 6)) g41 rfl (Cn := R_Ve) (T := T_Ve) (N := 10) rfl (by decide) rfl uw_Ve (by decide) u_693 (fun _ q => q) h_Ve_give_61 ?_
          refine lv_topq (fun b42 e_b42 => ?_)
          replace hw := hw b42 e_b42
          refine lv_iload_n hx hb h_Ve_give_64 rfl (lv_at hl 1 rfl) ?_
          obtain ⟨r43, e_r43, hw⟩ := hw
          subst e_r43
          have hl : lv_has ls 3 [(0, .ref a0), (1, .int x1), (2, .ref a2)] := hl
          refine W.eq (g2 := F0 m 65 ls [.int x1, .ref r43]) rfl ?_
          obtain ⟨n45, g44, hw⟩ := hw
          obtain ⟨g46, hw⟩ := hw
          refine C_aald C h 25 4 rfl (by decide) g44 g46 h_Ve_give_65 ?_
          refine lv_topq (fun b47 e_b47 => ?_)
          replace hw := hw b47 e_b47
          refine lv_aload_n hx hb h_Ve_give_66 rfl (lv_at hl 2 rfl) ?_
          obtain ⟨r48, e_r48, hw⟩ := hw
          subst e_r48
          have hl : lv_has ls 3 [(0, .ref a0), (1, .int x1), (2, .ref a2)] := hl
          refine W.eq (g2 := F0 m 67 ls [.ref a2, .ref r48]) rfl ?_
          obtain ⟨g49, hw⟩ := hw
          refine C_callVv (As := [.ref a2]) (rest := []) C h (ci := 8) (Cn := R_St) (T := T_St) (N := 4) g49 rfl (by decide) (X_St_copy l dC dI ca H σ40 r48 a2 hw) (cwV 1 hts (gV hsub u_757 u_758 u_759 u_502 u_760) rfl rfl rfl (by decide +kernel) ⟨(Nat.le_of_ble_eq_true rfl), (Nat.le_of_ble_eq_true rfl)⟩) rfl hl.1 (Nat.le_of_ble_eq_true rfl) h_Ve_give_67 (fun σ50 H locs cells slots hw9 h9 => ?_)
          clear hw h; have hw := hw9; have h := h9; clear hw9 h9
          refine W.eq (g2 := F0 m 70 ls []) rfl ?_
          refine lv_aload_n hx hb h_Ve_give_70 rfl (lv_at hl 0 rfl) ?_
          refine lv_iload_n hx hb h_Ve_give_71 rfl (lv_at hl 1 rfl) ?_
          obtain ⟨g52, hw⟩ := hw
          refine C_callVv (As := [.int x1]) (rest := []) C h (ci := 10) (Cn := R_Ve) (T := T_Ve) (N := 10) g52 rfl (by decide) (X_Ve_await l dC dI ca H σ50 a0 x1 hw) (cwV 1 hts (gV hsub u_761 u_762 u_763 u_726 u_764) rfl rfl rfl (by decide +kernel) ⟨(Nat.le_of_ble_eq_true rfl), (Nat.le_of_ble_eq_true rfl)⟩) rfl hl.1 (Nat.le_of_ble_eq_true rfl) h_Ve_give_72 (fun σ53 H locs cells slots hw9 h9 => ?_)
          clear hw h; have hw := hw9; have h := h9; clear hw9 h9
          refine W.eq (g2 := F0 m 75 ls []) rfl ?_
          refine lv_goto (tgt := 130) hx hb h_Ve_give_75 (by decide) ?_
          exact hend σ53 _ _ _ _ _ _ hw h h_Ve_give_130
        · subst c18
          replace hw := hw.2 r19 rfl
          have hl : lv_has ls 3 [(0, .ref a0), (1, .int x1), (2, .ref a2)] := hl
          refine W.eq (g2 := F0 m 30 ls [.ref r19]) rfl ?_
          refine lv_ifnonnull (tgt := 78) hx hb h_Ve_give_30 (by decide) ?_
          refine lv_aload_n hx hb h_Ve_give_78 rfl (lv_at hl 0 rfl) ?_
          refine C_get C h 10 6 (v := va_rf (σ0.2.2.2.1 a0 6)) g1 rfl (Cn := R_Ve) (T := T_Ve) (N := 10) rfl (by decide) rfl uw_Ve (by decide) u_693 (fun _ q => q) h_Ve_give_79 ?_
          refine lv_topq (fun b55 e_b55 => ?_)
          replace hw := hw b55 e_b55
          refine lv_iload_n hx hb h_Ve_give_82 rfl (lv_at hl 1 rfl) ?_
          obtain ⟨r56, e_r56, hw⟩ := hw
          subst e_r56
          have hl : lv_has ls 3 [(0, .ref a0), (1, .int x1), (2, .ref a2)] := hl
          refine W.eq (g2 := F0 m 83 ls [.int x1, .ref r56]) rfl ?_
          obtain ⟨n58, g57, hw⟩ := hw
          obtain ⟨g59, hw⟩ := hw
          refine C_aald C h 25 4 rfl (by decide) g57 g59 h_Ve_give_83 ?_
          refine lv_topq (fun b60 e_b60 => ?_)
          replace hw := hw b60 e_b60
          refine lv_aload_n hx hb h_Ve_give_84 rfl (lv_at hl 0 rfl) ?_
          refine C_get C h 10 0 (v := va_rf (σ0.2.2.2.1 a0 0)) g1 rfl (Cn := R_Ve) (T := T_Ve) (N := 10) rfl (by decide) rfl uw_Ve (by decide) u_680 (fun _ q => q) h_Ve_give_85 ?_
          refine lv_topq (fun b61 e_b61 => ?_)
          replace hw := hw b61 e_b61
          refine lv_aload_n hx hb h_Ve_give_88 rfl (lv_at hl 2 rfl) ?_
          obtain ⟨r62, e_r62, hw⟩ := hw
          subst e_r62
          have hl : lv_has ls 3 [(0, .ref a0), (1, .int x1), (2, .ref a2)] := hl
          refine W.eq (g2 := F0 m 89 ls [.ref a2, .ref r62, va_rf b60]) rfl ?_
          obtain ⟨r63, e_r63, hw⟩ := hw
          subst e_r63
          have hl : lv_has ls 3 [(0, .ref a0), (1, .int x1), (2, .ref a2)] := hl
          refine W.eq (g2 := F0 m 89 ls [.ref a2, .ref r62, .ref r63]) rfl ?_
          obtain ⟨g64, hw⟩ := hw
          refine C_callVi (As := [.ref r62, .ref a2]) (rest := []) C h (ci := 8) (Cn := R_St) (T := T_St) (N := 4) g64 rfl (by decide) (X_St_fits l dC dI ca s.heap σ0 r63 r62 a2 hw) (cwV 2 hts (gV hsub u_765 u_766 u_767 u_502 u_768) rfl rfl rfl (by decide +kernel) ⟨(Nat.le_of_ble_eq_true rfl), (Nat.le_of_ble_eq_true rfl)⟩) rfl hl.1 (Nat.le_of_ble_eq_true rfl) h_Ve_give_89 (fun r66 σ65 H locs cells slots hw9 h9 => ?_)
          clear hw h; have hw := hw9; have h := h9; clear hw9 h9
          refine W.eq (g2 := F0 m 92 ls [.int r66]) rfl ?_
          refine lv_if_ne (tgt := 108) hx hb h_Ve_give_92 (by decide) (fun c67 => ?_) (fun c67 => ?_)
          · skip
            replace hw := hw.2 c67
            refine lv_aload_n hx hb h_Ve_give_108 rfl (lv_at hl 0 rfl) ?_
            obtain ⟨g68, hw⟩ := hw
            refine C_get C h 10 6 (v := va_rf (σ65.2.2.2.1 a0 6)) g68 rfl (Cn := R_Ve) (T := T_Ve) (N := 10) rfl (by decide) rfl uw_Ve (by decide) u_693 (fun _ q => q) h_Ve_give_109 ?_
            refine lv_topq (fun b69 e_b69 => ?_)
            replace hw := hw b69 e_b69
            refine lv_iload_n hx hb h_Ve_give_112 rfl (lv_at hl 1 rfl) ?_
            obtain ⟨r70, e_r70, hw⟩ := hw
            subst e_r70
            have hl : lv_has ls 3 [(0, .ref a0), (1, .int x1), (2, .ref a2)] := hl
            refine W.eq (g2 := F0 m 113 ls [.int x1, .ref r70]) rfl ?_
            obtain ⟨n72, g71, hw⟩ := hw
            obtain ⟨g73, hw⟩ := hw
            refine C_aald C h 25 4 rfl (by decide) g71 g73 h_Ve_give_113 ?_
            refine lv_topq (fun b74 e_b74 => ?_)
            replace hw := hw b74 e_b74
            refine lv_aload_n hx hb h_Ve_give_114 rfl (lv_at hl 0 rfl) ?_
            refine C_get C h 10 0 (v := va_rf (σ65.2.2.2.1 a0 0)) g68 rfl (Cn := R_Ve) (T := T_Ve) (N := 10) rfl (by decide) rfl uw_Ve (by decide) u_680 (fun _ q => q) h_Ve_give_115 ?_
            refine lv_topq (fun b75 e_b75 => ?_)
            replace hw := hw b75 e_b75
            refine lv_aload_n hx hb h_Ve_give_118 rfl (lv_at hl 2 rfl) ?_
            obtain ⟨r76, e_r76, hw⟩ := hw
            subst e_r76
            have hl : lv_has ls 3 [(0, .ref a0), (1, .int x1), (2, .ref a2)] := hl
            refine W.eq (g2 := F0 m 119 ls [.ref a2, .ref r76, va_rf b74]) rfl ?_
            obtain ⟨r77, e_r77, hw⟩ := hw
            subst e_r77
            have hl : lv_has ls 3 [(0, .ref a0), (1, .int x1), (2, .ref a2)] := hl
            refine W.eq (g2 := F0 m 119 ls [.ref a2, .ref r76, .ref r77]) rfl ?_
            obtain ⟨g78, hw⟩ := hw
            refine C_callVi (As := [.ref r76, .ref a2]) (rest := []) C h (ci := 8) (Cn := R_St) (T := T_St) (N := 4) g78 rfl (by decide) (X_St_merge l dC dI ca H σ65 r77 r76 a2 hw) (cwV 2 hts (gV hsub u_769 u_770 u_771 u_502 u_772) rfl rfl rfl (by decide +kernel) ⟨(Nat.le_of_ble_eq_true rfl), (Nat.le_of_ble_eq_true rfl)⟩) rfl hl.1 (Nat.le_of_ble_eq_true rfl) h_Ve_give_119 (fun r80 σ79 H locs cells slots hw9 h9 => ?_)
            clear hw h; have hw := hw9; have h := h9; clear hw9 h9
            refine W.eq (g2 := F0 m 122 ls [.int r80]) rfl ?_
            refine lv_if_eq (tgt := 130) hx hb h_Ve_give_122 (by decide) (fun c81 => ?_) (fun c81 => ?_)
            · skip
              replace hw := hw.1 c81
              exact hend σ79 _ _ _ _ _ _ hw h h_Ve_give_130
            · skip
              replace hw := hw.2 c81
              refine lv_aload_n hx hb h_Ve_give_125 rfl (lv_at hl 0 rfl) ?_
              refine lv_iload_n hx hb h_Ve_give_126 rfl (lv_at hl 1 rfl) ?_
              obtain ⟨g82, hw⟩ := hw
              refine C_callVv (As := [.int x1]) (rest := []) C h (ci := 10) (Cn := R_Ve) (T := T_Ve) (N := 10) g82 rfl (by decide) (X_Ve_await l dC dI ca H σ79 a0 x1 hw) (cwV 1 hts (gV hsub u_761 u_762 u_763 u_726 u_764) rfl rfl rfl (by decide +kernel) ⟨(Nat.le_of_ble_eq_true rfl), (Nat.le_of_ble_eq_true rfl)⟩) rfl hl.1 (Nat.le_of_ble_eq_true rfl) h_Ve_give_127 (fun σ83 H locs cells slots hw9 h9 => ?_)
              clear hw h; have hw := hw9; have h := h9; clear hw9 h9
              refine W.eq (g2 := F0 m 130 ls []) rfl ?_
              exact hend σ83 _ _ _ _ _ _ hw h h_Ve_give_130
          · skip
            replace hw := hw.1 c67
            refine lv_aload_n hx hb h_Ve_give_95 rfl (lv_at hl 0 rfl) ?_
            obtain ⟨g85, hw⟩ := hw
            refine C_get C h 10 1 (v := va_rf (σ65.2.2.2.1 a0 1)) g85 rfl (Cn := R_Ve) (T := T_Ve) (N := 10) rfl (by decide) rfl uw_Ve (by decide) u_681 (fun _ q => q) h_Ve_give_96 ?_
            refine lv_topq (fun b86 e_b86 => ?_)
            replace hw := hw b86 e_b86
            refine lv_bipush (v := 9) hx hb h_Ve_give_99 (by decide) ?_
            refine lv_iload_n hx hb h_Ve_give_101 rfl (lv_at hl 1 rfl) ?_
            obtain ⟨r87, e_r87, hw⟩ := hw
            subst e_r87
            have hl : lv_has ls 3 [(0, .ref a0), (1, .int x1), (2, .ref a2)] := hl
            refine W.eq (g2 := F0 m 102 ls [.int x1, .int 9, .ref r87]) rfl ?_
            obtain ⟨g88, hw⟩ := hw
            refine C_callVv (As := [.int 9, .int x1]) (rest := []) C h (ci := 5) (Cn := R_E) (T := T_E) (N := 13) g88 rfl (by decide) (X_E_fail l dC dI ca H σ65 r87 (9 : Int32) x1 hw) (cwV 2 hts (gV hsub u_728 u_729 u_730 u_229 u_731) rfl rfl rfl (by decide +kernel) ⟨(Nat.le_of_ble_eq_true rfl), (Nat.le_of_ble_eq_true rfl)⟩) rfl hl.1 (Nat.le_of_ble_eq_true rfl) h_Ve_give_102 (fun σ89 H locs cells slots hw9 h9 => ?_)
            clear hw h; have hw := hw9; have h := h9; clear hw9 h9
            refine W.eq (g2 := F0 m 105 ls []) rfl ?_
            refine lv_goto (tgt := 130) hx hb h_Ve_give_105 (by decide) ?_
            exact hend σ89 _ _ _ _ _ _ hw h h_Ve_give_130
      · skip
        replace hw := hw.2 c11
        exact hend σ0 _ _ _ _ _ _ hw h h_Ve_give_23
abbrev g_Ve_giveHandler : MethodName := ⟨"MapFramer$Verifier", "giveHandler", "(LMapFramer$Handler;LMapFramer$State;I)V"⟩
theorem u_773 : (Cond.methodLink "MapFramer$Verifier" 190 ⟨"MapFramer$State", "copyLocals", "(LMapFramer$State;)V"⟩ : Cond) ∈ bigW := inB_5 53 (by decide +kernel) rfl
theorem u_774 : (Cond.methodLink "MapFramer$Verifier" 193 ⟨"MapFramer$State", "empty", "()V"⟩ : Cond) ∈ bigW := inB_5 54 (by decide +kernel) rfl
theorem u_775 : (Cond.instanceMethod ⟨"MapFramer$State", "empty", "()V"⟩ : Cond) ∈ bigW := inB_5 55 (by decide +kernel) rfl
theorem u_776 : (Cond.selects "MapFramer$State" ⟨"MapFramer$State", "empty", "()V"⟩ ⟨"MapFramer$State", "empty", "()V"⟩ : Cond) ∈ bigW := inB_5 56 (by decide +kernel) rfl
theorem u_777 : (Cond.code ⟨"MapFramer$State", "empty", "()V"⟩ prog_9_method_4_code 1 none : Cond) ∈ bigW := inB_5 57 rfl rfl
theorem u_778 : (Cond.fieldLink "MapFramer$Verifier" 196 "MapFramer$Handler" "caught" "I" : Cond) ∈ bigW := inB_3 60 (by decide +kernel) rfl
theorem u_779 : (Cond.methodLink "MapFramer$Verifier" 198 ⟨"MapFramer$State", "push", "(I)Z"⟩ : Cond) ∈ bigW := inB_5 58 (by decide +kernel) rfl
theorem u_780 : (Cond.methodLink "MapFramer$Verifier" 157 ⟨"MapFramer$Verifier", "give", "(ILMapFramer$State;)V"⟩ : Cond) ∈ bigW := inB_4 72 (by decide +kernel) rfl
theorem u_781 : (Cond.instanceMethod ⟨"MapFramer$Verifier", "give", "(ILMapFramer$State;)V"⟩ : Cond) ∈ bigW := inB_4 74 (by decide +kernel) rfl
theorem u_782 : (Cond.selects "MapFramer$Verifier" ⟨"MapFramer$Verifier", "give", "(ILMapFramer$State;)V"⟩ ⟨"MapFramer$Verifier", "give", "(ILMapFramer$State;)V"⟩ : Cond) ∈ bigW := inS (y := ⟨"MapFramer$Verifier", "give", "(ILMapFramer$State;)V"⟩) (n := 10) (List.mem_of_getElem? (i := 7) (by decide +kernel))
theorem u_783 : (Cond.code ⟨"MapFramer$Verifier", "give", "(ILMapFramer$State;)V"⟩ prog_11_method_12_code 3 none : Cond) ∈ bigW := inB_4 75 rfl rfl
theorem h_Ve_giveHandler_0 : decode prog_11_method_11_code 0 = .ok (.aload_n 0, 1) := by decide +kernel
theorem h_Ve_giveHandler_1 : decode prog_11_method_11_code 1 = .ok (.getfield 64, 3) := by decide +kernel
theorem h_Ve_giveHandler_4 : decode prog_11_method_11_code 4 = .ok (.aload_n 2, 1) := by decide +kernel
theorem h_Ve_giveHandler_5 : decode prog_11_method_11_code 5 = .ok (.invokevirtual 190, 3) := by decide +kernel
theorem h_Ve_giveHandler_8 : decode prog_11_method_11_code 8 = .ok (.aload_n 0, 1) := by decide +kernel
theorem h_Ve_giveHandler_9 : decode prog_11_method_11_code 9 = .ok (.getfield 64, 3) := by decide +kernel
theorem h_Ve_giveHandler_12 : decode prog_11_method_11_code 12 = .ok (.invokevirtual 193, 3) := by decide +kernel
theorem h_Ve_giveHandler_15 : decode prog_11_method_11_code 15 = .ok (.aload_n 0, 1) := by decide +kernel
theorem h_Ve_giveHandler_16 : decode prog_11_method_11_code 16 = .ok (.getfield 64, 3) := by decide +kernel
theorem h_Ve_giveHandler_19 : decode prog_11_method_11_code 19 = .ok (.bipush 32, 2) := by decide +kernel
theorem h_Ve_giveHandler_21 : decode prog_11_method_11_code 21 = .ok (.aload_n 1, 1) := by decide +kernel
theorem h_Ve_giveHandler_22 : decode prog_11_method_11_code 22 = .ok (.getfield 196, 3) := by decide +kernel
theorem h_Ve_giveHandler_25 : decode prog_11_method_11_code 25 = .ok (.iadd, 1) := by decide +kernel
theorem h_Ve_giveHandler_26 : decode prog_11_method_11_code 26 = .ok (.invokevirtual 198, 3) := by decide +kernel
theorem h_Ve_giveHandler_29 : decode prog_11_method_11_code 29 = .ok (.ifCond .eq 18, 3) := by decide +kernel
theorem h_Ve_giveHandler_32 : decode prog_11_method_11_code 32 = .ok (.aload_n 0, 1) := by decide +kernel
theorem h_Ve_giveHandler_33 : decode prog_11_method_11_code 33 = .ok (.aload_n 1, 1) := by decide +kernel
theorem h_Ve_giveHandler_34 : decode prog_11_method_11_code 34 = .ok (.getfield 145, 3) := by decide +kernel
theorem h_Ve_giveHandler_37 : decode prog_11_method_11_code 37 = .ok (.aload_n 0, 1) := by decide +kernel
theorem h_Ve_giveHandler_38 : decode prog_11_method_11_code 38 = .ok (.getfield 64, 3) := by decide +kernel
theorem h_Ve_giveHandler_41 : decode prog_11_method_11_code 41 = .ok (.invokevirtual 157, 3) := by decide +kernel
theorem h_Ve_giveHandler_44 : decode prog_11_method_11_code 44 = .ok (.goto 13, 3) := by decide +kernel
theorem h_Ve_giveHandler_47 : decode prog_11_method_11_code 47 = .ok (.aload_n 0, 1) := by decide +kernel
theorem h_Ve_giveHandler_48 : decode prog_11_method_11_code 48 = .ok (.getfield 15, 3) := by decide +kernel
theorem h_Ve_giveHandler_51 : decode prog_11_method_11_code 51 = .ok (.bipush 7, 2) := by decide +kernel
theorem h_Ve_giveHandler_53 : decode prog_11_method_11_code 53 = .ok (.iload_n 3, 1) := by decide +kernel
theorem h_Ve_giveHandler_54 : decode prog_11_method_11_code 54 = .ok (.invokevirtual 76, 3) := by decide +kernel
theorem h_Ve_giveHandler_57 : decode prog_11_method_11_code 57 = .ok (.return_, 1) := by decide +kernel
def x_Ve_giveHandler (a0 : Nat) (a1 : Nat) (a2 : Nat) (x3 : Int32) (σ0 : CST) (P : CST → Prop) : Prop := σ0.1 a0 = some (10, 0) ∧ (∀ b2 : Option Nat, b2 = (σ0.2.2.2.1 a0 9) → (∃ r3 : Nat, b2 = some r3 ∧ (σ0.1 r3 = some (8, 0) ∧ (x_St_copyLocals r3 a2 σ0 (fun σ5 => σ5.1 a0 = some (10, 0) ∧ (∀ b8 : Option Nat, b8 = (σ5.2.2.2.1 a0 9) → (∃ r9 : Nat, b8 = some r9 ∧ (σ5.1 r9 = some (8, 0) ∧ (x_St_empty r9 σ5 (fun σ11 => σ11.1 a0 = some (10, 0) ∧ (∀ b14 : Option Nat, b14 = (σ11.2.2.2.1 a0 9) → σ11.1 a1 = some (7, 0) ∧ ((∃ r16 : Nat, b14 = some r16 ∧ (σ11.1 r16 = some (8, 0) ∧ (x_St_push r16 ((32 : Int32) + (σ11.2.1 a1 3)) σ11 (fun r19 σ18 => ((r19 = 0 → σ18.1 a0 = some (10, 0) ∧ (∀ b22 : Option Nat, b22 = (σ18.2.2.2.1 a0 1) → (∃ r23 : Nat, b22 = some r23 ∧ (σ18.1 r23 = some (5, 0) ∧ (x_E_fail r23 (7 : Int32) x3 σ18 (fun σ25 => P σ25)))))) ∧ (¬ r19 = 0 → σ18.1 a1 = some (7, 0) ∧ (σ18.1 a0 = some (10, 0) ∧ (∀ b29 : Option Nat, b29 = (σ18.2.2.2.1 a0 9) → (∃ r30 : Nat, b29 = some r30 ∧ (x_Ve_give a0 (σ18.2.1 a1 2) r30 σ18 (fun σ31 => P σ31)))))))))))))))))))))))
set_option maxHeartbeats 4000000 in
set_option maxRecDepth 100000 in
theorem X_Ve_giveHandler (l : Launch) (dC : Nat → ClassId) (dI : Nat → Nat → Nat) (ca : Nat → ClassId) (H0 : Heap) (σ0 : CST) (a0 : Nat) (a1 : Nat) (a2 : Nat) (x3 : Int32) {P : CST → Prop} (hw : x_Ve_giveHandler a0 a1 a2 x3 σ0 P) : Met l g_Ve_giveHandler (mW g_Ve_giveHandler prog_11_method_11_code 4 none) ({ frames := 4, cells := σ0.2.2.2.2.1, slots := σ0.2.2.2.2.2.1, locals := 164 } : Room) (va_Pc [.ref a0, .ref a1, .ref a2, .int x3] (CPre (dC, dI) ca σ0 H0)) (va_Qv P (CB (dC, dI) ca σ0 H0) (cA σ0 H0.size)) σ0.2.2.2.2.1 σ0.2.2.2.2.2.1 (cA σ0 H0.size) := by
  refine C_ofv (by decide +kernel) rfl rfl rfl (Nat.le_of_ble_eq_true rfl) ?_
  intro p e s m below meth cx Q A ls C hnm hend hH0 h hl
  subst hH0
  have C0 := C
  obtain ⟨⟨hx, hb, hml, hown, hts⟩, hsub⟩ := C0
  obtain ⟨cells, e_cells⟩ : ∃ z : Nat, z = 0 := ⟨_, rfl⟩
  obtain ⟨slots, e_slots⟩ : ∃ z : Nat, z = 0 := ⟨_, rfl⟩
  have h : CH (dC, dI) A ca ({ frames := 4, cells := σ0.2.2.2.2.1, slots := σ0.2.2.2.2.2.1, locals := 164 } : Room) σ0.2.2.2.2.2.2 σ0 s s.heap [] cells slots := by rw [e_cells, e_slots]; exact h
  show W p l e ({ frames := 4, cells := σ0.2.2.2.2.1, slots := σ0.2.2.2.2.2.1, locals := 164 } : Room) s m ([.ref a0, .ref a1, .ref a2, .int x3] : List Value).toArray below meth cx s.heap [] 0 0 Q (F0 m 0 ls [])
  rw [show W p l e ({ frames := 4, cells := σ0.2.2.2.2.1, slots := σ0.2.2.2.2.2.1, locals := 164 } : Room) s m ([.ref a0, .ref a1, .ref a2, .int x3] : List Value).toArray below meth cx s.heap [] 0 0 Q (F0 m 0 ls []) = W p l e ({ frames := 4, cells := σ0.2.2.2.2.1, slots := σ0.2.2.2.2.2.1, locals := 164 } : Room) s m ([.ref a0, .ref a1, .ref a2, .int x3] : List Value).toArray below meth cx s.heap [] cells slots Q (F0 m 0 ls []) by rw [e_cells, e_slots]]
  have hl : lv_has ls 4 [(0, .ref a0), (1, .ref a1), (2, .ref a2), (3, .int x3)] := hl
  unfold x_Ve_giveHandler at hw
  refine lv_aload_n hx hb h_Ve_giveHandler_0 rfl (lv_at hl 0 rfl) ?_
  obtain ⟨g1, hw⟩ := hw
  refine C_get C h 10 9 (v := va_rf (σ0.2.2.2.1 a0 9)) g1 rfl (Cn := R_Ve) (T := T_Ve) (N := 10) rfl (by decide) rfl uw_Ve (by decide) u_702 (fun _ q => q) h_Ve_giveHandler_1 ?_
  refine lv_topq (fun b2 e_b2 => ?_)
  replace hw := hw b2 e_b2
  refine lv_aload_n hx hb h_Ve_giveHandler_4 rfl (lv_at hl 2 rfl) ?_
  obtain ⟨r3, e_r3, hw⟩ := hw
  subst e_r3
  have hl : lv_has ls 4 [(0, .ref a0), (1, .ref a1), (2, .ref a2), (3, .int x3)] := hl
  refine W.eq (g2 := F0 m 5 ls [.ref a2, .ref r3]) rfl ?_
  obtain ⟨g4, hw⟩ := hw
  refine C_callVv (As := [.ref a2]) (rest := []) C h (ci := 8) (Cn := R_St) (T := T_St) (N := 4) g4 rfl (by decide) (X_St_copyLocals l dC dI ca s.heap σ0 r3 a2 hw) (cwV 1 hts (gV hsub u_773 u_500 u_501 u_502 u_503) rfl rfl rfl (by decide +kernel) ⟨(Nat.le_of_ble_eq_true rfl), (Nat.le_of_ble_eq_true rfl)⟩) rfl hl.1 (Nat.le_of_ble_eq_true rfl) h_Ve_giveHandler_5 (fun σ5 H locs cells slots hw9 h9 => ?_)
  clear hw h; have hw := hw9; have h := h9; clear hw9 h9
  refine W.eq (g2 := F0 m 8 ls []) rfl ?_
  refine lv_aload_n hx hb h_Ve_giveHandler_8 rfl (lv_at hl 0 rfl) ?_
  obtain ⟨g7, hw⟩ := hw
  refine C_get C h 10 9 (v := va_rf (σ5.2.2.2.1 a0 9)) g7 rfl (Cn := R_Ve) (T := T_Ve) (N := 10) rfl (by decide) rfl uw_Ve (by decide) u_702 (fun _ q => q) h_Ve_giveHandler_9 ?_
  refine lv_topq (fun b8 e_b8 => ?_)
  replace hw := hw b8 e_b8
  obtain ⟨r9, e_r9, hw⟩ := hw
  subst e_r9
  have hl : lv_has ls 4 [(0, .ref a0), (1, .ref a1), (2, .ref a2), (3, .int x3)] := hl
  refine W.eq (g2 := F0 m 12 ls [.ref r9]) rfl ?_
  obtain ⟨g10, hw⟩ := hw
  refine C_callVv (As := []) (rest := []) C h (ci := 8) (Cn := R_St) (T := T_St) (N := 4) g10 rfl (by decide) (X_St_empty l dC dI ca H σ5 r9 hw) (cwV 0 hts (gV hsub u_774 u_775 u_776 u_502 u_777) rfl rfl rfl (by decide +kernel) ⟨(Nat.le_of_ble_eq_true rfl), (Nat.le_of_ble_eq_true rfl)⟩) rfl hl.1 (Nat.le_of_ble_eq_true rfl) h_Ve_giveHandler_12 (fun σ11 H locs cells slots hw9 h9 => ?_)
  clear hw h; have hw := hw9; have h := h9; clear hw9 h9
  refine W.eq (g2 := F0 m 15 ls []) rfl ?_
  refine lv_aload_n hx hb h_Ve_giveHandler_15 rfl (lv_at hl 0 rfl) ?_
  obtain ⟨g13, hw⟩ := hw
  refine C_get C h 10 9 (v := va_rf (σ11.2.2.2.1 a0 9)) g13 rfl (Cn := R_Ve) (T := T_Ve) (N := 10) rfl (by decide) rfl uw_Ve (by decide) u_702 (fun _ q => q) h_Ve_giveHandler_16 ?_
  refine lv_topq (fun b14 e_b14 => ?_)
  replace hw := hw b14 e_b14
  refine lv_bipush (v := 32) hx hb h_Ve_giveHandler_19 (by decide) ?_
  refine lv_aload_n hx hb h_Ve_giveHandler_21 rfl (lv_at hl 1 rfl) ?_
  obtain ⟨g15, hw⟩ := hw
  refine C_get C h 7 3 (v := .int (σ11.2.1 a1 3)) g15 rfl (Cn := R_Ha) (T := T_Ha) (N := 4) rfl (by decide) rfl uw_Ha (by decide) u_778 (fun _ q => q) h_Ve_giveHandler_22 ?_
  refine lv_iadd hx hb h_Ve_giveHandler_25 ?_
  obtain ⟨r16, e_r16, hw⟩ := hw
  subst e_r16
  have hl : lv_has ls 4 [(0, .ref a0), (1, .ref a1), (2, .ref a2), (3, .int x3)] := hl
  refine W.eq (g2 := F0 m 26 ls [.int ((32 : Int32) + (σ11.2.1 a1 3)), .ref r16]) rfl ?_
  obtain ⟨g17, hw⟩ := hw
  refine C_callVi (As := [.int ((32 : Int32) + (σ11.2.1 a1 3))]) (rest := []) C h (ci := 8) (Cn := R_St) (T := T_St) (N := 4) g17 rfl (by decide) (X_St_push l dC dI ca H σ11 r16 ((32 : Int32) + (σ11.2.1 a1 3)) hw) (cwV 1 hts (gV hsub u_779 u_518 u_519 u_502 u_520) rfl rfl rfl (by decide +kernel) ⟨(Nat.le_of_ble_eq_true rfl), (Nat.le_of_ble_eq_true rfl)⟩) rfl hl.1 (Nat.le_of_ble_eq_true rfl) h_Ve_giveHandler_26 (fun r19 σ18 H locs cells slots hw9 h9 => ?_)
  clear hw h; have hw := hw9; have h := h9; clear hw9 h9
  refine W.eq (g2 := F0 m 29 ls [.int r19]) rfl ?_
  refine lv_if_eq (tgt := 47) hx hb h_Ve_giveHandler_29 (by decide) (fun c20 => ?_) (fun c20 => ?_)
  · skip
    replace hw := hw.1 c20
    refine lv_aload_n hx hb h_Ve_giveHandler_47 rfl (lv_at hl 0 rfl) ?_
    obtain ⟨g21, hw⟩ := hw
    refine C_get C h 10 1 (v := va_rf (σ18.2.2.2.1 a0 1)) g21 rfl (Cn := R_Ve) (T := T_Ve) (N := 10) rfl (by decide) rfl uw_Ve (by decide) u_681 (fun _ q => q) h_Ve_giveHandler_48 ?_
    refine lv_topq (fun b22 e_b22 => ?_)
    replace hw := hw b22 e_b22
    refine lv_bipush (v := 7) hx hb h_Ve_giveHandler_51 (by decide) ?_
    refine lv_iload_n hx hb h_Ve_giveHandler_53 rfl (lv_at hl 3 rfl) ?_
    obtain ⟨r23, e_r23, hw⟩ := hw
    subst e_r23
    have hl : lv_has ls 4 [(0, .ref a0), (1, .ref a1), (2, .ref a2), (3, .int x3)] := hl
    refine W.eq (g2 := F0 m 54 ls [.int x3, .int 7, .ref r23]) rfl ?_
    obtain ⟨g24, hw⟩ := hw
    refine C_callVv (As := [.int 7, .int x3]) (rest := []) C h (ci := 5) (Cn := R_E) (T := T_E) (N := 13) g24 rfl (by decide) (X_E_fail l dC dI ca H σ18 r23 (7 : Int32) x3 hw) (cwV 2 hts (gV hsub u_728 u_729 u_730 u_229 u_731) rfl rfl rfl (by decide +kernel) ⟨(Nat.le_of_ble_eq_true rfl), (Nat.le_of_ble_eq_true rfl)⟩) rfl hl.1 (Nat.le_of_ble_eq_true rfl) h_Ve_giveHandler_54 (fun σ25 H locs cells slots hw9 h9 => ?_)
    clear hw h; have hw := hw9; have h := h9; clear hw9 h9
    refine W.eq (g2 := F0 m 57 ls []) rfl ?_
    exact hend σ25 _ _ _ _ _ _ hw h h_Ve_giveHandler_57
  · skip
    replace hw := hw.2 c20
    refine lv_aload_n hx hb h_Ve_giveHandler_32 rfl (lv_at hl 0 rfl) ?_
    refine lv_aload_n hx hb h_Ve_giveHandler_33 rfl (lv_at hl 1 rfl) ?_
    obtain ⟨g27, hw⟩ := hw
    refine C_get C h 7 2 (v := .int (σ18.2.1 a1 2)) g27 rfl (Cn := R_Ha) (T := T_Ha) (N := 4) rfl (by decide) rfl uw_Ha (by decide) u_750 (fun _ q => q) h_Ve_giveHandler_34 ?_
    refine lv_aload_n hx hb h_Ve_giveHandler_37 rfl (lv_at hl 0 rfl) ?_
    obtain ⟨g28, hw⟩ := hw
    refine C_get C h 10 9 (v := va_rf (σ18.2.2.2.1 a0 9)) g28 rfl (Cn := R_Ve) (T := T_Ve) (N := 10) rfl (by decide) rfl uw_Ve (by decide) u_702 (fun _ q => q) h_Ve_giveHandler_38 ?_
    refine lv_topq (fun b29 e_b29 => ?_)
    replace hw := hw b29 e_b29
    obtain ⟨r30, e_r30, hw⟩ := hw
    subst e_r30
    have hl : lv_has ls 4 [(0, .ref a0), (1, .ref a1), (2, .ref a2), (3, .int x3)] := hl
    refine W.eq (g2 := F0 m 41 ls [.ref r30, .int (σ18.2.1 a1 2), .ref a0]) rfl ?_
    refine C_callVv (As := [.int (σ18.2.1 a1 2), .ref r30]) (rest := []) C h (ci := 10) (Cn := R_Ve) (T := T_Ve) (N := 10) g28 rfl (by decide) (X_Ve_give l dC dI ca H σ18 a0 (σ18.2.1 a1 2) r30 hw) (cwV 2 hts (gV hsub u_780 u_781 u_782 u_726 u_783) rfl rfl rfl (by decide +kernel) ⟨(Nat.le_of_ble_eq_true rfl), (Nat.le_of_ble_eq_true rfl)⟩) rfl hl.1 (Nat.le_of_ble_eq_true rfl) h_Ve_giveHandler_41 (fun σ31 H locs cells slots hw9 h9 => ?_)
    clear hw h; have hw := hw9; have h := h9; clear hw9 h9
    refine W.eq (g2 := F0 m 44 ls []) rfl ?_
    refine lv_goto (tgt := 57) hx hb h_Ve_giveHandler_44 (by decide) ?_
    exact hend σ31 _ _ _ _ _ _ hw h h_Ve_giveHandler_57
abbrev g_Ve_look : MethodName := ⟨"MapFramer$Verifier", "look", "(I)V"⟩
theorem u_784 : (Cond.methodLink "MapFramer$Verifier" 187 ⟨"MapFramer$Op", "endsFlow", "(I)Z"⟩ : Cond) ∈ bigW := inB_5 62 (by decide +kernel) rfl
theorem u_785 : (Cond.methodLink "MapFramer$Verifier" 177 ⟨"MapFramer$Handler", "covers", "(I)Z"⟩ : Cond) ∈ bigW := inB_5 45 (by decide +kernel) rfl
theorem u_786 : (Cond.methodLink "MapFramer$Verifier" 180 ⟨"MapFramer$Verifier", "giveHandler", "(LMapFramer$Handler;LMapFramer$State;I)V"⟩ : Cond) ∈ bigW := inB_5 49 (by decide +kernel) rfl
theorem u_787 : (Cond.instanceMethod ⟨"MapFramer$Verifier", "giveHandler", "(LMapFramer$Handler;LMapFramer$State;I)V"⟩ : Cond) ∈ bigW := inB_5 51 (by decide +kernel) rfl
theorem u_788 : (Cond.selects "MapFramer$Verifier" ⟨"MapFramer$Verifier", "giveHandler", "(LMapFramer$Handler;LMapFramer$State;I)V"⟩ ⟨"MapFramer$Verifier", "giveHandler", "(LMapFramer$Handler;LMapFramer$State;I)V"⟩ : Cond) ∈ bigW := inS (y := ⟨"MapFramer$Verifier", "giveHandler", "(LMapFramer$Handler;LMapFramer$State;I)V"⟩) (n := 10) (List.mem_of_getElem? (i := 37) (by decide +kernel))
theorem u_789 : (Cond.code ⟨"MapFramer$Verifier", "giveHandler", "(LMapFramer$Handler;LMapFramer$State;I)V"⟩ prog_11_method_11_code 4 none : Cond) ∈ bigW := inB_5 52 rfl rfl
theorem u_790 : (Cond.methodLink "MapFramer$Verifier" 184 ⟨"MapFramer$Op", "isStore", "(I)Z"⟩ : Cond) ∈ bigW := inB_5 59 (by decide +kernel) rfl
theorem u_791 : (Cond.static ⟨"MapFramer$Op", "isStore", "(I)Z"⟩ : Cond) ∈ bigW := inB_5 60 (by decide +kernel) rfl
theorem u_792 : (Cond.code ⟨"MapFramer$Op", "isStore", "(I)Z"⟩ prog_8_method_6_code 1 (some .boolean) : Cond) ∈ bigW := inB_5 61 rfl rfl
theorem u_793 : (Cond.methodLink "MapFramer$Verifier" 173 ⟨"MapFramer$Stepper", "step", "(LMapFramer$State;I)I"⟩ : Cond) ∈ bigW := inB_4 118 (by decide +kernel) rfl
theorem u_794 : (Cond.instanceMethod ⟨"MapFramer$Stepper", "step", "(LMapFramer$State;I)I"⟩ : Cond) ∈ bigW := inB_4 119 (by decide +kernel) rfl
theorem u_795 : (Cond.selects "MapFramer$Stepper" ⟨"MapFramer$Stepper", "step", "(LMapFramer$State;I)I"⟩ ⟨"MapFramer$Stepper", "step", "(LMapFramer$State;I)I"⟩ : Cond) ∈ bigW := inB_4 120 (by decide +kernel) rfl
theorem u_796 : (Cond.code ⟨"MapFramer$Stepper", "step", "(LMapFramer$State;I)I"⟩ prog_10_method_2_code 4 (some .int) : Cond) ∈ bigW := inB_4 121 rfl rfl
theorem h_Ve_look_0 : decode prog_11_method_10_code 0 = .ok (.aload_n 0, 1) := by decide +kernel
theorem h_Ve_look_1 : decode prog_11_method_10_code 1 = .ok (.getfield 43, 3) := by decide +kernel
theorem h_Ve_look_4 : decode prog_11_method_10_code 4 = .ok (.iload_n 1, 1) := by decide +kernel
theorem h_Ve_look_5 : decode prog_11_method_10_code 5 = .ok (.aaload, 1) := by decide +kernel
theorem h_Ve_look_6 : decode prog_11_method_10_code 6 = .ok (.ifnonnull 4, 3) := by decide +kernel
theorem h_Ve_look_9 : decode prog_11_method_10_code 9 = .ok (.return_, 1) := by decide +kernel
theorem h_Ve_look_10 : decode prog_11_method_10_code 10 = .ok (.aload_n 0, 1) := by decide +kernel
theorem h_Ve_look_11 : decode prog_11_method_10_code 11 = .ok (.getfield 57, 3) := by decide +kernel
theorem h_Ve_look_14 : decode prog_11_method_10_code 14 = .ok (.aload_n 0, 1) := by decide +kernel
theorem h_Ve_look_15 : decode prog_11_method_10_code 15 = .ok (.getfield 43, 3) := by decide +kernel
theorem h_Ve_look_18 : decode prog_11_method_10_code 18 = .ok (.iload_n 1, 1) := by decide +kernel
theorem h_Ve_look_19 : decode prog_11_method_10_code 19 = .ok (.aaload, 1) := by decide +kernel
theorem h_Ve_look_20 : decode prog_11_method_10_code 20 = .ok (.invokevirtual 169, 3) := by decide +kernel
theorem h_Ve_look_23 : decode prog_11_method_10_code 23 = .ok (.aload_n 0, 1) := by decide +kernel
theorem h_Ve_look_24 : decode prog_11_method_10_code 24 = .ok (.getfield 61, 3) := by decide +kernel
theorem h_Ve_look_27 : decode prog_11_method_10_code 27 = .ok (.aload_n 0, 1) := by decide +kernel
theorem h_Ve_look_28 : decode prog_11_method_10_code 28 = .ok (.getfield 57, 3) := by decide +kernel
theorem h_Ve_look_31 : decode prog_11_method_10_code 31 = .ok (.invokevirtual 169, 3) := by decide +kernel
theorem h_Ve_look_34 : decode prog_11_method_10_code 34 = .ok (.aload_n 0, 1) := by decide +kernel
theorem h_Ve_look_35 : decode prog_11_method_10_code 35 = .ok (.getfield 24, 3) := by decide +kernel
theorem h_Ve_look_38 : decode prog_11_method_10_code 38 = .ok (.aload_n 0, 1) := by decide +kernel
theorem h_Ve_look_39 : decode prog_11_method_10_code 39 = .ok (.getfield 61, 3) := by decide +kernel
theorem h_Ve_look_42 : decode prog_11_method_10_code 42 = .ok (.iload_n 1, 1) := by decide +kernel
theorem h_Ve_look_43 : decode prog_11_method_10_code 43 = .ok (.invokevirtual 173, 3) := by decide +kernel
theorem h_Ve_look_46 : decode prog_11_method_10_code 46 = .ok (.istore_n 2, 1) := by decide +kernel
theorem h_Ve_look_47 : decode prog_11_method_10_code 47 = .ok (.iload_n 2, 1) := by decide +kernel
theorem h_Ve_look_48 : decode prog_11_method_10_code 48 = .ok (.ifCond .eq 13, 3) := by decide +kernel
theorem h_Ve_look_51 : decode prog_11_method_10_code 51 = .ok (.aload_n 0, 1) := by decide +kernel
theorem h_Ve_look_52 : decode prog_11_method_10_code 52 = .ok (.getfield 15, 3) := by decide +kernel
theorem h_Ve_look_55 : decode prog_11_method_10_code 55 = .ok (.iload_n 2, 1) := by decide +kernel
theorem h_Ve_look_56 : decode prog_11_method_10_code 56 = .ok (.iload_n 1, 1) := by decide +kernel
theorem h_Ve_look_57 : decode prog_11_method_10_code 57 = .ok (.invokevirtual 76, 3) := by decide +kernel
theorem h_Ve_look_60 : decode prog_11_method_10_code 60 = .ok (.return_, 1) := by decide +kernel
theorem h_Ve_look_61 : decode prog_11_method_10_code 61 = .ok (.aload_n 0, 1) := by decide +kernel
theorem h_Ve_look_62 : decode prog_11_method_10_code 62 = .ok (.getfield 15, 3) := by decide +kernel
theorem h_Ve_look_65 : decode prog_11_method_10_code 65 = .ok (.getfield 28, 3) := by decide +kernel
theorem h_Ve_look_68 : decode prog_11_method_10_code 68 = .ok (.iload_n 1, 1) := by decide +kernel
theorem h_Ve_look_69 : decode prog_11_method_10_code 69 = .ok (.iaload, 1) := by decide +kernel
theorem h_Ve_look_70 : decode prog_11_method_10_code 70 = .ok (.istore_n 3, 1) := by decide +kernel
theorem h_Ve_look_71 : decode prog_11_method_10_code 71 = .ok (.iconst 0, 1) := by decide +kernel
theorem h_Ve_look_72 : decode prog_11_method_10_code 72 = .ok (.istore 4, 2) := by decide +kernel
theorem h_Ve_look_74 : decode prog_11_method_10_code 74 = .ok (.iload 4, 2) := by decide +kernel
theorem h_Ve_look_76 : decode prog_11_method_10_code 76 = .ok (.aload_n 0, 1) := by decide +kernel
theorem h_Ve_look_77 : decode prog_11_method_10_code 77 = .ok (.getfield 15, 3) := by decide +kernel
theorem h_Ve_look_80 : decode prog_11_method_10_code 80 = .ok (.getfield 123, 3) := by decide +kernel
theorem h_Ve_look_83 : decode prog_11_method_10_code 83 = .ok (.invokevirtual 127, 3) := by decide +kernel
theorem h_Ve_look_86 : decode prog_11_method_10_code 86 = .ok (.if_icmp .ge 64, 3) := by decide +kernel
theorem h_Ve_look_89 : decode prog_11_method_10_code 89 = .ok (.aload_n 0, 1) := by decide +kernel
theorem h_Ve_look_90 : decode prog_11_method_10_code 90 = .ok (.getfield 15, 3) := by decide +kernel
theorem h_Ve_look_93 : decode prog_11_method_10_code 93 = .ok (.getfield 123, 3) := by decide +kernel
theorem h_Ve_look_96 : decode prog_11_method_10_code 96 = .ok (.iload 4, 2) := by decide +kernel
theorem h_Ve_look_98 : decode prog_11_method_10_code 98 = .ok (.invokevirtual 133, 3) := by decide +kernel
theorem h_Ve_look_101 : decode prog_11_method_10_code 101 = .ok (.checkcast 137, 3) := by decide +kernel
theorem h_Ve_look_104 : decode prog_11_method_10_code 104 = .ok (.astore 5, 2) := by decide +kernel
theorem h_Ve_look_106 : decode prog_11_method_10_code 106 = .ok (.aload 5, 2) := by decide +kernel
theorem h_Ve_look_108 : decode prog_11_method_10_code 108 = .ok (.iload_n 1, 1) := by decide +kernel
theorem h_Ve_look_109 : decode prog_11_method_10_code 109 = .ok (.invokevirtual 177, 3) := by decide +kernel
theorem h_Ve_look_112 : decode prog_11_method_10_code 112 = .ok (.ifCond .eq 32, 3) := by decide +kernel
theorem h_Ve_look_115 : decode prog_11_method_10_code 115 = .ok (.aload_n 0, 1) := by decide +kernel
theorem h_Ve_look_116 : decode prog_11_method_10_code 116 = .ok (.aload 5, 2) := by decide +kernel
theorem h_Ve_look_118 : decode prog_11_method_10_code 118 = .ok (.aload_n 0, 1) := by decide +kernel
theorem h_Ve_look_119 : decode prog_11_method_10_code 119 = .ok (.getfield 57, 3) := by decide +kernel
theorem h_Ve_look_122 : decode prog_11_method_10_code 122 = .ok (.iload_n 1, 1) := by decide +kernel
theorem h_Ve_look_123 : decode prog_11_method_10_code 123 = .ok (.invokevirtual 180, 3) := by decide +kernel
theorem h_Ve_look_126 : decode prog_11_method_10_code 126 = .ok (.iload_n 3, 1) := by decide +kernel
theorem h_Ve_look_127 : decode prog_11_method_10_code 127 = .ok (.invokestatic 184, 3) := by decide +kernel
theorem h_Ve_look_130 : decode prog_11_method_10_code 130 = .ok (.ifCond .eq 14, 3) := by decide +kernel
theorem h_Ve_look_133 : decode prog_11_method_10_code 133 = .ok (.aload_n 0, 1) := by decide +kernel
theorem h_Ve_look_134 : decode prog_11_method_10_code 134 = .ok (.aload 5, 2) := by decide +kernel
theorem h_Ve_look_136 : decode prog_11_method_10_code 136 = .ok (.aload_n 0, 1) := by decide +kernel
theorem h_Ve_look_137 : decode prog_11_method_10_code 137 = .ok (.getfield 61, 3) := by decide +kernel
theorem h_Ve_look_140 : decode prog_11_method_10_code 140 = .ok (.iload_n 1, 1) := by decide +kernel
theorem h_Ve_look_141 : decode prog_11_method_10_code 141 = .ok (.invokevirtual 180, 3) := by decide +kernel
theorem h_Ve_look_144 : decode prog_11_method_10_code 144 = .ok (.iinc 4 1, 3) := by decide +kernel
theorem h_Ve_look_147 : decode prog_11_method_10_code 147 = .ok (.goto (-73), 3) := by decide +kernel
theorem h_Ve_look_150 : decode prog_11_method_10_code 150 = .ok (.iload_n 3, 1) := by decide +kernel
theorem h_Ve_look_151 : decode prog_11_method_10_code 151 = .ok (.invokestatic 187, 3) := by decide +kernel
theorem h_Ve_look_154 : decode prog_11_method_10_code 154 = .ok (.ifCond .ne 17, 3) := by decide +kernel
theorem h_Ve_look_157 : decode prog_11_method_10_code 157 = .ok (.aload_n 0, 1) := by decide +kernel
theorem h_Ve_look_158 : decode prog_11_method_10_code 158 = .ok (.iload_n 1, 1) := by decide +kernel
theorem h_Ve_look_159 : decode prog_11_method_10_code 159 = .ok (.iload_n 3, 1) := by decide +kernel
theorem h_Ve_look_160 : decode prog_11_method_10_code 160 = .ok (.invokestatic 70, 3) := by decide +kernel
theorem h_Ve_look_163 : decode prog_11_method_10_code 163 = .ok (.iadd, 1) := by decide +kernel
theorem h_Ve_look_164 : decode prog_11_method_10_code 164 = .ok (.aload_n 0, 1) := by decide +kernel
theorem h_Ve_look_165 : decode prog_11_method_10_code 165 = .ok (.getfield 61, 3) := by decide +kernel
theorem h_Ve_look_168 : decode prog_11_method_10_code 168 = .ok (.invokevirtual 157, 3) := by decide +kernel
theorem h_Ve_look_171 : decode prog_11_method_10_code 171 = .ok (.iload_n 3, 1) := by decide +kernel
theorem h_Ve_look_172 : decode prog_11_method_10_code 172 = .ok (.invokestatic 114, 3) := by decide +kernel
theorem h_Ve_look_175 : decode prog_11_method_10_code 175 = .ok (.ifCond .eq 19, 3) := by decide +kernel
theorem h_Ve_look_178 : decode prog_11_method_10_code 178 = .ok (.aload_n 0, 1) := by decide +kernel
theorem h_Ve_look_179 : decode prog_11_method_10_code 179 = .ok (.aload_n 0, 1) := by decide +kernel
theorem h_Ve_look_180 : decode prog_11_method_10_code 180 = .ok (.getfield 15, 3) := by decide +kernel
theorem h_Ve_look_183 : decode prog_11_method_10_code 183 = .ok (.iload_n 1, 1) := by decide +kernel
theorem h_Ve_look_184 : decode prog_11_method_10_code 184 = .ok (.invokevirtual 117, 3) := by decide +kernel
theorem h_Ve_look_187 : decode prog_11_method_10_code 187 = .ok (.aload_n 0, 1) := by decide +kernel
theorem h_Ve_look_188 : decode prog_11_method_10_code 188 = .ok (.getfield 61, 3) := by decide +kernel
theorem h_Ve_look_191 : decode prog_11_method_10_code 191 = .ok (.invokevirtual 157, 3) := by decide +kernel
theorem h_Ve_look_194 : decode prog_11_method_10_code 194 = .ok (.return_, 1) := by decide +kernel
def x_Ve_look_144 (a0 : Nat) (K74 : Int32 → Int32 → Int32 → CST → Prop) (P : CST → Prop) (z1 : Int32) (z3 : Int32) (z4 : Int32) (σ : CST) : Prop := K74 z1 z3 (z4 + 1) σ
def x_Ve_look_171 (a0 : Nat) (P : CST → Prop) (z1 : Int32) (z3 : Int32) (σ : CST) : Prop := x_Op_isBranch z3 σ (fun r2 σ1 => ((r2 = 0 → P σ1) ∧ (¬ r2 = 0 → σ1.1 a0 = some (10, 0) ∧ (∀ b5 : Option Nat, b5 = (σ1.2.2.2.1 a0 1) → (∃ r6 : Nat, b5 = some r6 ∧ (σ1.1 r6 = some (5, 0) ∧ (x_E_branchPlace r6 z1 σ1 (fun r9 σ8 => σ8.1 a0 = some (10, 0) ∧ (∀ b11 : Option Nat, b11 = (σ8.2.2.2.1 a0 8) → (∃ r12 : Nat, b11 = some r12 ∧ (x_Ve_give a0 r9 r12 σ8 (fun σ13 => P σ13))))))))))))
def x_Ve_look_74 (a0 : Nat) (P : CST → Prop) : Nat → Int32 → Int32 → Int32 → CST → Prop
  | 0, _, _, _, _ => False
  | n + 1, z1, z3, z4, σ => σ.1 a0 = some (10, 0) ∧ (∀ b16 : Option Nat, b16 = (σ.2.2.2.1 a0 1) → (∃ r17 : Nat, b16 = some r17 ∧ (σ.1 r17 = some (5, 0) ∧ (∀ b19 : Option Nat, b19 = (σ.2.2.2.1 r17 5) → (∃ r20 : Nat, b19 = some r20 ∧ (σ.1 r20 = some (6, 0) ∧ (x_AL_size r20 σ (fun r23 σ22 => ((r23 ≤ z4 → x_Op_endsFlow z3 σ22 (fun r26 σ25 => ((r26 = 0 → x_Op_length z3 σ25 (fun r29 σ28 => σ28.1 a0 = some (10, 0) ∧ (∀ b31 : Option Nat, b31 = (σ28.2.2.2.1 a0 8) → (∃ r32 : Nat, b31 = some r32 ∧ (x_Ve_give a0 (z1 + r29) r32 σ28 (fun σ33 => x_Ve_look_171 a0 P z1 z3 σ33)))))) ∧ (¬ r26 = 0 → x_Ve_look_171 a0 P z1 z3 σ25)))) ∧ (¬ r23 ≤ z4 → σ22.1 a0 = some (10, 0) ∧ (∀ b36 : Option Nat, b36 = (σ22.2.2.2.1 a0 1) → (∃ r37 : Nat, b36 = some r37 ∧ (σ22.1 r37 = some (5, 0) ∧ (∀ b39 : Option Nat, b39 = (σ22.2.2.2.1 r37 5) → (∃ r40 : Nat, b39 = some r40 ∧ (σ22.1 r40 = some (6, 0) ∧ (x_AL_get r40 z4 σ22 (fun r43 σ42 => ((r43 = none → False) ∧ (∀ r45 : Nat, r43 = some r45 → σ42.1 r45 = some (7, 0) ∧ (x_Ha_covers r45 z1 σ42 (fun r48 σ47 => ((r48 = 0 → x_Ve_look_144 a0 (x_Ve_look_74 a0 P n) P z1 z3 z4 σ47) ∧ (¬ r48 = 0 → σ47.1 a0 = some (10, 0) ∧ (∀ b51 : Option Nat, b51 = (σ47.2.2.2.1 a0 7) → (∃ r52 : Nat, b51 = some r52 ∧ (x_Ve_giveHandler a0 r45 r52 z1 σ47 (fun σ53 => x_Op_isStore z3 σ53 (fun r56 σ55 => ((r56 = 0 → x_Ve_look_144 a0 (x_Ve_look_74 a0 P n) P z1 z3 z4 σ55) ∧ (¬ r56 = 0 → σ55.1 a0 = some (10, 0) ∧ (∀ b59 : Option Nat, b59 = (σ55.2.2.2.1 a0 8) → (∃ r60 : Nat, b59 = some r60 ∧ (x_Ve_giveHandler a0 r45 r60 z1 σ55 (fun σ61 => x_Ve_look_144 a0 (x_Ve_look_74 a0 P n) P z1 z3 z4 σ61)))))))))))))))))))))))))))))))))))
def x_Ve_look (a0 : Nat) (x1 : Int32) (σ0 : CST) (P : CST → Prop) : Prop := σ0.1 a0 = some (10, 0) ∧ (∀ b64 : Option Nat, b64 = (σ0.2.2.2.1 a0 6) → (∃ r65 : Nat, b64 = some r65 ∧ ((∃ n67 : Nat, σ0.1 r65 = some (25, n67) ∧ (vp_in x1 n67 ∧ (∀ b69 : Option Nat, b69 = (σ0.2.2.2.1 r65 (x1 : Int32).toNatClampNeg) → ((b69 = none → P σ0) ∧ (∀ r71 : Nat, b69 = some r71 → ∀ b72 : Option Nat, b72 = (σ0.2.2.2.1 a0 7) → ∀ b73 : Option Nat, b73 = (σ0.2.2.2.1 a0 6) → (∃ r74 : Nat, b73 = some r74 ∧ ((∃ n76 : Nat, σ0.1 r74 = some (25, n76) ∧ (vp_in x1 n76 ∧ (∀ b78 : Option Nat, b78 = (σ0.2.2.2.1 r74 (x1 : Int32).toNatClampNeg) → (∃ r79 : Nat, b78 = some r79 ∧ ((∃ r80 : Nat, b72 = some r80 ∧ (σ0.1 r80 = some (8, 0) ∧ (x_St_copy r80 r79 σ0 (fun σ82 => σ82.1 a0 = some (10, 0) ∧ (∀ b85 : Option Nat, b85 = (σ82.2.2.2.1 a0 8) → ∀ b86 : Option Nat, b86 = (σ82.2.2.2.1 a0 7) → (∃ r87 : Nat, b86 = some r87 ∧ ((∃ r88 : Nat, b85 = some r88 ∧ (σ82.1 r88 = some (8, 0) ∧ (x_St_copy r88 r87 σ82 (fun σ90 => σ90.1 a0 = some (10, 0) ∧ (∀ b93 : Option Nat, b93 = (σ90.2.2.2.1 a0 2) → ∀ b94 : Option Nat, b94 = (σ90.2.2.2.1 a0 8) → (∃ r95 : Nat, b94 = some r95 ∧ ((∃ r96 : Nat, b93 = some r96 ∧ (σ90.1 r96 = some (9, 0) ∧ (x_Sp_step r96 r95 x1 σ90 (fun r99 σ98 => ((r99 = 0 → σ98.1 a0 = some (10, 0) ∧ (∀ b102 : Option Nat, b102 = (σ98.2.2.2.1 a0 1) → (∃ r103 : Nat, b102 = some r103 ∧ (σ98.1 r103 = some (5, 0) ∧ (∀ b105 : Option Nat, b105 = (σ98.2.2.2.1 r103 2) → (∃ r106 : Nat, b105 = some r106 ∧ ((∃ n108 : Nat, σ98.1 r106 = some (20, n108) ∧ (vp_in x1 n108 ∧ (∀ b110 : Int32, b110 = (σ98.2.1 r106 (x1 : Int32).toNatClampNeg) → (∃ n9 : Nat, x_Ve_look_74 a0 P n9 x1 b110 0 σ98))))))))))) ∧ (¬ r99 = 0 → σ98.1 a0 = some (10, 0) ∧ (∀ b112 : Option Nat, b112 = (σ98.2.2.2.1 a0 1) → (∃ r113 : Nat, b112 = some r113 ∧ (σ98.1 r113 = some (5, 0) ∧ (x_E_fail r113 r99 x1 σ98 (fun σ115 => P σ115))))))))))))))))))))))))))))))))))))))))
set_option maxHeartbeats 4000000 in
set_option maxRecDepth 100000 in
theorem X_Ve_look (l : Launch) (dC : Nat → ClassId) (dI : Nat → Nat → Nat) (ca : Nat → ClassId) (H0 : Heap) (σ0 : CST) (a0 : Nat) (x1 : Int32) {P : CST → Prop} (hw : x_Ve_look a0 x1 σ0 P) : Met l g_Ve_look (mW g_Ve_look prog_11_method_10_code 6 none) ({ frames := 5, cells := σ0.2.2.2.2.1, slots := σ0.2.2.2.2.2.1, locals := 187 } : Room) (va_Pc [.ref a0, .int x1] (CPre (dC, dI) ca σ0 H0)) (va_Qv P (CB (dC, dI) ca σ0 H0) (cA σ0 H0.size)) σ0.2.2.2.2.1 σ0.2.2.2.2.2.1 (cA σ0 H0.size) := by
  refine C_ofv (by decide +kernel) rfl rfl rfl (Nat.le_of_ble_eq_true rfl) ?_
  intro p e s m below meth cx Q A ls C hnm hend hH0 h hl
  subst hH0
  have C0 := C
  obtain ⟨⟨hx, hb, hml, hown, hts⟩, hsub⟩ := C0
  obtain ⟨cells, e_cells⟩ : ∃ z : Nat, z = 0 := ⟨_, rfl⟩
  obtain ⟨slots, e_slots⟩ : ∃ z : Nat, z = 0 := ⟨_, rfl⟩
  have h : CH (dC, dI) A ca ({ frames := 5, cells := σ0.2.2.2.2.1, slots := σ0.2.2.2.2.2.1, locals := 187 } : Room) σ0.2.2.2.2.2.2 σ0 s s.heap [] cells slots := by rw [e_cells, e_slots]; exact h
  show W p l e ({ frames := 5, cells := σ0.2.2.2.2.1, slots := σ0.2.2.2.2.2.1, locals := 187 } : Room) s m ([.ref a0, .int x1] : List Value).toArray below meth cx s.heap [] 0 0 Q (F0 m 0 ls [])
  rw [show W p l e ({ frames := 5, cells := σ0.2.2.2.2.1, slots := σ0.2.2.2.2.2.1, locals := 187 } : Room) s m ([.ref a0, .int x1] : List Value).toArray below meth cx s.heap [] 0 0 Q (F0 m 0 ls []) = W p l e ({ frames := 5, cells := σ0.2.2.2.2.1, slots := σ0.2.2.2.2.2.1, locals := 187 } : Room) s m ([.ref a0, .int x1] : List Value).toArray below meth cx s.heap [] cells slots Q (F0 m 0 ls []) by rw [e_cells, e_slots]]
  have K_144 : ∀ (K74 : Int32 → Int32 → Int32 → CST → Prop) (hK74 : ∀ (z1 : Int32) (z3 : Int32) (z4 : Int32) (σ : CST) (H : Heap) (locs : List Loc) (cells slots : Nat) (ls : Array Slot), K74 z1 z3 z4 σ → CH (dC, dI) A ca ({ frames := 5, cells := σ0.2.2.2.2.1, slots := σ0.2.2.2.2.2.1, locals := 187 } : Room) σ0.2.2.2.2.2.2 σ s H locs cells slots → lv_has ls 6 [(0, .ref a0), (1, .int z1), (3, .int z3), (4, .int z4)] → W p l e ({ frames := 5, cells := σ0.2.2.2.2.1, slots := σ0.2.2.2.2.2.1, locals := 187 } : Room) s m ([.ref a0, .int x1] : List Value).toArray below meth cx H locs cells slots Q (F0 m 74 ls [])), ∀ (z1 : Int32) (z3 : Int32) (z4 : Int32) (σ : CST) (H : Heap) (locs : List Loc) (cells slots : Nat) (ls : Array Slot), x_Ve_look_144 a0 K74 P z1 z3 z4 σ → CH (dC, dI) A ca ({ frames := 5, cells := σ0.2.2.2.2.1, slots := σ0.2.2.2.2.2.1, locals := 187 } : Room) σ0.2.2.2.2.2.2 σ s H locs cells slots → lv_has ls 6 [(0, .ref a0), (1, .int z1), (3, .int z3), (4, .int z4)] → W p l e ({ frames := 5, cells := σ0.2.2.2.2.1, slots := σ0.2.2.2.2.2.1, locals := 187 } : Room) s m ([.ref a0, .int x1] : List Value).toArray below meth cx H locs cells slots Q (F0 m 144 ls []) := by
    intro K74 hK74 z1 z3 z4 σ H locs cells slots ls hw h hl
    unfold x_Ve_look_144 at hw
    refine lv_iinc (v := (z4 + 1)) (lv' := [(4, .int (z4 + 1)), (0, .ref a0), (1, .int z1), (3, .int z3)]) hx hb h_Ve_look_144 hl (k := 3) rfl (rfl) (by decide) rfl (fun ls hl => ?_)
    refine lv_goto (tgt := 74) hx hb h_Ve_look_147 (by decide) ?_
    exact hK74 z1 z3 (z4 + 1) σ _ _ _ _ _ hw h (lv_sub hl [1, 2, 3, 0] rfl)
  have K_171 : ∀ (u9 : Unit), ∀ (z1 : Int32) (z3 : Int32) (σ : CST) (H : Heap) (locs : List Loc) (cells slots : Nat) (ls : Array Slot), x_Ve_look_171 a0 P z1 z3 σ → CH (dC, dI) A ca ({ frames := 5, cells := σ0.2.2.2.2.1, slots := σ0.2.2.2.2.2.1, locals := 187 } : Room) σ0.2.2.2.2.2.2 σ s H locs cells slots → lv_has ls 6 [(0, .ref a0), (1, .int z1), (3, .int z3)] → W p l e ({ frames := 5, cells := σ0.2.2.2.2.1, slots := σ0.2.2.2.2.2.1, locals := 187 } : Room) s m ([.ref a0, .int x1] : List Value).toArray below meth cx H locs cells slots Q (F0 m 171 ls []) := by
    intro u9 z1 z3 σ H locs cells slots ls hw h hl
    unfold x_Ve_look_171 at hw
    refine lv_iload_n hx hb h_Ve_look_171 rfl (lv_at hl 2 rfl) ?_
    refine C_callSi (As := [.int z3]) (rest := []) C h (X_Op_isBranch l dC dI ca H σ z3 hw) (va_cwS 1 hts (gS hsub u_742 u_379 u_327 u_380) rfl rfl rfl (by decide +kernel) ⟨(Nat.le_of_ble_eq_true rfl), (Nat.le_of_ble_eq_true rfl)⟩) rfl hl.1 (Nat.le_of_ble_eq_true rfl) h_Ve_look_172 (fun r2 σ1 H locs cells slots hw9 h9 => ?_)
    clear hw h; have hw := hw9; have h := h9; clear hw9 h9
    refine W.eq (g2 := F0 m 175 ls [.int r2]) rfl ?_
    refine lv_if_eq (tgt := 194) hx hb h_Ve_look_175 (by decide) (fun c3 => ?_) (fun c3 => ?_)
    · skip
      replace hw := hw.1 c3
      exact hend σ1 _ _ _ _ _ _ hw h h_Ve_look_194
    · skip
      replace hw := hw.2 c3
      refine lv_aload_n hx hb h_Ve_look_178 rfl (lv_at hl 0 rfl) ?_
      refine lv_aload_n hx hb h_Ve_look_179 rfl (lv_at hl 0 rfl) ?_
      obtain ⟨g4, hw⟩ := hw
      refine C_get C h 10 1 (v := va_rf (σ1.2.2.2.1 a0 1)) g4 rfl (Cn := R_Ve) (T := T_Ve) (N := 10) rfl (by decide) rfl uw_Ve (by decide) u_681 (fun _ q => q) h_Ve_look_180 ?_
      refine lv_topq (fun b5 e_b5 => ?_)
      replace hw := hw b5 e_b5
      refine lv_iload_n hx hb h_Ve_look_183 rfl (lv_at hl 1 rfl) ?_
      obtain ⟨r6, e_r6, hw⟩ := hw
      subst e_r6
      have hl : lv_has ls 6 [(0, .ref a0), (1, .int z1), (3, .int z3)] := hl
      refine W.eq (g2 := F0 m 184 ls [.int z1, .ref r6, .ref a0]) rfl ?_
      obtain ⟨g7, hw⟩ := hw
      refine C_callVi (As := [.int z1]) (rest := [.ref a0]) C h (ci := 5) (Cn := R_E) (T := T_E) (N := 13) g7 rfl (by decide) (X_E_branchPlace l dC dI ca H σ1 r6 z1 hw) (cwV 1 hts (gV hsub u_743 u_313 u_314 u_229 u_315) rfl rfl rfl (by decide +kernel) ⟨(Nat.le_of_ble_eq_true rfl), (Nat.le_of_ble_eq_true rfl)⟩) rfl hl.1 (Nat.le_of_ble_eq_true rfl) h_Ve_look_184 (fun r9 σ8 H locs cells slots hw9 h9 => ?_)
      clear hw h; have hw := hw9; have h := h9; clear hw9 h9
      refine W.eq (g2 := F0 m 187 ls [.int r9, .ref a0]) rfl ?_
      refine lv_aload_n hx hb h_Ve_look_187 rfl (lv_at hl 0 rfl) ?_
      obtain ⟨g10, hw⟩ := hw
      refine C_get C h 10 8 (v := va_rf (σ8.2.2.2.1 a0 8)) g10 rfl (Cn := R_Ve) (T := T_Ve) (N := 10) rfl (by decide) rfl uw_Ve (by decide) u_701 (fun _ q => q) h_Ve_look_188 ?_
      refine lv_topq (fun b11 e_b11 => ?_)
      replace hw := hw b11 e_b11
      obtain ⟨r12, e_r12, hw⟩ := hw
      subst e_r12
      have hl : lv_has ls 6 [(0, .ref a0), (1, .int z1), (3, .int z3)] := hl
      refine W.eq (g2 := F0 m 191 ls [.ref r12, .int r9, .ref a0]) rfl ?_
      refine C_callVv (As := [.int r9, .ref r12]) (rest := []) C h (ci := 10) (Cn := R_Ve) (T := T_Ve) (N := 10) g10 rfl (by decide) (X_Ve_give l dC dI ca H σ8 a0 r9 r12 hw) (cwV 2 hts (gV hsub u_780 u_781 u_782 u_726 u_783) rfl rfl rfl (by decide +kernel) ⟨(Nat.le_of_ble_eq_true rfl), (Nat.le_of_ble_eq_true rfl)⟩) rfl hl.1 (Nat.le_of_ble_eq_true rfl) h_Ve_look_191 (fun σ13 H locs cells slots hw9 h9 => ?_)
      clear hw h; have hw := hw9; have h := h9; clear hw9 h9
      refine W.eq (g2 := F0 m 194 ls []) rfl ?_
      exact hend σ13 _ _ _ _ _ _ hw h h_Ve_look_194
  have K_74 : ∀ (n : Nat), ∀ (z1 : Int32) (z3 : Int32) (z4 : Int32) (σ : CST) (H : Heap) (locs : List Loc) (cells slots : Nat) (ls : Array Slot), x_Ve_look_74 a0 P n z1 z3 z4 σ → CH (dC, dI) A ca ({ frames := 5, cells := σ0.2.2.2.2.1, slots := σ0.2.2.2.2.2.1, locals := 187 } : Room) σ0.2.2.2.2.2.2 σ s H locs cells slots → lv_has ls 6 [(0, .ref a0), (1, .int z1), (3, .int z3), (4, .int z4)] → W p l e ({ frames := 5, cells := σ0.2.2.2.2.1, slots := σ0.2.2.2.2.2.1, locals := 187 } : Room) s m ([.ref a0, .int x1] : List Value).toArray below meth cx H locs cells slots Q (F0 m 74 ls []) := by
    intro  n
    induction n with
    | zero => intro z1 z3 z4 σ H locs cells slots ls hw h hl; unfold x_Ve_look_74 at hw; exact hw.elim
    | succ n ih =>
      intro z1 z3 z4 σ H locs cells slots ls hw h hl
      unfold x_Ve_look_74 at hw
      refine lv_iload hx hb h_Ve_look_74 (lv_at hl 3 rfl) ?_
      refine lv_aload_n hx hb h_Ve_look_76 rfl (lv_at hl 0 rfl) ?_
      obtain ⟨g15, hw⟩ := hw
      refine C_get C h 10 1 (v := va_rf (σ.2.2.2.1 a0 1)) g15 rfl (Cn := R_Ve) (T := T_Ve) (N := 10) rfl (by decide) rfl uw_Ve (by decide) u_681 (fun _ q => q) h_Ve_look_77 ?_
      refine lv_topq (fun b16 e_b16 => ?_)
      replace hw := hw b16 e_b16
      obtain ⟨r17, e_r17, hw⟩ := hw
      subst e_r17
      have hl : lv_has ls 6 [(0, .ref a0), (1, .int z1), (3, .int z3), (4, .int z4)] := hl
      refine W.eq (g2 := F0 m 80 ls [.ref r17, .int z4]) rfl ?_
      obtain ⟨g18, hw⟩ := hw
      refine C_get C h 5 5 (v := va_rf (σ.2.2.2.1 r17 5)) g18 rfl (Cn := R_E) (T := T_E) (N := 13) rfl (by decide) rfl uw_E (by decide) u_751 (fun _ q => q) h_Ve_look_80 ?_
      refine lv_topq (fun b19 e_b19 => ?_)
      replace hw := hw b19 e_b19
      obtain ⟨r20, e_r20, hw⟩ := hw
      subst e_r20
      have hl : lv_has ls 6 [(0, .ref a0), (1, .int z1), (3, .int z3), (4, .int z4)] := hl
      refine W.eq (g2 := F0 m 83 ls [.ref r20, .int z4]) rfl ?_
      obtain ⟨g21, hw⟩ := hw
      refine C_callVi (As := []) (rest := [.int z4]) C h (ci := 6) (Cn := R_A) (T := T_A) (N := 3) g21 rfl (by decide) (X_AL_size l dC dI ca H σ r20 hw) (cwV 0 hts (gV hsub u_752 u_180 u_181 u_117 u_182) rfl rfl rfl (by decide +kernel) ⟨(Nat.le_of_ble_eq_true rfl), (Nat.le_of_ble_eq_true rfl)⟩) rfl hl.1 (Nat.le_of_ble_eq_true rfl) h_Ve_look_83 (fun r23 σ22 H locs cells slots hw9 h9 => ?_)
      clear hw h; have hw := hw9; have h := h9; clear hw9 h9
      refine W.eq (g2 := F0 m 86 ls [.int r23, .int z4]) rfl ?_
      refine lv_icmp_ge (tgt := 150) hx hb h_Ve_look_86 (by decide) (fun c24 => ?_) (fun c24 => ?_)
      · skip
        replace hw := hw.1 c24
        refine lv_iload_n hx hb h_Ve_look_150 rfl (lv_at hl 2 rfl) ?_
        refine C_callSi (As := [.int z3]) (rest := []) C h (X_Op_endsFlow l dC dI ca H σ22 z3 hw) (va_cwS 1 hts (gS hsub u_784 u_629 u_327 u_630) rfl rfl rfl (by decide +kernel) ⟨(Nat.le_of_ble_eq_true rfl), (Nat.le_of_ble_eq_true rfl)⟩) rfl hl.1 (Nat.le_of_ble_eq_true rfl) h_Ve_look_151 (fun r26 σ25 H locs cells slots hw9 h9 => ?_)
        clear hw h; have hw := hw9; have h := h9; clear hw9 h9
        refine W.eq (g2 := F0 m 154 ls [.int r26]) rfl ?_
        refine lv_if_ne (tgt := 171) hx hb h_Ve_look_154 (by decide) (fun c27 => ?_) (fun c27 => ?_)
        · skip
          replace hw := hw.2 c27
          exact K_171 () z1 z3 σ25 _ _ _ _ _ hw h (lv_sub hl [0, 1, 2] rfl)
        · skip
          replace hw := hw.1 c27
          refine lv_aload_n hx hb h_Ve_look_157 rfl (lv_at hl 0 rfl) ?_
          refine lv_iload_n hx hb h_Ve_look_158 rfl (lv_at hl 1 rfl) ?_
          refine lv_iload_n hx hb h_Ve_look_159 rfl (lv_at hl 2 rfl) ?_
          refine C_callSi (As := [.int z3]) (rest := [.int z1, .ref a0]) C h (X_Op_length l dC dI ca H σ25 z3 hw) (va_cwS 1 hts (gS hsub u_736 u_326 u_327 u_328) rfl rfl rfl (by decide +kernel) ⟨(Nat.le_of_ble_eq_true rfl), (Nat.le_of_ble_eq_true rfl)⟩) rfl hl.1 (Nat.le_of_ble_eq_true rfl) h_Ve_look_160 (fun r29 σ28 H locs cells slots hw9 h9 => ?_)
          clear hw h; have hw := hw9; have h := h9; clear hw9 h9
          refine W.eq (g2 := F0 m 163 ls [.int r29, .int z1, .ref a0]) rfl ?_
          refine lv_iadd hx hb h_Ve_look_163 ?_
          refine lv_aload_n hx hb h_Ve_look_164 rfl (lv_at hl 0 rfl) ?_
          obtain ⟨g30, hw⟩ := hw
          refine C_get C h 10 8 (v := va_rf (σ28.2.2.2.1 a0 8)) g30 rfl (Cn := R_Ve) (T := T_Ve) (N := 10) rfl (by decide) rfl uw_Ve (by decide) u_701 (fun _ q => q) h_Ve_look_165 ?_
          refine lv_topq (fun b31 e_b31 => ?_)
          replace hw := hw b31 e_b31
          obtain ⟨r32, e_r32, hw⟩ := hw
          subst e_r32
          have hl : lv_has ls 6 [(0, .ref a0), (1, .int z1), (3, .int z3), (4, .int z4)] := hl
          refine W.eq (g2 := F0 m 168 ls [.ref r32, .int (z1 + r29), .ref a0]) rfl ?_
          refine C_callVv (As := [.int (z1 + r29), .ref r32]) (rest := []) C h (ci := 10) (Cn := R_Ve) (T := T_Ve) (N := 10) g30 rfl (by decide) (X_Ve_give l dC dI ca H σ28 a0 (z1 + r29) r32 hw) (cwV 2 hts (gV hsub u_780 u_781 u_782 u_726 u_783) rfl rfl rfl (by decide +kernel) ⟨(Nat.le_of_ble_eq_true rfl), (Nat.le_of_ble_eq_true rfl)⟩) rfl hl.1 (Nat.le_of_ble_eq_true rfl) h_Ve_look_168 (fun σ33 H locs cells slots hw9 h9 => ?_)
          clear hw h; have hw := hw9; have h := h9; clear hw9 h9
          refine W.eq (g2 := F0 m 171 ls []) rfl ?_
          exact K_171 () z1 z3 σ33 _ _ _ _ _ hw h (lv_sub hl [0, 1, 2] rfl)
      · skip
        replace hw := hw.2 c24
        refine lv_aload_n hx hb h_Ve_look_89 rfl (lv_at hl 0 rfl) ?_
        obtain ⟨g35, hw⟩ := hw
        refine C_get C h 10 1 (v := va_rf (σ22.2.2.2.1 a0 1)) g35 rfl (Cn := R_Ve) (T := T_Ve) (N := 10) rfl (by decide) rfl uw_Ve (by decide) u_681 (fun _ q => q) h_Ve_look_90 ?_
        refine lv_topq (fun b36 e_b36 => ?_)
        replace hw := hw b36 e_b36
        obtain ⟨r37, e_r37, hw⟩ := hw
        subst e_r37
        have hl : lv_has ls 6 [(0, .ref a0), (1, .int z1), (3, .int z3), (4, .int z4)] := hl
        refine W.eq (g2 := F0 m 93 ls [.ref r37]) rfl ?_
        obtain ⟨g38, hw⟩ := hw
        refine C_get C h 5 5 (v := va_rf (σ22.2.2.2.1 r37 5)) g38 rfl (Cn := R_E) (T := T_E) (N := 13) rfl (by decide) rfl uw_E (by decide) u_751 (fun _ q => q) h_Ve_look_93 ?_
        refine lv_topq (fun b39 e_b39 => ?_)
        replace hw := hw b39 e_b39
        refine lv_iload hx hb h_Ve_look_96 (lv_at hl 3 rfl) ?_
        obtain ⟨r40, e_r40, hw⟩ := hw
        subst e_r40
        have hl : lv_has ls 6 [(0, .ref a0), (1, .int z1), (3, .int z3), (4, .int z4)] := hl
        refine W.eq (g2 := F0 m 98 ls [.int z4, .ref r40]) rfl ?_
        obtain ⟨g41, hw⟩ := hw
        refine C_callVq (As := [.int z4]) (rest := []) C h (ci := 6) (Cn := R_A) (T := T_A) (N := 3) g41 rfl (by decide) (X_AL_get l dC dI ca H σ22 r40 z4 hw) (cwV 1 hts (gV hsub u_753 u_172 u_173 u_117 u_174) rfl rfl rfl (by decide +kernel) ⟨(Nat.le_of_ble_eq_true rfl), (Nat.le_of_ble_eq_true rfl)⟩) rfl hl.1 (Nat.le_of_ble_eq_true rfl) h_Ve_look_98 (fun r43 σ42 H locs cells slots hw9 h9 => ?_)
        clear hw h; have hw := hw9; have h := h9; clear hw9 h9
        refine W.eq (g2 := F0 m 101 ls [va_rf r43]) rfl ?_
        rcases cq_or r43 with c44 | ⟨r45, c44⟩
        · subst c44
          replace hw := hw.1 rfl
          have hl : lv_has ls 6 [(0, .ref a0), (1, .int z1), (3, .int z3), (4, .int z4)] := hl
          refine W.eq (g2 := F0 m 101 ls [.null]) rfl ?_
          refine lv_castN hx hb h_Ve_look_101 ?_
          refine lv_astoreN (lv' := [(5, .null), (0, .ref a0), (1, .int z1), (3, .int z3), (4, .int z4)]) hx hb h_Ve_look_104 hl (by decide) rfl (fun ls hl => ?_)
          refine lv_aloadN hx hb h_Ve_look_106 (lv_at hl 0 rfl) ?_
          refine lv_iload_n hx hb h_Ve_look_108 rfl (lv_at hl 2 rfl) ?_
          exact hw.elim
        · subst c44
          replace hw := hw.2 r45 rfl
          have hl : lv_has ls 6 [(0, .ref a0), (1, .int z1), (3, .int z3), (4, .int z4)] := hl
          refine W.eq (g2 := F0 m 101 ls [.ref r45]) rfl ?_
          obtain ⟨g46, hw⟩ := hw
          refine C_cast C h 7 (Cn := R_Ha) (T := T_Ha) (N := 4) rfl (by decide) u_754 g46 h_Ve_look_101 ?_
          refine lv_astore (lv' := [(5, .ref r45), (0, .ref a0), (1, .int z1), (3, .int z3), (4, .int z4)]) hx hb h_Ve_look_104 hl (by decide) rfl (fun ls hl => ?_)
          refine lv_aload hx hb h_Ve_look_106 (lv_at hl 0 rfl) ?_
          refine lv_iload_n hx hb h_Ve_look_108 rfl (lv_at hl 2 rfl) ?_
          refine C_callVi (As := [.int z1]) (rest := []) C h (ci := 7) (Cn := R_Ha) (T := T_Ha) (N := 4) g46 rfl (by decide) (X_Ha_covers l dC dI ca H σ42 r45 z1 hw) (cwV 1 hts (gV hsub u_785 u_433 u_434 u_163 u_435) rfl rfl rfl (by decide +kernel) ⟨(Nat.le_of_ble_eq_true rfl), (Nat.le_of_ble_eq_true rfl)⟩) rfl hl.1 (Nat.le_of_ble_eq_true rfl) h_Ve_look_109 (fun r48 σ47 H locs cells slots hw9 h9 => ?_)
          clear hw h; have hw := hw9; have h := h9; clear hw9 h9
          refine W.eq (g2 := F0 m 112 ls [.int r48]) rfl ?_
          refine lv_if_eq (tgt := 144) hx hb h_Ve_look_112 (by decide) (fun c49 => ?_) (fun c49 => ?_)
          · skip
            replace hw := hw.1 c49
            exact K_144 _ ih z1 z3 z4 σ47 _ _ _ _ _ hw h (lv_sub hl [1, 2, 3, 4] rfl)
          · skip
            replace hw := hw.2 c49
            refine lv_aload_n hx hb h_Ve_look_115 rfl (lv_at hl 1 rfl) ?_
            refine lv_aload hx hb h_Ve_look_116 (lv_at hl 0 rfl) ?_
            refine lv_aload_n hx hb h_Ve_look_118 rfl (lv_at hl 1 rfl) ?_
            obtain ⟨g50, hw⟩ := hw
            refine C_get C h 10 7 (v := va_rf (σ47.2.2.2.1 a0 7)) g50 rfl (Cn := R_Ve) (T := T_Ve) (N := 10) rfl (by decide) rfl uw_Ve (by decide) u_700 (fun _ q => q) h_Ve_look_119 ?_
            refine lv_topq (fun b51 e_b51 => ?_)
            replace hw := hw b51 e_b51
            refine lv_iload_n hx hb h_Ve_look_122 rfl (lv_at hl 2 rfl) ?_
            obtain ⟨r52, e_r52, hw⟩ := hw
            subst e_r52
            have hl : lv_has ls 6 [(5, .ref r45), (0, .ref a0), (1, .int z1), (3, .int z3), (4, .int z4)] := hl
            refine W.eq (g2 := F0 m 123 ls [.int z1, .ref r52, .ref r45, .ref a0]) rfl ?_
            refine C_callVv (As := [.ref r45, .ref r52, .int z1]) (rest := []) C h (ci := 10) (Cn := R_Ve) (T := T_Ve) (N := 10) g50 rfl (by decide) (X_Ve_giveHandler l dC dI ca H σ47 a0 r45 r52 z1 hw) (cwV 3 hts (gV hsub u_786 u_787 u_788 u_726 u_789) rfl rfl rfl (by decide +kernel) ⟨(Nat.le_of_ble_eq_true rfl), (Nat.le_of_ble_eq_true rfl)⟩) rfl hl.1 (Nat.le_of_ble_eq_true rfl) h_Ve_look_123 (fun σ53 H locs cells slots hw9 h9 => ?_)
            clear hw h; have hw := hw9; have h := h9; clear hw9 h9
            refine W.eq (g2 := F0 m 126 ls []) rfl ?_
            refine lv_iload_n hx hb h_Ve_look_126 rfl (lv_at hl 3 rfl) ?_
            refine C_callSi (As := [.int z3]) (rest := []) C h (X_Op_isStore l dC dI ca H σ53 z3 hw) (va_cwS 1 hts (gS hsub u_790 u_791 u_327 u_792) rfl rfl rfl (by decide +kernel) ⟨(Nat.le_of_ble_eq_true rfl), (Nat.le_of_ble_eq_true rfl)⟩) rfl hl.1 (Nat.le_of_ble_eq_true rfl) h_Ve_look_127 (fun r56 σ55 H locs cells slots hw9 h9 => ?_)
            clear hw h; have hw := hw9; have h := h9; clear hw9 h9
            refine W.eq (g2 := F0 m 130 ls [.int r56]) rfl ?_
            refine lv_if_eq (tgt := 144) hx hb h_Ve_look_130 (by decide) (fun c57 => ?_) (fun c57 => ?_)
            · skip
              replace hw := hw.1 c57
              exact K_144 _ ih z1 z3 z4 σ55 _ _ _ _ _ hw h (lv_sub hl [1, 2, 3, 4] rfl)
            · skip
              replace hw := hw.2 c57
              refine lv_aload_n hx hb h_Ve_look_133 rfl (lv_at hl 1 rfl) ?_
              refine lv_aload hx hb h_Ve_look_134 (lv_at hl 0 rfl) ?_
              refine lv_aload_n hx hb h_Ve_look_136 rfl (lv_at hl 1 rfl) ?_
              obtain ⟨g58, hw⟩ := hw
              refine C_get C h 10 8 (v := va_rf (σ55.2.2.2.1 a0 8)) g58 rfl (Cn := R_Ve) (T := T_Ve) (N := 10) rfl (by decide) rfl uw_Ve (by decide) u_701 (fun _ q => q) h_Ve_look_137 ?_
              refine lv_topq (fun b59 e_b59 => ?_)
              replace hw := hw b59 e_b59
              refine lv_iload_n hx hb h_Ve_look_140 rfl (lv_at hl 2 rfl) ?_
              obtain ⟨r60, e_r60, hw⟩ := hw
              subst e_r60
              have hl : lv_has ls 6 [(5, .ref r45), (0, .ref a0), (1, .int z1), (3, .int z3), (4, .int z4)] := hl
              refine W.eq (g2 := F0 m 141 ls [.int z1, .ref r60, .ref r45, .ref a0]) rfl ?_
              refine C_callVv (As := [.ref r45, .ref r60, .int z1]) (rest := []) C h (ci := 10) (Cn := R_Ve) (T := T_Ve) (N := 10) g58 rfl (by decide) (X_Ve_giveHandler l dC dI ca H σ55 a0 r45 r60 z1 hw) (cwV 3 hts (gV hsub u_786 u_787 u_788 u_726 u_789) rfl rfl rfl (by decide +kernel) ⟨(Nat.le_of_ble_eq_true rfl), (Nat.le_of_ble_eq_true rfl)⟩) rfl hl.1 (Nat.le_of_ble_eq_true rfl) h_Ve_look_141 (fun σ61 H locs cells slots hw9 h9 => ?_)
              clear hw h; have hw := hw9; have h := h9; clear hw9 h9
              refine W.eq (g2 := F0 m 144 ls []) rfl ?_
              exact K_144 _ ih z1 z3 z4 σ61 _ _ _ _ _ hw h (lv_sub hl [1, 2, 3, 4] rfl)
  have hl : lv_has ls 6 [(0, .ref a0), (1, .int x1)] := hl
  unfold x_Ve_look at hw
  refine lv_aload_n hx hb h_Ve_look_0 rfl (lv_at hl 0 rfl) ?_
  obtain ⟨g63, hw⟩ := hw
  refine C_get C h 10 6 (v := va_rf (σ0.2.2.2.1 a0 6)) g63 rfl (Cn := R_Ve) (T := T_Ve) (N := 10) rfl (by decide) rfl uw_Ve (by decide) u_693 (fun _ q => q) h_Ve_look_1 ?_
  refine lv_topq (fun b64 e_b64 => ?_)
  replace hw := hw b64 e_b64
  refine lv_iload_n hx hb h_Ve_look_4 rfl (lv_at hl 1 rfl) ?_
  obtain ⟨r65, e_r65, hw⟩ := hw
  subst e_r65
  have hl : lv_has ls 6 [(0, .ref a0), (1, .int x1)] := hl
  refine W.eq (g2 := F0 m 5 ls [.int x1, .ref r65]) rfl ?_
  obtain ⟨n67, g66, hw⟩ := hw
  obtain ⟨g68, hw⟩ := hw
  refine C_aald C h 25 4 rfl (by decide) g66 g68 h_Ve_look_5 ?_
  refine lv_topq (fun b69 e_b69 => ?_)
  replace hw := hw b69 e_b69
  rcases cq_or b69 with c70 | ⟨r71, c70⟩
  · subst c70
    replace hw := hw.1 rfl
    have hl : lv_has ls 6 [(0, .ref a0), (1, .int x1)] := hl
    refine W.eq (g2 := F0 m 6 ls [.null]) rfl ?_
    refine lv_ifnonnullN hx hb h_Ve_look_6 ?_
    exact hend σ0 _ _ _ _ _ _ hw h h_Ve_look_9
  · subst c70
    replace hw := hw.2 r71 rfl
    have hl : lv_has ls 6 [(0, .ref a0), (1, .int x1)] := hl
    refine W.eq (g2 := F0 m 6 ls [.ref r71]) rfl ?_
    refine lv_ifnonnull (tgt := 10) hx hb h_Ve_look_6 (by decide) ?_
    refine lv_aload_n hx hb h_Ve_look_10 rfl (lv_at hl 0 rfl) ?_
    refine C_get C h 10 7 (v := va_rf (σ0.2.2.2.1 a0 7)) g63 rfl (Cn := R_Ve) (T := T_Ve) (N := 10) rfl (by decide) rfl uw_Ve (by decide) u_700 (fun _ q => q) h_Ve_look_11 ?_
    refine lv_topq (fun b72 e_b72 => ?_)
    replace hw := hw b72 e_b72
    refine lv_aload_n hx hb h_Ve_look_14 rfl (lv_at hl 0 rfl) ?_
    refine C_get C h 10 6 (v := va_rf (σ0.2.2.2.1 a0 6)) g63 rfl (Cn := R_Ve) (T := T_Ve) (N := 10) rfl (by decide) rfl uw_Ve (by decide) u_693 (fun _ q => q) h_Ve_look_15 ?_
    refine lv_topq (fun b73 e_b73 => ?_)
    replace hw := hw b73 e_b73
    refine lv_iload_n hx hb h_Ve_look_18 rfl (lv_at hl 1 rfl) ?_
    obtain ⟨r74, e_r74, hw⟩ := hw
    subst e_r74
    have hl : lv_has ls 6 [(0, .ref a0), (1, .int x1)] := hl
    refine W.eq (g2 := F0 m 19 ls [.int x1, .ref r74, va_rf b72]) rfl ?_
    obtain ⟨n76, g75, hw⟩ := hw
    obtain ⟨g77, hw⟩ := hw
    refine C_aald C h 25 4 rfl (by decide) g75 g77 h_Ve_look_19 ?_
    refine lv_topq (fun b78 e_b78 => ?_)
    replace hw := hw b78 e_b78
    obtain ⟨r79, e_r79, hw⟩ := hw
    subst e_r79
    have hl : lv_has ls 6 [(0, .ref a0), (1, .int x1)] := hl
    refine W.eq (g2 := F0 m 20 ls [.ref r79, va_rf b72]) rfl ?_
    obtain ⟨r80, e_r80, hw⟩ := hw
    subst e_r80
    have hl : lv_has ls 6 [(0, .ref a0), (1, .int x1)] := hl
    refine W.eq (g2 := F0 m 20 ls [.ref r79, .ref r80]) rfl ?_
    obtain ⟨g81, hw⟩ := hw
    refine C_callVv (As := [.ref r79]) (rest := []) C h (ci := 8) (Cn := R_St) (T := T_St) (N := 4) g81 rfl (by decide) (X_St_copy l dC dI ca s.heap σ0 r80 r79 hw) (cwV 1 hts (gV hsub u_757 u_758 u_759 u_502 u_760) rfl rfl rfl (by decide +kernel) ⟨(Nat.le_of_ble_eq_true rfl), (Nat.le_of_ble_eq_true rfl)⟩) rfl hl.1 (Nat.le_of_ble_eq_true rfl) h_Ve_look_20 (fun σ82 H locs cells slots hw9 h9 => ?_)
    clear hw h; have hw := hw9; have h := h9; clear hw9 h9
    refine W.eq (g2 := F0 m 23 ls []) rfl ?_
    refine lv_aload_n hx hb h_Ve_look_23 rfl (lv_at hl 0 rfl) ?_
    obtain ⟨g84, hw⟩ := hw
    refine C_get C h 10 8 (v := va_rf (σ82.2.2.2.1 a0 8)) g84 rfl (Cn := R_Ve) (T := T_Ve) (N := 10) rfl (by decide) rfl uw_Ve (by decide) u_701 (fun _ q => q) h_Ve_look_24 ?_
    refine lv_topq (fun b85 e_b85 => ?_)
    replace hw := hw b85 e_b85
    refine lv_aload_n hx hb h_Ve_look_27 rfl (lv_at hl 0 rfl) ?_
    refine C_get C h 10 7 (v := va_rf (σ82.2.2.2.1 a0 7)) g84 rfl (Cn := R_Ve) (T := T_Ve) (N := 10) rfl (by decide) rfl uw_Ve (by decide) u_700 (fun _ q => q) h_Ve_look_28 ?_
    refine lv_topq (fun b86 e_b86 => ?_)
    replace hw := hw b86 e_b86
    obtain ⟨r87, e_r87, hw⟩ := hw
    subst e_r87
    have hl : lv_has ls 6 [(0, .ref a0), (1, .int x1)] := hl
    refine W.eq (g2 := F0 m 31 ls [.ref r87, va_rf b85]) rfl ?_
    obtain ⟨r88, e_r88, hw⟩ := hw
    subst e_r88
    have hl : lv_has ls 6 [(0, .ref a0), (1, .int x1)] := hl
    refine W.eq (g2 := F0 m 31 ls [.ref r87, .ref r88]) rfl ?_
    obtain ⟨g89, hw⟩ := hw
    refine C_callVv (As := [.ref r87]) (rest := []) C h (ci := 8) (Cn := R_St) (T := T_St) (N := 4) g89 rfl (by decide) (X_St_copy l dC dI ca H σ82 r88 r87 hw) (cwV 1 hts (gV hsub u_757 u_758 u_759 u_502 u_760) rfl rfl rfl (by decide +kernel) ⟨(Nat.le_of_ble_eq_true rfl), (Nat.le_of_ble_eq_true rfl)⟩) rfl hl.1 (Nat.le_of_ble_eq_true rfl) h_Ve_look_31 (fun σ90 H locs cells slots hw9 h9 => ?_)
    clear hw h; have hw := hw9; have h := h9; clear hw9 h9
    refine W.eq (g2 := F0 m 34 ls []) rfl ?_
    refine lv_aload_n hx hb h_Ve_look_34 rfl (lv_at hl 0 rfl) ?_
    obtain ⟨g92, hw⟩ := hw
    refine C_get C h 10 2 (v := va_rf (σ90.2.2.2.1 a0 2)) g92 rfl (Cn := R_Ve) (T := T_Ve) (N := 10) rfl (by decide) rfl uw_Ve (by decide) u_687 (fun _ q => q) h_Ve_look_35 ?_
    refine lv_topq (fun b93 e_b93 => ?_)
    replace hw := hw b93 e_b93
    refine lv_aload_n hx hb h_Ve_look_38 rfl (lv_at hl 0 rfl) ?_
    refine C_get C h 10 8 (v := va_rf (σ90.2.2.2.1 a0 8)) g92 rfl (Cn := R_Ve) (T := T_Ve) (N := 10) rfl (by decide) rfl uw_Ve (by decide) u_701 (fun _ q => q) h_Ve_look_39 ?_
    refine lv_topq (fun b94 e_b94 => ?_)
    replace hw := hw b94 e_b94
    refine lv_iload_n hx hb h_Ve_look_42 rfl (lv_at hl 1 rfl) ?_
    obtain ⟨r95, e_r95, hw⟩ := hw
    subst e_r95
    have hl : lv_has ls 6 [(0, .ref a0), (1, .int x1)] := hl
    refine W.eq (g2 := F0 m 43 ls [.int x1, .ref r95, va_rf b93]) rfl ?_
    obtain ⟨r96, e_r96, hw⟩ := hw
    subst e_r96
    have hl : lv_has ls 6 [(0, .ref a0), (1, .int x1)] := hl
    refine W.eq (g2 := F0 m 43 ls [.int x1, .ref r95, .ref r96]) rfl ?_
    obtain ⟨g97, hw⟩ := hw
    refine C_callVi (As := [.ref r95, .int x1]) (rest := []) C h (ci := 9) (Cn := R_Sp) (T := T_Sp) (N := 5) g97 rfl (by decide) (X_Sp_step l dC dI ca H σ90 r96 r95 x1 hw) (cwV 2 hts (gV hsub u_793 u_794 u_795 u_524 u_796) rfl rfl rfl (by decide +kernel) ⟨(Nat.le_of_ble_eq_true rfl), (Nat.le_of_ble_eq_true rfl)⟩) rfl hl.1 (Nat.le_of_ble_eq_true rfl) h_Ve_look_43 (fun r99 σ98 H locs cells slots hw9 h9 => ?_)
    clear hw h; have hw := hw9; have h := h9; clear hw9 h9
    refine W.eq (g2 := F0 m 46 ls [.int r99]) rfl ?_
    refine lv_istore_n (i := 2) (lv' := [(2, .int r99), (0, .ref a0), (1, .int x1)]) hx hb h_Ve_look_46 rfl hl (by decide) rfl (fun ls hl => ?_)
    refine lv_iload_n hx hb h_Ve_look_47 rfl (lv_at hl 0 rfl) ?_
    refine lv_if_eq (tgt := 61) hx hb h_Ve_look_48 (by decide) (fun c100 => ?_) (fun c100 => ?_)
    · skip
      replace hw := hw.1 c100
      refine lv_aload_n hx hb h_Ve_look_61 rfl (lv_at hl 1 rfl) ?_
      obtain ⟨g101, hw⟩ := hw
      refine C_get C h 10 1 (v := va_rf (σ98.2.2.2.1 a0 1)) g101 rfl (Cn := R_Ve) (T := T_Ve) (N := 10) rfl (by decide) rfl uw_Ve (by decide) u_681 (fun _ q => q) h_Ve_look_62 ?_
      refine lv_topq (fun b102 e_b102 => ?_)
      replace hw := hw b102 e_b102
      obtain ⟨r103, e_r103, hw⟩ := hw
      subst e_r103
      have hl : lv_has ls 6 [(2, .int r99), (0, .ref a0), (1, .int x1)] := hl
      refine W.eq (g2 := F0 m 65 ls [.ref r103]) rfl ?_
      obtain ⟨g104, hw⟩ := hw
      refine C_get C h 5 2 (v := va_rf (σ98.2.2.2.1 r103 2)) g104 rfl (Cn := R_E) (T := T_E) (N := 13) rfl (by decide) rfl uw_E (by decide) u_688 (fun _ q => q) h_Ve_look_65 ?_
      refine lv_topq (fun b105 e_b105 => ?_)
      replace hw := hw b105 e_b105
      refine lv_iload_n hx hb h_Ve_look_68 rfl (lv_at hl 2 rfl) ?_
      obtain ⟨r106, e_r106, hw⟩ := hw
      subst e_r106
      have hl : lv_has ls 6 [(2, .int r99), (0, .ref a0), (1, .int x1)] := hl
      refine W.eq (g2 := F0 m 69 ls [.int x1, .ref r106]) rfl ?_
      obtain ⟨n108, g107, hw⟩ := hw
      obtain ⟨g109, hw⟩ := hw
      refine C_iald C h g107 g109 h_Ve_look_69 ?_
      refine lv_topi (fun b110 e_b110 => ?_)
      replace hw := hw b110 e_b110
      refine lv_istore_n (i := 3) (lv' := [(3, .int b110), (2, .int r99), (0, .ref a0), (1, .int x1)]) hx hb h_Ve_look_70 rfl hl (by decide) rfl (fun ls hl => ?_)
      refine lv_iconst (v := 0) hx hb h_Ve_look_71 (by decide) ?_
      refine lv_istore (lv' := [(4, .int 0), (3, .int b110), (2, .int r99), (0, .ref a0), (1, .int x1)]) hx hb h_Ve_look_72 hl (by decide) rfl (fun ls hl => ?_)
      obtain ⟨n9, hw⟩ := hw
      exact K_74 n9 x1 b110 0 σ98 _ _ _ _ _ hw h (lv_sub hl [3, 4, 1, 0] rfl)
    · skip
      replace hw := hw.2 c100
      refine lv_aload_n hx hb h_Ve_look_51 rfl (lv_at hl 1 rfl) ?_
      obtain ⟨g111, hw⟩ := hw
      refine C_get C h 10 1 (v := va_rf (σ98.2.2.2.1 a0 1)) g111 rfl (Cn := R_Ve) (T := T_Ve) (N := 10) rfl (by decide) rfl uw_Ve (by decide) u_681 (fun _ q => q) h_Ve_look_52 ?_
      refine lv_topq (fun b112 e_b112 => ?_)
      replace hw := hw b112 e_b112
      refine lv_iload_n hx hb h_Ve_look_55 rfl (lv_at hl 0 rfl) ?_
      refine lv_iload_n hx hb h_Ve_look_56 rfl (lv_at hl 2 rfl) ?_
      obtain ⟨r113, e_r113, hw⟩ := hw
      subst e_r113
      have hl : lv_has ls 6 [(2, .int r99), (0, .ref a0), (1, .int x1)] := hl
      refine W.eq (g2 := F0 m 57 ls [.int x1, .int r99, .ref r113]) rfl ?_
      obtain ⟨g114, hw⟩ := hw
      refine C_callVv (As := [.int r99, .int x1]) (rest := []) C h (ci := 5) (Cn := R_E) (T := T_E) (N := 13) g114 rfl (by decide) (X_E_fail l dC dI ca H σ98 r113 r99 x1 hw) (cwV 2 hts (gV hsub u_728 u_729 u_730 u_229 u_731) rfl rfl rfl (by decide +kernel) ⟨(Nat.le_of_ble_eq_true rfl), (Nat.le_of_ble_eq_true rfl)⟩) rfl hl.1 (Nat.le_of_ble_eq_true rfl) h_Ve_look_57 (fun σ115 H locs cells slots hw9 h9 => ?_)
      clear hw h; have hw := hw9; have h := h9; clear hw9 h9
      refine W.eq (g2 := F0 m 60 ls []) rfl ?_
      exact hend σ115 _ _ _ _ _ _ hw h h_Ve_look_60
