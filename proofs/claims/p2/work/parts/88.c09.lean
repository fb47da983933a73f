abbrev g_Sp_popReference : MethodName := ⟨"MapFramer$Stepper", "popReference", "()I"⟩
theorem h_Sp_popReference_0 : decode prog_10_method_8_code 0 = .ok (.aload_n 0, 1) := by decide +kernel
theorem h_Sp_popReference_1 : decode prog_10_method_8_code 1 = .ok (.getfield 17, 3) := by decide +kernel
theorem h_Sp_popReference_4 : decode prog_10_method_8_code 4 = .ok (.invokevirtual 95, 3) := by decide +kernel
theorem h_Sp_popReference_7 : decode prog_10_method_8_code 7 = .ok (.istore_n 1, 1) := by decide +kernel
theorem h_Sp_popReference_8 : decode prog_10_method_8_code 8 = .ok (.iload_n 1, 1) := by decide +kernel
theorem h_Sp_popReference_9 : decode prog_10_method_8_code 9 = .ok (.invokestatic 101, 3) := by decide +kernel
theorem h_Sp_popReference_12 : decode prog_10_method_8_code 12 = .ok (.ifCond .ne 9, 3) := by decide +kernel
theorem h_Sp_popReference_15 : decode prog_10_method_8_code 15 = .ok (.aload_n 0, 1) := by decide +kernel
theorem h_Sp_popReference_16 : decode prog_10_method_8_code 16 = .ok (.bipush 6, 2) := by decide +kernel
theorem h_Sp_popReference_18 : decode prog_10_method_8_code 18 = .ok (.invokevirtual 87, 3) := by decide +kernel
theorem h_Sp_popReference_21 : decode prog_10_method_8_code 21 = .ok (.iload_n 1, 1) := by decide +kernel
theorem h_Sp_popReference_22 : decode prog_10_method_8_code 22 = .ok (.ireturn, 1) := by decide +kernel
def x_Sp_popReference (a0 : Nat) (σ0 : CST) (P : Int32 → CST → Prop) : Prop := σ0.1 a0 = some (9, 0) ∧ (∀ b2 : Option Nat, b2 = (σ0.2.2.2.1 a0 2) → (∃ r3 : Nat, b2 = some r3 ∧ (σ0.1 r3 = some (8, 0) ∧ (x_St_pop r3 σ0 (fun r6 σ5 => x_W_isReference r6 σ5 (fun r8 σ7 => ((r8 = 0 → σ7.1 a0 = some (9, 0) ∧ (x_Sp_fail a0 (6 : Int32) σ7 (fun σ11 => P r6 σ11))) ∧ (¬ r8 = 0 → P r6 σ7))))))))
set_option maxHeartbeats 4000000 in
set_option maxRecDepth 100000 in
theorem X_Sp_popReference (l : Launch) (dC : Nat → ClassId) (dI : Nat → Nat → Nat) (ca : Nat → ClassId) (H0 : Heap) (σ0 : CST) (a0 : Nat) {P : Int32 → CST → Prop} (hw : x_Sp_popReference a0 σ0 P) : Met l g_Sp_popReference (mW g_Sp_popReference prog_10_method_8_code 2 (some .int)) ({ frames := 1, cells := σ0.2.2.2.2.1, slots := σ0.2.2.2.2.2.1, locals := 21 } : Room) (va_Pc [.ref a0] (CPre (dC, dI) ca σ0 H0)) (va_Qi P (CB (dC, dI) ca σ0 H0) (cA σ0 H0.size)) σ0.2.2.2.2.1 σ0.2.2.2.2.2.1 (cA σ0 H0.size) := by
  refine C_ofi (by decide +kernel) rfl rfl rfl (Nat.le_of_ble_eq_true rfl) ?_
  intro p e s m below meth cx Q A ls C hnm hend hH0 h hl
  subst hH0
  have C0 := C
  obtain ⟨⟨hx, hb, hml, hown, hts⟩, hsub⟩ := C0
  obtain ⟨cells, e_cells⟩ : ∃ z : Nat, z = 0 := ⟨_, rfl⟩
  obtain ⟨slots, e_slots⟩ : ∃ z : Nat, z = 0 := ⟨_, rfl⟩
  have h : CH (dC, dI) A ca ({ frames := 1, cells := σ0.2.2.2.2.1, slots := σ0.2.2.2.2.2.1, locals := 21 } : Room) σ0.2.2.2.2.2.2 σ0 s s.heap [] cells slots := by rw [e_cells, e_slots]; exact h
  show W p l e ({ frames := 1, cells := σ0.2.2.2.2.1, slots := σ0.2.2.2.2.2.1, locals := 21 } : Room) s m ([.ref a0] : List Value).toArray below meth cx s.heap [] 0 0 Q (F0 m 0 ls [])
  rw [show W p l e ({ frames := 1, cells := σ0.2.2.2.2.1, slots := σ0.2.2.2.2.2.1, locals := 21 } : Room) s m ([.ref a0] : List Value).toArray below meth cx s.heap [] 0 0 Q (F0 m 0 ls []) = W p l e ({ frames := 1, cells := σ0.2.2.2.2.1, slots := σ0.2.2.2.2.2.1, locals := 21 } : Room) s m ([.ref a0] : List Value).toArray below meth cx s.heap [] cells slots Q (F0 m 0 ls []) by rw [e_cells, e_slots]]
  have hl : lv_has ls 2 [(0, .ref a0)] := hl
  unfold x_Sp_popReference at hw
  refine lv_aload_n hx hb h_Sp_popReference_0 rfl (lv_at hl 0 rfl) ?_
  obtain ⟨g1, hw⟩ := hw
  refine C_get C h 9 2 (v := va_rf (σ0.2.2.2.1 a0 2)) g1 rfl (Cn := R_Sp) (T := T_Sp) (N := 5) rfl (by decide) rfl uw_Sp (by decide) u_516 (fun _ q => q) h_Sp_popReference_1 ?_
  refine lv_topq (fun b2 e_b2 => ?_)
  replace hw := hw b2 e_b2
  obtain ⟨r3, e_r3, hw⟩ := hw
  subst e_r3
  have hl : lv_has ls 2 [(0, .ref a0)] := hl
  refine W.eq (g2 := F0 m 4 ls [.ref r3]) rfl ?_
  obtain ⟨g4, hw⟩ := hw
  refine C_callVi (As := []) (rest := []) C h (ci := 8) (Cn := R_St) (T := T_St) (N := 4) g4 rfl (by decide) (X_St_pop l dC dI ca s.heap σ0 r3 hw) (cwV 0 hts (gV hsub u_530 u_531 u_532 u_502 u_533) rfl rfl rfl (by decide +kernel) ⟨(Nat.le_of_ble_eq_true rfl), (Nat.le_of_ble_eq_true rfl)⟩) rfl hl.1 (Nat.le_of_ble_eq_true rfl) h_Sp_popReference_4 (fun r6 σ5 H locs cells slots hw9 h9 => ?_)
  clear hw h; have hw := hw9; have h := h9; clear hw9 h9
  refine W.eq (g2 := F0 m 7 ls [.int r6]) rfl ?_
  refine lv_istore_n (i := 1) (lv' := [(1, .int r6), (0, .ref a0)]) hx hb h_Sp_popReference_7 rfl hl (by decide) rfl (fun ls hl => ?_)
  refine lv_iload_n hx hb h_Sp_popReference_8 rfl (lv_at hl 0 rfl) ?_
  refine C_callSi (As := [.int r6]) (rest := []) C h (X_W_isReference l dC dI ca H σ5 r6 hw) (va_cwS 1 hts (gS hsub u_554 u_279 u_51 u_280) rfl rfl rfl (by decide +kernel) ⟨(Nat.le_of_ble_eq_true rfl), (Nat.le_of_ble_eq_true rfl)⟩) rfl hl.1 (Nat.le_of_ble_eq_true rfl) h_Sp_popReference_9 (fun r8 σ7 H locs cells slots hw9 h9 => ?_)
  clear hw h; have hw := hw9; have h := h9; clear hw9 h9
  refine W.eq (g2 := F0 m 12 ls [.int r8]) rfl ?_
  refine lv_if_ne (tgt := 21) hx hb h_Sp_popReference_12 (by decide) (fun c9 => ?_) (fun c9 => ?_)
  · skip
    replace hw := hw.2 c9
    refine lv_iload_n hx hb h_Sp_popReference_21 rfl (lv_at hl 0 rfl) ?_
    exact hend r6 σ7 _ _ _ _ _ _ hw h h_Sp_popReference_22
  · skip
    replace hw := hw.1 c9
    refine lv_aload_n hx hb h_Sp_popReference_15 rfl (lv_at hl 1 rfl) ?_
    refine lv_bipush (v := 6) hx hb h_Sp_popReference_16 (by decide) ?_
    obtain ⟨g10, hw⟩ := hw
    refine C_callVv (As := [.int 6]) (rest := []) C h (ci := 9) (Cn := R_Sp) (T := T_Sp) (N := 5) g10 rfl (by decide) (X_Sp_fail l dC dI ca H σ7 a0 (6 : Int32) hw) (cwV 1 hts (gV hsub u_521 u_522 u_523 u_524 u_525) rfl rfl rfl (by decide +kernel) ⟨(Nat.le_of_ble_eq_true rfl), (Nat.le_of_ble_eq_true rfl)⟩) rfl hl.1 (Nat.le_of_ble_eq_true rfl) h_Sp_popReference_18 (fun σ11 H locs cells slots hw9 h9 => ?_)
    clear hw h; have hw := hw9; have h := h9; clear hw9 h9
    refine W.eq (g2 := F0 m 21 ls []) rfl ?_
    refine lv_iload_n hx hb h_Sp_popReference_21 rfl (lv_at hl 0 rfl) ?_
    exact hend r6 σ11 _ _ _ _ _ _ hw h h_Sp_popReference_22
abbrev g_Sp_putElement : MethodName := ⟨"MapFramer$Stepper", "putElement", "(I)V"⟩
theorem u_580 : (Cond.methodLink "MapFramer$Stepper" 145 ⟨"MapFramer$Stepper", "popReference", "()I"⟩ : Cond) ∈ bigW := inB_4 204 (by decide +kernel) rfl
theorem u_581 : (Cond.instanceMethod ⟨"MapFramer$Stepper", "popReference", "()I"⟩ : Cond) ∈ bigW := inB_4 206 (by decide +kernel) rfl
theorem u_582 : (Cond.selects "MapFramer$Stepper" ⟨"MapFramer$Stepper", "popReference", "()I"⟩ ⟨"MapFramer$Stepper", "popReference", "()I"⟩ : Cond) ∈ bigW := inS (y := ⟨"MapFramer$Stepper", "popReference", "()I"⟩) (n := 5) (List.mem_of_getElem? (i := 24) (by decide +kernel))
theorem u_583 : (Cond.code ⟨"MapFramer$Stepper", "popReference", "()I"⟩ prog_10_method_8_code 2 (some .int) : Cond) ∈ bigW := inB_4 207 rfl rfl
theorem h_Sp_putElement_0 : decode prog_10_method_18_code 0 = .ok (.iload_n 1, 1) := by decide +kernel
theorem h_Sp_putElement_1 : decode prog_10_method_18_code 1 = .ok (.bipush 83, 2) := by decide +kernel
theorem h_Sp_putElement_3 : decode prog_10_method_18_code 3 = .ok (.if_icmp .ne 19, 3) := by decide +kernel
theorem h_Sp_putElement_6 : decode prog_10_method_18_code 6 = .ok (.aload_n 0, 1) := by decide +kernel
theorem h_Sp_putElement_7 : decode prog_10_method_18_code 7 = .ok (.invokevirtual 145, 3) := by decide +kernel
theorem h_Sp_putElement_10 : decode prog_10_method_18_code 10 = .ok (.pop, 1) := by decide +kernel
theorem h_Sp_putElement_11 : decode prog_10_method_18_code 11 = .ok (.aload_n 0, 1) := by decide +kernel
theorem h_Sp_putElement_12 : decode prog_10_method_18_code 12 = .ok (.iconst 1, 1) := by decide +kernel
theorem h_Sp_putElement_13 : decode prog_10_method_18_code 13 = .ok (.invokevirtual 116, 3) := by decide +kernel
theorem h_Sp_putElement_16 : decode prog_10_method_18_code 16 = .ok (.aload_n 0, 1) := by decide +kernel
theorem h_Sp_putElement_17 : decode prog_10_method_18_code 17 = .ok (.invokevirtual 139, 3) := by decide +kernel
theorem h_Sp_putElement_20 : decode prog_10_method_18_code 20 = .ok (.pop, 1) := by decide +kernel
theorem h_Sp_putElement_21 : decode prog_10_method_18_code 21 = .ok (.return_, 1) := by decide +kernel
theorem h_Sp_putElement_22 : decode prog_10_method_18_code 22 = .ok (.aload_n 0, 1) := by decide +kernel
theorem h_Sp_putElement_23 : decode prog_10_method_18_code 23 = .ok (.iload_n 1, 1) := by decide +kernel
theorem h_Sp_putElement_24 : decode prog_10_method_18_code 24 = .ok (.bipush 79, 2) := by decide +kernel
theorem h_Sp_putElement_26 : decode prog_10_method_18_code 26 = .ok (.if_icmp .ne 7, 3) := by decide +kernel
theorem h_Sp_putElement_29 : decode prog_10_method_18_code 29 = .ok (.iconst 1, 1) := by decide +kernel
theorem h_Sp_putElement_30 : decode prog_10_method_18_code 30 = .ok (.goto 4, 3) := by decide +kernel
theorem h_Sp_putElement_33 : decode prog_10_method_18_code 33 = .ok (.iconst 2, 1) := by decide +kernel
theorem h_Sp_putElement_34 : decode prog_10_method_18_code 34 = .ok (.invokevirtual 116, 3) := by decide +kernel
theorem h_Sp_putElement_37 : decode prog_10_method_18_code 37 = .ok (.aload_n 0, 1) := by decide +kernel
theorem h_Sp_putElement_38 : decode prog_10_method_18_code 38 = .ok (.iconst 1, 1) := by decide +kernel
theorem h_Sp_putElement_39 : decode prog_10_method_18_code 39 = .ok (.invokevirtual 116, 3) := by decide +kernel
theorem h_Sp_putElement_42 : decode prog_10_method_18_code 42 = .ok (.aload_n 0, 1) := by decide +kernel
theorem h_Sp_putElement_43 : decode prog_10_method_18_code 43 = .ok (.iload_n 1, 1) := by decide +kernel
theorem h_Sp_putElement_44 : decode prog_10_method_18_code 44 = .ok (.bipush 79, 2) := by decide +kernel
theorem h_Sp_putElement_46 : decode prog_10_method_18_code 46 = .ok (.if_icmp .ne 7, 3) := by decide +kernel
theorem h_Sp_putElement_49 : decode prog_10_method_18_code 49 = .ok (.iconst 3, 1) := by decide +kernel
theorem h_Sp_putElement_50 : decode prog_10_method_18_code 50 = .ok (.goto 4, 3) := by decide +kernel
theorem h_Sp_putElement_53 : decode prog_10_method_18_code 53 = .ok (.iconst 4, 1) := by decide +kernel
theorem h_Sp_putElement_54 : decode prog_10_method_18_code 54 = .ok (.invokevirtual 116, 3) := by decide +kernel
theorem h_Sp_putElement_57 : decode prog_10_method_18_code 57 = .ok (.return_, 1) := by decide +kernel
def x_Sp_putElement_54 (a0 : Nat) (P : CST → Prop) (s0 : Int32) (σ : CST) : Prop := σ.1 a0 = some (9, 0) ∧ (x_Sp_popAs a0 s0 σ (fun σ2 => P σ2))
def x_Sp_putElement_34 (a0 : Nat) (P : CST → Prop) (z1 : Int32) (s0 : Int32) (σ : CST) : Prop := σ.1 a0 = some (9, 0) ∧ (x_Sp_popAs a0 s0 σ (fun σ5 => σ5.1 a0 = some (9, 0) ∧ (x_Sp_popAs a0 (1 : Int32) σ5 (fun σ8 => ((z1 = 79 → x_Sp_putElement_54 a0 P 3 σ8) ∧ (¬ z1 = 79 → x_Sp_putElement_54 a0 P 4 σ8))))))
def x_Sp_putElement (a0 : Nat) (x1 : Int32) (σ0 : CST) (P : CST → Prop) : Prop := ((x1 = 83 → σ0.1 a0 = some (9, 0) ∧ (x_Sp_popReference a0 σ0 (fun r15 σ14 => σ14.1 a0 = some (9, 0) ∧ (x_Sp_popAs a0 (1 : Int32) σ14 (fun σ17 => σ17.1 a0 = some (9, 0) ∧ (x_Sp_popClassArray a0 σ17 (fun r21 σ20 => P σ20))))))) ∧ (¬ x1 = 83 → ((x1 = 79 → x_Sp_putElement_34 a0 P x1 1 σ0) ∧ (¬ x1 = 79 → x_Sp_putElement_34 a0 P x1 2 σ0))))
set_option maxHeartbeats 4000000 in
set_option maxRecDepth 100000 in
theorem X_Sp_putElement (l : Launch) (dC : Nat → ClassId) (dI : Nat → Nat → Nat) (ca : Nat → ClassId) (H0 : Heap) (σ0 : CST) (a0 : Nat) (x1 : Int32) {P : CST → Prop} (hw : x_Sp_putElement a0 x1 σ0 P) : Met l g_Sp_putElement (mW g_Sp_putElement prog_10_method_18_code 2 none) ({ frames := 3, cells := σ0.2.2.2.2.1, slots := σ0.2.2.2.2.2.1, locals := 67 } : Room) (va_Pc [.ref a0, .int x1] (CPre (dC, dI) ca σ0 H0)) (va_Qv P (CB (dC, dI) ca σ0 H0) (cA σ0 H0.size)) σ0.2.2.2.2.1 σ0.2.2.2.2.2.1 (cA σ0 H0.size) := by
  refine C_ofv (by decide +kernel) rfl rfl rfl (Nat.le_of_ble_eq_true rfl) ?_
  intro p e s m below meth cx Q A ls C hnm hend hH0 h hl
  subst hH0
  have C0 := C
  obtain ⟨⟨hx, hb, hml, hown, hts⟩, hsub⟩ := C0
  obtain ⟨cells, e_cells⟩ : ∃ z : Nat, z = 0 := ⟨_, rfl⟩
  obtain ⟨slots, e_slots⟩ : ∃ z : Nat, z = 0 := ⟨_, rfl⟩
  have h : CH (dC, dI) A ca ({ frames := 3, cells := σ0.2.2.2.2.1, slots := σ0.2.2.2.2.2.1, locals := 67 } : Room) σ0.2.2.2.2.2.2 σ0 s s.heap [] cells slots := by rw [e_cells, e_slots]; exact h
  show W p l e ({ frames := 3, cells := σ0.2.2.2.2.1, slots := σ0.2.2.2.2.2.1, locals := 67 } : Room) s m ([.ref a0, .int x1] : List Value).toArray below meth cx s.heap [] 0 0 Q (F0 m 0 ls [])
  rw [show W p l e ({ frames := 3, cells := σ0.2.2.2.2.1, slots := σ0.2.2.2.2.2.1, locals := 67 } : Room) s m ([.ref a0, .int x1] : List Value).toArray below meth cx s.heap [] 0 0 Q (F0 m 0 ls []) = W p l e ({ frames := 3, cells := σ0.2.2.2.2.1, slots := σ0.2.2.2.2.2.1, locals := 67 } : Room) s m ([.ref a0, .int x1] : List Value).toArray below meth cx s.heap [] cells slots Q (F0 m 0 ls []) by rw [e_cells, e_slots]]
  have K_54 : ∀ (u9 : Unit), ∀ (s0 : Int32) (σ : CST) (H : Heap) (locs : List Loc) (cells slots : Nat) (ls : Array Slot), x_Sp_putElement_54 a0 P s0 σ → CH (dC, dI) A ca ({ frames := 3, cells := σ0.2.2.2.2.1, slots := σ0.2.2.2.2.2.1, locals := 67 } : Room) σ0.2.2.2.2.2.2 σ s H locs cells slots → lv_has ls 2 [] → W p l e ({ frames := 3, cells := σ0.2.2.2.2.1, slots := σ0.2.2.2.2.2.1, locals := 67 } : Room) s m ([.ref a0, .int x1] : List Value).toArray below meth cx H locs cells slots Q (F0 m 54 ls [.int s0, .ref a0]) := by
    intro u9 s0 σ H locs cells slots ls hw h hl
    unfold x_Sp_putElement_54 at hw
    obtain ⟨g1, hw⟩ := hw
    refine C_callVv (As := [.int s0]) (rest := []) C h (ci := 9) (Cn := R_Sp) (T := T_Sp) (N := 5) g1 rfl (by decide) (X_Sp_popAs l dC dI ca H σ a0 s0 hw) (cwV 1 hts (gV hsub u_536 u_537 u_538 u_524 u_539) rfl rfl rfl (by decide +kernel) ⟨(Nat.le_of_ble_eq_true rfl), (Nat.le_of_ble_eq_true rfl)⟩) rfl hl.1 (Nat.le_of_ble_eq_true rfl) h_Sp_putElement_54 (fun σ2 H locs cells slots hw9 h9 => ?_)
    clear hw h; have hw := hw9; have h := h9; clear hw9 h9
    refine W.eq (g2 := F0 m 57 ls []) rfl ?_
    exact hend σ2 _ _ _ _ _ _ hw h h_Sp_putElement_57
  have K_34 : ∀ (u9 : Unit), ∀ (z1 : Int32) (s0 : Int32) (σ : CST) (H : Heap) (locs : List Loc) (cells slots : Nat) (ls : Array Slot), x_Sp_putElement_34 a0 P z1 s0 σ → CH (dC, dI) A ca ({ frames := 3, cells := σ0.2.2.2.2.1, slots := σ0.2.2.2.2.2.1, locals := 67 } : Room) σ0.2.2.2.2.2.2 σ s H locs cells slots → lv_has ls 2 [(0, .ref a0), (1, .int z1)] → W p l e ({ frames := 3, cells := σ0.2.2.2.2.1, slots := σ0.2.2.2.2.2.1, locals := 67 } : Room) s m ([.ref a0, .int x1] : List Value).toArray below meth cx H locs cells slots Q (F0 m 34 ls [.int s0, .ref a0]) := by
    intro u9 z1 s0 σ H locs cells slots ls hw h hl
    unfold x_Sp_putElement_34 at hw
    obtain ⟨g4, hw⟩ := hw
    refine C_callVv (As := [.int s0]) (rest := []) C h (ci := 9) (Cn := R_Sp) (T := T_Sp) (N := 5) g4 rfl (by decide) (X_Sp_popAs l dC dI ca H σ a0 s0 hw) (cwV 1 hts (gV hsub u_536 u_537 u_538 u_524 u_539) rfl rfl rfl (by decide +kernel) ⟨(Nat.le_of_ble_eq_true rfl), (Nat.le_of_ble_eq_true rfl)⟩) rfl hl.1 (Nat.le_of_ble_eq_true rfl) h_Sp_putElement_34 (fun σ5 H locs cells slots hw9 h9 => ?_)
    clear hw h; have hw := hw9; have h := h9; clear hw9 h9
    refine W.eq (g2 := F0 m 37 ls []) rfl ?_
    refine lv_aload_n hx hb h_Sp_putElement_37 rfl (lv_at hl 0 rfl) ?_
    refine lv_iconst (v := 1) hx hb h_Sp_putElement_38 (by decide) ?_
    obtain ⟨g7, hw⟩ := hw
    refine C_callVv (As := [.int 1]) (rest := []) C h (ci := 9) (Cn := R_Sp) (T := T_Sp) (N := 5) g7 rfl (by decide) (X_Sp_popAs l dC dI ca H σ5 a0 (1 : Int32) hw) (cwV 1 hts (gV hsub u_536 u_537 u_538 u_524 u_539) rfl rfl rfl (by decide +kernel) ⟨(Nat.le_of_ble_eq_true rfl), (Nat.le_of_ble_eq_true rfl)⟩) rfl hl.1 (Nat.le_of_ble_eq_true rfl) h_Sp_putElement_39 (fun σ8 H locs cells slots hw9 h9 => ?_)
    clear hw h; have hw := hw9; have h := h9; clear hw9 h9
    refine W.eq (g2 := F0 m 42 ls []) rfl ?_
    refine lv_aload_n hx hb h_Sp_putElement_42 rfl (lv_at hl 0 rfl) ?_
    refine lv_iload_n hx hb h_Sp_putElement_43 rfl (lv_at hl 1 rfl) ?_
    refine lv_bipush (v := 79) hx hb h_Sp_putElement_44 (by decide) ?_
    refine lv_icmp_ne (tgt := 53) hx hb h_Sp_putElement_46 (by decide) (fun c10 => ?_) (fun c10 => ?_)
    · skip
      replace hw := hw.2 c10
      refine lv_iconst (v := 4) hx hb h_Sp_putElement_53 (by decide) ?_
      exact K_54 () 4 σ8 _ _ _ _ _ hw h (lv_sub hl [] rfl)
    · skip
      replace hw := hw.1 c10
      refine lv_iconst (v := 3) hx hb h_Sp_putElement_49 (by decide) ?_
      refine lv_goto (tgt := 54) hx hb h_Sp_putElement_50 (by decide) ?_
      exact K_54 () 3 σ8 _ _ _ _ _ hw h (lv_sub hl [] rfl)
  have hl : lv_has ls 2 [(0, .ref a0), (1, .int x1)] := hl
  unfold x_Sp_putElement at hw
  refine lv_iload_n hx hb h_Sp_putElement_0 rfl (lv_at hl 1 rfl) ?_
  refine lv_bipush (v := 83) hx hb h_Sp_putElement_1 (by decide) ?_
  refine lv_icmp_ne (tgt := 22) hx hb h_Sp_putElement_3 (by decide) (fun c11 => ?_) (fun c11 => ?_)
  · skip
    replace hw := hw.2 c11
    refine lv_aload_n hx hb h_Sp_putElement_22 rfl (lv_at hl 0 rfl) ?_
    refine lv_iload_n hx hb h_Sp_putElement_23 rfl (lv_at hl 1 rfl) ?_
    refine lv_bipush (v := 79) hx hb h_Sp_putElement_24 (by decide) ?_
    refine lv_icmp_ne (tgt := 33) hx hb h_Sp_putElement_26 (by decide) (fun c12 => ?_) (fun c12 => ?_)
    · skip
      replace hw := hw.2 c12
      refine lv_iconst (v := 2) hx hb h_Sp_putElement_33 (by decide) ?_
      exact K_34 () x1 2 σ0 _ _ _ _ _ hw h (lv_sub hl [0, 1] rfl)
    · skip
      replace hw := hw.1 c12
      refine lv_iconst (v := 1) hx hb h_Sp_putElement_29 (by decide) ?_
      refine lv_goto (tgt := 34) hx hb h_Sp_putElement_30 (by decide) ?_
      exact K_34 () x1 1 σ0 _ _ _ _ _ hw h (lv_sub hl [0, 1] rfl)
  · skip
    replace hw := hw.1 c11
    refine lv_aload_n hx hb h_Sp_putElement_6 rfl (lv_at hl 0 rfl) ?_
    obtain ⟨g13, hw⟩ := hw
    refine C_callVi (As := []) (rest := []) C h (ci := 9) (Cn := R_Sp) (T := T_Sp) (N := 5) g13 rfl (by decide) (X_Sp_popReference l dC dI ca s.heap σ0 a0 hw) (cwV 0 hts (gV hsub u_580 u_581 u_582 u_524 u_583) rfl rfl rfl (by decide +kernel) ⟨(Nat.le_of_ble_eq_true rfl), (Nat.le_of_ble_eq_true rfl)⟩) rfl hl.1 (Nat.le_of_ble_eq_true rfl) h_Sp_putElement_7 (fun r15 σ14 H locs cells slots hw9 h9 => ?_)
    clear hw h; have hw := hw9; have h := h9; clear hw9 h9
    refine W.eq (g2 := F0 m 10 ls [.int r15]) rfl ?_
    refine lv_pop hx hb h_Sp_putElement_10 rfl ?_
    refine lv_aload_n hx hb h_Sp_putElement_11 rfl (lv_at hl 0 rfl) ?_
    refine lv_iconst (v := 1) hx hb h_Sp_putElement_12 (by decide) ?_
    obtain ⟨g16, hw⟩ := hw
    refine C_callVv (As := [.int 1]) (rest := []) C h (ci := 9) (Cn := R_Sp) (T := T_Sp) (N := 5) g16 rfl (by decide) (X_Sp_popAs l dC dI ca H σ14 a0 (1 : Int32) hw) (cwV 1 hts (gV hsub u_536 u_537 u_538 u_524 u_539) rfl rfl rfl (by decide +kernel) ⟨(Nat.le_of_ble_eq_true rfl), (Nat.le_of_ble_eq_true rfl)⟩) rfl hl.1 (Nat.le_of_ble_eq_true rfl) h_Sp_putElement_13 (fun σ17 H locs cells slots hw9 h9 => ?_)
    clear hw h; have hw := hw9; have h := h9; clear hw9 h9
    refine W.eq (g2 := F0 m 16 ls []) rfl ?_
    refine lv_aload_n hx hb h_Sp_putElement_16 rfl (lv_at hl 0 rfl) ?_
    obtain ⟨g19, hw⟩ := hw
    refine C_callVi (As := []) (rest := []) C h (ci := 9) (Cn := R_Sp) (T := T_Sp) (N := 5) g19 rfl (by decide) (X_Sp_popClassArray l dC dI ca H σ17 a0 hw) (cwV 0 hts (gV hsub u_540 u_541 u_542 u_524 u_543) rfl rfl rfl (by decide +kernel) ⟨(Nat.le_of_ble_eq_true rfl), (Nat.le_of_ble_eq_true rfl)⟩) rfl hl.1 (Nat.le_of_ble_eq_true rfl) h_Sp_putElement_17 (fun r21 σ20 H locs cells slots hw9 h9 => ?_)
    clear hw h; have hw := hw9; have h := h9; clear hw9 h9
    refine W.eq (g2 := F0 m 20 ls [.int r21]) rfl ?_
    refine lv_pop hx hb h_Sp_putElement_20 rfl ?_
    exact hend σ20 _ _ _ _ _ _ hw h h_Sp_putElement_21
abbrev g_Sp_popSingle : MethodName := ⟨"MapFramer$Stepper", "popSingle", "()I"⟩
theorem h_Sp_popSingle_0 : decode prog_10_method_7_code 0 = .ok (.aload_n 0, 1) := by decide +kernel
theorem h_Sp_popSingle_1 : decode prog_10_method_7_code 1 = .ok (.getfield 17, 3) := by decide +kernel
theorem h_Sp_popSingle_4 : decode prog_10_method_7_code 4 = .ok (.invokevirtual 95, 3) := by decide +kernel
theorem h_Sp_popSingle_7 : decode prog_10_method_7_code 7 = .ok (.istore_n 1, 1) := by decide +kernel
theorem h_Sp_popSingle_8 : decode prog_10_method_7_code 8 = .ok (.iload_n 1, 1) := by decide +kernel
theorem h_Sp_popSingle_9 : decode prog_10_method_7_code 9 = .ok (.ifCond .eq 8, 3) := by decide +kernel
theorem h_Sp_popSingle_12 : decode prog_10_method_7_code 12 = .ok (.iload_n 1, 1) := by decide +kernel
theorem h_Sp_popSingle_13 : decode prog_10_method_7_code 13 = .ok (.iconst 2, 1) := by decide +kernel
theorem h_Sp_popSingle_14 : decode prog_10_method_7_code 14 = .ok (.if_icmp .ne 9, 3) := by decide +kernel
theorem h_Sp_popSingle_17 : decode prog_10_method_7_code 17 = .ok (.aload_n 0, 1) := by decide +kernel
theorem h_Sp_popSingle_18 : decode prog_10_method_7_code 18 = .ok (.bipush 6, 2) := by decide +kernel
theorem h_Sp_popSingle_20 : decode prog_10_method_7_code 20 = .ok (.invokevirtual 87, 3) := by decide +kernel
theorem h_Sp_popSingle_23 : decode prog_10_method_7_code 23 = .ok (.iload_n 1, 1) := by decide +kernel
theorem h_Sp_popSingle_24 : decode prog_10_method_7_code 24 = .ok (.ireturn, 1) := by decide +kernel
def x_Sp_popSingle_17 (a0 : Nat) (P : Int32 → CST → Prop) (z1 : Int32) (σ : CST) : Prop := σ.1 a0 = some (9, 0) ∧ (x_Sp_fail a0 (6 : Int32) σ (fun σ2 => P z1 σ2))
def x_Sp_popSingle (a0 : Nat) (σ0 : CST) (P : Int32 → CST → Prop) : Prop := σ0.1 a0 = some (9, 0) ∧ (∀ b5 : Option Nat, b5 = (σ0.2.2.2.1 a0 2) → (∃ r6 : Nat, b5 = some r6 ∧ (σ0.1 r6 = some (8, 0) ∧ (x_St_pop r6 σ0 (fun r9 σ8 => ((r9 = 0 → x_Sp_popSingle_17 a0 P r9 σ8) ∧ (¬ r9 = 0 → ((r9 = 2 → x_Sp_popSingle_17 a0 P r9 σ8) ∧ (¬ r9 = 2 → P r9 σ8)))))))))
set_option maxHeartbeats 4000000 in
set_option maxRecDepth 100000 in
theorem X_Sp_popSingle (l : Launch) (dC : Nat → ClassId) (dI : Nat → Nat → Nat) (ca : Nat → ClassId) (H0 : Heap) (σ0 : CST) (a0 : Nat) {P : Int32 → CST → Prop} (hw : x_Sp_popSingle a0 σ0 P) : Met l g_Sp_popSingle (mW g_Sp_popSingle prog_10_method_7_code 2 (some .int)) ({ frames := 1, cells := σ0.2.2.2.2.1, slots := σ0.2.2.2.2.2.1, locals := 21 } : Room) (va_Pc [.ref a0] (CPre (dC, dI) ca σ0 H0)) (va_Qi P (CB (dC, dI) ca σ0 H0) (cA σ0 H0.size)) σ0.2.2.2.2.1 σ0.2.2.2.2.2.1 (cA σ0 H0.size) := by
  refine C_ofi (by decide +kernel) rfl rfl rfl (Nat.le_of_ble_eq_true rfl) ?_
  intro p e s m below meth cx Q A ls C hnm hend hH0 h hl
  subst hH0
  have C0 := C
  obtain ⟨⟨hx, hb, hml, hown, hts⟩, hsub⟩ := C0
  obtain ⟨cells, e_cells⟩ : ∃ z : Nat, z = 0 := ⟨_, rfl⟩
  obtain ⟨slots, e_slots⟩ : ∃ z : Nat, z = 0 := ⟨_, rfl⟩
  have h : CH (dC, dI) A ca ({ frames := 1, cells := σ0.2.2.2.2.1, slots := σ0.2.2.2.2.2.1, locals := 21 } : Room) σ0.2.2.2.2.2.2 σ0 s s.heap [] cells slots := by rw [e_cells, e_slots]; exact h
  show W p l e ({ frames := 1, cells := σ0.2.2.2.2.1, slots := σ0.2.2.2.2.2.1, locals := 21 } : Room) s m ([.ref a0] : List Value).toArray below meth cx s.heap [] 0 0 Q (F0 m 0 ls [])
  rw [show W p l e ({ frames := 1, cells := σ0.2.2.2.2.1, slots := σ0.2.2.2.2.2.1, locals := 21 } : Room) s m ([.ref a0] : List Value).toArray below meth cx s.heap [] 0 0 Q (F0 m 0 ls []) = W p l e ({ frames := 1, cells := σ0.2.2.2.2.1, slots := σ0.2.2.2.2.2.1, locals := 21 } : Room) s m ([.ref a0] : List Value).toArray below meth cx s.heap [] cells slots Q (F0 m 0 ls []) by rw [e_cells, e_slots]]
  have K_17 : ∀ (u9 : Unit), ∀ (z1 : Int32) (σ : CST) (H : Heap) (locs : List Loc) (cells slots : Nat) (ls : Array Slot), x_Sp_popSingle_17 a0 P z1 σ → CH (dC, dI) A ca ({ frames := 1, cells := σ0.2.2.2.2.1, slots := σ0.2.2.2.2.2.1, locals := 21 } : Room) σ0.2.2.2.2.2.2 σ s H locs cells slots → lv_has ls 2 [(0, .ref a0), (1, .int z1)] → W p l e ({ frames := 1, cells := σ0.2.2.2.2.1, slots := σ0.2.2.2.2.2.1, locals := 21 } : Room) s m ([.ref a0] : List Value).toArray below meth cx H locs cells slots Q (F0 m 17 ls []) := by
    intro u9 z1 σ H locs cells slots ls hw h hl
    unfold x_Sp_popSingle_17 at hw
    refine lv_aload_n hx hb h_Sp_popSingle_17 rfl (lv_at hl 0 rfl) ?_
    refine lv_bipush (v := 6) hx hb h_Sp_popSingle_18 (by decide) ?_
    obtain ⟨g1, hw⟩ := hw
    refine C_callVv (As := [.int 6]) (rest := []) C h (ci := 9) (Cn := R_Sp) (T := T_Sp) (N := 5) g1 rfl (by decide) (X_Sp_fail l dC dI ca H σ a0 (6 : Int32) hw) (cwV 1 hts (gV hsub u_521 u_522 u_523 u_524 u_525) rfl rfl rfl (by decide +kernel) ⟨(Nat.le_of_ble_eq_true rfl), (Nat.le_of_ble_eq_true rfl)⟩) rfl hl.1 (Nat.le_of_ble_eq_true rfl) h_Sp_popSingle_20 (fun σ2 H locs cells slots hw9 h9 => ?_)
    clear hw h; have hw := hw9; have h := h9; clear hw9 h9
    refine W.eq (g2 := F0 m 23 ls []) rfl ?_
    refine lv_iload_n hx hb h_Sp_popSingle_23 rfl (lv_at hl 1 rfl) ?_
    exact hend z1 σ2 _ _ _ _ _ _ hw h h_Sp_popSingle_24
  have hl : lv_has ls 2 [(0, .ref a0)] := hl
  unfold x_Sp_popSingle at hw
  refine lv_aload_n hx hb h_Sp_popSingle_0 rfl (lv_at hl 0 rfl) ?_
  obtain ⟨g4, hw⟩ := hw
  refine C_get C h 9 2 (v := va_rf (σ0.2.2.2.1 a0 2)) g4 rfl (Cn := R_Sp) (T := T_Sp) (N := 5) rfl (by decide) rfl uw_Sp (by decide) u_516 (fun _ q => q) h_Sp_popSingle_1 ?_
  refine lv_topq (fun b5 e_b5 => ?_)
  replace hw := hw b5 e_b5
  obtain ⟨r6, e_r6, hw⟩ := hw
  subst e_r6
  have hl : lv_has ls 2 [(0, .ref a0)] := hl
  refine W.eq (g2 := F0 m 4 ls [.ref r6]) rfl ?_
  obtain ⟨g7, hw⟩ := hw
  refine C_callVi (As := []) (rest := []) C h (ci := 8) (Cn := R_St) (T := T_St) (N := 4) g7 rfl (by decide) (X_St_pop l dC dI ca s.heap σ0 r6 hw) (cwV 0 hts (gV hsub u_530 u_531 u_532 u_502 u_533) rfl rfl rfl (by decide +kernel) ⟨(Nat.le_of_ble_eq_true rfl), (Nat.le_of_ble_eq_true rfl)⟩) rfl hl.1 (Nat.le_of_ble_eq_true rfl) h_Sp_popSingle_4 (fun r9 σ8 H locs cells slots hw9 h9 => ?_)
  clear hw h; have hw := hw9; have h := h9; clear hw9 h9
  refine W.eq (g2 := F0 m 7 ls [.int r9]) rfl ?_
  refine lv_istore_n (i := 1) (lv' := [(1, .int r9), (0, .ref a0)]) hx hb h_Sp_popSingle_7 rfl hl (by decide) rfl (fun ls hl => ?_)
  refine lv_iload_n hx hb h_Sp_popSingle_8 rfl (lv_at hl 0 rfl) ?_
  refine lv_if_eq (tgt := 17) hx hb h_Sp_popSingle_9 (by decide) (fun c10 => ?_) (fun c10 => ?_)
  · skip
    replace hw := hw.1 c10
    exact K_17 () r9 σ8 _ _ _ _ _ hw h (lv_sub hl [1, 0] rfl)
  · skip
    replace hw := hw.2 c10
    refine lv_iload_n hx hb h_Sp_popSingle_12 rfl (lv_at hl 0 rfl) ?_
    refine lv_iconst (v := 2) hx hb h_Sp_popSingle_13 (by decide) ?_
    refine lv_icmp_ne (tgt := 23) hx hb h_Sp_popSingle_14 (by decide) (fun c11 => ?_) (fun c11 => ?_)
    · skip
      replace hw := hw.2 c11
      refine lv_iload_n hx hb h_Sp_popSingle_23 rfl (lv_at hl 0 rfl) ?_
      exact hend r9 σ8 _ _ _ _ _ _ hw h h_Sp_popSingle_24
    · skip
      replace hw := hw.1 c11
      exact K_17 () r9 σ8 _ _ _ _ _ hw h (lv_sub hl [1, 0] rfl)
abbrev g_Sp_dupTwo : MethodName := ⟨"MapFramer$Stepper", "dupTwo", "()V"⟩
theorem u_584 : (Cond.methodLink "MapFramer$Stepper" 148 ⟨"MapFramer$Stepper", "popSingle", "()I"⟩ : Cond) ∈ bigW := inB_4 212 (by decide +kernel) rfl
theorem u_585 : (Cond.instanceMethod ⟨"MapFramer$Stepper", "popSingle", "()I"⟩ : Cond) ∈ bigW := inB_4 214 (by decide +kernel) rfl
theorem u_586 : (Cond.selects "MapFramer$Stepper" ⟨"MapFramer$Stepper", "popSingle", "()I"⟩ ⟨"MapFramer$Stepper", "popSingle", "()I"⟩ : Cond) ∈ bigW := inS (y := ⟨"MapFramer$Stepper", "popSingle", "()I"⟩) (n := 5) (List.mem_of_getElem? (i := 26) (by decide +kernel))
theorem u_587 : (Cond.code ⟨"MapFramer$Stepper", "popSingle", "()I"⟩ prog_10_method_7_code 2 (some .int) : Cond) ∈ bigW := inB_4 215 rfl rfl
theorem h_Sp_dupTwo_0 : decode prog_10_method_20_code 0 = .ok (.aload_n 0, 1) := by decide +kernel
theorem h_Sp_dupTwo_1 : decode prog_10_method_20_code 1 = .ok (.invokevirtual 135, 3) := by decide +kernel
theorem h_Sp_dupTwo_4 : decode prog_10_method_20_code 4 = .ok (.istore_n 1, 1) := by decide +kernel
theorem h_Sp_dupTwo_5 : decode prog_10_method_20_code 5 = .ok (.iload_n 1, 1) := by decide +kernel
theorem h_Sp_dupTwo_6 : decode prog_10_method_20_code 6 = .ok (.iconst 2, 1) := by decide +kernel
theorem h_Sp_dupTwo_7 : decode prog_10_method_20_code 7 = .ok (.if_icmp .ne 14, 3) := by decide +kernel
theorem h_Sp_dupTwo_10 : decode prog_10_method_20_code 10 = .ok (.aload_n 0, 1) := by decide +kernel
theorem h_Sp_dupTwo_11 : decode prog_10_method_20_code 11 = .ok (.iload_n 1, 1) := by decide +kernel
theorem h_Sp_dupTwo_12 : decode prog_10_method_20_code 12 = .ok (.invokevirtual 108, 3) := by decide +kernel
theorem h_Sp_dupTwo_15 : decode prog_10_method_20_code 15 = .ok (.aload_n 0, 1) := by decide +kernel
theorem h_Sp_dupTwo_16 : decode prog_10_method_20_code 16 = .ok (.iload_n 1, 1) := by decide +kernel
theorem h_Sp_dupTwo_17 : decode prog_10_method_20_code 17 = .ok (.invokevirtual 108, 3) := by decide +kernel
theorem h_Sp_dupTwo_20 : decode prog_10_method_20_code 20 = .ok (.return_, 1) := by decide +kernel
theorem h_Sp_dupTwo_21 : decode prog_10_method_20_code 21 = .ok (.aload_n 0, 1) := by decide +kernel
theorem h_Sp_dupTwo_22 : decode prog_10_method_20_code 22 = .ok (.invokevirtual 148, 3) := by decide +kernel
theorem h_Sp_dupTwo_25 : decode prog_10_method_20_code 25 = .ok (.istore_n 2, 1) := by decide +kernel
theorem h_Sp_dupTwo_26 : decode prog_10_method_20_code 26 = .ok (.aload_n 0, 1) := by decide +kernel
theorem h_Sp_dupTwo_27 : decode prog_10_method_20_code 27 = .ok (.iload_n 2, 1) := by decide +kernel
theorem h_Sp_dupTwo_28 : decode prog_10_method_20_code 28 = .ok (.invokevirtual 108, 3) := by decide +kernel
theorem h_Sp_dupTwo_31 : decode prog_10_method_20_code 31 = .ok (.aload_n 0, 1) := by decide +kernel
theorem h_Sp_dupTwo_32 : decode prog_10_method_20_code 32 = .ok (.iload_n 1, 1) := by decide +kernel
theorem h_Sp_dupTwo_33 : decode prog_10_method_20_code 33 = .ok (.invokevirtual 108, 3) := by decide +kernel
theorem h_Sp_dupTwo_36 : decode prog_10_method_20_code 36 = .ok (.aload_n 0, 1) := by decide +kernel
theorem h_Sp_dupTwo_37 : decode prog_10_method_20_code 37 = .ok (.iload_n 2, 1) := by decide +kernel
theorem h_Sp_dupTwo_38 : decode prog_10_method_20_code 38 = .ok (.invokevirtual 108, 3) := by decide +kernel
theorem h_Sp_dupTwo_41 : decode prog_10_method_20_code 41 = .ok (.aload_n 0, 1) := by decide +kernel
theorem h_Sp_dupTwo_42 : decode prog_10_method_20_code 42 = .ok (.iload_n 1, 1) := by decide +kernel
theorem h_Sp_dupTwo_43 : decode prog_10_method_20_code 43 = .ok (.invokevirtual 108, 3) := by decide +kernel
theorem h_Sp_dupTwo_46 : decode prog_10_method_20_code 46 = .ok (.return_, 1) := by decide +kernel
def x_Sp_dupTwo (a0 : Nat) (σ0 : CST) (P : CST → Prop) : Prop := σ0.1 a0 = some (9, 0) ∧ (x_Sp_pop a0 σ0 (fun r3 σ2 => ((r3 = 2 → σ2.1 a0 = some (9, 0) ∧ (x_Sp_push a0 r3 σ2 (fun σ21 => σ21.1 a0 = some (9, 0) ∧ (x_Sp_push a0 r3 σ21 (fun σ24 => P σ24))))) ∧ (¬ r3 = 2 → σ2.1 a0 = some (9, 0) ∧ (x_Sp_popSingle a0 σ2 (fun r7 σ6 => σ6.1 a0 = some (9, 0) ∧ (x_Sp_push a0 r7 σ6 (fun σ9 => σ9.1 a0 = some (9, 0) ∧ (x_Sp_push a0 r3 σ9 (fun σ12 => σ12.1 a0 = some (9, 0) ∧ (x_Sp_push a0 r7 σ12 (fun σ15 => σ15.1 a0 = some (9, 0) ∧ (x_Sp_push a0 r3 σ15 (fun σ18 => P σ18))))))))))))))
set_option maxHeartbeats 4000000 in
set_option maxRecDepth 100000 in
theorem X_Sp_dupTwo (l : Launch) (dC : Nat → ClassId) (dI : Nat → Nat → Nat) (ca : Nat → ClassId) (H0 : Heap) (σ0 : CST) (a0 : Nat) {P : CST → Prop} (hw : x_Sp_dupTwo a0 σ0 P) : Met l g_Sp_dupTwo (mW g_Sp_dupTwo prog_10_method_20_code 3 none) ({ frames := 2, cells := σ0.2.2.2.2.1, slots := σ0.2.2.2.2.2.1, locals := 43 } : Room) (va_Pc [.ref a0] (CPre (dC, dI) ca σ0 H0)) (va_Qv P (CB (dC, dI) ca σ0 H0) (cA σ0 H0.size)) σ0.2.2.2.2.1 σ0.2.2.2.2.2.1 (cA σ0 H0.size) := by
  refine C_ofv (by decide +kernel) rfl rfl rfl (Nat.le_of_ble_eq_true rfl) ?_
  intro p e s m below meth cx Q A ls C hnm hend hH0 h hl
  subst hH0
  have C0 := C
  obtain ⟨⟨hx, hb, hml, hown, hts⟩, hsub⟩ := C0
  obtain ⟨cells, e_cells⟩ : ∃ z : Nat, z = 0 := ⟨_, rfl⟩
  obtain ⟨slots, e_slots⟩ : ∃ z : Nat, z = 0 := ⟨_, rfl⟩
  have h : CH (dC, dI) A ca ({ frames := 2, cells := σ0.2.2.2.2.1, slots := σ0.2.2.2.2.2.1, locals := 43 } : Room) σ0.2.2.2.2.2.2 σ0 s s.heap [] cells slots := by rw [e_cells, e_slots]; exact h
  show W p l e ({ frames := 2, cells := σ0.2.2.2.2.1, slots := σ0.2.2.2.2.2.1, locals := 43 } : Room) s m ([.ref a0] : List Value).toArray below meth cx s.heap [] 0 0 Q (F0 m 0 ls [])
  rw [show W p l e ({ frames := 2, cells := σ0.2.2.2.2.1, slots := σ0.2.2.2.2.2.1, locals := 43 } : Room) s m ([.ref a0] : List Value).toArray below meth cx s.heap [] 0 0 Q (F0 m 0 ls []) = W p l e ({ frames := 2, cells := σ0.2.2.2.2.1, slots := σ0.2.2.2.2.2.1, locals := 43 } : Room) s m ([.ref a0] : List Value).toArray below meth cx s.heap [] cells slots Q (F0 m 0 ls []) by rw [e_cells, e_slots]]
  have hl : lv_has ls 3 [(0, .ref a0)] := hl
  unfold x_Sp_dupTwo at hw
  refine lv_aload_n hx hb h_Sp_dupTwo_0 rfl (lv_at hl 0 rfl) ?_
  obtain ⟨g1, hw⟩ := hw
  refine C_callVi (As := []) (rest := []) C h (ci := 9) (Cn := R_Sp) (T := T_Sp) (N := 5) g1 rfl (by decide) (X_Sp_pop l dC dI ca s.heap σ0 a0 hw) (cwV 0 hts (gV hsub u_560 u_561 u_562 u_524 u_563) rfl rfl rfl (by decide +kernel) ⟨(Nat.le_of_ble_eq_true rfl), (Nat.le_of_ble_eq_true rfl)⟩) rfl hl.1 (Nat.le_of_ble_eq_true rfl) h_Sp_dupTwo_1 (fun r3 σ2 H locs cells slots hw9 h9 => ?_)
  clear hw h; have hw := hw9; have h := h9; clear hw9 h9
  refine W.eq (g2 := F0 m 4 ls [.int r3]) rfl ?_
  refine lv_istore_n (i := 1) (lv' := [(1, .int r3), (0, .ref a0)]) hx hb h_Sp_dupTwo_4 rfl hl (by decide) rfl (fun ls hl => ?_)
  refine lv_iload_n hx hb h_Sp_dupTwo_5 rfl (lv_at hl 0 rfl) ?_
  refine lv_iconst (v := 2) hx hb h_Sp_dupTwo_6 (by decide) ?_
  refine lv_icmp_ne (tgt := 21) hx hb h_Sp_dupTwo_7 (by decide) (fun c4 => ?_) (fun c4 => ?_)
  · skip
    replace hw := hw.2 c4
    refine lv_aload_n hx hb h_Sp_dupTwo_21 rfl (lv_at hl 1 rfl) ?_
    obtain ⟨g5, hw⟩ := hw
    refine C_callVi (As := []) (rest := []) C h (ci := 9) (Cn := R_Sp) (T := T_Sp) (N := 5) g5 rfl (by decide) (X_Sp_popSingle l dC dI ca H σ2 a0 hw) (cwV 0 hts (gV hsub u_584 u_585 u_586 u_524 u_587) rfl rfl rfl (by decide +kernel) ⟨(Nat.le_of_ble_eq_true rfl), (Nat.le_of_ble_eq_true rfl)⟩) rfl hl.1 (Nat.le_of_ble_eq_true rfl) h_Sp_dupTwo_22 (fun r7 σ6 H locs cells slots hw9 h9 => ?_)
    clear hw h; have hw := hw9; have h := h9; clear hw9 h9
    refine W.eq (g2 := F0 m 25 ls [.int r7]) rfl ?_
    refine lv_istore_n (i := 2) (lv' := [(2, .int r7), (1, .int r3), (0, .ref a0)]) hx hb h_Sp_dupTwo_25 rfl hl (by decide) rfl (fun ls hl => ?_)
    refine lv_aload_n hx hb h_Sp_dupTwo_26 rfl (lv_at hl 2 rfl) ?_
    refine lv_iload_n hx hb h_Sp_dupTwo_27 rfl (lv_at hl 0 rfl) ?_
    obtain ⟨g8, hw⟩ := hw
    refine C_callVv (As := [.int r7]) (rest := []) C h (ci := 9) (Cn := R_Sp) (T := T_Sp) (N := 5) g8 rfl (by decide) (X_Sp_push l dC dI ca H σ6 a0 r7 hw) (cwV 1 hts (gV hsub u_526 u_527 u_528 u_524 u_529) rfl rfl rfl (by decide +kernel) ⟨(Nat.le_of_ble_eq_true rfl), (Nat.le_of_ble_eq_true rfl)⟩) rfl hl.1 (Nat.le_of_ble_eq_true rfl) h_Sp_dupTwo_28 (fun σ9 H locs cells slots hw9 h9 => ?_)
    clear hw h; have hw := hw9; have h := h9; clear hw9 h9
    refine W.eq (g2 := F0 m 31 ls []) rfl ?_
    refine lv_aload_n hx hb h_Sp_dupTwo_31 rfl (lv_at hl 2 rfl) ?_
    refine lv_iload_n hx hb h_Sp_dupTwo_32 rfl (lv_at hl 1 rfl) ?_
    obtain ⟨g11, hw⟩ := hw
    refine C_callVv (As := [.int r3]) (rest := []) C h (ci := 9) (Cn := R_Sp) (T := T_Sp) (N := 5) g11 rfl (by decide) (X_Sp_push l dC dI ca H σ9 a0 r3 hw) (cwV 1 hts (gV hsub u_526 u_527 u_528 u_524 u_529) rfl rfl rfl (by decide +kernel) ⟨(Nat.le_of_ble_eq_true rfl), (Nat.le_of_ble_eq_true rfl)⟩) rfl hl.1 (Nat.le_of_ble_eq_true rfl) h_Sp_dupTwo_33 (fun σ12 H locs cells slots hw9 h9 => ?_)
    clear hw h; have hw := hw9; have h := h9; clear hw9 h9
    refine W.eq (g2 := F0 m 36 ls []) rfl ?_
    refine lv_aload_n hx hb h_Sp_dupTwo_36 rfl (lv_at hl 2 rfl) ?_
    refine lv_iload_n hx hb h_Sp_dupTwo_37 rfl (lv_at hl 0 rfl) ?_
    obtain ⟨g14, hw⟩ := hw
    refine C_callVv (As := [.int r7]) (rest := []) C h (ci := 9) (Cn := R_Sp) (T := T_Sp) (N := 5) g14 rfl (by decide) (X_Sp_push l dC dI ca H σ12 a0 r7 hw) (cwV 1 hts (gV hsub u_526 u_527 u_528 u_524 u_529) rfl rfl rfl (by decide +kernel) ⟨(Nat.le_of_ble_eq_true rfl), (Nat.le_of_ble_eq_true rfl)⟩) rfl hl.1 (Nat.le_of_ble_eq_true rfl) h_Sp_dupTwo_38 (fun σ15 H locs cells slots hw9 h9 => ?_)
    clear hw h; have hw := hw9; have h := h9; clear hw9 h9
    refine W.eq (g2 := F0 m 41 ls []) rfl ?_
    refine lv_aload_n hx hb h_Sp_dupTwo_41 rfl (lv_at hl 2 rfl) ?_
    refine lv_iload_n hx hb h_Sp_dupTwo_42 rfl (lv_at hl 1 rfl) ?_
    obtain ⟨g17, hw⟩ := hw
    refine C_callVv (As := [.int r3]) (rest := []) C h (ci := 9) (Cn := R_Sp) (T := T_Sp) (N := 5) g17 rfl (by decide) (X_Sp_push l dC dI ca H σ15 a0 r3 hw) (cwV 1 hts (gV hsub u_526 u_527 u_528 u_524 u_529) rfl rfl rfl (by decide +kernel) ⟨(Nat.le_of_ble_eq_true rfl), (Nat.le_of_ble_eq_true rfl)⟩) rfl hl.1 (Nat.le_of_ble_eq_true rfl) h_Sp_dupTwo_43 (fun σ18 H locs cells slots hw9 h9 => ?_)
    clear hw h; have hw := hw9; have h := h9; clear hw9 h9
    refine W.eq (g2 := F0 m 46 ls []) rfl ?_
    exact hend σ18 _ _ _ _ _ _ hw h h_Sp_dupTwo_46
  · skip
    replace hw := hw.1 c4
    refine lv_aload_n hx hb h_Sp_dupTwo_10 rfl (lv_at hl 1 rfl) ?_
    refine lv_iload_n hx hb h_Sp_dupTwo_11 rfl (lv_at hl 0 rfl) ?_
    obtain ⟨g20, hw⟩ := hw
    refine C_callVv (As := [.int r3]) (rest := []) C h (ci := 9) (Cn := R_Sp) (T := T_Sp) (N := 5) g20 rfl (by decide) (X_Sp_push l dC dI ca H σ2 a0 r3 hw) (cwV 1 hts (gV hsub u_526 u_527 u_528 u_524 u_529) rfl rfl rfl (by decide +kernel) ⟨(Nat.le_of_ble_eq_true rfl), (Nat.le_of_ble_eq_true rfl)⟩) rfl hl.1 (Nat.le_of_ble_eq_true rfl) h_Sp_dupTwo_12 (fun σ21 H locs cells slots hw9 h9 => ?_)
    clear hw h; have hw := hw9; have h := h9; clear hw9 h9
    refine W.eq (g2 := F0 m 15 ls []) rfl ?_
    refine lv_aload_n hx hb h_Sp_dupTwo_15 rfl (lv_at hl 1 rfl) ?_
    refine lv_iload_n hx hb h_Sp_dupTwo_16 rfl (lv_at hl 0 rfl) ?_
    obtain ⟨g23, hw⟩ := hw
    refine C_callVv (As := [.int r3]) (rest := []) C h (ci := 9) (Cn := R_Sp) (T := T_Sp) (N := 5) g23 rfl (by decide) (X_Sp_push l dC dI ca H σ21 a0 r3 hw) (cwV 1 hts (gV hsub u_526 u_527 u_528 u_524 u_529) rfl rfl rfl (by decide +kernel) ⟨(Nat.le_of_ble_eq_true rfl), (Nat.le_of_ble_eq_true rfl)⟩) rfl hl.1 (Nat.le_of_ble_eq_true rfl) h_Sp_dupTwo_17 (fun σ24 H locs cells slots hw9 h9 => ?_)
    clear hw h; have hw := hw9; have h := h9; clear hw9 h9
    refine W.eq (g2 := F0 m 20 ls []) rfl ?_
    exact hend σ24 _ _ _ _ _ _ hw h h_Sp_dupTwo_20
abbrev g_Sp_moveOnStack : MethodName := ⟨"MapFramer$Stepper", "moveOnStack", "(I)V"⟩
theorem u_588 : (Cond.methodLink "MapFramer$Stepper" 151 ⟨"MapFramer$Stepper", "dupTwo", "()V"⟩ : Cond) ∈ bigW := inB_4 216 (by decide +kernel) rfl
theorem u_589 : (Cond.instanceMethod ⟨"MapFramer$Stepper", "dupTwo", "()V"⟩ : Cond) ∈ bigW := inB_4 218 (by decide +kernel) rfl
theorem u_590 : (Cond.selects "MapFramer$Stepper" ⟨"MapFramer$Stepper", "dupTwo", "()V"⟩ ⟨"MapFramer$Stepper", "dupTwo", "()V"⟩ : Cond) ∈ bigW := inS (y := ⟨"MapFramer$Stepper", "dupTwo", "()V"⟩) (n := 5) (List.mem_of_getElem? (i := 27) (by decide +kernel))
theorem u_591 : (Cond.code ⟨"MapFramer$Stepper", "dupTwo", "()V"⟩ prog_10_method_20_code 3 none : Cond) ∈ bigW := inB_4 219 rfl rfl
theorem h_Sp_moveOnStack_0 : decode prog_10_method_19_code 0 = .ok (.iload_n 1, 1) := by decide +kernel
theorem h_Sp_moveOnStack_1 : decode prog_10_method_19_code 1 = .ok (.tableswitch 88 87 92 #[39, 47, 63, 88, 88, 81], 39) := by decide +kernel
theorem h_Sp_moveOnStack_40 : decode prog_10_method_19_code 40 = .ok (.aload_n 0, 1) := by decide +kernel
theorem h_Sp_moveOnStack_41 : decode prog_10_method_19_code 41 = .ok (.invokevirtual 148, 3) := by decide +kernel
theorem h_Sp_moveOnStack_44 : decode prog_10_method_19_code 44 = .ok (.pop, 1) := by decide +kernel
theorem h_Sp_moveOnStack_45 : decode prog_10_method_19_code 45 = .ok (.goto 77, 3) := by decide +kernel
theorem h_Sp_moveOnStack_48 : decode prog_10_method_19_code 48 = .ok (.aload_n 0, 1) := by decide +kernel
theorem h_Sp_moveOnStack_49 : decode prog_10_method_19_code 49 = .ok (.invokevirtual 135, 3) := by decide +kernel
theorem h_Sp_moveOnStack_52 : decode prog_10_method_19_code 52 = .ok (.iconst 2, 1) := by decide +kernel
theorem h_Sp_moveOnStack_53 : decode prog_10_method_19_code 53 = .ok (.if_icmp .eq 69, 3) := by decide +kernel
theorem h_Sp_moveOnStack_56 : decode prog_10_method_19_code 56 = .ok (.aload_n 0, 1) := by decide +kernel
theorem h_Sp_moveOnStack_57 : decode prog_10_method_19_code 57 = .ok (.invokevirtual 148, 3) := by decide +kernel
theorem h_Sp_moveOnStack_60 : decode prog_10_method_19_code 60 = .ok (.pop, 1) := by decide +kernel
theorem h_Sp_moveOnStack_61 : decode prog_10_method_19_code 61 = .ok (.goto 61, 3) := by decide +kernel
theorem h_Sp_moveOnStack_64 : decode prog_10_method_19_code 64 = .ok (.aload_n 0, 1) := by decide +kernel
theorem h_Sp_moveOnStack_65 : decode prog_10_method_19_code 65 = .ok (.invokevirtual 148, 3) := by decide +kernel
theorem h_Sp_moveOnStack_68 : decode prog_10_method_19_code 68 = .ok (.istore_n 2, 1) := by decide +kernel
theorem h_Sp_moveOnStack_69 : decode prog_10_method_19_code 69 = .ok (.aload_n 0, 1) := by decide +kernel
theorem h_Sp_moveOnStack_70 : decode prog_10_method_19_code 70 = .ok (.iload_n 2, 1) := by decide +kernel
theorem h_Sp_moveOnStack_71 : decode prog_10_method_19_code 71 = .ok (.invokevirtual 108, 3) := by decide +kernel
theorem h_Sp_moveOnStack_74 : decode prog_10_method_19_code 74 = .ok (.aload_n 0, 1) := by decide +kernel
theorem h_Sp_moveOnStack_75 : decode prog_10_method_19_code 75 = .ok (.iload_n 2, 1) := by decide +kernel
theorem h_Sp_moveOnStack_76 : decode prog_10_method_19_code 76 = .ok (.invokevirtual 108, 3) := by decide +kernel
theorem h_Sp_moveOnStack_79 : decode prog_10_method_19_code 79 = .ok (.goto 43, 3) := by decide +kernel
theorem h_Sp_moveOnStack_82 : decode prog_10_method_19_code 82 = .ok (.aload_n 0, 1) := by decide +kernel
theorem h_Sp_moveOnStack_83 : decode prog_10_method_19_code 83 = .ok (.invokevirtual 151, 3) := by decide +kernel
theorem h_Sp_moveOnStack_86 : decode prog_10_method_19_code 86 = .ok (.goto 36, 3) := by decide +kernel
theorem h_Sp_moveOnStack_89 : decode prog_10_method_19_code 89 = .ok (.aload_n 0, 1) := by decide +kernel
theorem h_Sp_moveOnStack_90 : decode prog_10_method_19_code 90 = .ok (.invokevirtual 148, 3) := by decide +kernel
theorem h_Sp_moveOnStack_93 : decode prog_10_method_19_code 93 = .ok (.istore_n 3, 1) := by decide +kernel
theorem h_Sp_moveOnStack_94 : decode prog_10_method_19_code 94 = .ok (.aload_n 0, 1) := by decide +kernel
theorem h_Sp_moveOnStack_95 : decode prog_10_method_19_code 95 = .ok (.invokevirtual 148, 3) := by decide +kernel
theorem h_Sp_moveOnStack_98 : decode prog_10_method_19_code 98 = .ok (.istore 4, 2) := by decide +kernel
theorem h_Sp_moveOnStack_100 : decode prog_10_method_19_code 100 = .ok (.aload_n 0, 1) := by decide +kernel
theorem h_Sp_moveOnStack_101 : decode prog_10_method_19_code 101 = .ok (.iload_n 3, 1) := by decide +kernel
theorem h_Sp_moveOnStack_102 : decode prog_10_method_19_code 102 = .ok (.invokevirtual 108, 3) := by decide +kernel
theorem h_Sp_moveOnStack_105 : decode prog_10_method_19_code 105 = .ok (.aload_n 0, 1) := by decide +kernel
theorem h_Sp_moveOnStack_106 : decode prog_10_method_19_code 106 = .ok (.iload 4, 2) := by decide +kernel
theorem h_Sp_moveOnStack_108 : decode prog_10_method_19_code 108 = .ok (.invokevirtual 108, 3) := by decide +kernel
theorem h_Sp_moveOnStack_111 : decode prog_10_method_19_code 111 = .ok (.iload_n 1, 1) := by decide +kernel
theorem h_Sp_moveOnStack_112 : decode prog_10_method_19_code 112 = .ok (.bipush 90, 2) := by decide +kernel
theorem h_Sp_moveOnStack_114 : decode prog_10_method_19_code 114 = .ok (.if_icmp .ne 8, 3) := by decide +kernel
theorem h_Sp_moveOnStack_117 : decode prog_10_method_19_code 117 = .ok (.aload_n 0, 1) := by decide +kernel
theorem h_Sp_moveOnStack_118 : decode prog_10_method_19_code 118 = .ok (.iload_n 3, 1) := by decide +kernel
theorem h_Sp_moveOnStack_119 : decode prog_10_method_19_code 119 = .ok (.invokevirtual 108, 3) := by decide +kernel
theorem h_Sp_moveOnStack_122 : decode prog_10_method_19_code 122 = .ok (.return_, 1) := by decide +kernel
def x_Sp_moveOnStack (a0 : Nat) (x1 : Int32) (σ0 : CST) (P : CST → Prop) : Prop := ((x1 = 87 → σ0.1 a0 = some (9, 0) ∧ (x_Sp_popSingle a0 σ0 (fun r4 σ3 => P σ3))) ∧ (¬ x1 = 87 → ((x1 = 88 → σ0.1 a0 = some (9, 0) ∧ (x_Sp_pop a0 σ0 (fun r8 σ7 => ((r8 = 2 → P σ7) ∧ (¬ r8 = 2 → σ7.1 a0 = some (9, 0) ∧ (x_Sp_popSingle a0 σ7 (fun r12 σ11 => P σ11))))))) ∧ (¬ x1 = 88 → ((x1 = 89 → σ0.1 a0 = some (9, 0) ∧ (x_Sp_popSingle a0 σ0 (fun r16 σ15 => σ15.1 a0 = some (9, 0) ∧ (x_Sp_push a0 r16 σ15 (fun σ18 => σ18.1 a0 = some (9, 0) ∧ (x_Sp_push a0 r16 σ18 (fun σ21 => P σ21))))))) ∧ (¬ x1 = 89 → ((x1 = 90 → σ0.1 a0 = some (9, 0) ∧ (x_Sp_popSingle a0 σ0 (fun r26 σ25 => σ25.1 a0 = some (9, 0) ∧ (x_Sp_popSingle a0 σ25 (fun r29 σ28 => σ28.1 a0 = some (9, 0) ∧ (x_Sp_push a0 r26 σ28 (fun σ31 => σ31.1 a0 = some (9, 0) ∧ (x_Sp_push a0 r29 σ31 (fun σ34 => ((x1 = 90 → σ34.1 a0 = some (9, 0) ∧ (x_Sp_push a0 r26 σ34 (fun σ38 => P σ38))) ∧ (¬ x1 = 90 → P σ34))))))))))) ∧ (¬ x1 = 90 → ((x1 = 91 → σ0.1 a0 = some (9, 0) ∧ (x_Sp_popSingle a0 σ0 (fun r43 σ42 => σ42.1 a0 = some (9, 0) ∧ (x_Sp_popSingle a0 σ42 (fun r46 σ45 => σ45.1 a0 = some (9, 0) ∧ (x_Sp_push a0 r43 σ45 (fun σ48 => σ48.1 a0 = some (9, 0) ∧ (x_Sp_push a0 r46 σ48 (fun σ51 => ((x1 = 90 → σ51.1 a0 = some (9, 0) ∧ (x_Sp_push a0 r43 σ51 (fun σ55 => P σ55))) ∧ (¬ x1 = 90 → P σ51))))))))))) ∧ (¬ x1 = 91 → ((x1 = 92 → σ0.1 a0 = some (9, 0) ∧ (x_Sp_dupTwo a0 σ0 (fun σ59 => P σ59))) ∧ (¬ x1 = 92 → σ0.1 a0 = some (9, 0) ∧ (x_Sp_popSingle a0 σ0 (fun r63 σ62 => σ62.1 a0 = some (9, 0) ∧ (x_Sp_popSingle a0 σ62 (fun r66 σ65 => σ65.1 a0 = some (9, 0) ∧ (x_Sp_push a0 r63 σ65 (fun σ68 => σ68.1 a0 = some (9, 0) ∧ (x_Sp_push a0 r66 σ68 (fun σ71 => ((x1 = 90 → σ71.1 a0 = some (9, 0) ∧ (x_Sp_push a0 r63 σ71 (fun σ75 => P σ75))) ∧ (¬ x1 = 90 → P σ71))))))))))))))))))))))
set_option maxHeartbeats 4000000 in
set_option maxRecDepth 100000 in
theorem X_Sp_moveOnStack (l : Launch) (dC : Nat → ClassId) (dI : Nat → Nat → Nat) (ca : Nat → ClassId) (H0 : Heap) (σ0 : CST) (a0 : Nat) (x1 : Int32) {P : CST → Prop} (hw : x_Sp_moveOnStack a0 x1 σ0 P) : Met l g_Sp_moveOnStack (mW g_Sp_moveOnStack prog_10_method_19_code 5 none) ({ frames := 3, cells := σ0.2.2.2.2.1, slots := σ0.2.2.2.2.2.1, locals := 65 } : Room) (va_Pc [.ref a0, .int x1] (CPre (dC, dI) ca σ0 H0)) (va_Qv P (CB (dC, dI) ca σ0 H0) (cA σ0 H0.size)) σ0.2.2.2.2.1 σ0.2.2.2.2.2.1 (cA σ0 H0.size) := by
  refine C_ofv (by decide +kernel) rfl rfl rfl (Nat.le_of_ble_eq_true rfl) ?_
  intro p e s m below meth cx Q A ls C hnm hend hH0 h hl
  subst hH0
  have C0 := C
  obtain ⟨⟨hx, hb, hml, hown, hts⟩, hsub⟩ := C0
  obtain ⟨cells, e_cells⟩ : ∃ z : Nat, z = 0 := ⟨_, rfl⟩
  obtain ⟨slots, e_slots⟩ : ∃ z : Nat, z = 0 := ⟨_, rfl⟩
  have h : CH (dC, dI) A ca ({ frames := 3, cells := σ0.2.2.2.2.1, slots := σ0.2.2.2.2.2.1, locals := 65 } : Room) σ0.2.2.2.2.2.2 σ0 s s.heap [] cells slots := by rw [e_cells, e_slots]; exact h
  show W p l e ({ frames := 3, cells := σ0.2.2.2.2.1, slots := σ0.2.2.2.2.2.1, locals := 65 } : Room) s m ([.ref a0, .int x1] : List Value).toArray below meth cx s.heap [] 0 0 Q (F0 m 0 ls [])
  rw [show W p l e ({ frames := 3, cells := σ0.2.2.2.2.1, slots := σ0.2.2.2.2.2.1, locals := 65 } : Room) s m ([.ref a0, .int x1] : List Value).toArray below meth cx s.heap [] 0 0 Q (F0 m 0 ls []) = W p l e ({ frames := 3, cells := σ0.2.2.2.2.1, slots := σ0.2.2.2.2.2.1, locals := 65 } : Room) s m ([.ref a0, .int x1] : List Value).toArray below meth cx s.heap [] cells slots Q (F0 m 0 ls []) by rw [e_cells, e_slots]]
  have hl : lv_has ls 5 [(0, .ref a0), (1, .int x1)] := hl
  unfold x_Sp_moveOnStack at hw
  refine lv_iload_n hx hb h_Sp_moveOnStack_0 rfl (lv_at hl 1 rfl) ?_
  by_cases c1 : x1 = 87
  · skip
    replace hw := hw.1 c1
    refine tp_i 87 c1 ?_
    refine lv_tableIn (off := 39) (tgt := 40) hx hb h_Sp_moveOnStack_1 (by decide) (by decide) (by decide) (by decide) ?_
    refine lv_aload_n hx hb h_Sp_moveOnStack_40 rfl (lv_at hl 0 rfl) ?_
    obtain ⟨g2, hw⟩ := hw
    refine C_callVi (As := []) (rest := []) C h (ci := 9) (Cn := R_Sp) (T := T_Sp) (N := 5) g2 rfl (by decide) (X_Sp_popSingle l dC dI ca s.heap σ0 a0 hw) (cwV 0 hts (gV hsub u_584 u_585 u_586 u_524 u_587) rfl rfl rfl (by decide +kernel) ⟨(Nat.le_of_ble_eq_true rfl), (Nat.le_of_ble_eq_true rfl)⟩) rfl hl.1 (Nat.le_of_ble_eq_true rfl) h_Sp_moveOnStack_41 (fun r4 σ3 H locs cells slots hw9 h9 => ?_)
    clear hw h; have hw := hw9; have h := h9; clear hw9 h9
    refine W.eq (g2 := F0 m 44 ls [.int r4]) rfl ?_
    refine lv_pop hx hb h_Sp_moveOnStack_44 rfl ?_
    refine lv_goto (tgt := 122) hx hb h_Sp_moveOnStack_45 (by decide) ?_
    exact hend σ3 _ _ _ _ _ _ hw h h_Sp_moveOnStack_122
  · skip
    replace hw := hw.2 c1
    by_cases c5 : x1 = 88
    · skip
      replace hw := hw.1 c5
      refine tp_i 88 c5 ?_
      refine lv_tableIn (off := 47) (tgt := 48) hx hb h_Sp_moveOnStack_1 (by decide) (by decide) (by decide) (by decide) ?_
      refine lv_aload_n hx hb h_Sp_moveOnStack_48 rfl (lv_at hl 0 rfl) ?_
      obtain ⟨g6, hw⟩ := hw
      refine C_callVi (As := []) (rest := []) C h (ci := 9) (Cn := R_Sp) (T := T_Sp) (N := 5) g6 rfl (by decide) (X_Sp_pop l dC dI ca s.heap σ0 a0 hw) (cwV 0 hts (gV hsub u_560 u_561 u_562 u_524 u_563) rfl rfl rfl (by decide +kernel) ⟨(Nat.le_of_ble_eq_true rfl), (Nat.le_of_ble_eq_true rfl)⟩) rfl hl.1 (Nat.le_of_ble_eq_true rfl) h_Sp_moveOnStack_49 (fun r8 σ7 H locs cells slots hw9 h9 => ?_)
      clear hw h; have hw := hw9; have h := h9; clear hw9 h9
      refine W.eq (g2 := F0 m 52 ls [.int r8]) rfl ?_
      refine lv_iconst (v := 2) hx hb h_Sp_moveOnStack_52 (by decide) ?_
      refine lv_icmp_eq (tgt := 122) hx hb h_Sp_moveOnStack_53 (by decide) (fun c9 => ?_) (fun c9 => ?_)
      · skip
        replace hw := hw.1 c9
        exact hend σ7 _ _ _ _ _ _ hw h h_Sp_moveOnStack_122
      · skip
        replace hw := hw.2 c9
        refine lv_aload_n hx hb h_Sp_moveOnStack_56 rfl (lv_at hl 0 rfl) ?_
        obtain ⟨g10, hw⟩ := hw
        refine C_callVi (As := []) (rest := []) C h (ci := 9) (Cn := R_Sp) (T := T_Sp) (N := 5) g10 rfl (by decide) (X_Sp_popSingle l dC dI ca H σ7 a0 hw) (cwV 0 hts (gV hsub u_584 u_585 u_586 u_524 u_587) rfl rfl rfl (by decide +kernel) ⟨(Nat.le_of_ble_eq_true rfl), (Nat.le_of_ble_eq_true rfl)⟩) rfl hl.1 (Nat.le_of_ble_eq_true rfl) h_Sp_moveOnStack_57 (fun r12 σ11 H locs cells slots hw9 h9 => ?_)
        clear hw h; have hw := hw9; have h := h9; clear hw9 h9
        refine W.eq (g2 := F0 m 60 ls [.int r12]) rfl ?_
        refine lv_pop hx hb h_Sp_moveOnStack_60 rfl ?_
        refine lv_goto (tgt := 122) hx hb h_Sp_moveOnStack_61 (by decide) ?_
        exact hend σ11 _ _ _ _ _ _ hw h h_Sp_moveOnStack_122
    · skip
      replace hw := hw.2 c5
      by_cases c13 : x1 = 89
      · skip
        replace hw := hw.1 c13
        refine tp_i 89 c13 ?_
        refine lv_tableIn (off := 63) (tgt := 64) hx hb h_Sp_moveOnStack_1 (by decide) (by decide) (by decide) (by decide) ?_
        refine lv_aload_n hx hb h_Sp_moveOnStack_64 rfl (lv_at hl 0 rfl) ?_
        obtain ⟨g14, hw⟩ := hw
        refine C_callVi (As := []) (rest := []) C h (ci := 9) (Cn := R_Sp) (T := T_Sp) (N := 5) g14 rfl (by decide) (X_Sp_popSingle l dC dI ca s.heap σ0 a0 hw) (cwV 0 hts (gV hsub u_584 u_585 u_586 u_524 u_587) rfl rfl rfl (by decide +kernel) ⟨(Nat.le_of_ble_eq_true rfl), (Nat.le_of_ble_eq_true rfl)⟩) rfl hl.1 (Nat.le_of_ble_eq_true rfl) h_Sp_moveOnStack_65 (fun r16 σ15 H locs cells slots hw9 h9 => ?_)
        clear hw h; have hw := hw9; have h := h9; clear hw9 h9
        refine W.eq (g2 := F0 m 68 ls [.int r16]) rfl ?_
        refine lv_istore_n (i := 2) (lv' := [(2, .int r16), (0, .ref a0), (1, .int x1)]) hx hb h_Sp_moveOnStack_68 rfl hl (by decide) rfl (fun ls hl => ?_)
        refine lv_aload_n hx hb h_Sp_moveOnStack_69 rfl (lv_at hl 1 rfl) ?_
        refine lv_iload_n hx hb h_Sp_moveOnStack_70 rfl (lv_at hl 0 rfl) ?_
        obtain ⟨g17, hw⟩ := hw
        refine C_callVv (As := [.int r16]) (rest := []) C h (ci := 9) (Cn := R_Sp) (T := T_Sp) (N := 5) g17 rfl (by decide) (X_Sp_push l dC dI ca H σ15 a0 r16 hw) (cwV 1 hts (gV hsub u_526 u_527 u_528 u_524 u_529) rfl rfl rfl (by decide +kernel) ⟨(Nat.le_of_ble_eq_true rfl), (Nat.le_of_ble_eq_true rfl)⟩) rfl hl.1 (Nat.le_of_ble_eq_true rfl) h_Sp_moveOnStack_71 (fun σ18 H locs cells slots hw9 h9 => ?_)
        clear hw h; have hw := hw9; have h := h9; clear hw9 h9
        refine W.eq (g2 := F0 m 74 ls []) rfl ?_
        refine lv_aload_n hx hb h_Sp_moveOnStack_74 rfl (lv_at hl 1 rfl) ?_
        refine lv_iload_n hx hb h_Sp_moveOnStack_75 rfl (lv_at hl 0 rfl) ?_
        obtain ⟨g20, hw⟩ := hw
        refine C_callVv (As := [.int r16]) (rest := []) C h (ci := 9) (Cn := R_Sp) (T := T_Sp) (N := 5) g20 rfl (by decide) (X_Sp_push l dC dI ca H σ18 a0 r16 hw) (cwV 1 hts (gV hsub u_526 u_527 u_528 u_524 u_529) rfl rfl rfl (by decide +kernel) ⟨(Nat.le_of_ble_eq_true rfl), (Nat.le_of_ble_eq_true rfl)⟩) rfl hl.1 (Nat.le_of_ble_eq_true rfl) h_Sp_moveOnStack_76 (fun σ21 H locs cells slots hw9 h9 => ?_)
        clear hw h; have hw := hw9; have h := h9; clear hw9 h9
        refine W.eq (g2 := F0 m 79 ls []) rfl ?_
        refine lv_goto (tgt := 122) hx hb h_Sp_moveOnStack_79 (by decide) ?_
        exact hend σ21 _ _ _ _ _ _ hw h h_Sp_moveOnStack_122
      · skip
        replace hw := hw.2 c13
        by_cases c23 : x1 = 90
        · skip
          replace hw := hw.1 c23
          refine tp_i 90 c23 ?_
          refine lv_tableIn (off := 88) (tgt := 89) hx hb h_Sp_moveOnStack_1 (by decide) (by decide) (by decide) (by decide) ?_
          refine lv_aload_n hx hb h_Sp_moveOnStack_89 rfl (lv_at hl 0 rfl) ?_
          obtain ⟨g24, hw⟩ := hw
          refine C_callVi (As := []) (rest := []) C h (ci := 9) (Cn := R_Sp) (T := T_Sp) (N := 5) g24 rfl (by decide) (X_Sp_popSingle l dC dI ca s.heap σ0 a0 hw) (cwV 0 hts (gV hsub u_584 u_585 u_586 u_524 u_587) rfl rfl rfl (by decide +kernel) ⟨(Nat.le_of_ble_eq_true rfl), (Nat.le_of_ble_eq_true rfl)⟩) rfl hl.1 (Nat.le_of_ble_eq_true rfl) h_Sp_moveOnStack_90 (fun r26 σ25 H locs cells slots hw9 h9 => ?_)
          clear hw h; have hw := hw9; have h := h9; clear hw9 h9
          refine W.eq (g2 := F0 m 93 ls [.int r26]) rfl ?_
          refine lv_istore_n (i := 3) (lv' := [(3, .int r26), (0, .ref a0), (1, .int x1)]) hx hb h_Sp_moveOnStack_93 rfl hl (by decide) rfl (fun ls hl => ?_)
          refine lv_aload_n hx hb h_Sp_moveOnStack_94 rfl (lv_at hl 1 rfl) ?_
          obtain ⟨g27, hw⟩ := hw
          refine C_callVi (As := []) (rest := []) C h (ci := 9) (Cn := R_Sp) (T := T_Sp) (N := 5) g27 rfl (by decide) (X_Sp_popSingle l dC dI ca H σ25 a0 hw) (cwV 0 hts (gV hsub u_584 u_585 u_586 u_524 u_587) rfl rfl rfl (by decide +kernel) ⟨(Nat.le_of_ble_eq_true rfl), (Nat.le_of_ble_eq_true rfl)⟩) rfl hl.1 (Nat.le_of_ble_eq_true rfl) h_Sp_moveOnStack_95 (fun r29 σ28 H locs cells slots hw9 h9 => ?_)
          clear hw h; have hw := hw9; have h := h9; clear hw9 h9
          refine W.eq (g2 := F0 m 98 ls [.int r29]) rfl ?_
          refine lv_istore (lv' := [(4, .int r29), (3, .int r26), (0, .ref a0), (1, .int x1)]) hx hb h_Sp_moveOnStack_98 hl (by decide) rfl (fun ls hl => ?_)
          refine lv_aload_n hx hb h_Sp_moveOnStack_100 rfl (lv_at hl 2 rfl) ?_
          refine lv_iload_n hx hb h_Sp_moveOnStack_101 rfl (lv_at hl 1 rfl) ?_
          obtain ⟨g30, hw⟩ := hw
          refine C_callVv (As := [.int r26]) (rest := []) C h (ci := 9) (Cn := R_Sp) (T := T_Sp) (N := 5) g30 rfl (by decide) (X_Sp_push l dC dI ca H σ28 a0 r26 hw) (cwV 1 hts (gV hsub u_526 u_527 u_528 u_524 u_529) rfl rfl rfl (by decide +kernel) ⟨(Nat.le_of_ble_eq_true rfl), (Nat.le_of_ble_eq_true rfl)⟩) rfl hl.1 (Nat.le_of_ble_eq_true rfl) h_Sp_moveOnStack_102 (fun σ31 H locs cells slots hw9 h9 => ?_)
          clear hw h; have hw := hw9; have h := h9; clear hw9 h9
          refine W.eq (g2 := F0 m 105 ls []) rfl ?_
          refine lv_aload_n hx hb h_Sp_moveOnStack_105 rfl (lv_at hl 2 rfl) ?_
          refine lv_iload hx hb h_Sp_moveOnStack_106 (lv_at hl 0 rfl) ?_
          obtain ⟨g33, hw⟩ := hw
          refine C_callVv (As := [.int r29]) (rest := []) C h (ci := 9) (Cn := R_Sp) (T := T_Sp) (N := 5) g33 rfl (by decide) (X_Sp_push l dC dI ca H σ31 a0 r29 hw) (cwV 1 hts (gV hsub u_526 u_527 u_528 u_524 u_529) rfl rfl rfl (by decide +kernel) ⟨(Nat.le_of_ble_eq_true rfl), (Nat.le_of_ble_eq_true rfl)⟩) rfl hl.1 (Nat.le_of_ble_eq_true rfl) h_Sp_moveOnStack_108 (fun σ34 H locs cells slots hw9 h9 => ?_)
          clear hw h; have hw := hw9; have h := h9; clear hw9 h9
          refine W.eq (g2 := F0 m 111 ls []) rfl ?_
          refine lv_iload_n hx hb h_Sp_moveOnStack_111 rfl (lv_at hl 3 rfl) ?_
          refine lv_bipush (v := 90) hx hb h_Sp_moveOnStack_112 (by decide) ?_
          refine lv_icmp_ne (tgt := 122) hx hb h_Sp_moveOnStack_114 (by decide) (fun c36 => ?_) (fun c36 => ?_)
          · skip
            replace hw := hw.2 c36
            exact hend σ34 _ _ _ _ _ _ hw h h_Sp_moveOnStack_122
          · skip
            replace hw := hw.1 c36
            refine lv_aload_n hx hb h_Sp_moveOnStack_117 rfl (lv_at hl 2 rfl) ?_
            refine lv_iload_n hx hb h_Sp_moveOnStack_118 rfl (lv_at hl 1 rfl) ?_
            obtain ⟨g37, hw⟩ := hw
            refine C_callVv (As := [.int r26]) (rest := []) C h (ci := 9) (Cn := R_Sp) (T := T_Sp) (N := 5) g37 rfl (by decide) (X_Sp_push l dC dI ca H σ34 a0 r26 hw) (cwV 1 hts (gV hsub u_526 u_527 u_528 u_524 u_529) rfl rfl rfl (by decide +kernel) ⟨(Nat.le_of_ble_eq_true rfl), (Nat.le_of_ble_eq_true rfl)⟩) rfl hl.1 (Nat.le_of_ble_eq_true rfl) h_Sp_moveOnStack_119 (fun σ38 H locs cells slots hw9 h9 => ?_)
            clear hw h; have hw := hw9; have h := h9; clear hw9 h9
            refine W.eq (g2 := F0 m 122 ls []) rfl ?_
            exact hend σ38 _ _ _ _ _ _ hw h h_Sp_moveOnStack_122
        · skip
          replace hw := hw.2 c23
          by_cases c40 : x1 = 91
          · skip
            replace hw := hw.1 c40
            refine tp_i 91 c40 ?_
            refine lv_tableIn (off := 88) (tgt := 89) hx hb h_Sp_moveOnStack_1 (by decide) (by decide) (by decide) (by decide) ?_
            refine lv_aload_n hx hb h_Sp_moveOnStack_89 rfl (lv_at hl 0 rfl) ?_
            obtain ⟨g41, hw⟩ := hw
            refine C_callVi (As := []) (rest := []) C h (ci := 9) (Cn := R_Sp) (T := T_Sp) (N := 5) g41 rfl (by decide) (X_Sp_popSingle l dC dI ca s.heap σ0 a0 hw) (cwV 0 hts (gV hsub u_584 u_585 u_586 u_524 u_587) rfl rfl rfl (by decide +kernel) ⟨(Nat.le_of_ble_eq_true rfl), (Nat.le_of_ble_eq_true rfl)⟩) rfl hl.1 (Nat.le_of_ble_eq_true rfl) h_Sp_moveOnStack_90 (fun r43 σ42 H locs cells slots hw9 h9 => ?_)
            clear hw h; have hw := hw9; have h := h9; clear hw9 h9
            refine W.eq (g2 := F0 m 93 ls [.int r43]) rfl ?_
            refine lv_istore_n (i := 3) (lv' := [(3, .int r43), (0, .ref a0), (1, .int x1)]) hx hb h_Sp_moveOnStack_93 rfl hl (by decide) rfl (fun ls hl => ?_)
            refine lv_aload_n hx hb h_Sp_moveOnStack_94 rfl (lv_at hl 1 rfl) ?_
            obtain ⟨g44, hw⟩ := hw
            refine C_callVi (As := []) (rest := []) C h (ci := 9) (Cn := R_Sp) (T := T_Sp) (N := 5) g44 rfl (by decide) (X_Sp_popSingle l dC dI ca H σ42 a0 hw) (cwV 0 hts (gV hsub u_584 u_585 u_586 u_524 u_587) rfl rfl rfl (by decide +kernel) ⟨(Nat.le_of_ble_eq_true rfl), (Nat.le_of_ble_eq_true rfl)⟩) rfl hl.1 (Nat.le_of_ble_eq_true rfl) h_Sp_moveOnStack_95 (fun r46 σ45 H locs cells slots hw9 h9 => ?_)
            clear hw h; have hw := hw9; have h := h9; clear hw9 h9
            refine W.eq (g2 := F0 m 98 ls [.int r46]) rfl ?_
            refine lv_istore (lv' := [(4, .int r46), (3, .int r43), (0, .ref a0), (1, .int x1)]) hx hb h_Sp_moveOnStack_98 hl (by decide) rfl (fun ls hl => ?_)
            refine lv_aload_n hx hb h_Sp_moveOnStack_100 rfl (lv_at hl 2 rfl) ?_
            refine lv_iload_n hx hb h_Sp_moveOnStack_101 rfl (lv_at hl 1 rfl) ?_
            obtain ⟨g47, hw⟩ := hw
            refine C_callVv (As := [.int r43]) (rest := []) C h (ci := 9) (Cn := R_Sp) (T := T_Sp) (N := 5) g47 rfl (by decide) (X_Sp_push l dC dI ca H σ45 a0 r43 hw) (cwV 1 hts (gV hsub u_526 u_527 u_528 u_524 u_529) rfl rfl rfl (by decide +kernel) ⟨(Nat.le_of_ble_eq_true rfl), (Nat.le_of_ble_eq_true rfl)⟩) rfl hl.1 (Nat.le_of_ble_eq_true rfl) h_Sp_moveOnStack_102 (fun σ48 H locs cells slots hw9 h9 => ?_)
            clear hw h; have hw := hw9; have h := h9; clear hw9 h9
            refine W.eq (g2 := F0 m 105 ls []) rfl ?_
            refine lv_aload_n hx hb h_Sp_moveOnStack_105 rfl (lv_at hl 2 rfl) ?_
            refine lv_iload hx hb h_Sp_moveOnStack_106 (lv_at hl 0 rfl) ?_
            obtain ⟨g50, hw⟩ := hw
            refine C_callVv (As := [.int r46]) (rest := []) C h (ci := 9) (Cn := R_Sp) (T := T_Sp) (N := 5) g50 rfl (by decide) (X_Sp_push l dC dI ca H σ48 a0 r46 hw) (cwV 1 hts (gV hsub u_526 u_527 u_528 u_524 u_529) rfl rfl rfl (by decide +kernel) ⟨(Nat.le_of_ble_eq_true rfl), (Nat.le_of_ble_eq_true rfl)⟩) rfl hl.1 (Nat.le_of_ble_eq_true rfl) h_Sp_moveOnStack_108 (fun σ51 H locs cells slots hw9 h9 => ?_)
            clear hw h; have hw := hw9; have h := h9; clear hw9 h9
            refine W.eq (g2 := F0 m 111 ls []) rfl ?_
            refine lv_iload_n hx hb h_Sp_moveOnStack_111 rfl (lv_at hl 3 rfl) ?_
            refine lv_bipush (v := 90) hx hb h_Sp_moveOnStack_112 (by decide) ?_
            refine lv_icmp_ne (tgt := 122) hx hb h_Sp_moveOnStack_114 (by decide) (fun c53 => ?_) (fun c53 => ?_)
            · skip
              replace hw := hw.2 c53
              exact hend σ51 _ _ _ _ _ _ hw h h_Sp_moveOnStack_122
            · skip
              replace hw := hw.1 c53
              refine lv_aload_n hx hb h_Sp_moveOnStack_117 rfl (lv_at hl 2 rfl) ?_
              refine lv_iload_n hx hb h_Sp_moveOnStack_118 rfl (lv_at hl 1 rfl) ?_
              obtain ⟨g54, hw⟩ := hw
              refine C_callVv (As := [.int r43]) (rest := []) C h (ci := 9) (Cn := R_Sp) (T := T_Sp) (N := 5) g54 rfl (by decide) (X_Sp_push l dC dI ca H σ51 a0 r43 hw) (cwV 1 hts (gV hsub u_526 u_527 u_528 u_524 u_529) rfl rfl rfl (by decide +kernel) ⟨(Nat.le_of_ble_eq_true rfl), (Nat.le_of_ble_eq_true rfl)⟩) rfl hl.1 (Nat.le_of_ble_eq_true rfl) h_Sp_moveOnStack_119 (fun σ55 H locs cells slots hw9 h9 => ?_)
              clear hw h; have hw := hw9; have h := h9; clear hw9 h9
              refine W.eq (g2 := F0 m 122 ls []) rfl ?_
              exact hend σ55 _ _ _ _ _ _ hw h h_Sp_moveOnStack_122
          · skip
            replace hw := hw.2 c40
            by_cases c57 : x1 = 92
            · skip
              replace hw := hw.1 c57
              refine tp_i 92 c57 ?_
              refine lv_tableIn (off := 81) (tgt := 82) hx hb h_Sp_moveOnStack_1 (by decide) (by decide) (by decide) (by decide) ?_
              refine lv_aload_n hx hb h_Sp_moveOnStack_82 rfl (lv_at hl 0 rfl) ?_
              obtain ⟨g58, hw⟩ := hw
              refine C_callVv (As := []) (rest := []) C h (ci := 9) (Cn := R_Sp) (T := T_Sp) (N := 5) g58 rfl (by decide) (X_Sp_dupTwo l dC dI ca s.heap σ0 a0 hw) (cwV 0 hts (gV hsub u_588 u_589 u_590 u_524 u_591) rfl rfl rfl (by decide +kernel) ⟨(Nat.le_of_ble_eq_true rfl), (Nat.le_of_ble_eq_true rfl)⟩) rfl hl.1 (Nat.le_of_ble_eq_true rfl) h_Sp_moveOnStack_83 (fun σ59 H locs cells slots hw9 h9 => ?_)
              clear hw h; have hw := hw9; have h := h9; clear hw9 h9
              refine W.eq (g2 := F0 m 86 ls []) rfl ?_
              refine lv_goto (tgt := 122) hx hb h_Sp_moveOnStack_86 (by decide) ?_
              exact hend σ59 _ _ _ _ _ _ hw h h_Sp_moveOnStack_122
            · skip
              replace hw := hw.2 c57
              have h9 : (x1 : Int32).toInt < 87 ∨ 92 < (x1 : Int32).toInt := by simp only [← Int32.toInt_inj, Int32.reduceToInt] at c1 c5 c13 c23 c40 c57; omega
              refine lv_tableOut (tgt := 89) hx hb h_Sp_moveOnStack_1 h9 (by decide) ?_
              refine lv_aload_n hx hb h_Sp_moveOnStack_89 rfl (lv_at hl 0 rfl) ?_
              obtain ⟨g61, hw⟩ := hw
              refine C_callVi (As := []) (rest := []) C h (ci := 9) (Cn := R_Sp) (T := T_Sp) (N := 5) g61 rfl (by decide) (X_Sp_popSingle l dC dI ca s.heap σ0 a0 hw) (cwV 0 hts (gV hsub u_584 u_585 u_586 u_524 u_587) rfl rfl rfl (by decide +kernel) ⟨(Nat.le_of_ble_eq_true rfl), (Nat.le_of_ble_eq_true rfl)⟩) rfl hl.1 (Nat.le_of_ble_eq_true rfl) h_Sp_moveOnStack_90 (fun r63 σ62 H locs cells slots hw9 h9 => ?_)
              clear hw h; have hw := hw9; have h := h9; clear hw9 h9
              refine W.eq (g2 := F0 m 93 ls [.int r63]) rfl ?_
              refine lv_istore_n (i := 3) (lv' := [(3, .int r63), (0, .ref a0), (1, .int x1)]) hx hb h_Sp_moveOnStack_93 rfl hl (by decide) rfl (fun ls hl => ?_)
              refine lv_aload_n hx hb h_Sp_moveOnStack_94 rfl (lv_at hl 1 rfl) ?_
              obtain ⟨g64, hw⟩ := hw
              refine C_callVi (As := []) (rest := []) C h (ci := 9) (Cn := R_Sp) (T := T_Sp) (N := 5) g64 rfl (by decide) (X_Sp_popSingle l dC dI ca H σ62 a0 hw) (cwV 0 hts (gV hsub u_584 u_585 u_586 u_524 u_587) rfl rfl rfl (by decide +kernel) ⟨(Nat.le_of_ble_eq_true rfl), (Nat.le_of_ble_eq_true rfl)⟩) rfl hl.1 (Nat.le_of_ble_eq_true rfl) h_Sp_moveOnStack_95 (fun r66 σ65 H locs cells slots hw9 h9 => ?_)
              clear hw h; have hw := hw9; have h := h9; clear hw9 h9
              refine W.eq (g2 := F0 m 98 ls [.int r66]) rfl ?_
              refine lv_istore (lv' := [(4, .int r66), (3, .int r63), (0, .ref a0), (1, .int x1)]) hx hb h_Sp_moveOnStack_98 hl (by decide) rfl (fun ls hl => ?_)
              refine lv_aload_n hx hb h_Sp_moveOnStack_100 rfl (lv_at hl 2 rfl) ?_
              refine lv_iload_n hx hb h_Sp_moveOnStack_101 rfl (lv_at hl 1 rfl) ?_
              obtain ⟨g67, hw⟩ := hw
              refine C_callVv (As := [.int r63]) (rest := []) C h (ci := 9) (Cn := R_Sp) (T := T_Sp) (N := 5) g67 rfl (by decide) (X_Sp_push l dC dI ca H σ65 a0 r63 hw) (cwV 1 hts (gV hsub u_526 u_527 u_528 u_524 u_529) rfl rfl rfl (by decide +kernel) ⟨(Nat.le_of_ble_eq_true rfl), (Nat.le_of_ble_eq_true rfl)⟩) rfl hl.1 (Nat.le_of_ble_eq_true rfl) h_Sp_moveOnStack_102 (fun σ68 H locs cells slots hw9 h9 => ?_)
              clear hw h; have hw := hw9; have h := h9; clear hw9 h9
              refine W.eq (g2 := F0 m 105 ls []) rfl ?_
              refine lv_aload_n hx hb h_Sp_moveOnStack_105 rfl (lv_at hl 2 rfl) ?_
              refine lv_iload hx hb h_Sp_moveOnStack_106 (lv_at hl 0 rfl) ?_
              obtain ⟨g70, hw⟩ := hw
              refine C_callVv (As := [.int r66]) (rest := []) C h (ci := 9) (Cn := R_Sp) (T := T_Sp) (N := 5) g70 rfl (by decide) (X_Sp_push l dC dI ca H σ68 a0 r66 hw) (cwV 1 hts (gV hsub u_526 u_527 u_528 u_524 u_529) rfl rfl rfl (by decide +kernel) ⟨(Nat.le_of_ble_eq_true rfl), (Nat.le_of_ble_eq_true rfl)⟩) rfl hl.1 (Nat.le_of_ble_eq_true rfl) h_Sp_moveOnStack_108 (fun σ71 H locs cells slots hw9 h9 => ?_)
              clear hw h; have hw := hw9; have h := h9; clear hw9 h9
              refine W.eq (g2 := F0 m 111 ls []) rfl ?_
              refine lv_iload_n hx hb h_Sp_moveOnStack_111 rfl (lv_at hl 3 rfl) ?_
              refine lv_bipush (v := 90) hx hb h_Sp_moveOnStack_112 (by decide) ?_
              refine lv_icmp_ne (tgt := 122) hx hb h_Sp_moveOnStack_114 (by decide) (fun c73 => ?_) (fun c73 => ?_)
              · skip
                replace hw := hw.2 c73
                exact hend σ71 _ _ _ _ _ _ hw h h_Sp_moveOnStack_122
              · skip
                replace hw := hw.1 c73
                refine lv_aload_n hx hb h_Sp_moveOnStack_117 rfl (lv_at hl 2 rfl) ?_
                refine lv_iload_n hx hb h_Sp_moveOnStack_118 rfl (lv_at hl 1 rfl) ?_
                obtain ⟨g74, hw⟩ := hw
                refine C_callVv (As := [.int r63]) (rest := []) C h (ci := 9) (Cn := R_Sp) (T := T_Sp) (N := 5) g74 rfl (by decide) (X_Sp_push l dC dI ca H σ71 a0 r63 hw) (cwV 1 hts (gV hsub u_526 u_527 u_528 u_524 u_529) rfl rfl rfl (by decide +kernel) ⟨(Nat.le_of_ble_eq_true rfl), (Nat.le_of_ble_eq_true rfl)⟩) rfl hl.1 (Nat.le_of_ble_eq_true rfl) h_Sp_moveOnStack_119 (fun σ75 H locs cells slots hw9 h9 => ?_)
                clear hw h; have hw := hw9; have h := h9; clear hw9 h9
                refine W.eq (g2 := F0 m 122 ls []) rfl ?_
                exact hend σ75 _ _ _ _ _ _ hw h h_Sp_moveOnStack_122
abbrev g_Sp_reckon : MethodName := ⟨"MapFramer$Stepper", "reckon", "(I)V"⟩
theorem h_Sp_reckon_0 : decode prog_10_method_21_code 0 = .ok (.iload_n 1, 1) := by decide +kernel
theorem h_Sp_reckon_1 : decode prog_10_method_21_code 1 = .ok (.lookupswitch 95 #[(132, 43), (133, 51), (136, 64), (148, 77)], 43) := by decide +kernel
theorem h_Sp_reckon_44 : decode prog_10_method_21_code 44 = .ok (.aload_n 0, 1) := by decide +kernel
theorem h_Sp_reckon_45 : decode prog_10_method_21_code 45 = .ok (.iconst 1, 1) := by decide +kernel
theorem h_Sp_reckon_46 : decode prog_10_method_21_code 46 = .ok (.invokevirtual 110, 3) := by decide +kernel
theorem h_Sp_reckon_49 : decode prog_10_method_21_code 49 = .ok (.goto 74, 3) := by decide +kernel
theorem h_Sp_reckon_52 : decode prog_10_method_21_code 52 = .ok (.aload_n 0, 1) := by decide +kernel
theorem h_Sp_reckon_53 : decode prog_10_method_21_code 53 = .ok (.iconst 1, 1) := by decide +kernel
theorem h_Sp_reckon_54 : decode prog_10_method_21_code 54 = .ok (.invokevirtual 116, 3) := by decide +kernel
theorem h_Sp_reckon_57 : decode prog_10_method_21_code 57 = .ok (.aload_n 0, 1) := by decide +kernel
theorem h_Sp_reckon_58 : decode prog_10_method_21_code 58 = .ok (.iconst 2, 1) := by decide +kernel
theorem h_Sp_reckon_59 : decode prog_10_method_21_code 59 = .ok (.invokevirtual 108, 3) := by decide +kernel
theorem h_Sp_reckon_62 : decode prog_10_method_21_code 62 = .ok (.goto 61, 3) := by decide +kernel
theorem h_Sp_reckon_65 : decode prog_10_method_21_code 65 = .ok (.aload_n 0, 1) := by decide +kernel
theorem h_Sp_reckon_66 : decode prog_10_method_21_code 66 = .ok (.iconst 2, 1) := by decide +kernel
theorem h_Sp_reckon_67 : decode prog_10_method_21_code 67 = .ok (.invokevirtual 116, 3) := by decide +kernel
theorem h_Sp_reckon_70 : decode prog_10_method_21_code 70 = .ok (.aload_n 0, 1) := by decide +kernel
theorem h_Sp_reckon_71 : decode prog_10_method_21_code 71 = .ok (.iconst 1, 1) := by decide +kernel
theorem h_Sp_reckon_72 : decode prog_10_method_21_code 72 = .ok (.invokevirtual 108, 3) := by decide +kernel
theorem h_Sp_reckon_75 : decode prog_10_method_21_code 75 = .ok (.goto 48, 3) := by decide +kernel
theorem h_Sp_reckon_78 : decode prog_10_method_21_code 78 = .ok (.aload_n 0, 1) := by decide +kernel
theorem h_Sp_reckon_79 : decode prog_10_method_21_code 79 = .ok (.iconst 2, 1) := by decide +kernel
theorem h_Sp_reckon_80 : decode prog_10_method_21_code 80 = .ok (.invokevirtual 116, 3) := by decide +kernel
theorem h_Sp_reckon_83 : decode prog_10_method_21_code 83 = .ok (.aload_n 0, 1) := by decide +kernel
theorem h_Sp_reckon_84 : decode prog_10_method_21_code 84 = .ok (.iconst 2, 1) := by decide +kernel
theorem h_Sp_reckon_85 : decode prog_10_method_21_code 85 = .ok (.invokevirtual 116, 3) := by decide +kernel
theorem h_Sp_reckon_88 : decode prog_10_method_21_code 88 = .ok (.aload_n 0, 1) := by decide +kernel
theorem h_Sp_reckon_89 : decode prog_10_method_21_code 89 = .ok (.iconst 1, 1) := by decide +kernel
theorem h_Sp_reckon_90 : decode prog_10_method_21_code 90 = .ok (.invokevirtual 108, 3) := by decide +kernel
theorem h_Sp_reckon_93 : decode prog_10_method_21_code 93 = .ok (.goto 30, 3) := by decide +kernel
theorem h_Sp_reckon_96 : decode prog_10_method_21_code 96 = .ok (.iload_n 1, 1) := by decide +kernel
theorem h_Sp_reckon_97 : decode prog_10_method_21_code 97 = .ok (.iconst 1, 1) := by decide +kernel
theorem h_Sp_reckon_98 : decode prog_10_method_21_code 98 = .ok (.iand, 1) := by decide +kernel
theorem h_Sp_reckon_99 : decode prog_10_method_21_code 99 = .ok (.ifCond .ne 7, 3) := by decide +kernel
theorem h_Sp_reckon_102 : decode prog_10_method_21_code 102 = .ok (.iconst 1, 1) := by decide +kernel
theorem h_Sp_reckon_103 : decode prog_10_method_21_code 103 = .ok (.goto 4, 3) := by decide +kernel
theorem h_Sp_reckon_106 : decode prog_10_method_21_code 106 = .ok (.iconst 2, 1) := by decide +kernel
theorem h_Sp_reckon_107 : decode prog_10_method_21_code 107 = .ok (.istore_n 2, 1) := by decide +kernel
theorem h_Sp_reckon_108 : decode prog_10_method_21_code 108 = .ok (.aload_n 0, 1) := by decide +kernel
theorem h_Sp_reckon_109 : decode prog_10_method_21_code 109 = .ok (.iload_n 2, 1) := by decide +kernel
theorem h_Sp_reckon_110 : decode prog_10_method_21_code 110 = .ok (.invokevirtual 116, 3) := by decide +kernel
theorem h_Sp_reckon_113 : decode prog_10_method_21_code 113 = .ok (.aload_n 0, 1) := by decide +kernel
theorem h_Sp_reckon_114 : decode prog_10_method_21_code 114 = .ok (.iload_n 2, 1) := by decide +kernel
theorem h_Sp_reckon_115 : decode prog_10_method_21_code 115 = .ok (.invokevirtual 116, 3) := by decide +kernel
theorem h_Sp_reckon_118 : decode prog_10_method_21_code 118 = .ok (.aload_n 0, 1) := by decide +kernel
theorem h_Sp_reckon_119 : decode prog_10_method_21_code 119 = .ok (.iload_n 2, 1) := by decide +kernel
theorem h_Sp_reckon_120 : decode prog_10_method_21_code 120 = .ok (.invokevirtual 108, 3) := by decide +kernel
theorem h_Sp_reckon_123 : decode prog_10_method_21_code 123 = .ok (.return_, 1) := by decide +kernel
def x_Sp_reckon_107 (a0 : Nat) (P : CST → Prop) (s0 : Int32) (σ : CST) : Prop := σ.1 a0 = some (9, 0) ∧ (x_Sp_popAs a0 s0 σ (fun σ2 => σ2.1 a0 = some (9, 0) ∧ (x_Sp_popAs a0 s0 σ2 (fun σ5 => σ5.1 a0 = some (9, 0) ∧ (x_Sp_push a0 s0 σ5 (fun σ8 => P σ8))))))
def x_Sp_reckon (a0 : Nat) (x1 : Int32) (σ0 : CST) (P : CST → Prop) : Prop := ((x1 = 132 → σ0.1 a0 = some (9, 0) ∧ (x_Sp_wantLocal a0 (1 : Int32) σ0 (fun σ12 => P σ12))) ∧ (¬ x1 = 132 → ((x1 = 133 → σ0.1 a0 = some (9, 0) ∧ (x_Sp_popAs a0 (1 : Int32) σ0 (fun σ16 => σ16.1 a0 = some (9, 0) ∧ (x_Sp_push a0 (2 : Int32) σ16 (fun σ19 => P σ19))))) ∧ (¬ x1 = 133 → ((x1 = 136 → σ0.1 a0 = some (9, 0) ∧ (x_Sp_popAs a0 (2 : Int32) σ0 (fun σ23 => σ23.1 a0 = some (9, 0) ∧ (x_Sp_push a0 (1 : Int32) σ23 (fun σ26 => P σ26))))) ∧ (¬ x1 = 136 → ((x1 = 148 → σ0.1 a0 = some (9, 0) ∧ (x_Sp_popAs a0 (2 : Int32) σ0 (fun σ30 => σ30.1 a0 = some (9, 0) ∧ (x_Sp_popAs a0 (2 : Int32) σ30 (fun σ33 => σ33.1 a0 = some (9, 0) ∧ (x_Sp_push a0 (1 : Int32) σ33 (fun σ36 => P σ36))))))) ∧ (¬ x1 = 148 → ∀ b38 : Int32, b38 = (x1 &&& 1) → ((b38 = 0 → x_Sp_reckon_107 a0 P 1 σ0) ∧ (¬ b38 = 0 → x_Sp_reckon_107 a0 P 2 σ0))))))))))
set_option maxHeartbeats 4000000 in
set_option maxRecDepth 100000 in
theorem X_Sp_reckon (l : Launch) (dC : Nat → ClassId) (dI : Nat → Nat → Nat) (ca : Nat → ClassId) (H0 : Heap) (σ0 : CST) (a0 : Nat) (x1 : Int32) {P : CST → Prop} (hw : x_Sp_reckon a0 x1 σ0 P) : Met l g_Sp_reckon (mW g_Sp_reckon prog_10_method_21_code 3 none) ({ frames := 3, cells := σ0.2.2.2.2.1, slots := σ0.2.2.2.2.2.1, locals := 67 } : Room) (va_Pc [.ref a0, .int x1] (CPre (dC, dI) ca σ0 H0)) (va_Qv P (CB (dC, dI) ca σ0 H0) (cA σ0 H0.size)) σ0.2.2.2.2.1 σ0.2.2.2.2.2.1 (cA σ0 H0.size) := by
  refine C_ofv (by decide +kernel) rfl rfl rfl (Nat.le_of_ble_eq_true rfl) ?_
  intro p e s m below meth cx Q A ls C hnm hend hH0 h hl
  subst hH0
  have C0 := C
  obtain ⟨⟨hx, hb, hml, hown, hts⟩, hsub⟩ := C0
  obtain ⟨cells, e_cells⟩ : ∃ z : Nat, z = 0 := ⟨_, rfl⟩
  obtain ⟨slots, e_slots⟩ : ∃ z : Nat, z = 0 := ⟨_, rfl⟩
  have h : CH (dC, dI) A ca ({ frames := 3, cells := σ0.2.2.2.2.1, slots := σ0.2.2.2.2.2.1, locals := 67 } : Room) σ0.2.2.2.2.2.2 σ0 s s.heap [] cells slots := by rw [e_cells, e_slots]; exact h
  show W p l e ({ frames := 3, cells := σ0.2.2.2.2.1, slots := σ0.2.2.2.2.2.1, locals := 67 } : Room) s m ([.ref a0, .int x1] : List Value).toArray below meth cx s.heap [] 0 0 Q (F0 m 0 ls [])
  rw [show W p l e ({ frames := 3, cells := σ0.2.2.2.2.1, slots := σ0.2.2.2.2.2.1, locals := 67 } : Room) s m ([.ref a0, .int x1] : List Value).toArray below meth cx s.heap [] 0 0 Q (F0 m 0 ls []) = W p l e ({ frames := 3, cells := σ0.2.2.2.2.1, slots := σ0.2.2.2.2.2.1, locals := 67 } : Room) s m ([.ref a0, .int x1] : List Value).toArray below meth cx s.heap [] cells slots Q (F0 m 0 ls []) by rw [e_cells, e_slots]]
  have K_107 : ∀ (u9 : Unit), ∀ (s0 : Int32) (σ : CST) (H : Heap) (locs : List Loc) (cells slots : Nat) (ls : Array Slot), x_Sp_reckon_107 a0 P s0 σ → CH (dC, dI) A ca ({ frames := 3, cells := σ0.2.2.2.2.1, slots := σ0.2.2.2.2.2.1, locals := 67 } : Room) σ0.2.2.2.2.2.2 σ s H locs cells slots → lv_has ls 3 [(0, .ref a0)] → W p l e ({ frames := 3, cells := σ0.2.2.2.2.1, slots := σ0.2.2.2.2.2.1, locals := 67 } : Room) s m ([.ref a0, .int x1] : List Value).toArray below meth cx H locs cells slots Q (F0 m 107 ls [.int s0]) := by
    intro u9 s0 σ H locs cells slots ls hw h hl
    unfold x_Sp_reckon_107 at hw
    refine lv_istore_n (i := 2) (lv' := [(2, .int s0), (0, .ref a0)]) hx hb h_Sp_reckon_107 rfl hl (by decide) rfl (fun ls hl => ?_)
    refine lv_aload_n hx hb h_Sp_reckon_108 rfl (lv_at hl 1 rfl) ?_
    refine lv_iload_n hx hb h_Sp_reckon_109 rfl (lv_at hl 0 rfl) ?_
    obtain ⟨g1, hw⟩ := hw
    refine C_callVv (As := [.int s0]) (rest := []) C h (ci := 9) (Cn := R_Sp) (T := T_Sp) (N := 5) g1 rfl (by decide) (X_Sp_popAs l dC dI ca H σ a0 s0 hw) (cwV 1 hts (gV hsub u_536 u_537 u_538 u_524 u_539) rfl rfl rfl (by decide +kernel) ⟨(Nat.le_of_ble_eq_true rfl), (Nat.le_of_ble_eq_true rfl)⟩) rfl hl.1 (Nat.le_of_ble_eq_true rfl) h_Sp_reckon_110 (fun σ2 H locs cells slots hw9 h9 => ?_)
    clear hw h; have hw := hw9; have h := h9; clear hw9 h9
    refine W.eq (g2 := F0 m 113 ls []) rfl ?_
    refine lv_aload_n hx hb h_Sp_reckon_113 rfl (lv_at hl 1 rfl) ?_
    refine lv_iload_n hx hb h_Sp_reckon_114 rfl (lv_at hl 0 rfl) ?_
    obtain ⟨g4, hw⟩ := hw
    refine C_callVv (As := [.int s0]) (rest := []) C h (ci := 9) (Cn := R_Sp) (T := T_Sp) (N := 5) g4 rfl (by decide) (X_Sp_popAs l dC dI ca H σ2 a0 s0 hw) (cwV 1 hts (gV hsub u_536 u_537 u_538 u_524 u_539) rfl rfl rfl (by decide +kernel) ⟨(Nat.le_of_ble_eq_true rfl), (Nat.le_of_ble_eq_true rfl)⟩) rfl hl.1 (Nat.le_of_ble_eq_true rfl) h_Sp_reckon_115 (fun σ5 H locs cells slots hw9 h9 => ?_)
    clear hw h; have hw := hw9; have h := h9; clear hw9 h9
    refine W.eq (g2 := F0 m 118 ls []) rfl ?_
    refine lv_aload_n hx hb h_Sp_reckon_118 rfl (lv_at hl 1 rfl) ?_
    refine lv_iload_n hx hb h_Sp_reckon_119 rfl (lv_at hl 0 rfl) ?_
    obtain ⟨g7, hw⟩ := hw
    refine C_callVv (As := [.int s0]) (rest := []) C h (ci := 9) (Cn := R_Sp) (T := T_Sp) (N := 5) g7 rfl (by decide) (X_Sp_push l dC dI ca H σ5 a0 s0 hw) (cwV 1 hts (gV hsub u_526 u_527 u_528 u_524 u_529) rfl rfl rfl (by decide +kernel) ⟨(Nat.le_of_ble_eq_true rfl), (Nat.le_of_ble_eq_true rfl)⟩) rfl hl.1 (Nat.le_of_ble_eq_true rfl) h_Sp_reckon_120 (fun σ8 H locs cells slots hw9 h9 => ?_)
    clear hw h; have hw := hw9; have h := h9; clear hw9 h9
    refine W.eq (g2 := F0 m 123 ls []) rfl ?_
    exact hend σ8 _ _ _ _ _ _ hw h h_Sp_reckon_123
  have hl : lv_has ls 3 [(0, .ref a0), (1, .int x1)] := hl
  unfold x_Sp_reckon at hw
  refine lv_iload_n hx hb h_Sp_reckon_0 rfl (lv_at hl 1 rfl) ?_
  by_cases c10 : x1 = 132
  · skip
    replace hw := hw.1 c10
    refine tp_i 132 c10 ?_
    refine lv_lookup (off := 43) (tgt := 44) hx hb h_Sp_reckon_1 (by decide) (by decide) (by decide) ?_
    refine lv_aload_n hx hb h_Sp_reckon_44 rfl (lv_at hl 0 rfl) ?_
    refine lv_iconst (v := 1) hx hb h_Sp_reckon_45 (by decide) ?_
    obtain ⟨g11, hw⟩ := hw
    refine C_callVv (As := [.int 1]) (rest := []) C h (ci := 9) (Cn := R_Sp) (T := T_Sp) (N := 5) g11 rfl (by decide) (X_Sp_wantLocal l dC dI ca s.heap σ0 a0 (1 : Int32) hw) (cwV 1 hts (gV hsub u_568 u_569 u_570 u_524 u_571) rfl rfl rfl (by decide +kernel) ⟨(Nat.le_of_ble_eq_true rfl), (Nat.le_of_ble_eq_true rfl)⟩) rfl hl.1 (Nat.le_of_ble_eq_true rfl) h_Sp_reckon_46 (fun σ12 H locs cells slots hw9 h9 => ?_)
    clear hw h; have hw := hw9; have h := h9; clear hw9 h9
    refine W.eq (g2 := F0 m 49 ls []) rfl ?_
    refine lv_goto (tgt := 123) hx hb h_Sp_reckon_49 (by decide) ?_
    exact hend σ12 _ _ _ _ _ _ hw h h_Sp_reckon_123
  · skip
    replace hw := hw.2 c10
    by_cases c14 : x1 = 133
    · skip
      replace hw := hw.1 c14
      refine tp_i 133 c14 ?_
      refine lv_lookup (off := 51) (tgt := 52) hx hb h_Sp_reckon_1 (by decide) (by decide) (by decide) ?_
      refine lv_aload_n hx hb h_Sp_reckon_52 rfl (lv_at hl 0 rfl) ?_
      refine lv_iconst (v := 1) hx hb h_Sp_reckon_53 (by decide) ?_
      obtain ⟨g15, hw⟩ := hw
      refine C_callVv (As := [.int 1]) (rest := []) C h (ci := 9) (Cn := R_Sp) (T := T_Sp) (N := 5) g15 rfl (by decide) (X_Sp_popAs l dC dI ca s.heap σ0 a0 (1 : Int32) hw) (cwV 1 hts (gV hsub u_536 u_537 u_538 u_524 u_539) rfl rfl rfl (by decide +kernel) ⟨(Nat.le_of_ble_eq_true rfl), (Nat.le_of_ble_eq_true rfl)⟩) rfl hl.1 (Nat.le_of_ble_eq_true rfl) h_Sp_reckon_54 (fun σ16 H locs cells slots hw9 h9 => ?_)
      clear hw h; have hw := hw9; have h := h9; clear hw9 h9
      refine W.eq (g2 := F0 m 57 ls []) rfl ?_
      refine lv_aload_n hx hb h_Sp_reckon_57 rfl (lv_at hl 0 rfl) ?_
      refine lv_iconst (v := 2) hx hb h_Sp_reckon_58 (by decide) ?_
      obtain ⟨g18, hw⟩ := hw
      refine C_callVv (As := [.int 2]) (rest := []) C h (ci := 9) (Cn := R_Sp) (T := T_Sp) (N := 5) g18 rfl (by decide) (X_Sp_push l dC dI ca H σ16 a0 (2 : Int32) hw) (cwV 1 hts (gV hsub u_526 u_527 u_528 u_524 u_529) rfl rfl rfl (by decide +kernel) ⟨(Nat.le_of_ble_eq_true rfl), (Nat.le_of_ble_eq_true rfl)⟩) rfl hl.1 (Nat.le_of_ble_eq_true rfl) h_Sp_reckon_59 (fun σ19 H locs cells slots hw9 h9 => ?_)
      clear hw h; have hw := hw9; have h := h9; clear hw9 h9
      refine W.eq (g2 := F0 m 62 ls []) rfl ?_
      refine lv_goto (tgt := 123) hx hb h_Sp_reckon_62 (by decide) ?_
      exact hend σ19 _ _ _ _ _ _ hw h h_Sp_reckon_123
    · skip
      replace hw := hw.2 c14
      by_cases c21 : x1 = 136
      · skip
        replace hw := hw.1 c21
        refine tp_i 136 c21 ?_
        refine lv_lookup (off := 64) (tgt := 65) hx hb h_Sp_reckon_1 (by decide) (by decide) (by decide) ?_
        refine lv_aload_n hx hb h_Sp_reckon_65 rfl (lv_at hl 0 rfl) ?_
        refine lv_iconst (v := 2) hx hb h_Sp_reckon_66 (by decide) ?_
        obtain ⟨g22, hw⟩ := hw
        refine C_callVv (As := [.int 2]) (rest := []) C h (ci := 9) (Cn := R_Sp) (T := T_Sp) (N := 5) g22 rfl (by decide) (X_Sp_popAs l dC dI ca s.heap σ0 a0 (2 : Int32) hw) (cwV 1 hts (gV hsub u_536 u_537 u_538 u_524 u_539) rfl rfl rfl (by decide +kernel) ⟨(Nat.le_of_ble_eq_true rfl), (Nat.le_of_ble_eq_true rfl)⟩) rfl hl.1 (Nat.le_of_ble_eq_true rfl) h_Sp_reckon_67 (fun σ23 H locs cells slots hw9 h9 => ?_)
        clear hw h; have hw := hw9; have h := h9; clear hw9 h9
        refine W.eq (g2 := F0 m 70 ls []) rfl ?_
        refine lv_aload_n hx hb h_Sp_reckon_70 rfl (lv_at hl 0 rfl) ?_
        refine lv_iconst (v := 1) hx hb h_Sp_reckon_71 (by decide) ?_
        obtain ⟨g25, hw⟩ := hw
        refine C_callVv (As := [.int 1]) (rest := []) C h (ci := 9) (Cn := R_Sp) (T := T_Sp) (N := 5) g25 rfl (by decide) (X_Sp_push l dC dI ca H σ23 a0 (1 : Int32) hw) (cwV 1 hts (gV hsub u_526 u_527 u_528 u_524 u_529) rfl rfl rfl (by decide +kernel) ⟨(Nat.le_of_ble_eq_true rfl), (Nat.le_of_ble_eq_true rfl)⟩) rfl hl.1 (Nat.le_of_ble_eq_true rfl) h_Sp_reckon_72 (fun σ26 H locs cells slots hw9 h9 => ?_)
        clear hw h; have hw := hw9; have h := h9; clear hw9 h9
        refine W.eq (g2 := F0 m 75 ls []) rfl ?_
        refine lv_goto (tgt := 123) hx hb h_Sp_reckon_75 (by decide) ?_
        exact hend σ26 _ _ _ _ _ _ hw h h_Sp_reckon_123
      · skip
        replace hw := hw.2 c21
        by_cases c28 : x1 = 148
        · skip
          replace hw := hw.1 c28
          refine tp_i 148 c28 ?_
          refine lv_lookup (off := 77) (tgt := 78) hx hb h_Sp_reckon_1 (by decide) (by decide) (by decide) ?_
          refine lv_aload_n hx hb h_Sp_reckon_78 rfl (lv_at hl 0 rfl) ?_
          refine lv_iconst (v := 2) hx hb h_Sp_reckon_79 (by decide) ?_
          obtain ⟨g29, hw⟩ := hw
          refine C_callVv (As := [.int 2]) (rest := []) C h (ci := 9) (Cn := R_Sp) (T := T_Sp) (N := 5) g29 rfl (by decide) (X_Sp_popAs l dC dI ca s.heap σ0 a0 (2 : Int32) hw) (cwV 1 hts (gV hsub u_536 u_537 u_538 u_524 u_539) rfl rfl rfl (by decide +kernel) ⟨(Nat.le_of_ble_eq_true rfl), (Nat.le_of_ble_eq_true rfl)⟩) rfl hl.1 (Nat.le_of_ble_eq_true rfl) h_Sp_reckon_80 (fun σ30 H locs cells slots hw9 h9 => ?_)
          clear hw h; have hw := hw9; have h := h9; clear hw9 h9
          refine W.eq (g2 := F0 m 83 ls []) rfl ?_
          refine lv_aload_n hx hb h_Sp_reckon_83 rfl (lv_at hl 0 rfl) ?_
          refine lv_iconst (v := 2) hx hb h_Sp_reckon_84 (by decide) ?_
          obtain ⟨g32, hw⟩ := hw
          refine C_callVv (As := [.int 2]) (rest := []) C h (ci := 9) (Cn := R_Sp) (T := T_Sp) (N := 5) g32 rfl (by decide) (X_Sp_popAs l dC dI ca H σ30 a0 (2 : Int32) hw) (cwV 1 hts (gV hsub u_536 u_537 u_538 u_524 u_539) rfl rfl rfl (by decide +kernel) ⟨(Nat.le_of_ble_eq_true rfl), (Nat.le_of_ble_eq_true rfl)⟩) rfl hl.1 (Nat.le_of_ble_eq_true rfl) h_Sp_reckon_85 (fun σ33 H locs cells slots hw9 h9 => ?_)
          clear hw h; have hw := hw9; have h := h9; clear hw9 h9
          refine W.eq (g2 := F0 m 88 ls []) rfl ?_
          refine lv_aload_n hx hb h_Sp_reckon_88 rfl (lv_at hl 0 rfl) ?_
          refine lv_iconst (v := 1) hx hb h_Sp_reckon_89 (by decide) ?_
          obtain ⟨g35, hw⟩ := hw
          refine C_callVv (As := [.int 1]) (rest := []) C h (ci := 9) (Cn := R_Sp) (T := T_Sp) (N := 5) g35 rfl (by decide) (X_Sp_push l dC dI ca H σ33 a0 (1 : Int32) hw) (cwV 1 hts (gV hsub u_526 u_527 u_528 u_524 u_529) rfl rfl rfl (by decide +kernel) ⟨(Nat.le_of_ble_eq_true rfl), (Nat.le_of_ble_eq_true rfl)⟩) rfl hl.1 (Nat.le_of_ble_eq_true rfl) h_Sp_reckon_90 (fun σ36 H locs cells slots hw9 h9 => ?_)
          clear hw h; have hw := hw9; have h := h9; clear hw9 h9
          refine W.eq (g2 := F0 m 93 ls []) rfl ?_
          refine lv_goto (tgt := 123) hx hb h_Sp_reckon_93 (by decide) ?_
          exact hend σ36 _ _ _ _ _ _ hw h h_Sp_reckon_123
        · skip
          replace hw := hw.2 c28
          refine lv_lookup (off := 95) (tgt := 96) hx hb h_Sp_reckon_1 (by decide) ((lv_osw c10 (by decide)).trans ((lv_osw c14 (by decide)).trans ((lv_osw c21 (by decide)).trans ((lv_osw c28 (by decide)).trans rfl)))) (by decide) ?_
          refine lv_iload_n hx hb h_Sp_reckon_96 rfl (lv_at hl 1 rfl) ?_
          refine lv_iconst (v := 1) hx hb h_Sp_reckon_97 (by decide) ?_
          refine lv_iand hx hb h_Sp_reckon_98 ?_
          refine lv_topi (fun b38 e_b38 => ?_)
          replace hw := hw b38 e_b38
          refine lv_if_ne (tgt := 106) hx hb h_Sp_reckon_99 (by decide) (fun c39 => ?_) (fun c39 => ?_)
          · skip
            replace hw := hw.2 c39
            refine lv_iconst (v := 2) hx hb h_Sp_reckon_106 (by decide) ?_
            exact K_107 () 2 σ0 _ _ _ _ _ hw h (lv_sub hl [0] rfl)
          · skip
            replace hw := hw.1 c39
            refine lv_iconst (v := 1) hx hb h_Sp_reckon_102 (by decide) ?_
            refine lv_goto (tgt := 107) hx hb h_Sp_reckon_103 (by decide) ?_
            exact K_107 () 1 σ0 _ _ _ _ _ hw h (lv_sub hl [0] rfl)
abbrev g_Sp_popCondition : MethodName := ⟨"MapFramer$Stepper", "popCondition", "(I)V"⟩
theorem h_Sp_popCondition_0 : decode prog_10_method_22_code 0 = .ok (.iload_n 1, 1) := by decide +kernel
theorem h_Sp_popCondition_1 : decode prog_10_method_22_code 1 = .ok (.sipush 164, 3) := by decide +kernel
theorem h_Sp_popCondition_4 : decode prog_10_method_22_code 4 = .ok (.if_icmp .gt 23, 3) := by decide +kernel
theorem h_Sp_popCondition_7 : decode prog_10_method_22_code 7 = .ok (.aload_n 0, 1) := by decide +kernel
theorem h_Sp_popCondition_8 : decode prog_10_method_22_code 8 = .ok (.iconst 1, 1) := by decide +kernel
theorem h_Sp_popCondition_9 : decode prog_10_method_22_code 9 = .ok (.invokevirtual 116, 3) := by decide +kernel
theorem h_Sp_popCondition_12 : decode prog_10_method_22_code 12 = .ok (.iload_n 1, 1) := by decide +kernel
theorem h_Sp_popCondition_13 : decode prog_10_method_22_code 13 = .ok (.sipush 159, 3) := by decide +kernel
theorem h_Sp_popCondition_16 : decode prog_10_method_22_code 16 = .ok (.if_icmp .lt 35, 3) := by decide +kernel
theorem h_Sp_popCondition_19 : decode prog_10_method_22_code 19 = .ok (.aload_n 0, 1) := by decide +kernel
theorem h_Sp_popCondition_20 : decode prog_10_method_22_code 20 = .ok (.iconst 1, 1) := by decide +kernel
theorem h_Sp_popCondition_21 : decode prog_10_method_22_code 21 = .ok (.invokevirtual 116, 3) := by decide +kernel
theorem h_Sp_popCondition_24 : decode prog_10_method_22_code 24 = .ok (.goto 27, 3) := by decide +kernel
theorem h_Sp_popCondition_27 : decode prog_10_method_22_code 27 = .ok (.iload_n 1, 1) := by decide +kernel
theorem h_Sp_popCondition_28 : decode prog_10_method_22_code 28 = .ok (.sipush 167, 3) := by decide +kernel
theorem h_Sp_popCondition_31 : decode prog_10_method_22_code 31 = .ok (.if_icmp .eq 20, 3) := by decide +kernel
theorem h_Sp_popCondition_34 : decode prog_10_method_22_code 34 = .ok (.aload_n 0, 1) := by decide +kernel
theorem h_Sp_popCondition_35 : decode prog_10_method_22_code 35 = .ok (.invokevirtual 145, 3) := by decide +kernel
theorem h_Sp_popCondition_38 : decode prog_10_method_22_code 38 = .ok (.pop, 1) := by decide +kernel
theorem h_Sp_popCondition_39 : decode prog_10_method_22_code 39 = .ok (.iload_n 1, 1) := by decide +kernel
theorem h_Sp_popCondition_40 : decode prog_10_method_22_code 40 = .ok (.sipush 166, 3) := by decide +kernel
theorem h_Sp_popCondition_43 : decode prog_10_method_22_code 43 = .ok (.if_icmp .gt 8, 3) := by decide +kernel
theorem h_Sp_popCondition_46 : decode prog_10_method_22_code 46 = .ok (.aload_n 0, 1) := by decide +kernel
theorem h_Sp_popCondition_47 : decode prog_10_method_22_code 47 = .ok (.invokevirtual 145, 3) := by decide +kernel
theorem h_Sp_popCondition_50 : decode prog_10_method_22_code 50 = .ok (.pop, 1) := by decide +kernel
theorem h_Sp_popCondition_51 : decode prog_10_method_22_code 51 = .ok (.return_, 1) := by decide +kernel
def x_Sp_popCondition (a0 : Nat) (x1 : Int32) (σ0 : CST) (P : CST → Prop) : Prop := ((164 < x1 → ((x1 = 167 → P σ0) ∧ (¬ x1 = 167 → σ0.1 a0 = some (9, 0) ∧ (x_Sp_popReference a0 σ0 (fun r5 σ4 => ((166 < x1 → P σ4) ∧ (¬ 166 < x1 → σ4.1 a0 = some (9, 0) ∧ (x_Sp_popReference a0 σ4 (fun r9 σ8 => P σ8))))))))) ∧ (¬ 164 < x1 → σ0.1 a0 = some (9, 0) ∧ (x_Sp_popAs a0 (1 : Int32) σ0 (fun σ11 => ((x1 < 159 → P σ11) ∧ (¬ x1 < 159 → σ11.1 a0 = some (9, 0) ∧ (x_Sp_popAs a0 (1 : Int32) σ11 (fun σ15 => P σ15))))))))
set_option maxHeartbeats 4000000 in
set_option maxRecDepth 100000 in
theorem X_Sp_popCondition (l : Launch) (dC : Nat → ClassId) (dI : Nat → Nat → Nat) (ca : Nat → ClassId) (H0 : Heap) (σ0 : CST) (a0 : Nat) (x1 : Int32) {P : CST → Prop} (hw : x_Sp_popCondition a0 x1 σ0 P) : Met l g_Sp_popCondition (mW g_Sp_popCondition prog_10_method_22_code 2 none) ({ frames := 3, cells := σ0.2.2.2.2.1, slots := σ0.2.2.2.2.2.1, locals := 67 } : Room) (va_Pc [.ref a0, .int x1] (CPre (dC, dI) ca σ0 H0)) (va_Qv P (CB (dC, dI) ca σ0 H0) (cA σ0 H0.size)) σ0.2.2.2.2.1 σ0.2.2.2.2.2.1 (cA σ0 H0.size) := by
  refine C_ofv (by decide +kernel) rfl rfl rfl (Nat.le_of_ble_eq_true rfl) ?_
  intro p e s m below meth cx Q A ls C hnm hend hH0 h hl
  subst hH0
  have C0 := C
  obtain ⟨⟨hx, hb, hml, hown, hts⟩, hsub⟩ := C0
  obtain ⟨cells, e_cells⟩ : ∃ z : Nat, z = 0 := ⟨_, rfl⟩
  obtain ⟨slots, e_slots⟩ : ∃ z : Nat, z = 0 := ⟨_, rfl⟩
  have h : CH (dC, dI) A ca ({ frames := 3, cells := σ0.2.2.2.2.1, slots := σ0.2.2.2.2.2.1, locals := 67 } : Room) σ0.2.2.2.2.2.2 σ0 s s.heap [] cells slots := by rw [e_cells, e_slots]; exact h
  show W p l e ({ frames := 3, cells := σ0.2.2.2.2.1, slots := σ0.2.2.2.2.2.1, locals := 67 } : Room) s m ([.ref a0, .int x1] : List Value).toArray below meth cx s.heap [] 0 0 Q (F0 m 0 ls [])
  rw [show W p l e ({ frames := 3, cells := σ0.2.2.2.2.1, slots := σ0.2.2.2.2.2.1, locals := 67 } : Room) s m ([.ref a0, .int x1] : List Value).toArray below meth cx s.heap [] 0 0 Q (F0 m 0 ls []) = W p l e ({ frames := 3, cells := σ0.2.2.2.2.1, slots := σ0.2.2.2.2.2.1, locals := 67 } : Room) s m ([.ref a0, .int x1] : List Value).toArray below meth cx s.heap [] cells slots Q (F0 m 0 ls []) by rw [e_cells, e_slots]]
  have hl : lv_has ls 2 [(0, .ref a0), (1, .int x1)] := hl
  unfold x_Sp_popCondition at hw
  refine lv_iload_n hx hb h_Sp_popCondition_0 rfl (lv_at hl 1 rfl) ?_
  refine lv_sipush (v := 164) hx hb h_Sp_popCondition_1 (by decide) ?_
  refine lv_icmp_gt (tgt := 27) hx hb h_Sp_popCondition_4 (by decide) (fun c1 => ?_) (fun c1 => ?_)
  · skip
    replace hw := hw.1 c1
    refine lv_iload_n hx hb h_Sp_popCondition_27 rfl (lv_at hl 1 rfl) ?_
    refine lv_sipush (v := 167) hx hb h_Sp_popCondition_28 (by decide) ?_
    refine lv_icmp_eq (tgt := 51) hx hb h_Sp_popCondition_31 (by decide) (fun c2 => ?_) (fun c2 => ?_)
    · skip
      replace hw := hw.1 c2
      exact hend σ0 _ _ _ _ _ _ hw h h_Sp_popCondition_51
    · skip
      replace hw := hw.2 c2
      refine lv_aload_n hx hb h_Sp_popCondition_34 rfl (lv_at hl 0 rfl) ?_
      obtain ⟨g3, hw⟩ := hw
      refine C_callVi (As := []) (rest := []) C h (ci := 9) (Cn := R_Sp) (T := T_Sp) (N := 5) g3 rfl (by decide) (X_Sp_popReference l dC dI ca s.heap σ0 a0 hw) (cwV 0 hts (gV hsub u_580 u_581 u_582 u_524 u_583) rfl rfl rfl (by decide +kernel) ⟨(Nat.le_of_ble_eq_true rfl), (Nat.le_of_ble_eq_true rfl)⟩) rfl hl.1 (Nat.le_of_ble_eq_true rfl) h_Sp_popCondition_35 (fun r5 σ4 H locs cells slots hw9 h9 => ?_)
      clear hw h; have hw := hw9; have h := h9; clear hw9 h9
      refine W.eq (g2 := F0 m 38 ls [.int r5]) rfl ?_
      refine lv_pop hx hb h_Sp_popCondition_38 rfl ?_
      refine lv_iload_n hx hb h_Sp_popCondition_39 rfl (lv_at hl 1 rfl) ?_
      refine lv_sipush (v := 166) hx hb h_Sp_popCondition_40 (by decide) ?_
      refine lv_icmp_gt (tgt := 51) hx hb h_Sp_popCondition_43 (by decide) (fun c6 => ?_) (fun c6 => ?_)
      · skip
        replace hw := hw.1 c6
        exact hend σ4 _ _ _ _ _ _ hw h h_Sp_popCondition_51
      · skip
        replace hw := hw.2 c6
        refine lv_aload_n hx hb h_Sp_popCondition_46 rfl (lv_at hl 0 rfl) ?_
        obtain ⟨g7, hw⟩ := hw
        refine C_callVi (As := []) (rest := []) C h (ci := 9) (Cn := R_Sp) (T := T_Sp) (N := 5) g7 rfl (by decide) (X_Sp_popReference l dC dI ca H σ4 a0 hw) (cwV 0 hts (gV hsub u_580 u_581 u_582 u_524 u_583) rfl rfl rfl (by decide +kernel) ⟨(Nat.le_of_ble_eq_true rfl), (Nat.le_of_ble_eq_true rfl)⟩) rfl hl.1 (Nat.le_of_ble_eq_true rfl) h_Sp_popCondition_47 (fun r9 σ8 H locs cells slots hw9 h9 => ?_)
        clear hw h; have hw := hw9; have h := h9; clear hw9 h9
        refine W.eq (g2 := F0 m 50 ls [.int r9]) rfl ?_
        refine lv_pop hx hb h_Sp_popCondition_50 rfl ?_
        exact hend σ8 _ _ _ _ _ _ hw h h_Sp_popCondition_51
  · skip
    replace hw := hw.2 c1
    refine lv_aload_n hx hb h_Sp_popCondition_7 rfl (lv_at hl 0 rfl) ?_
    refine lv_iconst (v := 1) hx hb h_Sp_popCondition_8 (by decide) ?_
    obtain ⟨g10, hw⟩ := hw
    refine C_callVv (As := [.int 1]) (rest := []) C h (ci := 9) (Cn := R_Sp) (T := T_Sp) (N := 5) g10 rfl (by decide) (X_Sp_popAs l dC dI ca s.heap σ0 a0 (1 : Int32) hw) (cwV 1 hts (gV hsub u_536 u_537 u_538 u_524 u_539) rfl rfl rfl (by decide +kernel) ⟨(Nat.le_of_ble_eq_true rfl), (Nat.le_of_ble_eq_true rfl)⟩) rfl hl.1 (Nat.le_of_ble_eq_true rfl) h_Sp_popCondition_9 (fun σ11 H locs cells slots hw9 h9 => ?_)
    clear hw h; have hw := hw9; have h := h9; clear hw9 h9
    refine W.eq (g2 := F0 m 12 ls []) rfl ?_
    refine lv_iload_n hx hb h_Sp_popCondition_12 rfl (lv_at hl 1 rfl) ?_
    refine lv_sipush (v := 159) hx hb h_Sp_popCondition_13 (by decide) ?_
    refine lv_icmp_lt (tgt := 51) hx hb h_Sp_popCondition_16 (by decide) (fun c13 => ?_) (fun c13 => ?_)
    · skip
      replace hw := hw.1 c13
      exact hend σ11 _ _ _ _ _ _ hw h h_Sp_popCondition_51
    · skip
      replace hw := hw.2 c13
      refine lv_aload_n hx hb h_Sp_popCondition_19 rfl (lv_at hl 0 rfl) ?_
      refine lv_iconst (v := 1) hx hb h_Sp_popCondition_20 (by decide) ?_
      obtain ⟨g14, hw⟩ := hw
      refine C_callVv (As := [.int 1]) (rest := []) C h (ci := 9) (Cn := R_Sp) (T := T_Sp) (N := 5) g14 rfl (by decide) (X_Sp_popAs l dC dI ca H σ11 a0 (1 : Int32) hw) (cwV 1 hts (gV hsub u_536 u_537 u_538 u_524 u_539) rfl rfl rfl (by decide +kernel) ⟨(Nat.le_of_ble_eq_true rfl), (Nat.le_of_ble_eq_true rfl)⟩) rfl hl.1 (Nat.le_of_ble_eq_true rfl) h_Sp_popCondition_21 (fun σ15 H locs cells slots hw9 h9 => ?_)
      clear hw h; have hw := hw9; have h := h9; clear hw9 h9
      refine W.eq (g2 := F0 m 24 ls []) rfl ?_
      refine lv_goto (tgt := 51) hx hb h_Sp_popCondition_24 (by decide) ?_
      exact hend σ15 _ _ _ _ _ _ hw h h_Sp_popCondition_51
abbrev g_Sp_popResult : MethodName := ⟨"MapFramer$Stepper", "popResult", "(I)V"⟩
theorem u_592 : (Cond.fieldLink "MapFramer$Stepper" 154 "MapFramer$Method" "result" "I" : Cond) ∈ bigW := inB_2 163 (by decide +kernel) rfl
theorem h_Sp_popResult_0 : decode prog_10_method_23_code 0 = .ok (.iload_n 1, 1) := by decide +kernel
theorem h_Sp_popResult_1 : decode prog_10_method_23_code 1 = .ok (.sipush 177, 3) := by decide +kernel
theorem h_Sp_popResult_4 : decode prog_10_method_23_code 4 = .ok (.if_icmp .ne 20, 3) := by decide +kernel
theorem h_Sp_popResult_7 : decode prog_10_method_23_code 7 = .ok (.aload_n 0, 1) := by decide +kernel
theorem h_Sp_popResult_8 : decode prog_10_method_23_code 8 = .ok (.getfield 13, 3) := by decide +kernel
theorem h_Sp_popResult_11 : decode prog_10_method_23_code 11 = .ok (.getfield 154, 3) := by decide +kernel
theorem h_Sp_popResult_14 : decode prog_10_method_23_code 14 = .ok (.ifCond .eq 9, 3) := by decide +kernel
theorem h_Sp_popResult_17 : decode prog_10_method_23_code 17 = .ok (.aload_n 0, 1) := by decide +kernel
theorem h_Sp_popResult_18 : decode prog_10_method_23_code 18 = .ok (.bipush 6, 2) := by decide +kernel
theorem h_Sp_popResult_20 : decode prog_10_method_23_code 20 = .ok (.invokevirtual 87, 3) := by decide +kernel
theorem h_Sp_popResult_23 : decode prog_10_method_23_code 23 = .ok (.return_, 1) := by decide +kernel
theorem h_Sp_popResult_24 : decode prog_10_method_23_code 24 = .ok (.aload_n 0, 1) := by decide +kernel
theorem h_Sp_popResult_25 : decode prog_10_method_23_code 25 = .ok (.invokevirtual 135, 3) := by decide +kernel
theorem h_Sp_popResult_28 : decode prog_10_method_23_code 28 = .ok (.istore_n 2, 1) := by decide +kernel
theorem h_Sp_popResult_29 : decode prog_10_method_23_code 29 = .ok (.iload_n 1, 1) := by decide +kernel
theorem h_Sp_popResult_30 : decode prog_10_method_23_code 30 = .ok (.sipush 172, 3) := by decide +kernel
theorem h_Sp_popResult_33 : decode prog_10_method_23_code 33 = .ok (.if_icmp .ne 16, 3) := by decide +kernel
theorem h_Sp_popResult_36 : decode prog_10_method_23_code 36 = .ok (.iload_n 2, 1) := by decide +kernel
theorem h_Sp_popResult_37 : decode prog_10_method_23_code 37 = .ok (.iconst 1, 1) := by decide +kernel
theorem h_Sp_popResult_38 : decode prog_10_method_23_code 38 = .ok (.if_icmp .ne 7, 3) := by decide +kernel
theorem h_Sp_popResult_41 : decode prog_10_method_23_code 41 = .ok (.iconst 1, 1) := by decide +kernel
theorem h_Sp_popResult_42 : decode prog_10_method_23_code 42 = .ok (.goto 31, 3) := by decide +kernel
theorem h_Sp_popResult_45 : decode prog_10_method_23_code 45 = .ok (.iconst 0, 1) := by decide +kernel
theorem h_Sp_popResult_46 : decode prog_10_method_23_code 46 = .ok (.goto 27, 3) := by decide +kernel
theorem h_Sp_popResult_49 : decode prog_10_method_23_code 49 = .ok (.iload_n 1, 1) := by decide +kernel
theorem h_Sp_popResult_50 : decode prog_10_method_23_code 50 = .ok (.sipush 173, 3) := by decide +kernel
theorem h_Sp_popResult_53 : decode prog_10_method_23_code 53 = .ok (.if_icmp .ne 16, 3) := by decide +kernel
theorem h_Sp_popResult_56 : decode prog_10_method_23_code 56 = .ok (.iload_n 2, 1) := by decide +kernel
theorem h_Sp_popResult_57 : decode prog_10_method_23_code 57 = .ok (.iconst 2, 1) := by decide +kernel
theorem h_Sp_popResult_58 : decode prog_10_method_23_code 58 = .ok (.if_icmp .ne 7, 3) := by decide +kernel
theorem h_Sp_popResult_61 : decode prog_10_method_23_code 61 = .ok (.iconst 1, 1) := by decide +kernel
theorem h_Sp_popResult_62 : decode prog_10_method_23_code 62 = .ok (.goto 11, 3) := by decide +kernel
theorem h_Sp_popResult_65 : decode prog_10_method_23_code 65 = .ok (.iconst 0, 1) := by decide +kernel
theorem h_Sp_popResult_66 : decode prog_10_method_23_code 66 = .ok (.goto 7, 3) := by decide +kernel
theorem h_Sp_popResult_69 : decode prog_10_method_23_code 69 = .ok (.iload_n 2, 1) := by decide +kernel
theorem h_Sp_popResult_70 : decode prog_10_method_23_code 70 = .ok (.invokestatic 101, 3) := by decide +kernel
theorem h_Sp_popResult_73 : decode prog_10_method_23_code 73 = .ok (.istore_n 3, 1) := by decide +kernel
theorem h_Sp_popResult_74 : decode prog_10_method_23_code 74 = .ok (.iload_n 3, 1) := by decide +kernel
theorem h_Sp_popResult_75 : decode prog_10_method_23_code 75 = .ok (.ifCond .eq 31, 3) := by decide +kernel
theorem h_Sp_popResult_78 : decode prog_10_method_23_code 78 = .ok (.aload_n 0, 1) := by decide +kernel
theorem h_Sp_popResult_79 : decode prog_10_method_23_code 79 = .ok (.getfield 13, 3) := by decide +kernel
theorem h_Sp_popResult_82 : decode prog_10_method_23_code 82 = .ok (.getfield 154, 3) := by decide +kernel
theorem h_Sp_popResult_85 : decode prog_10_method_23_code 85 = .ok (.ifCond .eq 21, 3) := by decide +kernel
theorem h_Sp_popResult_88 : decode prog_10_method_23_code 88 = .ok (.aload_n 0, 1) := by decide +kernel
theorem h_Sp_popResult_89 : decode prog_10_method_23_code 89 = .ok (.getfield 7, 3) := by decide +kernel
theorem h_Sp_popResult_92 : decode prog_10_method_23_code 92 = .ok (.iload_n 2, 1) := by decide +kernel
theorem h_Sp_popResult_93 : decode prog_10_method_23_code 93 = .ok (.aload_n 0, 1) := by decide +kernel
theorem h_Sp_popResult_94 : decode prog_10_method_23_code 94 = .ok (.getfield 13, 3) := by decide +kernel
theorem h_Sp_popResult_97 : decode prog_10_method_23_code 97 = .ok (.getfield 154, 3) := by decide +kernel
theorem h_Sp_popResult_100 : decode prog_10_method_23_code 100 = .ok (.invokevirtual 104, 3) := by decide +kernel
theorem h_Sp_popResult_103 : decode prog_10_method_23_code 103 = .ok (.ifCond .ne 9, 3) := by decide +kernel
theorem h_Sp_popResult_106 : decode prog_10_method_23_code 106 = .ok (.aload_n 0, 1) := by decide +kernel
theorem h_Sp_popResult_107 : decode prog_10_method_23_code 107 = .ok (.bipush 6, 2) := by decide +kernel
theorem h_Sp_popResult_109 : decode prog_10_method_23_code 109 = .ok (.invokevirtual 87, 3) := by decide +kernel
theorem h_Sp_popResult_112 : decode prog_10_method_23_code 112 = .ok (.return_, 1) := by decide +kernel
def x_Sp_popResult_106 (a0 : Nat) (P : CST → Prop) (σ : CST) : Prop := σ.1 a0 = some (9, 0) ∧ (x_Sp_fail a0 (6 : Int32) σ (fun σ2 => P σ2))
def x_Sp_popResult_73 (a0 : Nat) (P : CST → Prop) (z2 : Int32) (s0 : Int32) (σ : CST) : Prop := ((s0 = 0 → x_Sp_popResult_106 a0 P σ) ∧ (¬ s0 = 0 → σ.1 a0 = some (9, 0) ∧ (∀ b6 : Option Nat, b6 = (σ.2.2.2.1 a0 1) → (∃ r7 : Nat, b6 = some r7 ∧ (σ.1 r7 = some (5, 0) ∧ ((((σ.2.1 r7 1) = 0 → x_Sp_popResult_106 a0 P σ) ∧ (¬ (σ.2.1 r7 1) = 0 → ∀ b10 : Option Nat, b10 = (σ.2.2.2.1 a0 0) → ∀ b11 : Option Nat, b11 = (σ.2.2.2.1 a0 1) → (∃ r12 : Nat, b11 = some r12 ∧ (σ.1 r12 = some (5, 0) ∧ ((∃ r14 : Nat, b10 = some r14 ∧ (σ.1 r14 = some (3, 0) ∧ (x_W_assignable r14 z2 (σ.2.1 r12 1) σ (fun r17 σ16 => ((r17 = 0 → x_Sp_popResult_106 a0 P σ16) ∧ (¬ r17 = 0 → P σ16)))))))))))))))))
def x_Sp_popResult (a0 : Nat) (x1 : Int32) (σ0 : CST) (P : CST → Prop) : Prop := ((x1 = 177 → σ0.1 a0 = some (9, 0) ∧ (∀ b30 : Option Nat, b30 = (σ0.2.2.2.1 a0 1) → (∃ r31 : Nat, b30 = some r31 ∧ (σ0.1 r31 = some (5, 0) ∧ ((((σ0.2.1 r31 1) = 0 → P σ0) ∧ (¬ (σ0.2.1 r31 1) = 0 → x_Sp_fail a0 (6 : Int32) σ0 (fun σ34 => P σ34)))))))) ∧ (¬ x1 = 177 → σ0.1 a0 = some (9, 0) ∧ (x_Sp_pop a0 σ0 (fun r22 σ21 => ((x1 = 172 → ((r22 = 1 → x_Sp_popResult_73 a0 P r22 1 σ21) ∧ (¬ r22 = 1 → x_Sp_popResult_73 a0 P r22 0 σ21))) ∧ (¬ x1 = 172 → ((x1 = 173 → ((r22 = 2 → x_Sp_popResult_73 a0 P r22 1 σ21) ∧ (¬ r22 = 2 → x_Sp_popResult_73 a0 P r22 0 σ21))) ∧ (¬ x1 = 173 → x_W_isReference r22 σ21 (fun r26 σ25 => x_Sp_popResult_73 a0 P r22 r26 σ25)))))))))
set_option maxHeartbeats 4000000 in
set_option maxRecDepth 100000 in
theorem X_Sp_popResult (l : Launch) (dC : Nat → ClassId) (dI : Nat → Nat → Nat) (ca : Nat → ClassId) (H0 : Heap) (σ0 : CST) (a0 : Nat) (x1 : Int32) {P : CST → Prop} (hw : x_Sp_popResult a0 x1 σ0 P) : Met l g_Sp_popResult (mW g_Sp_popResult prog_10_method_23_code 4 none) ({ frames := 2, cells := σ0.2.2.2.2.1, slots := σ0.2.2.2.2.2.1, locals := 46 } : Room) (va_Pc [.ref a0, .int x1] (CPre (dC, dI) ca σ0 H0)) (va_Qv P (CB (dC, dI) ca σ0 H0) (cA σ0 H0.size)) σ0.2.2.2.2.1 σ0.2.2.2.2.2.1 (cA σ0 H0.size) := by
  refine C_ofv (by decide +kernel) rfl rfl rfl (Nat.le_of_ble_eq_true rfl) ?_
  intro p e s m below meth cx Q A ls C hnm hend hH0 h hl
  subst hH0
  have C0 := C
  obtain ⟨⟨hx, hb, hml, hown, hts⟩, hsub⟩ := C0
  obtain ⟨cells, e_cells⟩ : ∃ z : Nat, z = 0 := ⟨_, rfl⟩
  obtain ⟨slots, e_slots⟩ : ∃ z : Nat, z = 0 := ⟨_, rfl⟩
  have h : CH (dC, dI) A ca ({ frames := 2, cells := σ0.2.2.2.2.1, slots := σ0.2.2.2.2.2.1, locals := 46 } : Room) σ0.2.2.2.2.2.2 σ0 s s.heap [] cells slots := by rw [e_cells, e_slots]; exact h
  show W p l e ({ frames := 2, cells := σ0.2.2.2.2.1, slots := σ0.2.2.2.2.2.1, locals := 46 } : Room) s m ([.ref a0, .int x1] : List Value).toArray below meth cx s.heap [] 0 0 Q (F0 m 0 ls [])
  rw [show W p l e ({ frames := 2, cells := σ0.2.2.2.2.1, slots := σ0.2.2.2.2.2.1, locals := 46 } : Room) s m ([.ref a0, .int x1] : List Value).toArray below meth cx s.heap [] 0 0 Q (F0 m 0 ls []) = W p l e ({ frames := 2, cells := σ0.2.2.2.2.1, slots := σ0.2.2.2.2.2.1, locals := 46 } : Room) s m ([.ref a0, .int x1] : List Value).toArray below meth cx s.heap [] cells slots Q (F0 m 0 ls []) by rw [e_cells, e_slots]]
  have K_106 : ∀ (u9 : Unit), ∀ (σ : CST) (H : Heap) (locs : List Loc) (cells slots : Nat) (ls : Array Slot), x_Sp_popResult_106 a0 P σ → CH (dC, dI) A ca ({ frames := 2, cells := σ0.2.2.2.2.1, slots := σ0.2.2.2.2.2.1, locals := 46 } : Room) σ0.2.2.2.2.2.2 σ s H locs cells slots → lv_has ls 4 [(0, .ref a0)] → W p l e ({ frames := 2, cells := σ0.2.2.2.2.1, slots := σ0.2.2.2.2.2.1, locals := 46 } : Room) s m ([.ref a0, .int x1] : List Value).toArray below meth cx H locs cells slots Q (F0 m 106 ls []) := by
    intro u9  σ H locs cells slots ls hw h hl
    unfold x_Sp_popResult_106 at hw
    refine lv_aload_n hx hb h_Sp_popResult_106 rfl (lv_at hl 0 rfl) ?_
    refine lv_bipush (v := 6) hx hb h_Sp_popResult_107 (by decide) ?_
    obtain ⟨g1, hw⟩ := hw
    refine C_callVv (As := [.int 6]) (rest := []) C h (ci := 9) (Cn := R_Sp) (T := T_Sp) (N := 5) g1 rfl (by decide) (X_Sp_fail l dC dI ca H σ a0 (6 : Int32) hw) (cwV 1 hts (gV hsub u_521 u_522 u_523 u_524 u_525) rfl rfl rfl (by decide +kernel) ⟨(Nat.le_of_ble_eq_true rfl), (Nat.le_of_ble_eq_true rfl)⟩) rfl hl.1 (Nat.le_of_ble_eq_true rfl) h_Sp_popResult_109 (fun σ2 H locs cells slots hw9 h9 => ?_)
    clear hw h; have hw := hw9; have h := h9; clear hw9 h9
    refine W.eq (g2 := F0 m 112 ls []) rfl ?_
    exact hend σ2 _ _ _ _ _ _ hw h h_Sp_popResult_112
  have K_73 : ∀ (u9 : Unit), ∀ (z2 : Int32) (s0 : Int32) (σ : CST) (H : Heap) (locs : List Loc) (cells slots : Nat) (ls : Array Slot), x_Sp_popResult_73 a0 P z2 s0 σ → CH (dC, dI) A ca ({ frames := 2, cells := σ0.2.2.2.2.1, slots := σ0.2.2.2.2.2.1, locals := 46 } : Room) σ0.2.2.2.2.2.2 σ s H locs cells slots → lv_has ls 4 [(0, .ref a0), (2, .int z2)] → W p l e ({ frames := 2, cells := σ0.2.2.2.2.1, slots := σ0.2.2.2.2.2.1, locals := 46 } : Room) s m ([.ref a0, .int x1] : List Value).toArray below meth cx H locs cells slots Q (F0 m 73 ls [.int s0]) := by
    intro u9 z2 s0 σ H locs cells slots ls hw h hl
    unfold x_Sp_popResult_73 at hw
    refine lv_istore_n (i := 3) (lv' := [(3, .int s0), (0, .ref a0), (2, .int z2)]) hx hb h_Sp_popResult_73 rfl hl (by decide) rfl (fun ls hl => ?_)
    refine lv_iload_n hx hb h_Sp_popResult_74 rfl (lv_at hl 0 rfl) ?_
    refine lv_if_eq (tgt := 106) hx hb h_Sp_popResult_75 (by decide) (fun c4 => ?_) (fun c4 => ?_)
    · skip
      replace hw := hw.1 c4
      exact K_106 () σ _ _ _ _ _ hw h (lv_sub hl [1] rfl)
    · skip
      replace hw := hw.2 c4
      refine lv_aload_n hx hb h_Sp_popResult_78 rfl (lv_at hl 1 rfl) ?_
      obtain ⟨g5, hw⟩ := hw
      refine C_get C h 9 1 (v := va_rf (σ.2.2.2.1 a0 1)) g5 rfl (Cn := R_Sp) (T := T_Sp) (N := 5) rfl (by decide) rfl uw_Sp (by decide) u_514 (fun _ q => q) h_Sp_popResult_79 ?_
      refine lv_topq (fun b6 e_b6 => ?_)
      replace hw := hw b6 e_b6
      obtain ⟨r7, e_r7, hw⟩ := hw
      subst e_r7
      have hl : lv_has ls 4 [(3, .int s0), (0, .ref a0), (2, .int z2)] := hl
      refine W.eq (g2 := F0 m 82 ls [.ref r7]) rfl ?_
      obtain ⟨g8, hw⟩ := hw
      refine C_get C h 5 1 (v := .int (σ.2.1 r7 1)) g8 rfl (Cn := R_E) (T := T_E) (N := 13) rfl (by decide) rfl uw_E (by decide) u_592 (fun _ q => q) h_Sp_popResult_82 ?_
      refine lv_if_eq (tgt := 106) hx hb h_Sp_popResult_85 (by decide) (fun c9 => ?_) (fun c9 => ?_)
      · skip
        replace hw := hw.1 c9
        exact K_106 () σ _ _ _ _ _ hw h (lv_sub hl [1] rfl)
      · skip
        replace hw := hw.2 c9
        refine lv_aload_n hx hb h_Sp_popResult_88 rfl (lv_at hl 1 rfl) ?_
        refine C_get C h 9 0 (v := va_rf (σ.2.2.2.1 a0 0)) g5 rfl (Cn := R_Sp) (T := T_Sp) (N := 5) rfl (by decide) rfl uw_Sp (by decide) u_513 (fun _ q => q) h_Sp_popResult_89 ?_
        refine lv_topq (fun b10 e_b10 => ?_)
        replace hw := hw b10 e_b10
        refine lv_iload_n hx hb h_Sp_popResult_92 rfl (lv_at hl 2 rfl) ?_
        refine lv_aload_n hx hb h_Sp_popResult_93 rfl (lv_at hl 1 rfl) ?_
        refine C_get C h 9 1 (v := va_rf (σ.2.2.2.1 a0 1)) g5 rfl (Cn := R_Sp) (T := T_Sp) (N := 5) rfl (by decide) rfl uw_Sp (by decide) u_514 (fun _ q => q) h_Sp_popResult_94 ?_
        refine lv_topq (fun b11 e_b11 => ?_)
        replace hw := hw b11 e_b11
        obtain ⟨r12, e_r12, hw⟩ := hw
        subst e_r12
        have hl : lv_has ls 4 [(3, .int s0), (0, .ref a0), (2, .int z2)] := hl
        refine W.eq (g2 := F0 m 97 ls [.ref r12, .int z2, va_rf b10]) rfl ?_
        obtain ⟨g13, hw⟩ := hw
        refine C_get C h 5 1 (v := .int (σ.2.1 r12 1)) g13 rfl (Cn := R_E) (T := T_E) (N := 13) rfl (by decide) rfl uw_E (by decide) u_592 (fun _ q => q) h_Sp_popResult_97 ?_
        obtain ⟨r14, e_r14, hw⟩ := hw
        subst e_r14
        have hl : lv_has ls 4 [(3, .int s0), (0, .ref a0), (2, .int z2)] := hl
        refine W.eq (g2 := F0 m 100 ls [.int (σ.2.1 r12 1), .int z2, .ref r14]) rfl ?_
        obtain ⟨g15, hw⟩ := hw
        refine C_callVi (As := [.int z2, .int (σ.2.1 r12 1)]) (rest := []) C h (ci := 3) (Cn := R_W) (T := T_W) (N := 10) g15 rfl (by decide) (X_W_assignable l dC dI ca H σ r14 z2 (σ.2.1 r12 1) hw) (cwV 2 hts (gV hsub u_534 u_288 u_289 u_51 u_290) rfl rfl rfl (by decide +kernel) ⟨(Nat.le_of_ble_eq_true rfl), (Nat.le_of_ble_eq_true rfl)⟩) rfl hl.1 (Nat.le_of_ble_eq_true rfl) h_Sp_popResult_100 (fun r17 σ16 H locs cells slots hw9 h9 => ?_)
        clear hw h; have hw := hw9; have h := h9; clear hw9 h9
        refine W.eq (g2 := F0 m 103 ls [.int r17]) rfl ?_
        refine lv_if_ne (tgt := 112) hx hb h_Sp_popResult_103 (by decide) (fun c18 => ?_) (fun c18 => ?_)
        · skip
          replace hw := hw.2 c18
          exact hend σ16 _ _ _ _ _ _ hw h h_Sp_popResult_112
        · skip
          replace hw := hw.1 c18
          exact K_106 () σ16 _ _ _ _ _ hw h (lv_sub hl [1] rfl)
  have hl : lv_has ls 4 [(0, .ref a0), (1, .int x1)] := hl
  unfold x_Sp_popResult at hw
  refine lv_iload_n hx hb h_Sp_popResult_0 rfl (lv_at hl 1 rfl) ?_
  refine lv_sipush (v := 177) hx hb h_Sp_popResult_1 (by decide) ?_
  refine lv_icmp_ne (tgt := 24) hx hb h_Sp_popResult_4 (by decide) (fun c19 => ?_) (fun c19 => ?_)
  · skip
    replace hw := hw.2 c19
    refine lv_aload_n hx hb h_Sp_popResult_24 rfl (lv_at hl 0 rfl) ?_
    obtain ⟨g20, hw⟩ := hw
    refine C_callVi (As := []) (rest := []) C h (ci := 9) (Cn := R_Sp) (T := T_Sp) (N := 5) g20 rfl (by decide) (X_Sp_pop l dC dI ca s.heap σ0 a0 hw) (cwV 0 hts (gV hsub u_560 u_561 u_562 u_524 u_563) rfl rfl rfl (by decide +kernel) ⟨(Nat.le_of_ble_eq_true rfl), (Nat.le_of_ble_eq_true rfl)⟩) rfl hl.1 (Nat.le_of_ble_eq_true rfl) h_Sp_popResult_25 (fun r22 σ21 H locs cells slots hw9 h9 => ?_)
    clear hw h; have hw := hw9; have h := h9; clear hw9 h9
    refine W.eq (g2 := F0 m 28 ls [.int r22]) rfl ?_
    refine lv_istore_n (i := 2) (lv' := [(2, .int r22), (0, .ref a0), (1, .int x1)]) hx hb h_Sp_popResult_28 rfl hl (by decide) rfl (fun ls hl => ?_)
    refine lv_iload_n hx hb h_Sp_popResult_29 rfl (lv_at hl 2 rfl) ?_
    refine lv_sipush (v := 172) hx hb h_Sp_popResult_30 (by decide) ?_
    refine lv_icmp_ne (tgt := 49) hx hb h_Sp_popResult_33 (by decide) (fun c23 => ?_) (fun c23 => ?_)
    · skip
      replace hw := hw.2 c23
      refine lv_iload_n hx hb h_Sp_popResult_49 rfl (lv_at hl 2 rfl) ?_
      refine lv_sipush (v := 173) hx hb h_Sp_popResult_50 (by decide) ?_
      refine lv_icmp_ne (tgt := 69) hx hb h_Sp_popResult_53 (by decide) (fun c24 => ?_) (fun c24 => ?_)
      · skip
        replace hw := hw.2 c24
        refine lv_iload_n hx hb h_Sp_popResult_69 rfl (lv_at hl 0 rfl) ?_
        refine C_callSi (As := [.int r22]) (rest := []) C h (X_W_isReference l dC dI ca H σ21 r22 hw) (va_cwS 1 hts (gS hsub u_554 u_279 u_51 u_280) rfl rfl rfl (by decide +kernel) ⟨(Nat.le_of_ble_eq_true rfl), (Nat.le_of_ble_eq_true rfl)⟩) rfl hl.1 (Nat.le_of_ble_eq_true rfl) h_Sp_popResult_70 (fun r26 σ25 H locs cells slots hw9 h9 => ?_)
        clear hw h; have hw := hw9; have h := h9; clear hw9 h9
        refine W.eq (g2 := F0 m 73 ls [.int r26]) rfl ?_
        exact K_73 () r22 r26 σ25 _ _ _ _ _ hw h (lv_sub hl [1, 0] rfl)
      · skip
        replace hw := hw.1 c24
        refine lv_iload_n hx hb h_Sp_popResult_56 rfl (lv_at hl 0 rfl) ?_
        refine lv_iconst (v := 2) hx hb h_Sp_popResult_57 (by decide) ?_
        refine lv_icmp_ne (tgt := 65) hx hb h_Sp_popResult_58 (by decide) (fun c27 => ?_) (fun c27 => ?_)
        · skip
          replace hw := hw.2 c27
          refine lv_iconst (v := 0) hx hb h_Sp_popResult_65 (by decide) ?_
          refine lv_goto (tgt := 73) hx hb h_Sp_popResult_66 (by decide) ?_
          exact K_73 () r22 0 σ21 _ _ _ _ _ hw h (lv_sub hl [1, 0] rfl)
        · skip
          replace hw := hw.1 c27
          refine lv_iconst (v := 1) hx hb h_Sp_popResult_61 (by decide) ?_
          refine lv_goto (tgt := 73) hx hb h_Sp_popResult_62 (by decide) ?_
          exact K_73 () r22 1 σ21 _ _ _ _ _ hw h (lv_sub hl [1, 0] rfl)
    · skip
      replace hw := hw.1 c23
      refine lv_iload_n hx hb h_Sp_popResult_36 rfl (lv_at hl 0 rfl) ?_
      refine lv_iconst (v := 1) hx hb h_Sp_popResult_37 (by decide) ?_
      refine lv_icmp_ne (tgt := 45) hx hb h_Sp_popResult_38 (by decide) (fun c28 => ?_) (fun c28 => ?_)
      · skip
        replace hw := hw.2 c28
        refine lv_iconst (v := 0) hx hb h_Sp_popResult_45 (by decide) ?_
        refine lv_goto (tgt := 73) hx hb h_Sp_popResult_46 (by decide) ?_
        exact K_73 () r22 0 σ21 _ _ _ _ _ hw h (lv_sub hl [1, 0] rfl)
      · skip
        replace hw := hw.1 c28
        refine lv_iconst (v := 1) hx hb h_Sp_popResult_41 (by decide) ?_
        refine lv_goto (tgt := 73) hx hb h_Sp_popResult_42 (by decide) ?_
        exact K_73 () r22 1 σ21 _ _ _ _ _ hw h (lv_sub hl [1, 0] rfl)
  · skip
    replace hw := hw.1 c19
    refine lv_aload_n hx hb h_Sp_popResult_7 rfl (lv_at hl 0 rfl) ?_
    obtain ⟨g29, hw⟩ := hw
    refine C_get C h 9 1 (v := va_rf (σ0.2.2.2.1 a0 1)) g29 rfl (Cn := R_Sp) (T := T_Sp) (N := 5) rfl (by decide) rfl uw_Sp (by decide) u_514 (fun _ q => q) h_Sp_popResult_8 ?_
    refine lv_topq (fun b30 e_b30 => ?_)
    replace hw := hw b30 e_b30
    obtain ⟨r31, e_r31, hw⟩ := hw
    subst e_r31
    have hl : lv_has ls 4 [(0, .ref a0), (1, .int x1)] := hl
    refine W.eq (g2 := F0 m 11 ls [.ref r31]) rfl ?_
    obtain ⟨g32, hw⟩ := hw
    refine C_get C h 5 1 (v := .int (σ0.2.1 r31 1)) g32 rfl (Cn := R_E) (T := T_E) (N := 13) rfl (by decide) rfl uw_E (by decide) u_592 (fun _ q => q) h_Sp_popResult_11 ?_
    refine lv_if_eq (tgt := 23) hx hb h_Sp_popResult_14 (by decide) (fun c33 => ?_) (fun c33 => ?_)
    · skip
      replace hw := hw.1 c33
      exact hend σ0 _ _ _ _ _ _ hw h h_Sp_popResult_23
    · skip
      replace hw := hw.2 c33
      refine lv_aload_n hx hb h_Sp_popResult_17 rfl (lv_at hl 0 rfl) ?_
      refine lv_bipush (v := 6) hx hb h_Sp_popResult_18 (by decide) ?_
      refine C_callVv (As := [.int 6]) (rest := []) C h (ci := 9) (Cn := R_Sp) (T := T_Sp) (N := 5) g29 rfl (by decide) (X_Sp_fail l dC dI ca s.heap σ0 a0 (6 : Int32) hw) (cwV 1 hts (gV hsub u_521 u_522 u_523 u_524 u_525) rfl rfl rfl (by decide +kernel) ⟨(Nat.le_of_ble_eq_true rfl), (Nat.le_of_ble_eq_true rfl)⟩) rfl hl.1 (Nat.le_of_ble_eq_true rfl) h_Sp_popResult_20 (fun σ34 H locs cells slots hw9 h9 => ?_)
      clear hw h; have hw := hw9; have h := h9; clear hw9 h9
      refine W.eq (g2 := F0 m 23 ls []) rfl ?_
      exact hend σ34 _ _ _ _ _ _ hw h h_Sp_popResult_23
abbrev g_W_fieldOwner : MethodName := ⟨"MapFramer$World", "fieldOwner", "(I)I"⟩
theorem u_593 : (Cond.fieldLink "MapFramer$World" 22 "MapFramer$World" "fieldClasses" "[I" : Cond) ∈ bigW := inB_1 58 (by decide +kernel) rfl
theorem h_W_fieldOwner_0 : decode prog_12_method_19_code 0 = .ok (.iload_n 1, 1) := by decide +kernel
theorem h_W_fieldOwner_1 : decode prog_12_method_19_code 1 = .ok (.ifCond .lt 20, 3) := by decide +kernel
theorem h_W_fieldOwner_4 : decode prog_12_method_19_code 4 = .ok (.iload_n 1, 1) := by decide +kernel
theorem h_W_fieldOwner_5 : decode prog_12_method_19_code 5 = .ok (.aload_n 0, 1) := by decide +kernel
theorem h_W_fieldOwner_6 : decode prog_12_method_19_code 6 = .ok (.getfield 41, 3) := by decide +kernel
theorem h_W_fieldOwner_9 : decode prog_12_method_19_code 9 = .ok (.if_icmp .ge 12, 3) := by decide +kernel
theorem h_W_fieldOwner_12 : decode prog_12_method_19_code 12 = .ok (.aload_n 0, 1) := by decide +kernel
theorem h_W_fieldOwner_13 : decode prog_12_method_19_code 13 = .ok (.getfield 22, 3) := by decide +kernel
theorem h_W_fieldOwner_16 : decode prog_12_method_19_code 16 = .ok (.iload_n 1, 1) := by decide +kernel
theorem h_W_fieldOwner_17 : decode prog_12_method_19_code 17 = .ok (.iaload, 1) := by decide +kernel
theorem h_W_fieldOwner_18 : decode prog_12_method_19_code 18 = .ok (.goto 4, 3) := by decide +kernel
theorem h_W_fieldOwner_21 : decode prog_12_method_19_code 21 = .ok (.iconst 0, 1) := by decide +kernel
theorem h_W_fieldOwner_22 : decode prog_12_method_19_code 22 = .ok (.ireturn, 1) := by decide +kernel
def x_W_fieldOwner (a0 : Nat) (x1 : Int32) (σ0 : CST) (P : Int32 → CST → Prop) : Prop := ((x1 < 0 → P (0 : Int32) σ0) ∧ (¬ x1 < 0 → σ0.1 a0 = some (3, 0) ∧ ((((σ0.2.1 a0 7) ≤ x1 → P (0 : Int32) σ0) ∧ (¬ (σ0.2.1 a0 7) ≤ x1 → ∀ b4 : Option Nat, b4 = (σ0.2.2.2.1 a0 4) → (∃ r5 : Nat, b4 = some r5 ∧ ((∃ n7 : Nat, σ0.1 r5 = some (20, n7) ∧ (vp_in x1 n7 ∧ (∀ b9 : Int32, b9 = (σ0.2.1 r5 (x1 : Int32).toNatClampNeg) → P b9 σ0))))))))))
set_option maxHeartbeats 4000000 in
set_option maxRecDepth 100000 in
theorem X_W_fieldOwner (l : Launch) (dC : Nat → ClassId) (dI : Nat → Nat → Nat) (ca : Nat → ClassId) (H0 : Heap) (σ0 : CST) (a0 : Nat) (x1 : Int32) {P : Int32 → CST → Prop} (hw : x_W_fieldOwner a0 x1 σ0 P) : Met l g_W_fieldOwner (mW g_W_fieldOwner prog_12_method_19_code 2 (some .int)) ({ frames := 0, cells := σ0.2.2.2.2.1, slots := σ0.2.2.2.2.2.1, locals := 0 } : Room) (va_Pc [.ref a0, .int x1] (CPre (dC, dI) ca σ0 H0)) (va_Qi P (CB (dC, dI) ca σ0 H0) (cA σ0 H0.size)) σ0.2.2.2.2.1 σ0.2.2.2.2.2.1 (cA σ0 H0.size) := by
  refine C_ofi (by decide +kernel) rfl rfl rfl (Nat.le_of_ble_eq_true rfl) ?_
  intro p e s m below meth cx Q A ls C hnm hend hH0 h hl
  subst hH0
  have C0 := C
  obtain ⟨⟨hx, hb, hml, hown, hts⟩, hsub⟩ := C0
  obtain ⟨cells, e_cells⟩ : ∃ z : Nat, z = 0 := ⟨_, rfl⟩
  obtain ⟨slots, e_slots⟩ : ∃ z : Nat, z = 0 := ⟨_, rfl⟩
  have h : CH (dC, dI) A ca ({ frames := 0, cells := σ0.2.2.2.2.1, slots := σ0.2.2.2.2.2.1, locals := 0 } : Room) σ0.2.2.2.2.2.2 σ0 s s.heap [] cells slots := by rw [e_cells, e_slots]; exact h
  show W p l e ({ frames := 0, cells := σ0.2.2.2.2.1, slots := σ0.2.2.2.2.2.1, locals := 0 } : Room) s m ([.ref a0, .int x1] : List Value).toArray below meth cx s.heap [] 0 0 Q (F0 m 0 ls [])
  rw [show W p l e ({ frames := 0, cells := σ0.2.2.2.2.1, slots := σ0.2.2.2.2.2.1, locals := 0 } : Room) s m ([.ref a0, .int x1] : List Value).toArray below meth cx s.heap [] 0 0 Q (F0 m 0 ls []) = W p l e ({ frames := 0, cells := σ0.2.2.2.2.1, slots := σ0.2.2.2.2.2.1, locals := 0 } : Room) s m ([.ref a0, .int x1] : List Value).toArray below meth cx s.heap [] cells slots Q (F0 m 0 ls []) by rw [e_cells, e_slots]]
  have hl : lv_has ls 2 [(0, .ref a0), (1, .int x1)] := hl
  unfold x_W_fieldOwner at hw
  refine lv_iload_n hx hb h_W_fieldOwner_0 rfl (lv_at hl 1 rfl) ?_
  refine lv_if_lt (tgt := 21) hx hb h_W_fieldOwner_1 (by decide) (fun c1 => ?_) (fun c1 => ?_)
  · skip
    replace hw := hw.1 c1
    refine lv_iconst (v := 0) hx hb h_W_fieldOwner_21 (by decide) ?_
    exact hend (0 : Int32) σ0 _ _ _ _ _ _ hw h h_W_fieldOwner_22
  · skip
    replace hw := hw.2 c1
    refine lv_iload_n hx hb h_W_fieldOwner_4 rfl (lv_at hl 1 rfl) ?_
    refine lv_aload_n hx hb h_W_fieldOwner_5 rfl (lv_at hl 0 rfl) ?_
    obtain ⟨g2, hw⟩ := hw
    refine C_get C h 3 7 (v := .int (σ0.2.1 a0 7)) g2 rfl (Cn := R_W) (T := T_W) (N := 10) rfl (by decide) rfl uw_W (by decide) u_331 (fun _ q => q) h_W_fieldOwner_6 ?_
    refine lv_icmp_ge (tgt := 21) hx hb h_W_fieldOwner_9 (by decide) (fun c3 => ?_) (fun c3 => ?_)
    · skip
      replace hw := hw.1 c3
      refine lv_iconst (v := 0) hx hb h_W_fieldOwner_21 (by decide) ?_
      exact hend (0 : Int32) σ0 _ _ _ _ _ _ hw h h_W_fieldOwner_22
    · skip
      replace hw := hw.2 c3
      refine lv_aload_n hx hb h_W_fieldOwner_12 rfl (lv_at hl 0 rfl) ?_
      refine C_get C h 3 4 (v := va_rf (σ0.2.2.2.1 a0 4)) g2 rfl (Cn := R_W) (T := T_W) (N := 10) rfl (by decide) rfl uw_W (by decide) u_593 (fun _ q => q) h_W_fieldOwner_13 ?_
      refine lv_topq (fun b4 e_b4 => ?_)
      replace hw := hw b4 e_b4
      refine lv_iload_n hx hb h_W_fieldOwner_16 rfl (lv_at hl 1 rfl) ?_
      obtain ⟨r5, e_r5, hw⟩ := hw
      subst e_r5
      have hl : lv_has ls 2 [(0, .ref a0), (1, .int x1)] := hl
      refine W.eq (g2 := F0 m 17 ls [.int x1, .ref r5]) rfl ?_
      obtain ⟨n7, g6, hw⟩ := hw
      obtain ⟨g8, hw⟩ := hw
      refine C_iald C h g6 g8 h_W_fieldOwner_17 ?_
      refine lv_topi (fun b9 e_b9 => ?_)
      replace hw := hw b9 e_b9
      refine lv_goto (tgt := 22) hx hb h_W_fieldOwner_18 (by decide) ?_
      exact hend b9 σ0 _ _ _ _ _ _ hw h h_W_fieldOwner_22
abbrev g_Sp_useField : MethodName := ⟨"MapFramer$Stepper", "useField", "(I)V"⟩
theorem u_594 : (Cond.methodLink "MapFramer$Stepper" 160 ⟨"MapFramer$World", "fieldOwner", "(I)I"⟩ : Cond) ∈ bigW := inB_5 1 (by decide +kernel) rfl
theorem u_595 : (Cond.instanceMethod ⟨"MapFramer$World", "fieldOwner", "(I)I"⟩ : Cond) ∈ bigW := inB_5 2 (by decide +kernel) rfl
theorem u_596 : (Cond.selects "MapFramer$World" ⟨"MapFramer$World", "fieldOwner", "(I)I"⟩ ⟨"MapFramer$World", "fieldOwner", "(I)I"⟩ : Cond) ∈ bigW := inB_5 3 (by decide +kernel) rfl
theorem u_597 : (Cond.code ⟨"MapFramer$World", "fieldOwner", "(I)I"⟩ prog_12_method_19_code 2 (some .int) : Cond) ∈ bigW := inB_5 4 rfl rfl
theorem u_598 : (Cond.methodLink "MapFramer$Stepper" 157 ⟨"MapFramer$World", "fieldType", "(I)I"⟩ : Cond) ∈ bigW := inB_4 237 (by decide +kernel) rfl
theorem h_Sp_useField_0 : decode prog_10_method_24_code 0 = .ok (.aload_n 0, 1) := by decide +kernel
theorem h_Sp_useField_1 : decode prog_10_method_24_code 1 = .ok (.getfield 7, 3) := by decide +kernel
theorem h_Sp_useField_4 : decode prog_10_method_24_code 4 = .ok (.aload_n 0, 1) := by decide +kernel
theorem h_Sp_useField_5 : decode prog_10_method_24_code 5 = .ok (.invokevirtual 119, 3) := by decide +kernel
theorem h_Sp_useField_8 : decode prog_10_method_24_code 8 = .ok (.invokevirtual 157, 3) := by decide +kernel
theorem h_Sp_useField_11 : decode prog_10_method_24_code 11 = .ok (.istore_n 2, 1) := by decide +kernel
theorem h_Sp_useField_12 : decode prog_10_method_24_code 12 = .ok (.iload_n 1, 1) := by decide +kernel
theorem h_Sp_useField_13 : decode prog_10_method_24_code 13 = .ok (.sipush 179, 3) := by decide +kernel
theorem h_Sp_useField_16 : decode prog_10_method_24_code 16 = .ok (.if_icmp .eq 10, 3) := by decide +kernel
theorem h_Sp_useField_19 : decode prog_10_method_24_code 19 = .ok (.iload_n 1, 1) := by decide +kernel
theorem h_Sp_useField_20 : decode prog_10_method_24_code 20 = .ok (.sipush 181, 3) := by decide +kernel
theorem h_Sp_useField_23 : decode prog_10_method_24_code 23 = .ok (.if_icmp .ne 8, 3) := by decide +kernel
theorem h_Sp_useField_26 : decode prog_10_method_24_code 26 = .ok (.aload_n 0, 1) := by decide +kernel
theorem h_Sp_useField_27 : decode prog_10_method_24_code 27 = .ok (.iload_n 2, 1) := by decide +kernel
theorem h_Sp_useField_28 : decode prog_10_method_24_code 28 = .ok (.invokevirtual 116, 3) := by decide +kernel
theorem h_Sp_useField_31 : decode prog_10_method_24_code 31 = .ok (.iload_n 1, 1) := by decide +kernel
theorem h_Sp_useField_32 : decode prog_10_method_24_code 32 = .ok (.sipush 180, 3) := by decide +kernel
theorem h_Sp_useField_35 : decode prog_10_method_24_code 35 = .ok (.if_icmp .eq 10, 3) := by decide +kernel
theorem h_Sp_useField_38 : decode prog_10_method_24_code 38 = .ok (.iload_n 1, 1) := by decide +kernel
theorem h_Sp_useField_39 : decode prog_10_method_24_code 39 = .ok (.sipush 181, 3) := by decide +kernel
theorem h_Sp_useField_42 : decode prog_10_method_24_code 42 = .ok (.if_icmp .ne 21, 3) := by decide +kernel
theorem h_Sp_useField_45 : decode prog_10_method_24_code 45 = .ok (.aload_n 0, 1) := by decide +kernel
theorem h_Sp_useField_46 : decode prog_10_method_24_code 46 = .ok (.bipush 32, 2) := by decide +kernel
theorem h_Sp_useField_48 : decode prog_10_method_24_code 48 = .ok (.aload_n 0, 1) := by decide +kernel
theorem h_Sp_useField_49 : decode prog_10_method_24_code 49 = .ok (.getfield 7, 3) := by decide +kernel
theorem h_Sp_useField_52 : decode prog_10_method_24_code 52 = .ok (.aload_n 0, 1) := by decide +kernel
theorem h_Sp_useField_53 : decode prog_10_method_24_code 53 = .ok (.invokevirtual 119, 3) := by decide +kernel
theorem h_Sp_useField_56 : decode prog_10_method_24_code 56 = .ok (.invokevirtual 160, 3) := by decide +kernel
theorem h_Sp_useField_59 : decode prog_10_method_24_code 59 = .ok (.iadd, 1) := by decide +kernel
theorem h_Sp_useField_60 : decode prog_10_method_24_code 60 = .ok (.invokevirtual 116, 3) := by decide +kernel
theorem h_Sp_useField_63 : decode prog_10_method_24_code 63 = .ok (.iload_n 1, 1) := by decide +kernel
theorem h_Sp_useField_64 : decode prog_10_method_24_code 64 = .ok (.sipush 178, 3) := by decide +kernel
theorem h_Sp_useField_67 : decode prog_10_method_24_code 67 = .ok (.if_icmp .eq 10, 3) := by decide +kernel
theorem h_Sp_useField_70 : decode prog_10_method_24_code 70 = .ok (.iload_n 1, 1) := by decide +kernel
theorem h_Sp_useField_71 : decode prog_10_method_24_code 71 = .ok (.sipush 180, 3) := by decide +kernel
theorem h_Sp_useField_74 : decode prog_10_method_24_code 74 = .ok (.if_icmp .ne 8, 3) := by decide +kernel
theorem h_Sp_useField_77 : decode prog_10_method_24_code 77 = .ok (.aload_n 0, 1) := by decide +kernel
theorem h_Sp_useField_78 : decode prog_10_method_24_code 78 = .ok (.iload_n 2, 1) := by decide +kernel
theorem h_Sp_useField_79 : decode prog_10_method_24_code 79 = .ok (.invokevirtual 108, 3) := by decide +kernel
theorem h_Sp_useField_82 : decode prog_10_method_24_code 82 = .ok (.return_, 1) := by decide +kernel
def x_Sp_useField_77 (a0 : Nat) (P : CST → Prop) (z2 : Int32) (σ : CST) : Prop := σ.1 a0 = some (9, 0) ∧ (x_Sp_push a0 z2 σ (fun σ2 => P σ2))
def x_Sp_useField_63 (a0 : Nat) (P : CST → Prop) (z1 : Int32) (z2 : Int32) (σ : CST) : Prop := ((z1 = 178 → x_Sp_useField_77 a0 P z2 σ) ∧ (¬ z1 = 178 → ((z1 = 180 → x_Sp_useField_77 a0 P z2 σ) ∧ (¬ z1 = 180 → P σ))))
def x_Sp_useField_45 (a0 : Nat) (P : CST → Prop) (z1 : Int32) (z2 : Int32) (σ : CST) : Prop := σ.1 a0 = some (9, 0) ∧ (∀ b7 : Option Nat, b7 = (σ.2.2.2.1 a0 0) → x_Sp_operand a0 σ (fun r9 σ8 => (∃ r10 : Nat, b7 = some r10 ∧ (σ8.1 r10 = some (3, 0) ∧ (x_W_fieldOwner r10 r9 σ8 (fun r13 σ12 => σ12.1 a0 = some (9, 0) ∧ (x_Sp_popAs a0 ((32 : Int32) + r13) σ12 (fun σ15 => x_Sp_useField_63 a0 P z1 z2 σ15))))))))
def x_Sp_useField_31 (a0 : Nat) (P : CST → Prop) (z1 : Int32) (z2 : Int32) (σ : CST) : Prop := ((z1 = 180 → x_Sp_useField_45 a0 P z1 z2 σ) ∧ (¬ z1 = 180 → ((z1 = 181 → x_Sp_useField_45 a0 P z1 z2 σ) ∧ (¬ z1 = 181 → x_Sp_useField_63 a0 P z1 z2 σ))))
def x_Sp_useField_26 (a0 : Nat) (P : CST → Prop) (z1 : Int32) (z2 : Int32) (σ : CST) : Prop := σ.1 a0 = some (9, 0) ∧ (x_Sp_popAs a0 z2 σ (fun σ20 => x_Sp_useField_31 a0 P z1 z2 σ20))
def x_Sp_useField (a0 : Nat) (x1 : Int32) (σ0 : CST) (P : CST → Prop) : Prop := σ0.1 a0 = some (9, 0) ∧ (∀ b23 : Option Nat, b23 = (σ0.2.2.2.1 a0 0) → x_Sp_operand a0 σ0 (fun r25 σ24 => (∃ r26 : Nat, b23 = some r26 ∧ (σ24.1 r26 = some (3, 0) ∧ (x_W_fieldType r26 r25 σ24 (fun r29 σ28 => ((x1 = 179 → x_Sp_useField_26 a0 P x1 r29 σ28) ∧ (¬ x1 = 179 → ((x1 = 181 → x_Sp_useField_26 a0 P x1 r29 σ28) ∧ (¬ x1 = 181 → x_Sp_useField_31 a0 P x1 r29 σ28))))))))))
set_option maxHeartbeats 4000000 in
set_option maxRecDepth 100000 in
theorem X_Sp_useField (l : Launch) (dC : Nat → ClassId) (dI : Nat → Nat → Nat) (ca : Nat → ClassId) (H0 : Heap) (σ0 : CST) (a0 : Nat) (x1 : Int32) {P : CST → Prop} (hw : x_Sp_useField a0 x1 σ0 P) : Met l g_Sp_useField (mW g_Sp_useField prog_10_method_24_code 3 none) ({ frames := 3, cells := σ0.2.2.2.2.1, slots := σ0.2.2.2.2.2.1, locals := 67 } : Room) (va_Pc [.ref a0, .int x1] (CPre (dC, dI) ca σ0 H0)) (va_Qv P (CB (dC, dI) ca σ0 H0) (cA σ0 H0.size)) σ0.2.2.2.2.1 σ0.2.2.2.2.2.1 (cA σ0 H0.size) := by
  refine C_ofv (by decide +kernel) rfl rfl rfl (Nat.le_of_ble_eq_true rfl) ?_
  intro p e s m below meth cx Q A ls C hnm hend hH0 h hl
  subst hH0
  have C0 := C
  obtain ⟨⟨hx, hb, hml, hown, hts⟩, hsub⟩ := C0
  obtain ⟨cells, e_cells⟩ : ∃ z : Nat, z = 0 := ⟨_, rfl⟩
  obtain ⟨slots, e_slots⟩ : ∃ z : Nat, z = 0 := ⟨_, rfl⟩
  have h : CH (dC, dI) A ca ({ frames := 3, cells := σ0.2.2.2.2.1, slots := σ0.2.2.2.2.2.1, locals := 67 } : Room) σ0.2.2.2.2.2.2 σ0 s s.heap [] cells slots := by rw [e_cells, e_slots]; exact h
  show W p l e ({ frames := 3, cells := σ0.2.2.2.2.1, slots := σ0.2.2.2.2.2.1, locals := 67 } : Room) s m ([.ref a0, .int x1] : List Value).toArray below meth cx s.heap [] 0 0 Q (F0 m 0 ls [])
  rw [show W p l e ({ frames := 3, cells := σ0.2.2.2.2.1, slots := σ0.2.2.2.2.2.1, locals := 67 } : Room) s m ([.ref a0, .int x1] : List Value).toArray below meth cx s.heap [] 0 0 Q (F0 m 0 ls []) = W p l e ({ frames := 3, cells := σ0.2.2.2.2.1, slots := σ0.2.2.2.2.2.1, locals := 67 } : Room) s m ([.ref a0, .int x1] : List Value).toArray below meth cx s.heap [] cells slots Q (F0 m 0 ls []) by rw [e_cells, e_slots]]
  have K_77 : ∀ (u9 : Unit), ∀ (z2 : Int32) (σ : CST) (H : Heap) (locs : List Loc) (cells slots : Nat) (ls : Array Slot), x_Sp_useField_77 a0 P z2 σ → CH (dC, dI) A ca ({ frames := 3, cells := σ0.2.2.2.2.1, slots := σ0.2.2.2.2.2.1, locals := 67 } : Room) σ0.2.2.2.2.2.2 σ s H locs cells slots → lv_has ls 3 [(0, .ref a0), (2, .int z2)] → W p l e ({ frames := 3, cells := σ0.2.2.2.2.1, slots := σ0.2.2.2.2.2.1, locals := 67 } : Room) s m ([.ref a0, .int x1] : List Value).toArray below meth cx H locs cells slots Q (F0 m 77 ls []) := by
    intro u9 z2 σ H locs cells slots ls hw h hl
    unfold x_Sp_useField_77 at hw
    refine lv_aload_n hx hb h_Sp_useField_77 rfl (lv_at hl 0 rfl) ?_
    refine lv_iload_n hx hb h_Sp_useField_78 rfl (lv_at hl 1 rfl) ?_
    obtain ⟨g1, hw⟩ := hw
    refine C_callVv (As := [.int z2]) (rest := []) C h (ci := 9) (Cn := R_Sp) (T := T_Sp) (N := 5) g1 rfl (by decide) (X_Sp_push l dC dI ca H σ a0 z2 hw) (cwV 1 hts (gV hsub u_526 u_527 u_528 u_524 u_529) rfl rfl rfl (by decide +kernel) ⟨(Nat.le_of_ble_eq_true rfl), (Nat.le_of_ble_eq_true rfl)⟩) rfl hl.1 (Nat.le_of_ble_eq_true rfl) h_Sp_useField_79 (fun σ2 H locs cells slots hw9 h9 => ?_)
    clear hw h; have hw := hw9; have h := h9; clear hw9 h9
    refine W.eq (g2 := F0 m 82 ls []) rfl ?_
    exact hend σ2 _ _ _ _ _ _ hw h h_Sp_useField_82
  have K_63 : ∀ (u9 : Unit), ∀ (z1 : Int32) (z2 : Int32) (σ : CST) (H : Heap) (locs : List Loc) (cells slots : Nat) (ls : Array Slot), x_Sp_useField_63 a0 P z1 z2 σ → CH (dC, dI) A ca ({ frames := 3, cells := σ0.2.2.2.2.1, slots := σ0.2.2.2.2.2.1, locals := 67 } : Room) σ0.2.2.2.2.2.2 σ s H locs cells slots → lv_has ls 3 [(0, .ref a0), (1, .int z1), (2, .int z2)] → W p l e ({ frames := 3, cells := σ0.2.2.2.2.1, slots := σ0.2.2.2.2.2.1, locals := 67 } : Room) s m ([.ref a0, .int x1] : List Value).toArray below meth cx H locs cells slots Q (F0 m 63 ls []) := by
    intro u9 z1 z2 σ H locs cells slots ls hw h hl
    unfold x_Sp_useField_63 at hw
    refine lv_iload_n hx hb h_Sp_useField_63 rfl (lv_at hl 1 rfl) ?_
    refine lv_sipush (v := 178) hx hb h_Sp_useField_64 (by decide) ?_
    refine lv_icmp_eq (tgt := 77) hx hb h_Sp_useField_67 (by decide) (fun c4 => ?_) (fun c4 => ?_)
    · skip
      replace hw := hw.1 c4
      exact K_77 () z2 σ _ _ _ _ _ hw h (lv_sub hl [0, 2] rfl)
    · skip
      replace hw := hw.2 c4
      refine lv_iload_n hx hb h_Sp_useField_70 rfl (lv_at hl 1 rfl) ?_
      refine lv_sipush (v := 180) hx hb h_Sp_useField_71 (by decide) ?_
      refine lv_icmp_ne (tgt := 82) hx hb h_Sp_useField_74 (by decide) (fun c5 => ?_) (fun c5 => ?_)
      · skip
        replace hw := hw.2 c5
        exact hend σ _ _ _ _ _ _ hw h h_Sp_useField_82
      · skip
        replace hw := hw.1 c5
        exact K_77 () z2 σ _ _ _ _ _ hw h (lv_sub hl [0, 2] rfl)
  have K_45 : ∀ (u9 : Unit), ∀ (z1 : Int32) (z2 : Int32) (σ : CST) (H : Heap) (locs : List Loc) (cells slots : Nat) (ls : Array Slot), x_Sp_useField_45 a0 P z1 z2 σ → CH (dC, dI) A ca ({ frames := 3, cells := σ0.2.2.2.2.1, slots := σ0.2.2.2.2.2.1, locals := 67 } : Room) σ0.2.2.2.2.2.2 σ s H locs cells slots → lv_has ls 3 [(0, .ref a0), (1, .int z1), (2, .int z2)] → W p l e ({ frames := 3, cells := σ0.2.2.2.2.1, slots := σ0.2.2.2.2.2.1, locals := 67 } : Room) s m ([.ref a0, .int x1] : List Value).toArray below meth cx H locs cells slots Q (F0 m 45 ls []) := by
    intro u9 z1 z2 σ H locs cells slots ls hw h hl
    unfold x_Sp_useField_45 at hw
    refine lv_aload_n hx hb h_Sp_useField_45 rfl (lv_at hl 0 rfl) ?_
    refine lv_bipush (v := 32) hx hb h_Sp_useField_46 (by decide) ?_
    refine lv_aload_n hx hb h_Sp_useField_48 rfl (lv_at hl 0 rfl) ?_
    obtain ⟨g6, hw⟩ := hw
    refine C_get C h 9 0 (v := va_rf (σ.2.2.2.1 a0 0)) g6 rfl (Cn := R_Sp) (T := T_Sp) (N := 5) rfl (by decide) rfl uw_Sp (by decide) u_513 (fun _ q => q) h_Sp_useField_49 ?_
    refine lv_topq (fun b7 e_b7 => ?_)
    replace hw := hw b7 e_b7
    refine lv_aload_n hx hb h_Sp_useField_52 rfl (lv_at hl 0 rfl) ?_
    refine C_callVi (As := []) (rest := [va_rf b7, .int 32, .ref a0]) C h (ci := 9) (Cn := R_Sp) (T := T_Sp) (N := 5) g6 rfl (by decide) (X_Sp_operand l dC dI ca H σ a0 hw) (cwV 0 hts (gV hsub u_546 u_547 u_548 u_524 u_549) rfl rfl rfl (by decide +kernel) ⟨(Nat.le_of_ble_eq_true rfl), (Nat.le_of_ble_eq_true rfl)⟩) rfl hl.1 (by simp only [List.map_cons, List.map_nil, List.sum_cons, List.sum_nil, cq_cat]; exact Nat.le_of_ble_eq_true rfl) h_Sp_useField_53 (fun r9 σ8 H locs cells slots hw9 h9 => ?_)
    clear hw h; have hw := hw9; have h := h9; clear hw9 h9
    refine W.eq (g2 := F0 m 56 ls [.int r9, va_rf b7, .int 32, .ref a0]) rfl ?_
    obtain ⟨r10, e_r10, hw⟩ := hw
    subst e_r10
    have hl : lv_has ls 3 [(0, .ref a0), (1, .int z1), (2, .int z2)] := hl
    refine W.eq (g2 := F0 m 56 ls [.int r9, .ref r10, .int 32, .ref a0]) rfl ?_
    obtain ⟨g11, hw⟩ := hw
    refine C_callVi (As := [.int r9]) (rest := [.int 32, .ref a0]) C h (ci := 3) (Cn := R_W) (T := T_W) (N := 10) g11 rfl (by decide) (X_W_fieldOwner l dC dI ca H σ8 r10 r9 hw) (cwV 1 hts (gV hsub u_594 u_595 u_596 u_51 u_597) rfl rfl rfl (by decide +kernel) ⟨(Nat.le_of_ble_eq_true rfl), (Nat.le_of_ble_eq_true rfl)⟩) rfl hl.1 (Nat.le_of_ble_eq_true rfl) h_Sp_useField_56 (fun r13 σ12 H locs cells slots hw9 h9 => ?_)
    clear hw h; have hw := hw9; have h := h9; clear hw9 h9
    refine W.eq (g2 := F0 m 59 ls [.int r13, .int 32, .ref a0]) rfl ?_
    refine lv_iadd hx hb h_Sp_useField_59 ?_
    obtain ⟨g14, hw⟩ := hw
    refine C_callVv (As := [.int ((32 : Int32) + r13)]) (rest := []) C h (ci := 9) (Cn := R_Sp) (T := T_Sp) (N := 5) g14 rfl (by decide) (X_Sp_popAs l dC dI ca H σ12 a0 ((32 : Int32) + r13) hw) (cwV 1 hts (gV hsub u_536 u_537 u_538 u_524 u_539) rfl rfl rfl (by decide +kernel) ⟨(Nat.le_of_ble_eq_true rfl), (Nat.le_of_ble_eq_true rfl)⟩) rfl hl.1 (Nat.le_of_ble_eq_true rfl) h_Sp_useField_60 (fun σ15 H locs cells slots hw9 h9 => ?_)
    clear hw h; have hw := hw9; have h := h9; clear hw9 h9
    refine W.eq (g2 := F0 m 63 ls []) rfl ?_
    exact K_63 () z1 z2 σ15 _ _ _ _ _ hw h (lv_sub hl [0, 1, 2] rfl)
  have K_31 : ∀ (u9 : Unit), ∀ (z1 : Int32) (z2 : Int32) (σ : CST) (H : Heap) (locs : List Loc) (cells slots : Nat) (ls : Array Slot), x_Sp_useField_31 a0 P z1 z2 σ → CH (dC, dI) A ca ({ frames := 3, cells := σ0.2.2.2.2.1, slots := σ0.2.2.2.2.2.1, locals := 67 } : Room) σ0.2.2.2.2.2.2 σ s H locs cells slots → lv_has ls 3 [(0, .ref a0), (1, .int z1), (2, .int z2)] → W p l e ({ frames := 3, cells := σ0.2.2.2.2.1, slots := σ0.2.2.2.2.2.1, locals := 67 } : Room) s m ([.ref a0, .int x1] : List Value).toArray below meth cx H locs cells slots Q (F0 m 31 ls []) := by
    intro u9 z1 z2 σ H locs cells slots ls hw h hl
    unfold x_Sp_useField_31 at hw
    refine lv_iload_n hx hb h_Sp_useField_31 rfl (lv_at hl 1 rfl) ?_
    refine lv_sipush (v := 180) hx hb h_Sp_useField_32 (by decide) ?_
    refine lv_icmp_eq (tgt := 45) hx hb h_Sp_useField_35 (by decide) (fun c17 => ?_) (fun c17 => ?_)
    · skip
      replace hw := hw.1 c17
      exact K_45 () z1 z2 σ _ _ _ _ _ hw h (lv_sub hl [0, 1, 2] rfl)
    · skip
      replace hw := hw.2 c17
      refine lv_iload_n hx hb h_Sp_useField_38 rfl (lv_at hl 1 rfl) ?_
      refine lv_sipush (v := 181) hx hb h_Sp_useField_39 (by decide) ?_
      refine lv_icmp_ne (tgt := 63) hx hb h_Sp_useField_42 (by decide) (fun c18 => ?_) (fun c18 => ?_)
      · skip
        replace hw := hw.2 c18
        exact K_63 () z1 z2 σ _ _ _ _ _ hw h (lv_sub hl [0, 1, 2] rfl)
      · skip
        replace hw := hw.1 c18
        exact K_45 () z1 z2 σ _ _ _ _ _ hw h (lv_sub hl [0, 1, 2] rfl)
  have K_26 : ∀ (u9 : Unit), ∀ (z1 : Int32) (z2 : Int32) (σ : CST) (H : Heap) (locs : List Loc) (cells slots : Nat) (ls : Array Slot), x_Sp_useField_26 a0 P z1 z2 σ → CH (dC, dI) A ca ({ frames := 3, cells := σ0.2.2.2.2.1, slots := σ0.2.2.2.2.2.1, locals := 67 } : Room) σ0.2.2.2.2.2.2 σ s H locs cells slots → lv_has ls 3 [(0, .ref a0), (1, .int z1), (2, .int z2)] → W p l e ({ frames := 3, cells := σ0.2.2.2.2.1, slots := σ0.2.2.2.2.2.1, locals := 67 } : Room) s m ([.ref a0, .int x1] : List Value).toArray below meth cx H locs cells slots Q (F0 m 26 ls []) := by
    intro u9 z1 z2 σ H locs cells slots ls hw h hl
    unfold x_Sp_useField_26 at hw
    refine lv_aload_n hx hb h_Sp_useField_26 rfl (lv_at hl 0 rfl) ?_
    refine lv_iload_n hx hb h_Sp_useField_27 rfl (lv_at hl 2 rfl) ?_
    obtain ⟨g19, hw⟩ := hw
    refine C_callVv (As := [.int z2]) (rest := []) C h (ci := 9) (Cn := R_Sp) (T := T_Sp) (N := 5) g19 rfl (by decide) (X_Sp_popAs l dC dI ca H σ a0 z2 hw) (cwV 1 hts (gV hsub u_536 u_537 u_538 u_524 u_539) rfl rfl rfl (by decide +kernel) ⟨(Nat.le_of_ble_eq_true rfl), (Nat.le_of_ble_eq_true rfl)⟩) rfl hl.1 (Nat.le_of_ble_eq_true rfl) h_Sp_useField_28 (fun σ20 H locs cells slots hw9 h9 => ?_)
    clear hw h; have hw := hw9; have h := h9; clear hw9 h9
    refine W.eq (g2 := F0 m 31 ls []) rfl ?_
    exact K_31 () z1 z2 σ20 _ _ _ _ _ hw h (lv_sub hl [0, 1, 2] rfl)
  have hl : lv_has ls 3 [(0, .ref a0), (1, .int x1)] := hl
  unfold x_Sp_useField at hw
  refine lv_aload_n hx hb h_Sp_useField_0 rfl (lv_at hl 0 rfl) ?_
  obtain ⟨g22, hw⟩ := hw
  refine C_get C h 9 0 (v := va_rf (σ0.2.2.2.1 a0 0)) g22 rfl (Cn := R_Sp) (T := T_Sp) (N := 5) rfl (by decide) rfl uw_Sp (by decide) u_513 (fun _ q => q) h_Sp_useField_1 ?_
  refine lv_topq (fun b23 e_b23 => ?_)
  replace hw := hw b23 e_b23
  refine lv_aload_n hx hb h_Sp_useField_4 rfl (lv_at hl 0 rfl) ?_
  refine C_callVi (As := []) (rest := [va_rf b23]) C h (ci := 9) (Cn := R_Sp) (T := T_Sp) (N := 5) g22 rfl (by decide) (X_Sp_operand l dC dI ca s.heap σ0 a0 hw) (cwV 0 hts (gV hsub u_546 u_547 u_548 u_524 u_549) rfl rfl rfl (by decide +kernel) ⟨(Nat.le_of_ble_eq_true rfl), (Nat.le_of_ble_eq_true rfl)⟩) rfl hl.1 (by simp only [List.map_cons, List.map_nil, List.sum_cons, List.sum_nil, cq_cat]; exact Nat.le_of_ble_eq_true rfl) h_Sp_useField_5 (fun r25 σ24 H locs cells slots hw9 h9 => ?_)
  clear hw h; have hw := hw9; have h := h9; clear hw9 h9
  refine W.eq (g2 := F0 m 8 ls [.int r25, va_rf b23]) rfl ?_
  obtain ⟨r26, e_r26, hw⟩ := hw
  subst e_r26
  have hl : lv_has ls 3 [(0, .ref a0), (1, .int x1)] := hl
  refine W.eq (g2 := F0 m 8 ls [.int r25, .ref r26]) rfl ?_
  obtain ⟨g27, hw⟩ := hw
  refine C_callVi (As := [.int r25]) (rest := []) C h (ci := 3) (Cn := R_W) (T := T_W) (N := 10) g27 rfl (by decide) (X_W_fieldType l dC dI ca H σ24 r26 r25 hw) (cwV 1 hts (gV hsub u_598 u_334 u_335 u_51 u_336) rfl rfl rfl (by decide +kernel) ⟨(Nat.le_of_ble_eq_true rfl), (Nat.le_of_ble_eq_true rfl)⟩) rfl hl.1 (Nat.le_of_ble_eq_true rfl) h_Sp_useField_8 (fun r29 σ28 H locs cells slots hw9 h9 => ?_)
  clear hw h; have hw := hw9; have h := h9; clear hw9 h9
  refine W.eq (g2 := F0 m 11 ls [.int r29]) rfl ?_
  refine lv_istore_n (i := 2) (lv' := [(2, .int r29), (0, .ref a0), (1, .int x1)]) hx hb h_Sp_useField_11 rfl hl (by decide) rfl (fun ls hl => ?_)
  refine lv_iload_n hx hb h_Sp_useField_12 rfl (lv_at hl 2 rfl) ?_
  refine lv_sipush (v := 179) hx hb h_Sp_useField_13 (by decide) ?_
  refine lv_icmp_eq (tgt := 26) hx hb h_Sp_useField_16 (by decide) (fun c30 => ?_) (fun c30 => ?_)
  · skip
    replace hw := hw.1 c30
    exact K_26 () x1 r29 σ28 _ _ _ _ _ hw h (lv_sub hl [1, 2, 0] rfl)
  · skip
    replace hw := hw.2 c30
    refine lv_iload_n hx hb h_Sp_useField_19 rfl (lv_at hl 2 rfl) ?_
    refine lv_sipush (v := 181) hx hb h_Sp_useField_20 (by decide) ?_
    refine lv_icmp_ne (tgt := 31) hx hb h_Sp_useField_23 (by decide) (fun c31 => ?_) (fun c31 => ?_)
    · skip
      replace hw := hw.2 c31
      exact K_31 () x1 r29 σ28 _ _ _ _ _ hw h (lv_sub hl [1, 2, 0] rfl)
    · skip
      replace hw := hw.1 c31
      exact K_26 () x1 r29 σ28 _ _ _ _ _ hw h (lv_sub hl [1, 2, 0] rfl)
abbrev g_Sp_callMethod : MethodName := ⟨"MapFramer$Stepper", "callMethod", "()V"⟩
theorem u_599 : (Cond.fieldLink "MapFramer$Stepper" 167 "MapFramer$Method" "arguments" "[I" : Cond) ∈ bigW := inB_2 160 (by decide +kernel) rfl
theorem u_600 : (Cond.methodLink "MapFramer$Stepper" 163 ⟨"MapFramer$World", "methodAt", "(I)LMapFramer$Method;"⟩ : Cond) ∈ bigW := inB_5 9 (by decide +kernel) rfl
theorem h_Sp_callMethod_0 : decode prog_10_method_25_code 0 = .ok (.aload_n 0, 1) := by decide +kernel
theorem h_Sp_callMethod_1 : decode prog_10_method_25_code 1 = .ok (.getfield 7, 3) := by decide +kernel
theorem h_Sp_callMethod_4 : decode prog_10_method_25_code 4 = .ok (.aload_n 0, 1) := by decide +kernel
theorem h_Sp_callMethod_5 : decode prog_10_method_25_code 5 = .ok (.invokevirtual 119, 3) := by decide +kernel
theorem h_Sp_callMethod_8 : decode prog_10_method_25_code 8 = .ok (.invokevirtual 163, 3) := by decide +kernel
theorem h_Sp_callMethod_11 : decode prog_10_method_25_code 11 = .ok (.astore_n 1, 1) := by decide +kernel
theorem h_Sp_callMethod_12 : decode prog_10_method_25_code 12 = .ok (.aload_n 1, 1) := by decide +kernel
theorem h_Sp_callMethod_13 : decode prog_10_method_25_code 13 = .ok (.ifnonnull 4, 3) := by decide +kernel
theorem h_Sp_callMethod_16 : decode prog_10_method_25_code 16 = .ok (.return_, 1) := by decide +kernel
theorem h_Sp_callMethod_17 : decode prog_10_method_25_code 17 = .ok (.aload_n 1, 1) := by decide +kernel
theorem h_Sp_callMethod_18 : decode prog_10_method_25_code 18 = .ok (.getfield 167, 3) := by decide +kernel
theorem h_Sp_callMethod_21 : decode prog_10_method_25_code 21 = .ok (.arraylength, 1) := by decide +kernel
theorem h_Sp_callMethod_22 : decode prog_10_method_25_code 22 = .ok (.iconst 1, 1) := by decide +kernel
theorem h_Sp_callMethod_23 : decode prog_10_method_25_code 23 = .ok (.isub, 1) := by decide +kernel
theorem h_Sp_callMethod_24 : decode prog_10_method_25_code 24 = .ok (.istore_n 2, 1) := by decide +kernel
theorem h_Sp_callMethod_25 : decode prog_10_method_25_code 25 = .ok (.iload_n 2, 1) := by decide +kernel
theorem h_Sp_callMethod_26 : decode prog_10_method_25_code 26 = .ok (.ifCond .lt 19, 3) := by decide +kernel
theorem h_Sp_callMethod_29 : decode prog_10_method_25_code 29 = .ok (.aload_n 0, 1) := by decide +kernel
theorem h_Sp_callMethod_30 : decode prog_10_method_25_code 30 = .ok (.aload_n 1, 1) := by decide +kernel
theorem h_Sp_callMethod_31 : decode prog_10_method_25_code 31 = .ok (.getfield 167, 3) := by decide +kernel
theorem h_Sp_callMethod_34 : decode prog_10_method_25_code 34 = .ok (.iload_n 2, 1) := by decide +kernel
theorem h_Sp_callMethod_35 : decode prog_10_method_25_code 35 = .ok (.iaload, 1) := by decide +kernel
theorem h_Sp_callMethod_36 : decode prog_10_method_25_code 36 = .ok (.invokevirtual 116, 3) := by decide +kernel
theorem h_Sp_callMethod_39 : decode prog_10_method_25_code 39 = .ok (.iinc 2 (-1), 3) := by decide +kernel
theorem h_Sp_callMethod_42 : decode prog_10_method_25_code 42 = .ok (.goto (-17), 3) := by decide +kernel
theorem h_Sp_callMethod_45 : decode prog_10_method_25_code 45 = .ok (.aload_n 1, 1) := by decide +kernel
theorem h_Sp_callMethod_46 : decode prog_10_method_25_code 46 = .ok (.getfield 154, 3) := by decide +kernel
theorem h_Sp_callMethod_49 : decode prog_10_method_25_code 49 = .ok (.ifCond .eq 11, 3) := by decide +kernel
theorem h_Sp_callMethod_52 : decode prog_10_method_25_code 52 = .ok (.aload_n 0, 1) := by decide +kernel
theorem h_Sp_callMethod_53 : decode prog_10_method_25_code 53 = .ok (.aload_n 1, 1) := by decide +kernel
theorem h_Sp_callMethod_54 : decode prog_10_method_25_code 54 = .ok (.getfield 154, 3) := by decide +kernel
theorem h_Sp_callMethod_57 : decode prog_10_method_25_code 57 = .ok (.invokevirtual 108, 3) := by decide +kernel
theorem h_Sp_callMethod_60 : decode prog_10_method_25_code 60 = .ok (.return_, 1) := by decide +kernel
def x_Sp_callMethod_25 (a0 : Nat) (P : CST → Prop) : Nat → Option Nat → Int32 → CST → Prop
  | 0, _, _, _ => False
  | n + 1, z1, z2, σ => ((z2 < 0 → (∃ r2 : Nat, z1 = some r2 ∧ (σ.1 r2 = some (5, 0) ∧ ((((σ.2.1 r2 1) = 0 → P σ) ∧ (¬ (σ.2.1 r2 1) = 0 → σ.1 a0 = some (9, 0) ∧ (x_Sp_push a0 (σ.2.1 r2 1) σ (fun σ6 => P σ6)))))))) ∧ (¬ z2 < 0 → (∃ r8 : Nat, z1 = some r8 ∧ (σ.1 r8 = some (5, 0) ∧ (∀ b10 : Option Nat, b10 = (σ.2.2.2.1 r8 0) → (∃ r11 : Nat, b10 = some r11 ∧ ((∃ n13 : Nat, σ.1 r11 = some (20, n13) ∧ (vp_in z2 n13 ∧ (∀ b15 : Int32, b15 = (σ.2.1 r11 (z2 : Int32).toNatClampNeg) → σ.1 a0 = some (9, 0) ∧ (x_Sp_popAs a0 b15 σ (fun σ17 => x_Sp_callMethod_25 a0 P n (some r8) (z2 + (-1)) σ17))))))))))))
def x_Sp_callMethod (a0 : Nat) (σ0 : CST) (P : CST → Prop) : Prop := σ0.1 a0 = some (9, 0) ∧ (∀ b20 : Option Nat, b20 = (σ0.2.2.2.1 a0 0) → x_Sp_operand a0 σ0 (fun r22 σ21 => (∃ r23 : Nat, b20 = some r23 ∧ (σ21.1 r23 = some (3, 0) ∧ (x_W_methodAt r23 r22 σ21 (fun r26 σ25 => ((r26 = none → P σ25) ∧ (∀ r28 : Nat, r26 = some r28 → σ25.1 r28 = some (5, 0) ∧ (∀ b30 : Option Nat, b30 = (σ25.2.2.2.1 r28 0) → (∃ r31 : Nat, b30 = some r31 ∧ ((∃ n33 : Nat, σ25.1 r31 = some (20, n33) ∧ ((∃ n9 : Nat, x_Sp_callMethod_25 a0 P n9 (some r28) ((Int32.ofNat n33) - 1) σ25))))))))))))))
set_option maxHeartbeats 4000000 in
set_option maxRecDepth 100000 in
theorem X_Sp_callMethod (l : Launch) (dC : Nat → ClassId) (dI : Nat → Nat → Nat) (ca : Nat → ClassId) (H0 : Heap) (σ0 : CST) (a0 : Nat) {P : CST → Prop} (hw : x_Sp_callMethod a0 σ0 P) : Met l g_Sp_callMethod (mW g_Sp_callMethod prog_10_method_25_code 3 none) ({ frames := 3, cells := σ0.2.2.2.2.1, slots := σ0.2.2.2.2.2.1, locals := 67 } : Room) (va_Pc [.ref a0] (CPre (dC, dI) ca σ0 H0)) (va_Qv P (CB (dC, dI) ca σ0 H0) (cA σ0 H0.size)) σ0.2.2.2.2.1 σ0.2.2.2.2.2.1 (cA σ0 H0.size) := by
  refine C_ofv (by decide +kernel) rfl rfl rfl (Nat.le_of_ble_eq_true rfl) ?_
  intro p e s m below meth cx Q A ls C hnm hend hH0 h hl
  subst hH0
  have C0 := C
  obtain ⟨⟨hx, hb, hml, hown, hts⟩, hsub⟩ := C0
  obtain ⟨cells, e_cells⟩ : ∃ z : Nat, z = 0 := ⟨_, rfl⟩
  obtain ⟨slots, e_slots⟩ : ∃ z : Nat, z = 0 := ⟨_, rfl⟩
  have h : CH (dC, dI) A ca ({ frames := 3, cells := σ0.2.2.2.2.1, slots := σ0.2.2.2.2.2.1, locals := 67 } : Room) σ0.2.2.2.2.2.2 σ0 s s.heap [] cells slots := by rw [e_cells, e_slots]; exact h
  show W p l e ({ frames := 3, cells := σ0.2.2.2.2.1, slots := σ0.2.2.2.2.2.1, locals := 67 } : Room) s m ([.ref a0] : List Value).toArray below meth cx s.heap [] 0 0 Q (F0 m 0 ls [])
  rw [show W p l e ({ frames := 3, cells := σ0.2.2.2.2.1, slots := σ0.2.2.2.2.2.1, locals := 67 } : Room) s m ([.ref a0] : List Value).toArray below meth cx s.heap [] 0 0 Q (F0 m 0 ls []) = W p l e ({ frames := 3, cells := σ0.2.2.2.2.1, slots := σ0.2.2.2.2.2.1, locals := 67 } : Room) s m ([.ref a0] : List Value).toArray below meth cx s.heap [] cells slots Q (F0 m 0 ls []) by rw [e_cells, e_slots]]
  have K_25 : ∀ (n : Nat), ∀ (z1 : Option Nat) (z2 : Int32) (σ : CST) (H : Heap) (locs : List Loc) (cells slots : Nat) (ls : Array Slot), x_Sp_callMethod_25 a0 P n z1 z2 σ → CH (dC, dI) A ca ({ frames := 3, cells := σ0.2.2.2.2.1, slots := σ0.2.2.2.2.2.1, locals := 67 } : Room) σ0.2.2.2.2.2.2 σ s H locs cells slots → lv_has ls 3 [(0, .ref a0), (1, va_rf z1), (2, .int z2)] → W p l e ({ frames := 3, cells := σ0.2.2.2.2.1, slots := σ0.2.2.2.2.2.1, locals := 67 } : Room) s m ([.ref a0] : List Value).toArray below meth cx H locs cells slots Q (F0 m 25 ls []) := by
    intro  n
    induction n with
    | zero => intro z1 z2 σ H locs cells slots ls hw h hl; unfold x_Sp_callMethod_25 at hw; exact hw.elim
    | succ n ih =>
      intro z1 z2 σ H locs cells slots ls hw h hl
      unfold x_Sp_callMethod_25 at hw
      refine lv_iload_n hx hb h_Sp_callMethod_25 rfl (lv_at hl 2 rfl) ?_
      refine lv_if_lt (tgt := 45) hx hb h_Sp_callMethod_26 (by decide) (fun c1 => ?_) (fun c1 => ?_)
      · skip
        replace hw := hw.1 c1
        refine cq_aload_n hx hb h_Sp_callMethod_45 rfl (lv_at hl 1 rfl) ?_
        obtain ⟨r2, e_r2, hw⟩ := hw
        subst e_r2
        have hl : lv_has ls 3 [(0, .ref a0), (1, .ref r2), (2, .int z2)] := hl
        refine W.eq (g2 := F0 m 46 ls [.ref r2]) rfl ?_
        obtain ⟨g3, hw⟩ := hw
        refine C_get C h 5 1 (v := .int (σ.2.1 r2 1)) g3 rfl (Cn := R_E) (T := T_E) (N := 13) rfl (by decide) rfl uw_E (by decide) u_592 (fun _ q => q) h_Sp_callMethod_46 ?_
        refine lv_if_eq (tgt := 60) hx hb h_Sp_callMethod_49 (by decide) (fun c4 => ?_) (fun c4 => ?_)
        · skip
          replace hw := hw.1 c4
          exact hend σ _ _ _ _ _ _ hw h h_Sp_callMethod_60
        · skip
          replace hw := hw.2 c4
          refine lv_aload_n hx hb h_Sp_callMethod_52 rfl (lv_at hl 0 rfl) ?_
          refine lv_aload_n hx hb h_Sp_callMethod_53 rfl (lv_at hl 1 rfl) ?_
          refine C_get C h 5 1 (v := .int (σ.2.1 r2 1)) g3 rfl (Cn := R_E) (T := T_E) (N := 13) rfl (by decide) rfl uw_E (by decide) u_592 (fun _ q => q) h_Sp_callMethod_54 ?_
          obtain ⟨g5, hw⟩ := hw
          refine C_callVv (As := [.int (σ.2.1 r2 1)]) (rest := []) C h (ci := 9) (Cn := R_Sp) (T := T_Sp) (N := 5) g5 rfl (by decide) (X_Sp_push l dC dI ca H σ a0 (σ.2.1 r2 1) hw) (cwV 1 hts (gV hsub u_526 u_527 u_528 u_524 u_529) rfl rfl rfl (by decide +kernel) ⟨(Nat.le_of_ble_eq_true rfl), (Nat.le_of_ble_eq_true rfl)⟩) rfl hl.1 (Nat.le_of_ble_eq_true rfl) h_Sp_callMethod_57 (fun σ6 H locs cells slots hw9 h9 => ?_)
          clear hw h; have hw := hw9; have h := h9; clear hw9 h9
          refine W.eq (g2 := F0 m 60 ls []) rfl ?_
          exact hend σ6 _ _ _ _ _ _ hw h h_Sp_callMethod_60
      · skip
        replace hw := hw.2 c1
        refine lv_aload_n hx hb h_Sp_callMethod_29 rfl (lv_at hl 0 rfl) ?_
        refine cq_aload_n hx hb h_Sp_callMethod_30 rfl (lv_at hl 1 rfl) ?_
        obtain ⟨r8, e_r8, hw⟩ := hw
        subst e_r8
        have hl : lv_has ls 3 [(0, .ref a0), (1, .ref r8), (2, .int z2)] := hl
        refine W.eq (g2 := F0 m 31 ls [.ref r8, .ref a0]) rfl ?_
        obtain ⟨g9, hw⟩ := hw
        refine C_get C h 5 0 (v := va_rf (σ.2.2.2.1 r8 0)) g9 rfl (Cn := R_E) (T := T_E) (N := 13) rfl (by decide) rfl uw_E (by decide) u_599 (fun _ q => q) h_Sp_callMethod_31 ?_
        refine lv_topq (fun b10 e_b10 => ?_)
        replace hw := hw b10 e_b10
        refine lv_iload_n hx hb h_Sp_callMethod_34 rfl (lv_at hl 2 rfl) ?_
        obtain ⟨r11, e_r11, hw⟩ := hw
        subst e_r11
        have hl : lv_has ls 3 [(0, .ref a0), (1, .ref r8), (2, .int z2)] := hl
        refine W.eq (g2 := F0 m 35 ls [.int z2, .ref r11, .ref a0]) rfl ?_
        obtain ⟨n13, g12, hw⟩ := hw
        obtain ⟨g14, hw⟩ := hw
        refine C_iald C h g12 g14 h_Sp_callMethod_35 ?_
        refine lv_topi (fun b15 e_b15 => ?_)
        replace hw := hw b15 e_b15
        obtain ⟨g16, hw⟩ := hw
        refine C_callVv (As := [.int b15]) (rest := []) C h (ci := 9) (Cn := R_Sp) (T := T_Sp) (N := 5) g16 rfl (by decide) (X_Sp_popAs l dC dI ca H σ a0 b15 hw) (cwV 1 hts (gV hsub u_536 u_537 u_538 u_524 u_539) rfl rfl rfl (by decide +kernel) ⟨(Nat.le_of_ble_eq_true rfl), (Nat.le_of_ble_eq_true rfl)⟩) rfl hl.1 (Nat.le_of_ble_eq_true rfl) h_Sp_callMethod_36 (fun σ17 H locs cells slots hw9 h9 => ?_)
        clear hw h; have hw := hw9; have h := h9; clear hw9 h9
        refine W.eq (g2 := F0 m 39 ls []) rfl ?_
        refine lv_iinc (v := (z2 + (-1))) (lv' := [(2, .int (z2 + (-1))), (0, .ref a0), (1, .ref r8)]) hx hb h_Sp_callMethod_39 hl (k := 2) rfl (rfl) (by decide) rfl (fun ls hl => ?_)
        refine lv_goto (tgt := 25) hx hb h_Sp_callMethod_42 (by decide) ?_
        exact ih (some r8) (z2 + (-1)) σ17 _ _ _ _ _ hw h (lv_sub hl [1, 2, 0] rfl)
  have hl : lv_has ls 3 [(0, .ref a0)] := hl
  unfold x_Sp_callMethod at hw
  refine lv_aload_n hx hb h_Sp_callMethod_0 rfl (lv_at hl 0 rfl) ?_
  obtain ⟨g19, hw⟩ := hw
  refine C_get C h 9 0 (v := va_rf (σ0.2.2.2.1 a0 0)) g19 rfl (Cn := R_Sp) (T := T_Sp) (N := 5) rfl (by decide) rfl uw_Sp (by decide) u_513 (fun _ q => q) h_Sp_callMethod_1 ?_
  refine lv_topq (fun b20 e_b20 => ?_)
  replace hw := hw b20 e_b20
  refine lv_aload_n hx hb h_Sp_callMethod_4 rfl (lv_at hl 0 rfl) ?_
  refine C_callVi (As := []) (rest := [va_rf b20]) C h (ci := 9) (Cn := R_Sp) (T := T_Sp) (N := 5) g19 rfl (by decide) (X_Sp_operand l dC dI ca s.heap σ0 a0 hw) (cwV 0 hts (gV hsub u_546 u_547 u_548 u_524 u_549) rfl rfl rfl (by decide +kernel) ⟨(Nat.le_of_ble_eq_true rfl), (Nat.le_of_ble_eq_true rfl)⟩) rfl hl.1 (by simp only [List.map_cons, List.map_nil, List.sum_cons, List.sum_nil, cq_cat]; exact Nat.le_of_ble_eq_true rfl) h_Sp_callMethod_5 (fun r22 σ21 H locs cells slots hw9 h9 => ?_)
  clear hw h; have hw := hw9; have h := h9; clear hw9 h9
  refine W.eq (g2 := F0 m 8 ls [.int r22, va_rf b20]) rfl ?_
  obtain ⟨r23, e_r23, hw⟩ := hw
  subst e_r23
  have hl : lv_has ls 3 [(0, .ref a0)] := hl
  refine W.eq (g2 := F0 m 8 ls [.int r22, .ref r23]) rfl ?_
  obtain ⟨g24, hw⟩ := hw
  refine C_callVq (As := [.int r22]) (rest := []) C h (ci := 3) (Cn := R_W) (T := T_W) (N := 10) g24 rfl (by decide) (X_W_methodAt l dC dI ca H σ21 r23 r22 hw) (cwV 1 hts (gV hsub u_600 u_342 u_343 u_51 u_344) rfl rfl rfl (by decide +kernel) ⟨(Nat.le_of_ble_eq_true rfl), (Nat.le_of_ble_eq_true rfl)⟩) rfl hl.1 (Nat.le_of_ble_eq_true rfl) h_Sp_callMethod_8 (fun r26 σ25 H locs cells slots hw9 h9 => ?_)
  clear hw h; have hw := hw9; have h := h9; clear hw9 h9
  refine W.eq (g2 := F0 m 11 ls [va_rf r26]) rfl ?_
  refine cq_astore_n (i := 1) (lv' := [(1, va_rf r26), (0, .ref a0)]) hx hb h_Sp_callMethod_11 rfl hl (by decide) rfl (fun ls hl => ?_)
  refine cq_aload_n hx hb h_Sp_callMethod_12 rfl (lv_at hl 0 rfl) ?_
  rcases cq_or r26 with c27 | ⟨r28, c27⟩
  · subst c27
    replace hw := hw.1 rfl
    have hl : lv_has ls 3 [(1, .null), (0, .ref a0)] := hl
    refine W.eq (g2 := F0 m 13 ls [.null]) rfl ?_
    refine lv_ifnonnullN hx hb h_Sp_callMethod_13 ?_
    exact hend σ25 _ _ _ _ _ _ hw h h_Sp_callMethod_16
  · subst c27
    replace hw := hw.2 r28 rfl
    have hl : lv_has ls 3 [(1, .ref r28), (0, .ref a0)] := hl
    refine W.eq (g2 := F0 m 13 ls [.ref r28]) rfl ?_
    refine lv_ifnonnull (tgt := 17) hx hb h_Sp_callMethod_13 (by decide) ?_
    refine lv_aload_n hx hb h_Sp_callMethod_17 rfl (lv_at hl 0 rfl) ?_
    obtain ⟨g29, hw⟩ := hw
    refine C_get C h 5 0 (v := va_rf (σ25.2.2.2.1 r28 0)) g29 rfl (Cn := R_E) (T := T_E) (N := 13) rfl (by decide) rfl uw_E (by decide) u_599 (fun _ q => q) h_Sp_callMethod_18 ?_
    refine lv_topq (fun b30 e_b30 => ?_)
    replace hw := hw b30 e_b30
    obtain ⟨r31, e_r31, hw⟩ := hw
    subst e_r31
    have hl : lv_has ls 3 [(1, .ref r28), (0, .ref a0)] := hl
    refine W.eq (g2 := F0 m 21 ls [.ref r31]) rfl ?_
    obtain ⟨n33, g32, hw⟩ := hw
    refine C_alen C h 20 0 rfl (by decide) g32 h_Sp_callMethod_21 ?_
    refine lv_iconst (v := 1) hx hb h_Sp_callMethod_22 (by decide) ?_
    refine lv_isub hx hb h_Sp_callMethod_23 ?_
    refine lv_istore_n (i := 2) (lv' := [(2, .int ((Int32.ofNat n33) - 1)), (1, .ref r28), (0, .ref a0)]) hx hb h_Sp_callMethod_24 rfl hl (by decide) rfl (fun ls hl => ?_)
    obtain ⟨n9, hw⟩ := hw
    exact K_25 n9 (some r28) ((Int32.ofNat n33) - 1) σ25 _ _ _ _ _ hw h (lv_sub hl [2, 1, 0] rfl)
abbrev g_Sp_beginObject : MethodName := ⟨"MapFramer$Stepper", "beginObject", "()V"⟩
theorem u_601 : (Cond.methodLink "MapFramer$Stepper" 170 ⟨"MapFramer$State", "replaceLocals", "(II)V"⟩ : Cond) ∈ bigW := inB_5 18 (by decide +kernel) rfl
theorem u_602 : (Cond.instanceMethod ⟨"MapFramer$State", "replaceLocals", "(II)V"⟩ : Cond) ∈ bigW := inB_5 19 (by decide +kernel) rfl
theorem u_603 : (Cond.selects "MapFramer$State" ⟨"MapFramer$State", "replaceLocals", "(II)V"⟩ ⟨"MapFramer$State", "replaceLocals", "(II)V"⟩ : Cond) ∈ bigW := inB_5 20 (by decide +kernel) rfl
theorem u_604 : (Cond.code ⟨"MapFramer$State", "replaceLocals", "(II)V"⟩ prog_9_method_9_code 4 none : Cond) ∈ bigW := inB_5 21 rfl rfl
theorem u_605 : (Cond.methodLink "MapFramer$Stepper" 173 ⟨"MapFramer$State", "replaceStack", "(II)V"⟩ : Cond) ∈ bigW := inB_5 22 (by decide +kernel) rfl
theorem u_606 : (Cond.instanceMethod ⟨"MapFramer$State", "replaceStack", "(II)V"⟩ : Cond) ∈ bigW := inB_5 23 (by decide +kernel) rfl
theorem u_607 : (Cond.selects "MapFramer$State" ⟨"MapFramer$State", "replaceStack", "(II)V"⟩ ⟨"MapFramer$State", "replaceStack", "(II)V"⟩ : Cond) ∈ bigW := inB_5 24 (by decide +kernel) rfl
theorem u_608 : (Cond.code ⟨"MapFramer$State", "replaceStack", "(II)V"⟩ prog_9_method_10_code 4 none : Cond) ∈ bigW := inB_5 25 rfl rfl
theorem h_Sp_beginObject_0 : decode prog_10_method_26_code 0 = .ok (.aload_n 0, 1) := by decide +kernel
theorem h_Sp_beginObject_1 : decode prog_10_method_26_code 1 = .ok (.invokevirtual 135, 3) := by decide +kernel
theorem h_Sp_beginObject_4 : decode prog_10_method_26_code 4 = .ok (.istore_n 1, 1) := by decide +kernel
theorem h_Sp_beginObject_5 : decode prog_10_method_26_code 5 = .ok (.iload_n 1, 1) := by decide +kernel
theorem h_Sp_beginObject_6 : decode prog_10_method_26_code 6 = .ok (.invokestatic 136, 3) := by decide +kernel
theorem h_Sp_beginObject_9 : decode prog_10_method_26_code 9 = .ok (.ifCond .eq 24, 3) := by decide +kernel
theorem h_Sp_beginObject_12 : decode prog_10_method_26_code 12 = .ok (.aload_n 0, 1) := by decide +kernel
theorem h_Sp_beginObject_13 : decode prog_10_method_26_code 13 = .ok (.getfield 13, 3) := by decide +kernel
theorem h_Sp_beginObject_16 : decode prog_10_method_26_code 16 = .ok (.iload_n 1, 1) := by decide +kernel
theorem h_Sp_beginObject_17 : decode prog_10_method_26_code 17 = .ok (.sipush 1000, 3) := by decide +kernel
theorem h_Sp_beginObject_20 : decode prog_10_method_26_code 20 = .ok (.isub, 1) := by decide +kernel
theorem h_Sp_beginObject_21 : decode prog_10_method_26_code 21 = .ok (.iconst 1, 1) := by decide +kernel
theorem h_Sp_beginObject_22 : decode prog_10_method_26_code 22 = .ok (.iadd, 1) := by decide +kernel
theorem h_Sp_beginObject_23 : decode prog_10_method_26_code 23 = .ok (.invokevirtual 28, 3) := by decide +kernel
theorem h_Sp_beginObject_26 : decode prog_10_method_26_code 26 = .ok (.aload_n 0, 1) := by decide +kernel
theorem h_Sp_beginObject_27 : decode prog_10_method_26_code 27 = .ok (.invokevirtual 119, 3) := by decide +kernel
theorem h_Sp_beginObject_30 : decode prog_10_method_26_code 30 = .ok (.if_icmp .eq 10, 3) := by decide +kernel
theorem h_Sp_beginObject_33 : decode prog_10_method_26_code 33 = .ok (.aload_n 0, 1) := by decide +kernel
theorem h_Sp_beginObject_34 : decode prog_10_method_26_code 34 = .ok (.bipush 6, 2) := by decide +kernel
theorem h_Sp_beginObject_36 : decode prog_10_method_26_code 36 = .ok (.invokevirtual 87, 3) := by decide +kernel
theorem h_Sp_beginObject_39 : decode prog_10_method_26_code 39 = .ok (.return_, 1) := by decide +kernel
theorem h_Sp_beginObject_40 : decode prog_10_method_26_code 40 = .ok (.aload_n 0, 1) := by decide +kernel
theorem h_Sp_beginObject_41 : decode prog_10_method_26_code 41 = .ok (.getfield 17, 3) := by decide +kernel
theorem h_Sp_beginObject_44 : decode prog_10_method_26_code 44 = .ok (.iload_n 1, 1) := by decide +kernel
theorem h_Sp_beginObject_45 : decode prog_10_method_26_code 45 = .ok (.bipush 32, 2) := by decide +kernel
theorem h_Sp_beginObject_47 : decode prog_10_method_26_code 47 = .ok (.aload_n 0, 1) := by decide +kernel
theorem h_Sp_beginObject_48 : decode prog_10_method_26_code 48 = .ok (.invokevirtual 119, 3) := by decide +kernel
theorem h_Sp_beginObject_51 : decode prog_10_method_26_code 51 = .ok (.iadd, 1) := by decide +kernel
theorem h_Sp_beginObject_52 : decode prog_10_method_26_code 52 = .ok (.invokevirtual 170, 3) := by decide +kernel
theorem h_Sp_beginObject_55 : decode prog_10_method_26_code 55 = .ok (.aload_n 0, 1) := by decide +kernel
theorem h_Sp_beginObject_56 : decode prog_10_method_26_code 56 = .ok (.getfield 17, 3) := by decide +kernel
theorem h_Sp_beginObject_59 : decode prog_10_method_26_code 59 = .ok (.iload_n 1, 1) := by decide +kernel
theorem h_Sp_beginObject_60 : decode prog_10_method_26_code 60 = .ok (.bipush 32, 2) := by decide +kernel
theorem h_Sp_beginObject_62 : decode prog_10_method_26_code 62 = .ok (.aload_n 0, 1) := by decide +kernel
theorem h_Sp_beginObject_63 : decode prog_10_method_26_code 63 = .ok (.invokevirtual 119, 3) := by decide +kernel
theorem h_Sp_beginObject_66 : decode prog_10_method_26_code 66 = .ok (.iadd, 1) := by decide +kernel
theorem h_Sp_beginObject_67 : decode prog_10_method_26_code 67 = .ok (.invokevirtual 173, 3) := by decide +kernel
theorem h_Sp_beginObject_70 : decode prog_10_method_26_code 70 = .ok (.return_, 1) := by decide +kernel
def x_Sp_beginObject_33 (a0 : Nat) (P : CST → Prop) (σ : CST) : Prop := σ.1 a0 = some (9, 0) ∧ (x_Sp_fail a0 (6 : Int32) σ (fun σ2 => P σ2))
def x_Sp_beginObject (a0 : Nat) (σ0 : CST) (P : CST → Prop) : Prop := σ0.1 a0 = some (9, 0) ∧ (x_Sp_pop a0 σ0 (fun r6 σ5 => x_W_isUninitialized r6 σ5 (fun r8 σ7 => ((r8 = 0 → x_Sp_beginObject_33 a0 P σ7) ∧ (¬ r8 = 0 → σ7.1 a0 = some (9, 0) ∧ (∀ b11 : Option Nat, b11 = (σ7.2.2.2.1 a0 1) → (∃ r12 : Nat, b11 = some r12 ∧ (σ7.1 r12 = some (5, 0) ∧ (x_E_byteAt r12 ((r6 - 1000) + 1) σ7 (fun r15 σ14 => σ14.1 a0 = some (9, 0) ∧ (x_Sp_operand a0 σ14 (fun r18 σ17 => ((r15 = r18 → σ17.1 a0 = some (9, 0) ∧ (∀ b21 : Option Nat, b21 = (σ17.2.2.2.1 a0 2) → x_Sp_operand a0 σ17 (fun r23 σ22 => (∃ r24 : Nat, b21 = some r24 ∧ (σ22.1 r24 = some (8, 0) ∧ (x_St_replaceLocals r24 r6 ((32 : Int32) + r23) σ22 (fun σ26 => σ26.1 a0 = some (9, 0) ∧ (∀ b29 : Option Nat, b29 = (σ26.2.2.2.1 a0 2) → x_Sp_operand a0 σ26 (fun r31 σ30 => (∃ r32 : Nat, b29 = some r32 ∧ (σ30.1 r32 = some (8, 0) ∧ (x_St_replaceStack r32 r6 ((32 : Int32) + r31) σ30 (fun σ34 => P σ34))))))))))))) ∧ (¬ r15 = r18 → x_Sp_beginObject_33 a0 P σ17))))))))))))))
set_option maxHeartbeats 4000000 in
set_option maxRecDepth 100000 in
theorem X_Sp_beginObject (l : Launch) (dC : Nat → ClassId) (dI : Nat → Nat → Nat) (ca : Nat → ClassId) (H0 : Heap) (σ0 : CST) (a0 : Nat) {P : CST → Prop} (hw : x_Sp_beginObject a0 σ0 P) : Met l g_Sp_beginObject (mW g_Sp_beginObject prog_10_method_26_code 2 none) ({ frames := 2, cells := σ0.2.2.2.2.1, slots := σ0.2.2.2.2.2.1, locals := 42 } : Room) (va_Pc [.ref a0] (CPre (dC, dI) ca σ0 H0)) (va_Qv P (CB (dC, dI) ca σ0 H0) (cA σ0 H0.size)) σ0.2.2.2.2.1 σ0.2.2.2.2.2.1 (cA σ0 H0.size) := by
  refine C_ofv (by decide +kernel) rfl rfl rfl (Nat.le_of_ble_eq_true rfl) ?_
  intro p e s m below meth cx Q A ls C hnm hend hH0 h hl
  subst hH0
  have C0 := C
  obtain ⟨⟨hx, hb, hml, hown, hts⟩, hsub⟩ := C0
  obtain ⟨cells, e_cells⟩ : ∃ z : Nat, z = 0 := ⟨_, rfl⟩
  obtain ⟨slots, e_slots⟩ : ∃ z : Nat, z = 0 := ⟨_, rfl⟩
  have h : CH (dC, dI) A ca ({ frames := 2, cells := σ0.2.2.2.2.1, slots := σ0.2.2.2.2.2.1, locals := 42 } : Room) σ0.2.2.2.2.2.2 σ0 s s.heap [] cells slots := by rw [e_cells, e_slots]; exact h
  show W p l e ({ frames := 2, cells := σ0.2.2.2.2.1, slots := σ0.2.2.2.2.2.1, locals := 42 } : Room) s m ([.ref a0] : List Value).toArray below meth cx s.heap [] 0 0 Q (F0 m 0 ls [])
  rw [show W p l e ({ frames := 2, cells := σ0.2.2.2.2.1, slots := σ0.2.2.2.2.2.1, locals := 42 } : Room) s m ([.ref a0] : List Value).toArray below meth cx s.heap [] 0 0 Q (F0 m 0 ls []) = W p l e ({ frames := 2, cells := σ0.2.2.2.2.1, slots := σ0.2.2.2.2.2.1, locals := 42 } : Room) s m ([.ref a0] : List Value).toArray below meth cx s.heap [] cells slots Q (F0 m 0 ls []) by rw [e_cells, e_slots]]
  have K_33 : ∀ (u9 : Unit), ∀ (σ : CST) (H : Heap) (locs : List Loc) (cells slots : Nat) (ls : Array Slot), x_Sp_beginObject_33 a0 P σ → CH (dC, dI) A ca ({ frames := 2, cells := σ0.2.2.2.2.1, slots := σ0.2.2.2.2.2.1, locals := 42 } : Room) σ0.2.2.2.2.2.2 σ s H locs cells slots → lv_has ls 2 [(0, .ref a0)] → W p l e ({ frames := 2, cells := σ0.2.2.2.2.1, slots := σ0.2.2.2.2.2.1, locals := 42 } : Room) s m ([.ref a0] : List Value).toArray below meth cx H locs cells slots Q (F0 m 33 ls []) := by
    intro u9  σ H locs cells slots ls hw h hl
    unfold x_Sp_beginObject_33 at hw
    refine lv_aload_n hx hb h_Sp_beginObject_33 rfl (lv_at hl 0 rfl) ?_
    refine lv_bipush (v := 6) hx hb h_Sp_beginObject_34 (by decide) ?_
    obtain ⟨g1, hw⟩ := hw
    refine C_callVv (As := [.int 6]) (rest := []) C h (ci := 9) (Cn := R_Sp) (T := T_Sp) (N := 5) g1 rfl (by decide) (X_Sp_fail l dC dI ca H σ a0 (6 : Int32) hw) (cwV 1 hts (gV hsub u_521 u_522 u_523 u_524 u_525) rfl rfl rfl (by decide +kernel) ⟨(Nat.le_of_ble_eq_true rfl), (Nat.le_of_ble_eq_true rfl)⟩) rfl hl.1 (Nat.le_of_ble_eq_true rfl) h_Sp_beginObject_36 (fun σ2 H locs cells slots hw9 h9 => ?_)
    clear hw h; have hw := hw9; have h := h9; clear hw9 h9
    refine W.eq (g2 := F0 m 39 ls []) rfl ?_
    exact hend σ2 _ _ _ _ _ _ hw h h_Sp_beginObject_39
  have hl : lv_has ls 2 [(0, .ref a0)] := hl
  unfold x_Sp_beginObject at hw
  refine lv_aload_n hx hb h_Sp_beginObject_0 rfl (lv_at hl 0 rfl) ?_
  obtain ⟨g4, hw⟩ := hw
  refine C_callVi (As := []) (rest := []) C h (ci := 9) (Cn := R_Sp) (T := T_Sp) (N := 5) g4 rfl (by decide) (X_Sp_pop l dC dI ca s.heap σ0 a0 hw) (cwV 0 hts (gV hsub u_560 u_561 u_562 u_524 u_563) rfl rfl rfl (by decide +kernel) ⟨(Nat.le_of_ble_eq_true rfl), (Nat.le_of_ble_eq_true rfl)⟩) rfl hl.1 (Nat.le_of_ble_eq_true rfl) h_Sp_beginObject_1 (fun r6 σ5 H locs cells slots hw9 h9 => ?_)
  clear hw h; have hw := hw9; have h := h9; clear hw9 h9
  refine W.eq (g2 := F0 m 4 ls [.int r6]) rfl ?_
  refine lv_istore_n (i := 1) (lv' := [(1, .int r6), (0, .ref a0)]) hx hb h_Sp_beginObject_4 rfl hl (by decide) rfl (fun ls hl => ?_)
  refine lv_iload_n hx hb h_Sp_beginObject_5 rfl (lv_at hl 0 rfl) ?_
  refine C_callSi (As := [.int r6]) (rest := []) C h (X_W_isUninitialized l dC dI ca H σ5 r6 hw) (va_cwS 1 hts (gS hsub u_555 u_64 u_51 u_65) rfl rfl rfl (by decide +kernel) ⟨(Nat.le_of_ble_eq_true rfl), (Nat.le_of_ble_eq_true rfl)⟩) rfl hl.1 (Nat.le_of_ble_eq_true rfl) h_Sp_beginObject_6 (fun r8 σ7 H locs cells slots hw9 h9 => ?_)
  clear hw h; have hw := hw9; have h := h9; clear hw9 h9
  refine W.eq (g2 := F0 m 9 ls [.int r8]) rfl ?_
  refine lv_if_eq (tgt := 33) hx hb h_Sp_beginObject_9 (by decide) (fun c9 => ?_) (fun c9 => ?_)
  · skip
    replace hw := hw.1 c9
    exact K_33 () σ7 _ _ _ _ _ hw h (lv_sub hl [1] rfl)
  · skip
    replace hw := hw.2 c9
    refine lv_aload_n hx hb h_Sp_beginObject_12 rfl (lv_at hl 1 rfl) ?_
    obtain ⟨g10, hw⟩ := hw
    refine C_get C h 9 1 (v := va_rf (σ7.2.2.2.1 a0 1)) g10 rfl (Cn := R_Sp) (T := T_Sp) (N := 5) rfl (by decide) rfl uw_Sp (by decide) u_514 (fun _ q => q) h_Sp_beginObject_13 ?_
    refine lv_topq (fun b11 e_b11 => ?_)
    replace hw := hw b11 e_b11
    refine lv_iload_n hx hb h_Sp_beginObject_16 rfl (lv_at hl 0 rfl) ?_
    refine lv_sipush (v := 1000) hx hb h_Sp_beginObject_17 (by decide) ?_
    refine lv_isub hx hb h_Sp_beginObject_20 ?_
    refine lv_iconst (v := 1) hx hb h_Sp_beginObject_21 (by decide) ?_
    refine lv_iadd hx hb h_Sp_beginObject_22 ?_
    obtain ⟨r12, e_r12, hw⟩ := hw
    subst e_r12
    have hl : lv_has ls 2 [(1, .int r6), (0, .ref a0)] := hl
    refine W.eq (g2 := F0 m 23 ls [.int ((r6 - 1000) + 1), .ref r12]) rfl ?_
    obtain ⟨g13, hw⟩ := hw
    refine C_callVi (As := [.int ((r6 - 1000) + 1)]) (rest := []) C h (ci := 5) (Cn := R_E) (T := T_E) (N := 13) g13 rfl (by decide) (X_E_byteAt l dC dI ca H σ7 r12 ((r6 - 1000) + 1) hw) (cwV 1 hts (gV hsub u_545 u_227 u_228 u_229 u_230) rfl rfl rfl (by decide +kernel) ⟨(Nat.le_of_ble_eq_true rfl), (Nat.le_of_ble_eq_true rfl)⟩) rfl hl.1 (Nat.le_of_ble_eq_true rfl) h_Sp_beginObject_23 (fun r15 σ14 H locs cells slots hw9 h9 => ?_)
    clear hw h; have hw := hw9; have h := h9; clear hw9 h9
    refine W.eq (g2 := F0 m 26 ls [.int r15]) rfl ?_
    refine lv_aload_n hx hb h_Sp_beginObject_26 rfl (lv_at hl 1 rfl) ?_
    obtain ⟨g16, hw⟩ := hw
    refine C_callVi (As := []) (rest := [.int r15]) C h (ci := 9) (Cn := R_Sp) (T := T_Sp) (N := 5) g16 rfl (by decide) (X_Sp_operand l dC dI ca H σ14 a0 hw) (cwV 0 hts (gV hsub u_546 u_547 u_548 u_524 u_549) rfl rfl rfl (by decide +kernel) ⟨(Nat.le_of_ble_eq_true rfl), (Nat.le_of_ble_eq_true rfl)⟩) rfl hl.1 (Nat.le_of_ble_eq_true rfl) h_Sp_beginObject_27 (fun r18 σ17 H locs cells slots hw9 h9 => ?_)
    clear hw h; have hw := hw9; have h := h9; clear hw9 h9
    refine W.eq (g2 := F0 m 30 ls [.int r18, .int r15]) rfl ?_
    refine lv_icmp_eq (tgt := 40) hx hb h_Sp_beginObject_30 (by decide) (fun c19 => ?_) (fun c19 => ?_)
    · skip
      replace hw := hw.1 c19
      refine lv_aload_n hx hb h_Sp_beginObject_40 rfl (lv_at hl 1 rfl) ?_
      obtain ⟨g20, hw⟩ := hw
      refine C_get C h 9 2 (v := va_rf (σ17.2.2.2.1 a0 2)) g20 rfl (Cn := R_Sp) (T := T_Sp) (N := 5) rfl (by decide) rfl uw_Sp (by decide) u_516 (fun _ q => q) h_Sp_beginObject_41 ?_
      refine lv_topq (fun b21 e_b21 => ?_)
      replace hw := hw b21 e_b21
      refine lv_iload_n hx hb h_Sp_beginObject_44 rfl (lv_at hl 0 rfl) ?_
      refine lv_bipush (v := 32) hx hb h_Sp_beginObject_45 (by decide) ?_
      refine lv_aload_n hx hb h_Sp_beginObject_47 rfl (lv_at hl 1 rfl) ?_
      refine C_callVi (As := []) (rest := [.int 32, .int r6, va_rf b21]) C h (ci := 9) (Cn := R_Sp) (T := T_Sp) (N := 5) g20 rfl (by decide) (X_Sp_operand l dC dI ca H σ17 a0 hw) (cwV 0 hts (gV hsub u_546 u_547 u_548 u_524 u_549) rfl rfl rfl (by decide +kernel) ⟨(Nat.le_of_ble_eq_true rfl), (Nat.le_of_ble_eq_true rfl)⟩) rfl hl.1 (by simp only [List.map_cons, List.map_nil, List.sum_cons, List.sum_nil, cq_cat]; exact Nat.le_of_ble_eq_true rfl) h_Sp_beginObject_48 (fun r23 σ22 H locs cells slots hw9 h9 => ?_)
      clear hw h; have hw := hw9; have h := h9; clear hw9 h9
      refine W.eq (g2 := F0 m 51 ls [.int r23, .int 32, .int r6, va_rf b21]) rfl ?_
      refine lv_iadd hx hb h_Sp_beginObject_51 ?_
      obtain ⟨r24, e_r24, hw⟩ := hw
      subst e_r24
      have hl : lv_has ls 2 [(1, .int r6), (0, .ref a0)] := hl
      refine W.eq (g2 := F0 m 52 ls [.int ((32 : Int32) + r23), .int r6, .ref r24]) rfl ?_
      obtain ⟨g25, hw⟩ := hw
      refine C_callVv (As := [.int r6, .int ((32 : Int32) + r23)]) (rest := []) C h (ci := 8) (Cn := R_St) (T := T_St) (N := 4) g25 rfl (by decide) (X_St_replaceLocals l dC dI ca H σ22 r24 r6 ((32 : Int32) + r23) hw) (cwV 2 hts (gV hsub u_601 u_602 u_603 u_502 u_604) rfl rfl rfl (by decide +kernel) ⟨(Nat.le_of_ble_eq_true rfl), (Nat.le_of_ble_eq_true rfl)⟩) rfl hl.1 (Nat.le_of_ble_eq_true rfl) h_Sp_beginObject_52 (fun σ26 H locs cells slots hw9 h9 => ?_)
      clear hw h; have hw := hw9; have h := h9; clear hw9 h9
      refine W.eq (g2 := F0 m 55 ls []) rfl ?_
      refine lv_aload_n hx hb h_Sp_beginObject_55 rfl (lv_at hl 1 rfl) ?_
      obtain ⟨g28, hw⟩ := hw
      refine C_get C h 9 2 (v := va_rf (σ26.2.2.2.1 a0 2)) g28 rfl (Cn := R_Sp) (T := T_Sp) (N := 5) rfl (by decide) rfl uw_Sp (by decide) u_516 (fun _ q => q) h_Sp_beginObject_56 ?_
      refine lv_topq (fun b29 e_b29 => ?_)
      replace hw := hw b29 e_b29
      refine lv_iload_n hx hb h_Sp_beginObject_59 rfl (lv_at hl 0 rfl) ?_
      refine lv_bipush (v := 32) hx hb h_Sp_beginObject_60 (by decide) ?_
      refine lv_aload_n hx hb h_Sp_beginObject_62 rfl (lv_at hl 1 rfl) ?_
      refine C_callVi (As := []) (rest := [.int 32, .int r6, va_rf b29]) C h (ci := 9) (Cn := R_Sp) (T := T_Sp) (N := 5) g28 rfl (by decide) (X_Sp_operand l dC dI ca H σ26 a0 hw) (cwV 0 hts (gV hsub u_546 u_547 u_548 u_524 u_549) rfl rfl rfl (by decide +kernel) ⟨(Nat.le_of_ble_eq_true rfl), (Nat.le_of_ble_eq_true rfl)⟩) rfl hl.1 (by simp only [List.map_cons, List.map_nil, List.sum_cons, List.sum_nil, cq_cat]; exact Nat.le_of_ble_eq_true rfl) h_Sp_beginObject_63 (fun r31 σ30 H locs cells slots hw9 h9 => ?_)
      clear hw h; have hw := hw9; have h := h9; clear hw9 h9
      refine W.eq (g2 := F0 m 66 ls [.int r31, .int 32, .int r6, va_rf b29]) rfl ?_
      refine lv_iadd hx hb h_Sp_beginObject_66 ?_
      obtain ⟨r32, e_r32, hw⟩ := hw
      subst e_r32
      have hl : lv_has ls 2 [(1, .int r6), (0, .ref a0)] := hl
      refine W.eq (g2 := F0 m 67 ls [.int ((32 : Int32) + r31), .int r6, .ref r32]) rfl ?_
      obtain ⟨g33, hw⟩ := hw
      refine C_callVv (As := [.int r6, .int ((32 : Int32) + r31)]) (rest := []) C h (ci := 8) (Cn := R_St) (T := T_St) (N := 4) g33 rfl (by decide) (X_St_replaceStack l dC dI ca H σ30 r32 r6 ((32 : Int32) + r31) hw) (cwV 2 hts (gV hsub u_605 u_606 u_607 u_502 u_608) rfl rfl rfl (by decide +kernel) ⟨(Nat.le_of_ble_eq_true rfl), (Nat.le_of_ble_eq_true rfl)⟩) rfl hl.1 (Nat.le_of_ble_eq_true rfl) h_Sp_beginObject_67 (fun σ34 H locs cells slots hw9 h9 => ?_)
      clear hw h; have hw := hw9; have h := h9; clear hw9 h9
      refine W.eq (g2 := F0 m 70 ls []) rfl ?_
      exact hend σ34 _ _ _ _ _ _ hw h h_Sp_beginObject_70
    · skip
      replace hw := hw.2 c19
      exact K_33 () σ17 _ _ _ _ _ hw h (lv_sub hl [1] rfl)
