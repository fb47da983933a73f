abbrev g_Sp_newObject : MethodName := ⟨"MapFramer$Stepper", "newObject", "()V"⟩
theorem u_609 : (Cond.methodLink "MapFramer$Stepper" 185 ⟨"MapFramer$State", "hasOnStack", "(I)Z"⟩ : Cond) ∈ bigW := inB_5 30 (by decide +kernel) rfl
theorem u_610 : (Cond.instanceMethod ⟨"MapFramer$State", "hasOnStack", "(I)Z"⟩ : Cond) ∈ bigW := inB_5 31 (by decide +kernel) rfl
theorem u_611 : (Cond.selects "MapFramer$State" ⟨"MapFramer$State", "hasOnStack", "(I)Z"⟩ ⟨"MapFramer$State", "hasOnStack", "(I)Z"⟩ : Cond) ∈ bigW := inB_5 32 (by decide +kernel) rfl
theorem u_612 : (Cond.code ⟨"MapFramer$State", "hasOnStack", "(I)Z"⟩ prog_9_method_11_code 3 (some .boolean) : Cond) ∈ bigW := inB_5 33 rfl rfl
theorem h_Sp_newObject_0 : decode prog_10_method_28_code 0 = .ok (.sipush 1000, 3) := by decide +kernel
theorem h_Sp_newObject_3 : decode prog_10_method_28_code 3 = .ok (.aload_n 0, 1) := by decide +kernel
theorem h_Sp_newObject_4 : decode prog_10_method_28_code 4 = .ok (.getfield 21, 3) := by decide +kernel
theorem h_Sp_newObject_7 : decode prog_10_method_28_code 7 = .ok (.iadd, 1) := by decide +kernel
theorem h_Sp_newObject_8 : decode prog_10_method_28_code 8 = .ok (.istore_n 1, 1) := by decide +kernel
theorem h_Sp_newObject_9 : decode prog_10_method_28_code 9 = .ok (.aload_n 0, 1) := by decide +kernel
theorem h_Sp_newObject_10 : decode prog_10_method_28_code 10 = .ok (.getfield 17, 3) := by decide +kernel
theorem h_Sp_newObject_13 : decode prog_10_method_28_code 13 = .ok (.iload_n 1, 1) := by decide +kernel
theorem h_Sp_newObject_14 : decode prog_10_method_28_code 14 = .ok (.invokevirtual 185, 3) := by decide +kernel
theorem h_Sp_newObject_17 : decode prog_10_method_28_code 17 = .ok (.ifCond .eq 9, 3) := by decide +kernel
theorem h_Sp_newObject_20 : decode prog_10_method_28_code 20 = .ok (.aload_n 0, 1) := by decide +kernel
theorem h_Sp_newObject_21 : decode prog_10_method_28_code 21 = .ok (.bipush 6, 2) := by decide +kernel
theorem h_Sp_newObject_23 : decode prog_10_method_28_code 23 = .ok (.invokevirtual 87, 3) := by decide +kernel
theorem h_Sp_newObject_26 : decode prog_10_method_28_code 26 = .ok (.aload_n 0, 1) := by decide +kernel
theorem h_Sp_newObject_27 : decode prog_10_method_28_code 27 = .ok (.getfield 17, 3) := by decide +kernel
theorem h_Sp_newObject_30 : decode prog_10_method_28_code 30 = .ok (.iload_n 1, 1) := by decide +kernel
theorem h_Sp_newObject_31 : decode prog_10_method_28_code 31 = .ok (.iconst 0, 1) := by decide +kernel
theorem h_Sp_newObject_32 : decode prog_10_method_28_code 32 = .ok (.invokevirtual 170, 3) := by decide +kernel
theorem h_Sp_newObject_35 : decode prog_10_method_28_code 35 = .ok (.aload_n 0, 1) := by decide +kernel
theorem h_Sp_newObject_36 : decode prog_10_method_28_code 36 = .ok (.iload_n 1, 1) := by decide +kernel
theorem h_Sp_newObject_37 : decode prog_10_method_28_code 37 = .ok (.invokevirtual 108, 3) := by decide +kernel
theorem h_Sp_newObject_40 : decode prog_10_method_28_code 40 = .ok (.return_, 1) := by decide +kernel
def x_Sp_newObject_26 (a0 : Nat) (P : CST → Prop) (z1 : Int32) (σ : CST) : Prop := σ.1 a0 = some (9, 0) ∧ (∀ b2 : Option Nat, b2 = (σ.2.2.2.1 a0 2) → (∃ r3 : Nat, b2 = some r3 ∧ (σ.1 r3 = some (8, 0) ∧ (x_St_replaceLocals r3 z1 (0 : Int32) σ (fun σ5 => σ5.1 a0 = some (9, 0) ∧ (x_Sp_push a0 z1 σ5 (fun σ8 => P σ8)))))))
def x_Sp_newObject (a0 : Nat) (σ0 : CST) (P : CST → Prop) : Prop := σ0.1 a0 = some (9, 0) ∧ (∀ b11 : Option Nat, b11 = (σ0.2.2.2.1 a0 2) → (∃ r12 : Nat, b11 = some r12 ∧ (σ0.1 r12 = some (8, 0) ∧ (x_St_hasOnStack r12 ((1000 : Int32) + (σ0.2.1 a0 3)) σ0 (fun r15 σ14 => ((r15 = 0 → x_Sp_newObject_26 a0 P ((1000 : Int32) + (σ0.2.1 a0 3)) σ14) ∧ (¬ r15 = 0 → σ14.1 a0 = some (9, 0) ∧ (x_Sp_fail a0 (6 : Int32) σ14 (fun σ18 => x_Sp_newObject_26 a0 P ((1000 : Int32) + (σ0.2.1 a0 3)) σ18)))))))))
set_option maxHeartbeats 4000000 in
set_option maxRecDepth 100000 in
theorem X_Sp_newObject (l : Launch) (dC : Nat → ClassId) (dI : Nat → Nat → Nat) (ca : Nat → ClassId) (H0 : Heap) (σ0 : CST) (a0 : Nat) {P : CST → Prop} (hw : x_Sp_newObject a0 σ0 P) : Met l g_Sp_newObject (mW g_Sp_newObject prog_10_method_28_code 2 none) ({ frames := 2, cells := σ0.2.2.2.2.1, slots := σ0.2.2.2.2.2.1, locals := 43 } : Room) (va_Pc [.ref a0] (CPre (dC, dI) ca σ0 H0)) (va_Qv P (CB (dC, dI) ca σ0 H0) (cA σ0 H0.size)) σ0.2.2.2.2.1 σ0.2.2.2.2.2.1 (cA σ0 H0.size) := by
  refine C_ofv (by decide +kernel) rfl rfl rfl (Nat.le_of_ble_eq_true rfl) ?_
  intro p e s m below meth cx Q A ls C hnm hend hH0 h hl
  subst hH0
  have C0 := C
  obtain ⟨⟨hx, hb, hml, hown, hts⟩, hsub⟩ := C0
  obtain ⟨cells, e_cells⟩ : ∃ z : Nat, z = 0 := ⟨_, rfl⟩
  obtain ⟨slots, e_slots⟩ : ∃ z : Nat, z = 0 := ⟨_, rfl⟩
  have h : CH (dC, dI) A ca ({ frames := 2, cells := σ0.2.2.2.2.1, slots := σ0.2.2.2.2.2.1, locals := 43 } : Room) σ0.2.2.2.2.2.2 σ0 s s.heap [] cells slots := by rw [e_cells, e_slots]; exact h
  show W p l e ({ frames := 2, cells := σ0.2.2.2.2.1, slots := σ0.2.2.2.2.2.1, locals := 43 } : Room) s m ([.ref a0] : List Value).toArray below meth cx s.heap [] 0 0 Q (F0 m 0 ls [])
  rw [show W p l e ({ frames := 2, cells := σ0.2.2.2.2.1, slots := σ0.2.2.2.2.2.1, locals := 43 } : Room) s m ([.ref a0] : List Value).toArray below meth cx s.heap [] 0 0 Q (F0 m 0 ls []) = W p l e ({ frames := 2, cells := σ0.2.2.2.2.1, slots := σ0.2.2.2.2.2.1, locals := 43 } : Room) s m ([.ref a0] : List Value).toArray below meth cx s.heap [] cells slots Q (F0 m 0 ls []) by rw [e_cells, e_slots]]
  have K_26 : ∀ (u9 : Unit), ∀ (z1 : Int32) (σ : CST) (H : Heap) (locs : List Loc) (cells slots : Nat) (ls : Array Slot), x_Sp_newObject_26 a0 P z1 σ → CH (dC, dI) A ca ({ frames := 2, cells := σ0.2.2.2.2.1, slots := σ0.2.2.2.2.2.1, locals := 43 } : Room) σ0.2.2.2.2.2.2 σ s H locs cells slots → lv_has ls 2 [(0, .ref a0), (1, .int z1)] → W p l e ({ frames := 2, cells := σ0.2.2.2.2.1, slots := σ0.2.2.2.2.2.1, locals := 43 } : Room) s m ([.ref a0] : List Value).toArray below meth cx H locs cells slots Q (F0 m 26 ls []) := by
    intro u9 z1 σ H locs cells slots ls hw h hl
    unfold x_Sp_newObject_26 at hw
    refine lv_aload_n hx hb h_Sp_newObject_26 rfl (lv_at hl 0 rfl) ?_
    obtain ⟨g1, hw⟩ := hw
    refine C_get C h 9 2 (v := va_rf (σ.2.2.2.1 a0 2)) g1 rfl (Cn := R_Sp) (T := T_Sp) (N := 5) rfl (by decide) rfl uw_Sp (by decide) u_516 (fun _ q => q) h_Sp_newObject_27 ?_
    refine lv_topq (fun b2 e_b2 => ?_)
    replace hw := hw b2 e_b2
    refine lv_iload_n hx hb h_Sp_newObject_30 rfl (lv_at hl 1 rfl) ?_
    refine lv_iconst (v := 0) hx hb h_Sp_newObject_31 (by decide) ?_
    obtain ⟨r3, e_r3, hw⟩ := hw
    subst e_r3
    have hl : lv_has ls 2 [(0, .ref a0), (1, .int z1)] := hl
    refine W.eq (g2 := F0 m 32 ls [.int 0, .int z1, .ref r3]) rfl ?_
    obtain ⟨g4, hw⟩ := hw
    refine C_callVv (As := [.int z1, .int 0]) (rest := []) C h (ci := 8) (Cn := R_St) (T := T_St) (N := 4) g4 rfl (by decide) (X_St_replaceLocals l dC dI ca H σ r3 z1 (0 : Int32) hw) (cwV 2 hts (gV hsub u_601 u_602 u_603 u_502 u_604) rfl rfl rfl (by decide +kernel) ⟨(Nat.le_of_ble_eq_true rfl), (Nat.le_of_ble_eq_true rfl)⟩) rfl hl.1 (Nat.le_of_ble_eq_true rfl) h_Sp_newObject_32 (fun σ5 H locs cells slots hw9 h9 => ?_)
    clear hw h; have hw := hw9; have h := h9; clear hw9 h9
    refine W.eq (g2 := F0 m 35 ls []) rfl ?_
    refine lv_aload_n hx hb h_Sp_newObject_35 rfl (lv_at hl 0 rfl) ?_
    refine lv_iload_n hx hb h_Sp_newObject_36 rfl (lv_at hl 1 rfl) ?_
    obtain ⟨g7, hw⟩ := hw
    refine C_callVv (As := [.int z1]) (rest := []) C h (ci := 9) (Cn := R_Sp) (T := T_Sp) (N := 5) g7 rfl (by decide) (X_Sp_push l dC dI ca H σ5 a0 z1 hw) (cwV 1 hts (gV hsub u_526 u_527 u_528 u_524 u_529) rfl rfl rfl (by decide +kernel) ⟨(Nat.le_of_ble_eq_true rfl), (Nat.le_of_ble_eq_true rfl)⟩) rfl hl.1 (Nat.le_of_ble_eq_true rfl) h_Sp_newObject_37 (fun σ8 H locs cells slots hw9 h9 => ?_)
    clear hw h; have hw := hw9; have h := h9; clear hw9 h9
    refine W.eq (g2 := F0 m 40 ls []) rfl ?_
    exact hend σ8 _ _ _ _ _ _ hw h h_Sp_newObject_40
  have hl : lv_has ls 2 [(0, .ref a0)] := hl
  unfold x_Sp_newObject at hw
  refine lv_sipush (v := 1000) hx hb h_Sp_newObject_0 (by decide) ?_
  refine lv_aload_n hx hb h_Sp_newObject_3 rfl (lv_at hl 0 rfl) ?_
  obtain ⟨g10, hw⟩ := hw
  refine C_get C h 9 3 (v := .int (σ0.2.1 a0 3)) g10 rfl (Cn := R_Sp) (T := T_Sp) (N := 5) rfl (by decide) rfl uw_Sp (by decide) u_544 (fun _ q => q) h_Sp_newObject_4 ?_
  refine lv_iadd hx hb h_Sp_newObject_7 ?_
  refine lv_istore_n (i := 1) (lv' := [(1, .int ((1000 : Int32) + (σ0.2.1 a0 3))), (0, .ref a0)]) hx hb h_Sp_newObject_8 rfl hl (by decide) rfl (fun ls hl => ?_)
  refine lv_aload_n hx hb h_Sp_newObject_9 rfl (lv_at hl 1 rfl) ?_
  refine C_get C h 9 2 (v := va_rf (σ0.2.2.2.1 a0 2)) g10 rfl (Cn := R_Sp) (T := T_Sp) (N := 5) rfl (by decide) rfl uw_Sp (by decide) u_516 (fun _ q => q) h_Sp_newObject_10 ?_
  refine lv_topq (fun b11 e_b11 => ?_)
  replace hw := hw b11 e_b11
  refine lv_iload_n hx hb h_Sp_newObject_13 rfl (lv_at hl 0 rfl) ?_
  obtain ⟨r12, e_r12, hw⟩ := hw
  subst e_r12
  have hl : lv_has ls 2 [(1, .int ((1000 : Int32) + (σ0.2.1 a0 3))), (0, .ref a0)] := hl
  refine W.eq (g2 := F0 m 14 ls [.int ((1000 : Int32) + (σ0.2.1 a0 3)), .ref r12]) rfl ?_
  obtain ⟨g13, hw⟩ := hw
  refine C_callVi (As := [.int ((1000 : Int32) + (σ0.2.1 a0 3))]) (rest := []) C h (ci := 8) (Cn := R_St) (T := T_St) (N := 4) g13 rfl (by decide) (X_St_hasOnStack l dC dI ca s.heap σ0 r12 ((1000 : Int32) + (σ0.2.1 a0 3)) hw) (cwV 1 hts (gV hsub u_609 u_610 u_611 u_502 u_612) rfl rfl rfl (by decide +kernel) ⟨(Nat.le_of_ble_eq_true rfl), (Nat.le_of_ble_eq_true rfl)⟩) rfl hl.1 (Nat.le_of_ble_eq_true rfl) h_Sp_newObject_14 (fun r15 σ14 H locs cells slots hw9 h9 => ?_)
  clear hw h; have hw := hw9; have h := h9; clear hw9 h9
  refine W.eq (g2 := F0 m 17 ls [.int r15]) rfl ?_
  refine lv_if_eq (tgt := 26) hx hb h_Sp_newObject_17 (by decide) (fun c16 => ?_) (fun c16 => ?_)
  · skip
    replace hw := hw.1 c16
    exact K_26 () ((1000 : Int32) + (σ0.2.1 a0 3)) σ14 _ _ _ _ _ hw h (lv_sub hl [1, 0] rfl)
  · skip
    replace hw := hw.2 c16
    refine lv_aload_n hx hb h_Sp_newObject_20 rfl (lv_at hl 1 rfl) ?_
    refine lv_bipush (v := 6) hx hb h_Sp_newObject_21 (by decide) ?_
    obtain ⟨g17, hw⟩ := hw
    refine C_callVv (As := [.int 6]) (rest := []) C h (ci := 9) (Cn := R_Sp) (T := T_Sp) (N := 5) g17 rfl (by decide) (X_Sp_fail l dC dI ca H σ14 a0 (6 : Int32) hw) (cwV 1 hts (gV hsub u_521 u_522 u_523 u_524 u_525) rfl rfl rfl (by decide +kernel) ⟨(Nat.le_of_ble_eq_true rfl), (Nat.le_of_ble_eq_true rfl)⟩) rfl hl.1 (Nat.le_of_ble_eq_true rfl) h_Sp_newObject_23 (fun σ18 H locs cells slots hw9 h9 => ?_)
    clear hw h; have hw := hw9; have h := h9; clear hw9 h9
    refine W.eq (g2 := F0 m 26 ls []) rfl ?_
    exact K_26 () ((1000 : Int32) + (σ0.2.1 a0 3)) σ18 _ _ _ _ _ hw h (lv_sub hl [1, 0] rfl)
abbrev g_W_isArray : MethodName := ⟨"MapFramer$World", "isArray", "(I)Z"⟩
theorem h_W_isArray_0 : decode prog_12_method_14_code 0 = .ok (.iload_n 0, 1) := by decide +kernel
theorem h_W_isArray_1 : decode prog_12_method_14_code 1 = .ok (.iconst 3, 1) := by decide +kernel
theorem h_W_isArray_2 : decode prog_12_method_14_code 2 = .ok (.if_icmp .eq 20, 3) := by decide +kernel
theorem h_W_isArray_5 : decode prog_12_method_14_code 5 = .ok (.iload_n 0, 1) := by decide +kernel
theorem h_W_isArray_6 : decode prog_12_method_14_code 6 = .ok (.iconst 4, 1) := by decide +kernel
theorem h_W_isArray_7 : decode prog_12_method_14_code 7 = .ok (.if_icmp .eq 15, 3) := by decide +kernel
theorem h_W_isArray_10 : decode prog_12_method_14_code 10 = .ok (.iload_n 0, 1) := by decide +kernel
theorem h_W_isArray_11 : decode prog_12_method_14_code 11 = .ok (.bipush 64, 2) := by decide +kernel
theorem h_W_isArray_13 : decode prog_12_method_14_code 13 = .ok (.if_icmp .lt 13, 3) := by decide +kernel
theorem h_W_isArray_16 : decode prog_12_method_14_code 16 = .ok (.iload_n 0, 1) := by decide +kernel
theorem h_W_isArray_17 : decode prog_12_method_14_code 17 = .ok (.bipush 80, 2) := by decide +kernel
theorem h_W_isArray_19 : decode prog_12_method_14_code 19 = .ok (.if_icmp .ge 7, 3) := by decide +kernel
theorem h_W_isArray_22 : decode prog_12_method_14_code 22 = .ok (.iconst 1, 1) := by decide +kernel
theorem h_W_isArray_23 : decode prog_12_method_14_code 23 = .ok (.goto 4, 3) := by decide +kernel
theorem h_W_isArray_26 : decode prog_12_method_14_code 26 = .ok (.iconst 0, 1) := by decide +kernel
theorem h_W_isArray_27 : decode prog_12_method_14_code 27 = .ok (.ireturn, 1) := by decide +kernel
def x_W_isArray_22 (P : Int32 → CST → Prop) (σ : CST) : Prop := P (1 : Int32) σ
def x_W_isArray (x0 : Int32) (σ0 : CST) (P : Int32 → CST → Prop) : Prop := ((x0 = 3 → x_W_isArray_22 P σ0) ∧ (¬ x0 = 3 → ((x0 = 4 → x_W_isArray_22 P σ0) ∧ (¬ x0 = 4 → ((x0 < 64 → P (0 : Int32) σ0) ∧ (¬ x0 < 64 → ((80 ≤ x0 → P (0 : Int32) σ0) ∧ (¬ 80 ≤ x0 → x_W_isArray_22 P σ0))))))))
set_option maxHeartbeats 4000000 in
set_option maxRecDepth 100000 in
theorem X_W_isArray (l : Launch) (dC : Nat → ClassId) (dI : Nat → Nat → Nat) (ca : Nat → ClassId) (H0 : Heap) (σ0 : CST) (x0 : Int32) {P : Int32 → CST → Prop} (hw : x_W_isArray x0 σ0 P) : Met l g_W_isArray (mW g_W_isArray prog_12_method_14_code 1 (some .boolean)) ({ frames := 0, cells := σ0.2.2.2.2.1, slots := σ0.2.2.2.2.2.1, locals := 0 } : Room) (va_Pc [.int x0] (CPre (dC, dI) ca σ0 H0)) (va_Qi P (CB (dC, dI) ca σ0 H0) (cA σ0 H0.size)) σ0.2.2.2.2.1 σ0.2.2.2.2.2.1 (cA σ0 H0.size) := by
  refine C_ofz (by decide +kernel) rfl rfl rfl (Nat.le_of_ble_eq_true rfl) ?_
  intro p e s m below meth cx Q A ls C hnm hend hH0 h hl
  subst hH0
  have C0 := C
  obtain ⟨⟨hx, hb, hml, hown, hts⟩, hsub⟩ := C0
  obtain ⟨cells, e_cells⟩ : ∃ z : Nat, z = 0 := ⟨_, rfl⟩
  obtain ⟨slots, e_slots⟩ : ∃ z : Nat, z = 0 := ⟨_, rfl⟩
  have h : CH (dC, dI) A ca ({ frames := 0, cells := σ0.2.2.2.2.1, slots := σ0.2.2.2.2.2.1, locals := 0 } : Room) σ0.2.2.2.2.2.2 σ0 s s.heap [] cells slots := by rw [e_cells, e_slots]; exact h
  show W p l e ({ frames := 0, cells := σ0.2.2.2.2.1, slots := σ0.2.2.2.2.2.1, locals := 0 } : Room) s m ([.int x0] : List Value).toArray below meth cx s.heap [] 0 0 Q (F0 m 0 ls [])
  rw [show W p l e ({ frames := 0, cells := σ0.2.2.2.2.1, slots := σ0.2.2.2.2.2.1, locals := 0 } : Room) s m ([.int x0] : List Value).toArray below meth cx s.heap [] 0 0 Q (F0 m 0 ls []) = W p l e ({ frames := 0, cells := σ0.2.2.2.2.1, slots := σ0.2.2.2.2.2.1, locals := 0 } : Room) s m ([.int x0] : List Value).toArray below meth cx s.heap [] cells slots Q (F0 m 0 ls []) by rw [e_cells, e_slots]]
  have K_22 : ∀ (u9 : Unit), ∀ (σ : CST) (H : Heap) (locs : List Loc) (cells slots : Nat) (ls : Array Slot), x_W_isArray_22 P σ → CH (dC, dI) A ca ({ frames := 0, cells := σ0.2.2.2.2.1, slots := σ0.2.2.2.2.2.1, locals := 0 } : Room) σ0.2.2.2.2.2.2 σ s H locs cells slots → lv_has ls 1 [] → W p l e ({ frames := 0, cells := σ0.2.2.2.2.1, slots := σ0.2.2.2.2.2.1, locals := 0 } : Room) s m ([.int x0] : List Value).toArray below meth cx H locs cells slots Q (F0 m 22 ls []) := by
    intro u9  σ H locs cells slots ls hw h hl
    unfold x_W_isArray_22 at hw
    refine lv_iconst (v := 1) hx hb h_W_isArray_22 (by decide) ?_
    refine lv_goto (tgt := 27) hx hb h_W_isArray_23 (by decide) ?_
    exact hend (1 : Int32) σ _ _ _ _ _ _ rfl hw h h_W_isArray_27
  have hl : lv_has ls 1 [(0, .int x0)] := hl
  unfold x_W_isArray at hw
  refine lv_iload_n hx hb h_W_isArray_0 rfl (lv_at hl 0 rfl) ?_
  refine lv_iconst (v := 3) hx hb h_W_isArray_1 (by decide) ?_
  refine lv_icmp_eq (tgt := 22) hx hb h_W_isArray_2 (by decide) (fun c1 => ?_) (fun c1 => ?_)
  · skip
    replace hw := hw.1 c1
    exact K_22 () σ0 _ _ _ _ _ hw h (lv_sub hl [] rfl)
  · skip
    replace hw := hw.2 c1
    refine lv_iload_n hx hb h_W_isArray_5 rfl (lv_at hl 0 rfl) ?_
    refine lv_iconst (v := 4) hx hb h_W_isArray_6 (by decide) ?_
    refine lv_icmp_eq (tgt := 22) hx hb h_W_isArray_7 (by decide) (fun c2 => ?_) (fun c2 => ?_)
    · skip
      replace hw := hw.1 c2
      exact K_22 () σ0 _ _ _ _ _ hw h (lv_sub hl [] rfl)
    · skip
      replace hw := hw.2 c2
      refine lv_iload_n hx hb h_W_isArray_10 rfl (lv_at hl 0 rfl) ?_
      refine lv_bipush (v := 64) hx hb h_W_isArray_11 (by decide) ?_
      refine lv_icmp_lt (tgt := 26) hx hb h_W_isArray_13 (by decide) (fun c3 => ?_) (fun c3 => ?_)
      · skip
        replace hw := hw.1 c3
        refine lv_iconst (v := 0) hx hb h_W_isArray_26 (by decide) ?_
        exact hend (0 : Int32) σ0 _ _ _ _ _ _ rfl hw h h_W_isArray_27
      · skip
        replace hw := hw.2 c3
        refine lv_iload_n hx hb h_W_isArray_16 rfl (lv_at hl 0 rfl) ?_
        refine lv_bipush (v := 80) hx hb h_W_isArray_17 (by decide) ?_
        refine lv_icmp_ge (tgt := 26) hx hb h_W_isArray_19 (by decide) (fun c4 => ?_) (fun c4 => ?_)
        · skip
          replace hw := hw.1 c4
          refine lv_iconst (v := 0) hx hb h_W_isArray_26 (by decide) ?_
          exact hend (0 : Int32) σ0 _ _ _ _ _ _ rfl hw h h_W_isArray_27
        · skip
          replace hw := hw.2 c4
          exact K_22 () σ0 _ _ _ _ _ hw h (lv_sub hl [] rfl)
abbrev g_Sp_popArray : MethodName := ⟨"MapFramer$Stepper", "popArray", "()V"⟩
theorem u_613 : (Cond.methodLink "MapFramer$Stepper" 188 ⟨"MapFramer$World", "isArray", "(I)Z"⟩ : Cond) ∈ bigW := inB_5 38 (by decide +kernel) rfl
theorem u_614 : (Cond.static ⟨"MapFramer$World", "isArray", "(I)Z"⟩ : Cond) ∈ bigW := inB_5 39 (by decide +kernel) rfl
theorem u_615 : (Cond.code ⟨"MapFramer$World", "isArray", "(I)Z"⟩ prog_12_method_14_code 1 (some .boolean) : Cond) ∈ bigW := inB_5 40 rfl rfl
theorem h_Sp_popArray_0 : decode prog_10_method_29_code 0 = .ok (.aload_n 0, 1) := by decide +kernel
theorem h_Sp_popArray_1 : decode prog_10_method_29_code 1 = .ok (.getfield 17, 3) := by decide +kernel
theorem h_Sp_popArray_4 : decode prog_10_method_29_code 4 = .ok (.invokevirtual 95, 3) := by decide +kernel
theorem h_Sp_popArray_7 : decode prog_10_method_29_code 7 = .ok (.istore_n 1, 1) := by decide +kernel
theorem h_Sp_popArray_8 : decode prog_10_method_29_code 8 = .ok (.iload_n 1, 1) := by decide +kernel
theorem h_Sp_popArray_9 : decode prog_10_method_29_code 9 = .ok (.iconst 5, 1) := by decide +kernel
theorem h_Sp_popArray_10 : decode prog_10_method_29_code 10 = .ok (.if_icmp .eq 16, 3) := by decide +kernel
theorem h_Sp_popArray_13 : decode prog_10_method_29_code 13 = .ok (.iload_n 1, 1) := by decide +kernel
theorem h_Sp_popArray_14 : decode prog_10_method_29_code 14 = .ok (.invokestatic 188, 3) := by decide +kernel
theorem h_Sp_popArray_17 : decode prog_10_method_29_code 17 = .ok (.ifCond .ne 9, 3) := by decide +kernel
theorem h_Sp_popArray_20 : decode prog_10_method_29_code 20 = .ok (.aload_n 0, 1) := by decide +kernel
theorem h_Sp_popArray_21 : decode prog_10_method_29_code 21 = .ok (.bipush 6, 2) := by decide +kernel
theorem h_Sp_popArray_23 : decode prog_10_method_29_code 23 = .ok (.invokevirtual 87, 3) := by decide +kernel
theorem h_Sp_popArray_26 : decode prog_10_method_29_code 26 = .ok (.return_, 1) := by decide +kernel
def x_Sp_popArray (a0 : Nat) (σ0 : CST) (P : CST → Prop) : Prop := σ0.1 a0 = some (9, 0) ∧ (∀ b2 : Option Nat, b2 = (σ0.2.2.2.1 a0 2) → (∃ r3 : Nat, b2 = some r3 ∧ (σ0.1 r3 = some (8, 0) ∧ (x_St_pop r3 σ0 (fun r6 σ5 => ((r6 = 5 → P σ5) ∧ (¬ r6 = 5 → x_W_isArray r6 σ5 (fun r9 σ8 => ((r9 = 0 → σ8.1 a0 = some (9, 0) ∧ (x_Sp_fail a0 (6 : Int32) σ8 (fun σ12 => P σ12))) ∧ (¬ r9 = 0 → P σ8))))))))))
set_option maxHeartbeats 4000000 in
set_option maxRecDepth 100000 in
theorem X_Sp_popArray (l : Launch) (dC : Nat → ClassId) (dI : Nat → Nat → Nat) (ca : Nat → ClassId) (H0 : Heap) (σ0 : CST) (a0 : Nat) {P : CST → Prop} (hw : x_Sp_popArray a0 σ0 P) : Met l g_Sp_popArray (mW g_Sp_popArray prog_10_method_29_code 2 none) ({ frames := 1, cells := σ0.2.2.2.2.1, slots := σ0.2.2.2.2.2.1, locals := 21 } : Room) (va_Pc [.ref a0] (CPre (dC, dI) ca σ0 H0)) (va_Qv P (CB (dC, dI) ca σ0 H0) (cA σ0 H0.size)) σ0.2.2.2.2.1 σ0.2.2.2.2.2.1 (cA σ0 H0.size) := by
  refine C_ofv (by decide +kernel) rfl rfl rfl (Nat.le_of_ble_eq_true rfl) ?_
  intro p e s m below meth cx Q A ls C hnm hend hH0 h hl
  subst hH0
  have C0 := C
  obtain ⟨⟨hx, hb, hml, hown, hts⟩, hsub⟩ := C0
  obtain ⟨cells, e_cells⟩ : ∃ z : Nat, z = 0 := ⟨_, rfl⟩
  obtain ⟨slots, e_slots⟩ : ∃ z : Nat, z = 0 := ⟨_, rfl⟩
  have h : CH (dC, dI) A ca ({ frames := 1, cells := σ0.2.2.2.2.1, slots := σ0.2.2.2.2.2.1, locals := 21 } : Room) σ0.2.2.2.2.2.2 σ0 s s.heap [] cells slots := by rw [e_cells, e_slots]; exact h
  show W p l e ({ frames := 1, cells := σ0.2.2.2.2.1, slots := σ0.2.2.2.2.2.1, locals := 21 } : Room) s m ([.ref a0] : List Value).toArray below meth cx s.heap [] 0 0 Q (F0 m 0 ls [])
  rw [show W p l e ({ frames := 1, cells := σ0.2.2.2.2.1, slots := σ0.2.2.2.2.2.1, locals := 21 } : Room) s m ([.ref a0] : List Value).toArray below meth cx s.heap [] 0 0 Q (F0 m 0 ls []) = W p l e ({ frames := 1, cells := σ0.2.2.2.2.1, slots := σ0.2.2.2.2.2.1, locals := 21 } : Room) s m ([.ref a0] : List Value).toArray below meth cx s.heap [] cells slots Q (F0 m 0 ls []) by rw [e_cells, e_slots]]
  have hl : lv_has ls 2 [(0, .ref a0)] := hl
  unfold x_Sp_popArray at hw
  refine lv_aload_n hx hb h_Sp_popArray_0 rfl (lv_at hl 0 rfl) ?_
  obtain ⟨g1, hw⟩ := hw
  refine C_get C h 9 2 (v := va_rf (σ0.2.2.2.1 a0 2)) g1 rfl (Cn := R_Sp) (T := T_Sp) (N := 5) rfl (by decide) rfl uw_Sp (by decide) u_516 (fun _ q => q) h_Sp_popArray_1 ?_
  refine lv_topq (fun b2 e_b2 => ?_)
  replace hw := hw b2 e_b2
  obtain ⟨r3, e_r3, hw⟩ := hw
  subst e_r3
  have hl : lv_has ls 2 [(0, .ref a0)] := hl
  refine W.eq (g2 := F0 m 4 ls [.ref r3]) rfl ?_
  obtain ⟨g4, hw⟩ := hw
  refine C_callVi (As := []) (rest := []) C h (ci := 8) (Cn := R_St) (T := T_St) (N := 4) g4 rfl (by decide) (X_St_pop l dC dI ca s.heap σ0 r3 hw) (cwV 0 hts (gV hsub u_530 u_531 u_532 u_502 u_533) rfl rfl rfl (by decide +kernel) ⟨(Nat.le_of_ble_eq_true rfl), (Nat.le_of_ble_eq_true rfl)⟩) rfl hl.1 (Nat.le_of_ble_eq_true rfl) h_Sp_popArray_4 (fun r6 σ5 H locs cells slots hw9 h9 => ?_)
  clear hw h; have hw := hw9; have h := h9; clear hw9 h9
  refine W.eq (g2 := F0 m 7 ls [.int r6]) rfl ?_
  refine lv_istore_n (i := 1) (lv' := [(1, .int r6), (0, .ref a0)]) hx hb h_Sp_popArray_7 rfl hl (by decide) rfl (fun ls hl => ?_)
  refine lv_iload_n hx hb h_Sp_popArray_8 rfl (lv_at hl 0 rfl) ?_
  refine lv_iconst (v := 5) hx hb h_Sp_popArray_9 (by decide) ?_
  refine lv_icmp_eq (tgt := 26) hx hb h_Sp_popArray_10 (by decide) (fun c7 => ?_) (fun c7 => ?_)
  · skip
    replace hw := hw.1 c7
    exact hend σ5 _ _ _ _ _ _ hw h h_Sp_popArray_26
  · skip
    replace hw := hw.2 c7
    refine lv_iload_n hx hb h_Sp_popArray_13 rfl (lv_at hl 0 rfl) ?_
    refine C_callSi (As := [.int r6]) (rest := []) C h (X_W_isArray l dC dI ca H σ5 r6 hw) (va_cwS 1 hts (gS hsub u_613 u_614 u_51 u_615) rfl rfl rfl (by decide +kernel) ⟨(Nat.le_of_ble_eq_true rfl), (Nat.le_of_ble_eq_true rfl)⟩) rfl hl.1 (Nat.le_of_ble_eq_true rfl) h_Sp_popArray_14 (fun r9 σ8 H locs cells slots hw9 h9 => ?_)
    clear hw h; have hw := hw9; have h := h9; clear hw9 h9
    refine W.eq (g2 := F0 m 17 ls [.int r9]) rfl ?_
    refine lv_if_ne (tgt := 26) hx hb h_Sp_popArray_17 (by decide) (fun c10 => ?_) (fun c10 => ?_)
    · skip
      replace hw := hw.2 c10
      exact hend σ8 _ _ _ _ _ _ hw h h_Sp_popArray_26
    · skip
      replace hw := hw.1 c10
      refine lv_aload_n hx hb h_Sp_popArray_20 rfl (lv_at hl 1 rfl) ?_
      refine lv_bipush (v := 6) hx hb h_Sp_popArray_21 (by decide) ?_
      obtain ⟨g11, hw⟩ := hw
      refine C_callVv (As := [.int 6]) (rest := []) C h (ci := 9) (Cn := R_Sp) (T := T_Sp) (N := 5) g11 rfl (by decide) (X_Sp_fail l dC dI ca H σ8 a0 (6 : Int32) hw) (cwV 1 hts (gV hsub u_521 u_522 u_523 u_524 u_525) rfl rfl rfl (by decide +kernel) ⟨(Nat.le_of_ble_eq_true rfl), (Nat.le_of_ble_eq_true rfl)⟩) rfl hl.1 (Nat.le_of_ble_eq_true rfl) h_Sp_popArray_23 (fun σ12 H locs cells slots hw9 h9 => ?_)
      clear hw h; have hw := hw9; have h := h9; clear hw9 h9
      refine W.eq (g2 := F0 m 26 ls []) rfl ?_
      exact hend σ12 _ _ _ _ _ _ hw h h_Sp_popArray_26
abbrev g_Sp_useObject : MethodName := ⟨"MapFramer$Stepper", "useObject", "(I)V"⟩
theorem u_616 : (Cond.methodLink "MapFramer$Stepper" 176 ⟨"MapFramer$Stepper", "beginObject", "()V"⟩ : Cond) ∈ bigW := inB_5 14 (by decide +kernel) rfl
theorem u_617 : (Cond.instanceMethod ⟨"MapFramer$Stepper", "beginObject", "()V"⟩ : Cond) ∈ bigW := inB_5 16 (by decide +kernel) rfl
theorem u_618 : (Cond.selects "MapFramer$Stepper" ⟨"MapFramer$Stepper", "beginObject", "()V"⟩ ⟨"MapFramer$Stepper", "beginObject", "()V"⟩ : Cond) ∈ bigW := inS (y := ⟨"MapFramer$Stepper", "beginObject", "()V"⟩) (n := 5) (List.mem_of_getElem? (i := 34) (by decide +kernel))
theorem u_619 : (Cond.code ⟨"MapFramer$Stepper", "beginObject", "()V"⟩ prog_10_method_26_code 2 none : Cond) ∈ bigW := inB_5 17 rfl rfl
theorem u_620 : (Cond.methodLink "MapFramer$Stepper" 179 ⟨"MapFramer$Stepper", "newObject", "()V"⟩ : Cond) ∈ bigW := inB_5 26 (by decide +kernel) rfl
theorem u_621 : (Cond.instanceMethod ⟨"MapFramer$Stepper", "newObject", "()V"⟩ : Cond) ∈ bigW := inB_5 28 (by decide +kernel) rfl
theorem u_622 : (Cond.selects "MapFramer$Stepper" ⟨"MapFramer$Stepper", "newObject", "()V"⟩ ⟨"MapFramer$Stepper", "newObject", "()V"⟩ : Cond) ∈ bigW := inS (y := ⟨"MapFramer$Stepper", "newObject", "()V"⟩) (n := 5) (List.mem_of_getElem? (i := 35) (by decide +kernel))
theorem u_623 : (Cond.code ⟨"MapFramer$Stepper", "newObject", "()V"⟩ prog_10_method_28_code 2 none : Cond) ∈ bigW := inB_5 29 rfl rfl
theorem u_624 : (Cond.methodLink "MapFramer$Stepper" 182 ⟨"MapFramer$Stepper", "popArray", "()V"⟩ : Cond) ∈ bigW := inB_5 34 (by decide +kernel) rfl
theorem u_625 : (Cond.instanceMethod ⟨"MapFramer$Stepper", "popArray", "()V"⟩ : Cond) ∈ bigW := inB_5 36 (by decide +kernel) rfl
theorem u_626 : (Cond.selects "MapFramer$Stepper" ⟨"MapFramer$Stepper", "popArray", "()V"⟩ ⟨"MapFramer$Stepper", "popArray", "()V"⟩ : Cond) ∈ bigW := inS (y := ⟨"MapFramer$Stepper", "popArray", "()V"⟩) (n := 5) (List.mem_of_getElem? (i := 36) (by decide +kernel))
theorem u_627 : (Cond.code ⟨"MapFramer$Stepper", "popArray", "()V"⟩ prog_10_method_29_code 2 none : Cond) ∈ bigW := inB_5 37 rfl rfl
theorem h_Sp_useObject_0 : decode prog_10_method_27_code 0 = .ok (.iload_n 1, 1) := by decide +kernel
theorem h_Sp_useObject_1 : decode prog_10_method_27_code 1 = .ok (.tableswitch 154 183 192 #[55, 154, 154, 154, 62, 69, 95, 114, 126, 135], 55) := by decide +kernel
theorem h_Sp_useObject_56 : decode prog_10_method_27_code 56 = .ok (.aload_n 0, 1) := by decide +kernel
theorem h_Sp_useObject_57 : decode prog_10_method_27_code 57 = .ok (.invokevirtual 176, 3) := by decide +kernel
theorem h_Sp_useObject_60 : decode prog_10_method_27_code 60 = .ok (.goto 105, 3) := by decide +kernel
theorem h_Sp_useObject_63 : decode prog_10_method_27_code 63 = .ok (.aload_n 0, 1) := by decide +kernel
theorem h_Sp_useObject_64 : decode prog_10_method_27_code 64 = .ok (.invokevirtual 179, 3) := by decide +kernel
theorem h_Sp_useObject_67 : decode prog_10_method_27_code 67 = .ok (.goto 98, 3) := by decide +kernel
theorem h_Sp_useObject_70 : decode prog_10_method_27_code 70 = .ok (.aload_n 0, 1) := by decide +kernel
theorem h_Sp_useObject_71 : decode prog_10_method_27_code 71 = .ok (.iconst 1, 1) := by decide +kernel
theorem h_Sp_useObject_72 : decode prog_10_method_27_code 72 = .ok (.invokevirtual 116, 3) := by decide +kernel
theorem h_Sp_useObject_75 : decode prog_10_method_27_code 75 = .ok (.aload_n 0, 1) := by decide +kernel
theorem h_Sp_useObject_76 : decode prog_10_method_27_code 76 = .ok (.aload_n 0, 1) := by decide +kernel
theorem h_Sp_useObject_77 : decode prog_10_method_27_code 77 = .ok (.invokevirtual 119, 3) := by decide +kernel
theorem h_Sp_useObject_80 : decode prog_10_method_27_code 80 = .ok (.bipush 10, 2) := by decide +kernel
theorem h_Sp_useObject_82 : decode prog_10_method_27_code 82 = .ok (.if_icmp .ne 7, 3) := by decide +kernel
theorem h_Sp_useObject_85 : decode prog_10_method_27_code 85 = .ok (.iconst 3, 1) := by decide +kernel
theorem h_Sp_useObject_86 : decode prog_10_method_27_code 86 = .ok (.goto 4, 3) := by decide +kernel
theorem h_Sp_useObject_89 : decode prog_10_method_27_code 89 = .ok (.iconst 4, 1) := by decide +kernel
theorem h_Sp_useObject_90 : decode prog_10_method_27_code 90 = .ok (.invokevirtual 108, 3) := by decide +kernel
theorem h_Sp_useObject_93 : decode prog_10_method_27_code 93 = .ok (.goto 72, 3) := by decide +kernel
theorem h_Sp_useObject_96 : decode prog_10_method_27_code 96 = .ok (.aload_n 0, 1) := by decide +kernel
theorem h_Sp_useObject_97 : decode prog_10_method_27_code 97 = .ok (.iconst 1, 1) := by decide +kernel
theorem h_Sp_useObject_98 : decode prog_10_method_27_code 98 = .ok (.invokevirtual 116, 3) := by decide +kernel
theorem h_Sp_useObject_101 : decode prog_10_method_27_code 101 = .ok (.aload_n 0, 1) := by decide +kernel
theorem h_Sp_useObject_102 : decode prog_10_method_27_code 102 = .ok (.bipush 64, 2) := by decide +kernel
theorem h_Sp_useObject_104 : decode prog_10_method_27_code 104 = .ok (.aload_n 0, 1) := by decide +kernel
theorem h_Sp_useObject_105 : decode prog_10_method_27_code 105 = .ok (.invokevirtual 119, 3) := by decide +kernel
theorem h_Sp_useObject_108 : decode prog_10_method_27_code 108 = .ok (.iadd, 1) := by decide +kernel
theorem h_Sp_useObject_109 : decode prog_10_method_27_code 109 = .ok (.invokevirtual 108, 3) := by decide +kernel
theorem h_Sp_useObject_112 : decode prog_10_method_27_code 112 = .ok (.goto 53, 3) := by decide +kernel
theorem h_Sp_useObject_115 : decode prog_10_method_27_code 115 = .ok (.aload_n 0, 1) := by decide +kernel
theorem h_Sp_useObject_116 : decode prog_10_method_27_code 116 = .ok (.invokevirtual 182, 3) := by decide +kernel
theorem h_Sp_useObject_119 : decode prog_10_method_27_code 119 = .ok (.aload_n 0, 1) := by decide +kernel
theorem h_Sp_useObject_120 : decode prog_10_method_27_code 120 = .ok (.iconst 1, 1) := by decide +kernel
theorem h_Sp_useObject_121 : decode prog_10_method_27_code 121 = .ok (.invokevirtual 108, 3) := by decide +kernel
theorem h_Sp_useObject_124 : decode prog_10_method_27_code 124 = .ok (.goto 41, 3) := by decide +kernel
theorem h_Sp_useObject_127 : decode prog_10_method_27_code 127 = .ok (.aload_n 0, 1) := by decide +kernel
theorem h_Sp_useObject_128 : decode prog_10_method_27_code 128 = .ok (.bipush 33, 2) := by decide +kernel
theorem h_Sp_useObject_130 : decode prog_10_method_27_code 130 = .ok (.invokevirtual 116, 3) := by decide +kernel
theorem h_Sp_useObject_133 : decode prog_10_method_27_code 133 = .ok (.goto 32, 3) := by decide +kernel
theorem h_Sp_useObject_136 : decode prog_10_method_27_code 136 = .ok (.aload_n 0, 1) := by decide +kernel
theorem h_Sp_useObject_137 : decode prog_10_method_27_code 137 = .ok (.invokevirtual 145, 3) := by decide +kernel
theorem h_Sp_useObject_140 : decode prog_10_method_27_code 140 = .ok (.pop, 1) := by decide +kernel
theorem h_Sp_useObject_141 : decode prog_10_method_27_code 141 = .ok (.aload_n 0, 1) := by decide +kernel
theorem h_Sp_useObject_142 : decode prog_10_method_27_code 142 = .ok (.bipush 32, 2) := by decide +kernel
theorem h_Sp_useObject_144 : decode prog_10_method_27_code 144 = .ok (.aload_n 0, 1) := by decide +kernel
theorem h_Sp_useObject_145 : decode prog_10_method_27_code 145 = .ok (.invokevirtual 119, 3) := by decide +kernel
theorem h_Sp_useObject_148 : decode prog_10_method_27_code 148 = .ok (.iadd, 1) := by decide +kernel
theorem h_Sp_useObject_149 : decode prog_10_method_27_code 149 = .ok (.invokevirtual 108, 3) := by decide +kernel
theorem h_Sp_useObject_152 : decode prog_10_method_27_code 152 = .ok (.goto 13, 3) := by decide +kernel
theorem h_Sp_useObject_155 : decode prog_10_method_27_code 155 = .ok (.aload_n 0, 1) := by decide +kernel
theorem h_Sp_useObject_156 : decode prog_10_method_27_code 156 = .ok (.invokevirtual 145, 3) := by decide +kernel
theorem h_Sp_useObject_159 : decode prog_10_method_27_code 159 = .ok (.pop, 1) := by decide +kernel
theorem h_Sp_useObject_160 : decode prog_10_method_27_code 160 = .ok (.aload_n 0, 1) := by decide +kernel
theorem h_Sp_useObject_161 : decode prog_10_method_27_code 161 = .ok (.iconst 1, 1) := by decide +kernel
theorem h_Sp_useObject_162 : decode prog_10_method_27_code 162 = .ok (.invokevirtual 108, 3) := by decide +kernel
theorem h_Sp_useObject_165 : decode prog_10_method_27_code 165 = .ok (.return_, 1) := by decide +kernel
def x_Sp_useObject_90 (a0 : Nat) (P : CST → Prop) (s0 : Int32) (σ : CST) : Prop := σ.1 a0 = some (9, 0) ∧ (x_Sp_push a0 s0 σ (fun σ2 => P σ2))
def x_Sp_useObject (a0 : Nat) (x1 : Int32) (σ0 : CST) (P : CST → Prop) : Prop := ((x1 = 183 → σ0.1 a0 = some (9, 0) ∧ (x_Sp_beginObject a0 σ0 (fun σ6 => P σ6))) ∧ (¬ x1 = 183 → ((x1 = 184 → σ0.1 a0 = some (9, 0) ∧ (x_Sp_popReference a0 σ0 (fun r11 σ10 => σ10.1 a0 = some (9, 0) ∧ (x_Sp_push a0 (1 : Int32) σ10 (fun σ13 => P σ13))))) ∧ (¬ x1 = 184 → ((x1 = 185 → σ0.1 a0 = some (9, 0) ∧ (x_Sp_popReference a0 σ0 (fun r18 σ17 => σ17.1 a0 = some (9, 0) ∧ (x_Sp_push a0 (1 : Int32) σ17 (fun σ20 => P σ20))))) ∧ (¬ x1 = 185 → ((x1 = 186 → σ0.1 a0 = some (9, 0) ∧ (x_Sp_popReference a0 σ0 (fun r25 σ24 => σ24.1 a0 = some (9, 0) ∧ (x_Sp_push a0 (1 : Int32) σ24 (fun σ27 => P σ27))))) ∧ (¬ x1 = 186 → ((x1 = 187 → σ0.1 a0 = some (9, 0) ∧ (x_Sp_newObject a0 σ0 (fun σ31 => P σ31))) ∧ (¬ x1 = 187 → ((x1 = 188 → σ0.1 a0 = some (9, 0) ∧ (x_Sp_popAs a0 (1 : Int32) σ0 (fun σ35 => σ35.1 a0 = some (9, 0) ∧ (x_Sp_operand a0 σ35 (fun r39 σ38 => ((r39 = 10 → x_Sp_useObject_90 a0 P 3 σ38) ∧ (¬ r39 = 10 → x_Sp_useObject_90 a0 P 4 σ38))))))) ∧ (¬ x1 = 188 → ((x1 = 189 → σ0.1 a0 = some (9, 0) ∧ (x_Sp_popAs a0 (1 : Int32) σ0 (fun σ43 => σ43.1 a0 = some (9, 0) ∧ (x_Sp_operand a0 σ43 (fun r47 σ46 => σ46.1 a0 = some (9, 0) ∧ (x_Sp_push a0 ((64 : Int32) + r47) σ46 (fun σ49 => P σ49))))))) ∧ (¬ x1 = 189 → ((x1 = 190 → σ0.1 a0 = some (9, 0) ∧ (x_Sp_popArray a0 σ0 (fun σ53 => σ53.1 a0 = some (9, 0) ∧ (x_Sp_push a0 (1 : Int32) σ53 (fun σ56 => P σ56))))) ∧ (¬ x1 = 190 → ((x1 = 191 → σ0.1 a0 = some (9, 0) ∧ (x_Sp_popAs a0 (33 : Int32) σ0 (fun σ60 => P σ60))) ∧ (¬ x1 = 191 → ((x1 = 192 → σ0.1 a0 = some (9, 0) ∧ (x_Sp_popReference a0 σ0 (fun r65 σ64 => σ64.1 a0 = some (9, 0) ∧ (x_Sp_operand a0 σ64 (fun r68 σ67 => σ67.1 a0 = some (9, 0) ∧ (x_Sp_push a0 ((32 : Int32) + r68) σ67 (fun σ70 => P σ70))))))) ∧ (¬ x1 = 192 → σ0.1 a0 = some (9, 0) ∧ (x_Sp_popReference a0 σ0 (fun r74 σ73 => σ73.1 a0 = some (9, 0) ∧ (x_Sp_push a0 (1 : Int32) σ73 (fun σ76 => P σ76))))))))))))))))))))))))
set_option maxHeartbeats 4000000 in
set_option maxRecDepth 100000 in
theorem X_Sp_useObject (l : Launch) (dC : Nat → ClassId) (dI : Nat → Nat → Nat) (ca : Nat → ClassId) (H0 : Heap) (σ0 : CST) (a0 : Nat) (x1 : Int32) {P : CST → Prop} (hw : x_Sp_useObject a0 x1 σ0 P) : Met l g_Sp_useObject (mW g_Sp_useObject prog_10_method_27_code 2 none) ({ frames := 3, cells := σ0.2.2.2.2.1, slots := σ0.2.2.2.2.2.1, locals := 67 } : Room) (va_Pc [.ref a0, .int x1] (CPre (dC, dI) ca σ0 H0)) (va_Qv P (CB (dC, dI) ca σ0 H0) (cA σ0 H0.size)) σ0.2.2.2.2.1 σ0.2.2.2.2.2.1 (cA σ0 H0.size) := by
  refine C_ofv (by decide +kernel) rfl rfl rfl (Nat.le_of_ble_eq_true rfl) ?_
  intro p e s m below meth cx Q A ls C hnm hend hH0 h hl
  subst hH0
  have C0 := C
  obtain ⟨⟨hx, hb, hml, hown, hts⟩, hsub⟩ := C0
  obtain ⟨cells, e_cells⟩ : ∃ z : Nat, z = 0 := ⟨_, rfl⟩
  obtain ⟨slots, e_slots⟩ : ∃ z : Nat, z = 0 := ⟨_, rfl⟩
  have h : CH (dC, dI) A ca ({ frames := 3, cells := σ0.2.2.2.2.1, slots := σ0.2.2.2.2.2.1, locals := 67 } : Room) σ0.2.2.2.2.2.2 σ0 s s.heap [] cells slots := by rw [e_cells, e_slots]; exact h
  show W p l e ({ frames := 3, cells := σ0.2.2.2.2.1, slots := σ0.2.2.2.2.2.1, locals := 67 } : Room) s m ([.ref a0, .int x1] : List Value).toArray below meth cx s.heap [] 0 0 Q (F0 m 0 ls [])
  rw [show W p l e ({ frames := 3, cells := σ0.2.2.2.2.1, slots := σ0.2.2.2.2.2.1, locals := 67 } : Room) s m ([.ref a0, .int x1] : List Value).toArray below meth cx s.heap [] 0 0 Q (F0 m 0 ls []) = W p l e ({ frames := 3, cells := σ0.2.2.2.2.1, slots := σ0.2.2.2.2.2.1, locals := 67 } : Room) s m ([.ref a0, .int x1] : List Value).toArray below meth cx s.heap [] cells slots Q (F0 m 0 ls []) by rw [e_cells, e_slots]]
  have K_90 : ∀ (u9 : Unit), ∀ (s0 : Int32) (σ : CST) (H : Heap) (locs : List Loc) (cells slots : Nat) (ls : Array Slot), x_Sp_useObject_90 a0 P s0 σ → CH (dC, dI) A ca ({ frames := 3, cells := σ0.2.2.2.2.1, slots := σ0.2.2.2.2.2.1, locals := 67 } : Room) σ0.2.2.2.2.2.2 σ s H locs cells slots → lv_has ls 2 [] → W p l e ({ frames := 3, cells := σ0.2.2.2.2.1, slots := σ0.2.2.2.2.2.1, locals := 67 } : Room) s m ([.ref a0, .int x1] : List Value).toArray below meth cx H locs cells slots Q (F0 m 90 ls [.int s0, .ref a0]) := by
    intro u9 s0 σ H locs cells slots ls hw h hl
    unfold x_Sp_useObject_90 at hw
    obtain ⟨g1, hw⟩ := hw
    refine C_callVv (As := [.int s0]) (rest := []) C h (ci := 9) (Cn := R_Sp) (T := T_Sp) (N := 5) g1 rfl (by decide) (X_Sp_push l dC dI ca H σ a0 s0 hw) (cwV 1 hts (gV hsub u_526 u_527 u_528 u_524 u_529) rfl rfl rfl (by decide +kernel) ⟨(Nat.le_of_ble_eq_true rfl), (Nat.le_of_ble_eq_true rfl)⟩) rfl hl.1 (Nat.le_of_ble_eq_true rfl) h_Sp_useObject_90 (fun σ2 H locs cells slots hw9 h9 => ?_)
    clear hw h; have hw := hw9; have h := h9; clear hw9 h9
    refine W.eq (g2 := F0 m 93 ls []) rfl ?_
    refine lv_goto (tgt := 165) hx hb h_Sp_useObject_93 (by decide) ?_
    exact hend σ2 _ _ _ _ _ _ hw h h_Sp_useObject_165
  have hl : lv_has ls 2 [(0, .ref a0), (1, .int x1)] := hl
  unfold x_Sp_useObject at hw
  refine lv_iload_n hx hb h_Sp_useObject_0 rfl (lv_at hl 1 rfl) ?_
  by_cases c4 : x1 = 183
  · skip
    replace hw := hw.1 c4
    refine tp_i 183 c4 ?_
    refine lv_tableIn (off := 55) (tgt := 56) hx hb h_Sp_useObject_1 (by decide) (by decide) (by decide) (by decide) ?_
    refine lv_aload_n hx hb h_Sp_useObject_56 rfl (lv_at hl 0 rfl) ?_
    obtain ⟨g5, hw⟩ := hw
    refine C_callVv (As := []) (rest := []) C h (ci := 9) (Cn := R_Sp) (T := T_Sp) (N := 5) g5 rfl (by decide) (X_Sp_beginObject l dC dI ca s.heap σ0 a0 hw) (cwV 0 hts (gV hsub u_616 u_617 u_618 u_524 u_619) rfl rfl rfl (by decide +kernel) ⟨(Nat.le_of_ble_eq_true rfl), (Nat.le_of_ble_eq_true rfl)⟩) rfl hl.1 (Nat.le_of_ble_eq_true rfl) h_Sp_useObject_57 (fun σ6 H locs cells slots hw9 h9 => ?_)
    clear hw h; have hw := hw9; have h := h9; clear hw9 h9
    refine W.eq (g2 := F0 m 60 ls []) rfl ?_
    refine lv_goto (tgt := 165) hx hb h_Sp_useObject_60 (by decide) ?_
    exact hend σ6 _ _ _ _ _ _ hw h h_Sp_useObject_165
  · skip
    replace hw := hw.2 c4
    by_cases c8 : x1 = 184
    · skip
      replace hw := hw.1 c8
      refine tp_i 184 c8 ?_
      refine lv_tableIn (off := 154) (tgt := 155) hx hb h_Sp_useObject_1 (by decide) (by decide) (by decide) (by decide) ?_
      refine lv_aload_n hx hb h_Sp_useObject_155 rfl (lv_at hl 0 rfl) ?_
      obtain ⟨g9, hw⟩ := hw
      refine C_callVi (As := []) (rest := []) C h (ci := 9) (Cn := R_Sp) (T := T_Sp) (N := 5) g9 rfl (by decide) (X_Sp_popReference l dC dI ca s.heap σ0 a0 hw) (cwV 0 hts (gV hsub u_580 u_581 u_582 u_524 u_583) rfl rfl rfl (by decide +kernel) ⟨(Nat.le_of_ble_eq_true rfl), (Nat.le_of_ble_eq_true rfl)⟩) rfl hl.1 (Nat.le_of_ble_eq_true rfl) h_Sp_useObject_156 (fun r11 σ10 H locs cells slots hw9 h9 => ?_)
      clear hw h; have hw := hw9; have h := h9; clear hw9 h9
      refine W.eq (g2 := F0 m 159 ls [.int r11]) rfl ?_
      refine lv_pop hx hb h_Sp_useObject_159 rfl ?_
      refine lv_aload_n hx hb h_Sp_useObject_160 rfl (lv_at hl 0 rfl) ?_
      refine lv_iconst (v := 1) hx hb h_Sp_useObject_161 (by decide) ?_
      obtain ⟨g12, hw⟩ := hw
      refine C_callVv (As := [.int 1]) (rest := []) C h (ci := 9) (Cn := R_Sp) (T := T_Sp) (N := 5) g12 rfl (by decide) (X_Sp_push l dC dI ca H σ10 a0 (1 : Int32) hw) (cwV 1 hts (gV hsub u_526 u_527 u_528 u_524 u_529) rfl rfl rfl (by decide +kernel) ⟨(Nat.le_of_ble_eq_true rfl), (Nat.le_of_ble_eq_true rfl)⟩) rfl hl.1 (Nat.le_of_ble_eq_true rfl) h_Sp_useObject_162 (fun σ13 H locs cells slots hw9 h9 => ?_)
      clear hw h; have hw := hw9; have h := h9; clear hw9 h9
      refine W.eq (g2 := F0 m 165 ls []) rfl ?_
      exact hend σ13 _ _ _ _ _ _ hw h h_Sp_useObject_165
    · skip
      replace hw := hw.2 c8
      by_cases c15 : x1 = 185
      · skip
        replace hw := hw.1 c15
        refine tp_i 185 c15 ?_
        refine lv_tableIn (off := 154) (tgt := 155) hx hb h_Sp_useObject_1 (by decide) (by decide) (by decide) (by decide) ?_
        refine lv_aload_n hx hb h_Sp_useObject_155 rfl (lv_at hl 0 rfl) ?_
        obtain ⟨g16, hw⟩ := hw
        refine C_callVi (As := []) (rest := []) C h (ci := 9) (Cn := R_Sp) (T := T_Sp) (N := 5) g16 rfl (by decide) (X_Sp_popReference l dC dI ca s.heap σ0 a0 hw) (cwV 0 hts (gV hsub u_580 u_581 u_582 u_524 u_583) rfl rfl rfl (by decide +kernel) ⟨(Nat.le_of_ble_eq_true rfl), (Nat.le_of_ble_eq_true rfl)⟩) rfl hl.1 (Nat.le_of_ble_eq_true rfl) h_Sp_useObject_156 (fun r18 σ17 H locs cells slots hw9 h9 => ?_)
        clear hw h; have hw := hw9; have h := h9; clear hw9 h9
        refine W.eq (g2 := F0 m 159 ls [.int r18]) rfl ?_
        refine lv_pop hx hb h_Sp_useObject_159 rfl ?_
        refine lv_aload_n hx hb h_Sp_useObject_160 rfl (lv_at hl 0 rfl) ?_
        refine lv_iconst (v := 1) hx hb h_Sp_useObject_161 (by decide) ?_
        obtain ⟨g19, hw⟩ := hw
        refine C_callVv (As := [.int 1]) (rest := []) C h (ci := 9) (Cn := R_Sp) (T := T_Sp) (N := 5) g19 rfl (by decide) (X_Sp_push l dC dI ca H σ17 a0 (1 : Int32) hw) (cwV 1 hts (gV hsub u_526 u_527 u_528 u_524 u_529) rfl rfl rfl (by decide +kernel) ⟨(Nat.le_of_ble_eq_true rfl), (Nat.le_of_ble_eq_true rfl)⟩) rfl hl.1 (Nat.le_of_ble_eq_true rfl) h_Sp_useObject_162 (fun σ20 H locs cells slots hw9 h9 => ?_)
        clear hw h; have hw := hw9; have h := h9; clear hw9 h9
        refine W.eq (g2 := F0 m 165 ls []) rfl ?_
        exact hend σ20 _ _ _ _ _ _ hw h h_Sp_useObject_165
      · skip
        replace hw := hw.2 c15
        by_cases c22 : x1 = 186
        · skip
          replace hw := hw.1 c22
          refine tp_i 186 c22 ?_
          refine lv_tableIn (off := 154) (tgt := 155) hx hb h_Sp_useObject_1 (by decide) (by decide) (by decide) (by decide) ?_
          refine lv_aload_n hx hb h_Sp_useObject_155 rfl (lv_at hl 0 rfl) ?_
          obtain ⟨g23, hw⟩ := hw
          refine C_callVi (As := []) (rest := []) C h (ci := 9) (Cn := R_Sp) (T := T_Sp) (N := 5) g23 rfl (by decide) (X_Sp_popReference l dC dI ca s.heap σ0 a0 hw) (cwV 0 hts (gV hsub u_580 u_581 u_582 u_524 u_583) rfl rfl rfl (by decide +kernel) ⟨(Nat.le_of_ble_eq_true rfl), (Nat.le_of_ble_eq_true rfl)⟩) rfl hl.1 (Nat.le_of_ble_eq_true rfl) h_Sp_useObject_156 (fun r25 σ24 H locs cells slots hw9 h9 => ?_)
          clear hw h; have hw := hw9; have h := h9; clear hw9 h9
          refine W.eq (g2 := F0 m 159 ls [.int r25]) rfl ?_
          refine lv_pop hx hb h_Sp_useObject_159 rfl ?_
          refine lv_aload_n hx hb h_Sp_useObject_160 rfl (lv_at hl 0 rfl) ?_
          refine lv_iconst (v := 1) hx hb h_Sp_useObject_161 (by decide) ?_
          obtain ⟨g26, hw⟩ := hw
          refine C_callVv (As := [.int 1]) (rest := []) C h (ci := 9) (Cn := R_Sp) (T := T_Sp) (N := 5) g26 rfl (by decide) (X_Sp_push l dC dI ca H σ24 a0 (1 : Int32) hw) (cwV 1 hts (gV hsub u_526 u_527 u_528 u_524 u_529) rfl rfl rfl (by decide +kernel) ⟨(Nat.le_of_ble_eq_true rfl), (Nat.le_of_ble_eq_true rfl)⟩) rfl hl.1 (Nat.le_of_ble_eq_true rfl) h_Sp_useObject_162 (fun σ27 H locs cells slots hw9 h9 => ?_)
          clear hw h; have hw := hw9; have h := h9; clear hw9 h9
          refine W.eq (g2 := F0 m 165 ls []) rfl ?_
          exact hend σ27 _ _ _ _ _ _ hw h h_Sp_useObject_165
        · skip
          replace hw := hw.2 c22
          by_cases c29 : x1 = 187
          · skip
            replace hw := hw.1 c29
            refine tp_i 187 c29 ?_
            refine lv_tableIn (off := 62) (tgt := 63) hx hb h_Sp_useObject_1 (by decide) (by decide) (by decide) (by decide) ?_
            refine lv_aload_n hx hb h_Sp_useObject_63 rfl (lv_at hl 0 rfl) ?_
            obtain ⟨g30, hw⟩ := hw
            refine C_callVv (As := []) (rest := []) C h (ci := 9) (Cn := R_Sp) (T := T_Sp) (N := 5) g30 rfl (by decide) (X_Sp_newObject l dC dI ca s.heap σ0 a0 hw) (cwV 0 hts (gV hsub u_620 u_621 u_622 u_524 u_623) rfl rfl rfl (by decide +kernel) ⟨(Nat.le_of_ble_eq_true rfl), (Nat.le_of_ble_eq_true rfl)⟩) rfl hl.1 (Nat.le_of_ble_eq_true rfl) h_Sp_useObject_64 (fun σ31 H locs cells slots hw9 h9 => ?_)
            clear hw h; have hw := hw9; have h := h9; clear hw9 h9
            refine W.eq (g2 := F0 m 67 ls []) rfl ?_
            refine lv_goto (tgt := 165) hx hb h_Sp_useObject_67 (by decide) ?_
            exact hend σ31 _ _ _ _ _ _ hw h h_Sp_useObject_165
          · skip
            replace hw := hw.2 c29
            by_cases c33 : x1 = 188
            · skip
              replace hw := hw.1 c33
              refine tp_i 188 c33 ?_
              refine lv_tableIn (off := 69) (tgt := 70) hx hb h_Sp_useObject_1 (by decide) (by decide) (by decide) (by decide) ?_
              refine lv_aload_n hx hb h_Sp_useObject_70 rfl (lv_at hl 0 rfl) ?_
              refine lv_iconst (v := 1) hx hb h_Sp_useObject_71 (by decide) ?_
              obtain ⟨g34, hw⟩ := hw
              refine C_callVv (As := [.int 1]) (rest := []) C h (ci := 9) (Cn := R_Sp) (T := T_Sp) (N := 5) g34 rfl (by decide) (X_Sp_popAs l dC dI ca s.heap σ0 a0 (1 : Int32) hw) (cwV 1 hts (gV hsub u_536 u_537 u_538 u_524 u_539) rfl rfl rfl (by decide +kernel) ⟨(Nat.le_of_ble_eq_true rfl), (Nat.le_of_ble_eq_true rfl)⟩) rfl hl.1 (Nat.le_of_ble_eq_true rfl) h_Sp_useObject_72 (fun σ35 H locs cells slots hw9 h9 => ?_)
              clear hw h; have hw := hw9; have h := h9; clear hw9 h9
              refine W.eq (g2 := F0 m 75 ls []) rfl ?_
              refine lv_aload_n hx hb h_Sp_useObject_75 rfl (lv_at hl 0 rfl) ?_
              refine lv_aload_n hx hb h_Sp_useObject_76 rfl (lv_at hl 0 rfl) ?_
              obtain ⟨g37, hw⟩ := hw
              refine C_callVi (As := []) (rest := [.ref a0]) C h (ci := 9) (Cn := R_Sp) (T := T_Sp) (N := 5) g37 rfl (by decide) (X_Sp_operand l dC dI ca H σ35 a0 hw) (cwV 0 hts (gV hsub u_546 u_547 u_548 u_524 u_549) rfl rfl rfl (by decide +kernel) ⟨(Nat.le_of_ble_eq_true rfl), (Nat.le_of_ble_eq_true rfl)⟩) rfl hl.1 (Nat.le_of_ble_eq_true rfl) h_Sp_useObject_77 (fun r39 σ38 H locs cells slots hw9 h9 => ?_)
              clear hw h; have hw := hw9; have h := h9; clear hw9 h9
              refine W.eq (g2 := F0 m 80 ls [.int r39, .ref a0]) rfl ?_
              refine lv_bipush (v := 10) hx hb h_Sp_useObject_80 (by decide) ?_
              refine lv_icmp_ne (tgt := 89) hx hb h_Sp_useObject_82 (by decide) (fun c40 => ?_) (fun c40 => ?_)
              · skip
                replace hw := hw.2 c40
                refine lv_iconst (v := 4) hx hb h_Sp_useObject_89 (by decide) ?_
                exact K_90 () 4 σ38 _ _ _ _ _ hw h (lv_sub hl [] rfl)
              · skip
                replace hw := hw.1 c40
                refine lv_iconst (v := 3) hx hb h_Sp_useObject_85 (by decide) ?_
                refine lv_goto (tgt := 90) hx hb h_Sp_useObject_86 (by decide) ?_
                exact K_90 () 3 σ38 _ _ _ _ _ hw h (lv_sub hl [] rfl)
            · skip
              replace hw := hw.2 c33
              by_cases c41 : x1 = 189
              · skip
                replace hw := hw.1 c41
                refine tp_i 189 c41 ?_
                refine lv_tableIn (off := 95) (tgt := 96) hx hb h_Sp_useObject_1 (by decide) (by decide) (by decide) (by decide) ?_
                refine lv_aload_n hx hb h_Sp_useObject_96 rfl (lv_at hl 0 rfl) ?_
                refine lv_iconst (v := 1) hx hb h_Sp_useObject_97 (by decide) ?_
                obtain ⟨g42, hw⟩ := hw
                refine C_callVv (As := [.int 1]) (rest := []) C h (ci := 9) (Cn := R_Sp) (T := T_Sp) (N := 5) g42 rfl (by decide) (X_Sp_popAs l dC dI ca s.heap σ0 a0 (1 : Int32) hw) (cwV 1 hts (gV hsub u_536 u_537 u_538 u_524 u_539) rfl rfl rfl (by decide +kernel) ⟨(Nat.le_of_ble_eq_true rfl), (Nat.le_of_ble_eq_true rfl)⟩) rfl hl.1 (Nat.le_of_ble_eq_true rfl) h_Sp_useObject_98 (fun σ43 H locs cells slots hw9 h9 => ?_)
                clear hw h; have hw := hw9; have h := h9; clear hw9 h9
                refine W.eq (g2 := F0 m 101 ls []) rfl ?_
                refine lv_aload_n hx hb h_Sp_useObject_101 rfl (lv_at hl 0 rfl) ?_
                refine lv_bipush (v := 64) hx hb h_Sp_useObject_102 (by decide) ?_
                refine lv_aload_n hx hb h_Sp_useObject_104 rfl (lv_at hl 0 rfl) ?_
                obtain ⟨g45, hw⟩ := hw
                refine C_callVi (As := []) (rest := [.int 64, .ref a0]) C h (ci := 9) (Cn := R_Sp) (T := T_Sp) (N := 5) g45 rfl (by decide) (X_Sp_operand l dC dI ca H σ43 a0 hw) (cwV 0 hts (gV hsub u_546 u_547 u_548 u_524 u_549) rfl rfl rfl (by decide +kernel) ⟨(Nat.le_of_ble_eq_true rfl), (Nat.le_of_ble_eq_true rfl)⟩) rfl hl.1 (Nat.le_of_ble_eq_true rfl) h_Sp_useObject_105 (fun r47 σ46 H locs cells slots hw9 h9 => ?_)
                clear hw h; have hw := hw9; have h := h9; clear hw9 h9
                refine W.eq (g2 := F0 m 108 ls [.int r47, .int 64, .ref a0]) rfl ?_
                refine lv_iadd hx hb h_Sp_useObject_108 ?_
                obtain ⟨g48, hw⟩ := hw
                refine C_callVv (As := [.int ((64 : Int32) + r47)]) (rest := []) C h (ci := 9) (Cn := R_Sp) (T := T_Sp) (N := 5) g48 rfl (by decide) (X_Sp_push l dC dI ca H σ46 a0 ((64 : Int32) + r47) hw) (cwV 1 hts (gV hsub u_526 u_527 u_528 u_524 u_529) rfl rfl rfl (by decide +kernel) ⟨(Nat.le_of_ble_eq_true rfl), (Nat.le_of_ble_eq_true rfl)⟩) rfl hl.1 (Nat.le_of_ble_eq_true rfl) h_Sp_useObject_109 (fun σ49 H locs cells slots hw9 h9 => ?_)
                clear hw h; have hw := hw9; have h := h9; clear hw9 h9
                refine W.eq (g2 := F0 m 112 ls []) rfl ?_
                refine lv_goto (tgt := 165) hx hb h_Sp_useObject_112 (by decide) ?_
                exact hend σ49 _ _ _ _ _ _ hw h h_Sp_useObject_165
              · skip
                replace hw := hw.2 c41
                by_cases c51 : x1 = 190
                · skip
                  replace hw := hw.1 c51
                  refine tp_i 190 c51 ?_
                  refine lv_tableIn (off := 114) (tgt := 115) hx hb h_Sp_useObject_1 (by decide) (by decide) (by decide) (by decide) ?_
                  refine lv_aload_n hx hb h_Sp_useObject_115 rfl (lv_at hl 0 rfl) ?_
                  obtain ⟨g52, hw⟩ := hw
                  refine C_callVv (As := []) (rest := []) C h (ci := 9) (Cn := R_Sp) (T := T_Sp) (N := 5) g52 rfl (by decide) (X_Sp_popArray l dC dI ca s.heap σ0 a0 hw) (cwV 0 hts (gV hsub u_624 u_625 u_626 u_524 u_627) rfl rfl rfl (by decide +kernel) ⟨(Nat.le_of_ble_eq_true rfl), (Nat.le_of_ble_eq_true rfl)⟩) rfl hl.1 (Nat.le_of_ble_eq_true rfl) h_Sp_useObject_116 (fun σ53 H locs cells slots hw9 h9 => ?_)
                  clear hw h; have hw := hw9; have h := h9; clear hw9 h9
                  refine W.eq (g2 := F0 m 119 ls []) rfl ?_
                  refine lv_aload_n hx hb h_Sp_useObject_119 rfl (lv_at hl 0 rfl) ?_
                  refine lv_iconst (v := 1) hx hb h_Sp_useObject_120 (by decide) ?_
                  obtain ⟨g55, hw⟩ := hw
                  refine C_callVv (As := [.int 1]) (rest := []) C h (ci := 9) (Cn := R_Sp) (T := T_Sp) (N := 5) g55 rfl (by decide) (X_Sp_push l dC dI ca H σ53 a0 (1 : Int32) hw) (cwV 1 hts (gV hsub u_526 u_527 u_528 u_524 u_529) rfl rfl rfl (by decide +kernel) ⟨(Nat.le_of_ble_eq_true rfl), (Nat.le_of_ble_eq_true rfl)⟩) rfl hl.1 (Nat.le_of_ble_eq_true rfl) h_Sp_useObject_121 (fun σ56 H locs cells slots hw9 h9 => ?_)
                  clear hw h; have hw := hw9; have h := h9; clear hw9 h9
                  refine W.eq (g2 := F0 m 124 ls []) rfl ?_
                  refine lv_goto (tgt := 165) hx hb h_Sp_useObject_124 (by decide) ?_
                  exact hend σ56 _ _ _ _ _ _ hw h h_Sp_useObject_165
                · skip
                  replace hw := hw.2 c51
                  by_cases c58 : x1 = 191
                  · skip
                    replace hw := hw.1 c58
                    refine tp_i 191 c58 ?_
                    refine lv_tableIn (off := 126) (tgt := 127) hx hb h_Sp_useObject_1 (by decide) (by decide) (by decide) (by decide) ?_
                    refine lv_aload_n hx hb h_Sp_useObject_127 rfl (lv_at hl 0 rfl) ?_
                    refine lv_bipush (v := 33) hx hb h_Sp_useObject_128 (by decide) ?_
                    obtain ⟨g59, hw⟩ := hw
                    refine C_callVv (As := [.int 33]) (rest := []) C h (ci := 9) (Cn := R_Sp) (T := T_Sp) (N := 5) g59 rfl (by decide) (X_Sp_popAs l dC dI ca s.heap σ0 a0 (33 : Int32) hw) (cwV 1 hts (gV hsub u_536 u_537 u_538 u_524 u_539) rfl rfl rfl (by decide +kernel) ⟨(Nat.le_of_ble_eq_true rfl), (Nat.le_of_ble_eq_true rfl)⟩) rfl hl.1 (Nat.le_of_ble_eq_true rfl) h_Sp_useObject_130 (fun σ60 H locs cells slots hw9 h9 => ?_)
                    clear hw h; have hw := hw9; have h := h9; clear hw9 h9
                    refine W.eq (g2 := F0 m 133 ls []) rfl ?_
                    refine lv_goto (tgt := 165) hx hb h_Sp_useObject_133 (by decide) ?_
                    exact hend σ60 _ _ _ _ _ _ hw h h_Sp_useObject_165
                  · skip
                    replace hw := hw.2 c58
                    by_cases c62 : x1 = 192
                    · skip
                      replace hw := hw.1 c62
                      refine tp_i 192 c62 ?_
                      refine lv_tableIn (off := 135) (tgt := 136) hx hb h_Sp_useObject_1 (by decide) (by decide) (by decide) (by decide) ?_
                      refine lv_aload_n hx hb h_Sp_useObject_136 rfl (lv_at hl 0 rfl) ?_
                      obtain ⟨g63, hw⟩ := hw
                      refine C_callVi (As := []) (rest := []) C h (ci := 9) (Cn := R_Sp) (T := T_Sp) (N := 5) g63 rfl (by decide) (X_Sp_popReference l dC dI ca s.heap σ0 a0 hw) (cwV 0 hts (gV hsub u_580 u_581 u_582 u_524 u_583) rfl rfl rfl (by decide +kernel) ⟨(Nat.le_of_ble_eq_true rfl), (Nat.le_of_ble_eq_true rfl)⟩) rfl hl.1 (Nat.le_of_ble_eq_true rfl) h_Sp_useObject_137 (fun r65 σ64 H locs cells slots hw9 h9 => ?_)
                      clear hw h; have hw := hw9; have h := h9; clear hw9 h9
                      refine W.eq (g2 := F0 m 140 ls [.int r65]) rfl ?_
                      refine lv_pop hx hb h_Sp_useObject_140 rfl ?_
                      refine lv_aload_n hx hb h_Sp_useObject_141 rfl (lv_at hl 0 rfl) ?_
                      refine lv_bipush (v := 32) hx hb h_Sp_useObject_142 (by decide) ?_
                      refine lv_aload_n hx hb h_Sp_useObject_144 rfl (lv_at hl 0 rfl) ?_
                      obtain ⟨g66, hw⟩ := hw
                      refine C_callVi (As := []) (rest := [.int 32, .ref a0]) C h (ci := 9) (Cn := R_Sp) (T := T_Sp) (N := 5) g66 rfl (by decide) (X_Sp_operand l dC dI ca H σ64 a0 hw) (cwV 0 hts (gV hsub u_546 u_547 u_548 u_524 u_549) rfl rfl rfl (by decide +kernel) ⟨(Nat.le_of_ble_eq_true rfl), (Nat.le_of_ble_eq_true rfl)⟩) rfl hl.1 (Nat.le_of_ble_eq_true rfl) h_Sp_useObject_145 (fun r68 σ67 H locs cells slots hw9 h9 => ?_)
                      clear hw h; have hw := hw9; have h := h9; clear hw9 h9
                      refine W.eq (g2 := F0 m 148 ls [.int r68, .int 32, .ref a0]) rfl ?_
                      refine lv_iadd hx hb h_Sp_useObject_148 ?_
                      obtain ⟨g69, hw⟩ := hw
                      refine C_callVv (As := [.int ((32 : Int32) + r68)]) (rest := []) C h (ci := 9) (Cn := R_Sp) (T := T_Sp) (N := 5) g69 rfl (by decide) (X_Sp_push l dC dI ca H σ67 a0 ((32 : Int32) + r68) hw) (cwV 1 hts (gV hsub u_526 u_527 u_528 u_524 u_529) rfl rfl rfl (by decide +kernel) ⟨(Nat.le_of_ble_eq_true rfl), (Nat.le_of_ble_eq_true rfl)⟩) rfl hl.1 (Nat.le_of_ble_eq_true rfl) h_Sp_useObject_149 (fun σ70 H locs cells slots hw9 h9 => ?_)
                      clear hw h; have hw := hw9; have h := h9; clear hw9 h9
                      refine W.eq (g2 := F0 m 152 ls []) rfl ?_
                      refine lv_goto (tgt := 165) hx hb h_Sp_useObject_152 (by decide) ?_
                      exact hend σ70 _ _ _ _ _ _ hw h h_Sp_useObject_165
                    · skip
                      replace hw := hw.2 c62
                      have h9 : (x1 : Int32).toInt < 183 ∨ 192 < (x1 : Int32).toInt := by simp only [← Int32.toInt_inj, Int32.reduceToInt] at c4 c8 c15 c22 c29 c33 c41 c51 c58 c62; omega
                      refine lv_tableOut (tgt := 155) hx hb h_Sp_useObject_1 h9 (by decide) ?_
                      refine lv_aload_n hx hb h_Sp_useObject_155 rfl (lv_at hl 0 rfl) ?_
                      obtain ⟨g72, hw⟩ := hw
                      refine C_callVi (As := []) (rest := []) C h (ci := 9) (Cn := R_Sp) (T := T_Sp) (N := 5) g72 rfl (by decide) (X_Sp_popReference l dC dI ca s.heap σ0 a0 hw) (cwV 0 hts (gV hsub u_580 u_581 u_582 u_524 u_583) rfl rfl rfl (by decide +kernel) ⟨(Nat.le_of_ble_eq_true rfl), (Nat.le_of_ble_eq_true rfl)⟩) rfl hl.1 (Nat.le_of_ble_eq_true rfl) h_Sp_useObject_156 (fun r74 σ73 H locs cells slots hw9 h9 => ?_)
                      clear hw h; have hw := hw9; have h := h9; clear hw9 h9
                      refine W.eq (g2 := F0 m 159 ls [.int r74]) rfl ?_
                      refine lv_pop hx hb h_Sp_useObject_159 rfl ?_
                      refine lv_aload_n hx hb h_Sp_useObject_160 rfl (lv_at hl 0 rfl) ?_
                      refine lv_iconst (v := 1) hx hb h_Sp_useObject_161 (by decide) ?_
                      obtain ⟨g75, hw⟩ := hw
                      refine C_callVv (As := [.int 1]) (rest := []) C h (ci := 9) (Cn := R_Sp) (T := T_Sp) (N := 5) g75 rfl (by decide) (X_Sp_push l dC dI ca H σ73 a0 (1 : Int32) hw) (cwV 1 hts (gV hsub u_526 u_527 u_528 u_524 u_529) rfl rfl rfl (by decide +kernel) ⟨(Nat.le_of_ble_eq_true rfl), (Nat.le_of_ble_eq_true rfl)⟩) rfl hl.1 (Nat.le_of_ble_eq_true rfl) h_Sp_useObject_162 (fun σ76 H locs cells slots hw9 h9 => ?_)
                      clear hw h; have hw := hw9; have h := h9; clear hw9 h9
                      refine W.eq (g2 := F0 m 165 ls []) rfl ?_
                      exact hend σ76 _ _ _ _ _ _ hw h h_Sp_useObject_165
abbrev g_Sp_step : MethodName := ⟨"MapFramer$Stepper", "step", "(LMapFramer$State;I)I"⟩
theorem u_628 : (Cond.methodLink "MapFramer$Stepper" 77 ⟨"MapFramer$Op", "endsFlow", "(I)Z"⟩ : Cond) ∈ bigW := inB_5 41 (by decide +kernel) rfl
theorem u_629 : (Cond.static ⟨"MapFramer$Op", "endsFlow", "(I)Z"⟩ : Cond) ∈ bigW := inB_5 42 (by decide +kernel) rfl
theorem u_630 : (Cond.code ⟨"MapFramer$Op", "endsFlow", "(I)Z"⟩ prog_8_method_4_code 1 (some .boolean) : Cond) ∈ bigW := inB_5 43 rfl rfl
theorem u_631 : (Cond.methodLink "MapFramer$Stepper" 80 ⟨"MapFramer$Op", "length", "(I)I"⟩ : Cond) ∈ bigW := inB_5 44 (by decide +kernel) rfl
theorem u_632 : (Cond.fieldLink "MapFramer$Stepper" 83 "MapFramer$Method" "code" "[I" : Cond) ∈ bigW := inB_2 166 (by decide +kernel) rfl
theorem u_633 : (Cond.methodLink "MapFramer$Stepper" 40 ⟨"MapFramer$Op", "isGet", "(I)Z"⟩ : Cond) ∈ bigW := inB_4 139 (by decide +kernel) rfl
theorem u_634 : (Cond.methodLink "MapFramer$Stepper" 59 ⟨"MapFramer$Op", "isBranch", "(I)Z"⟩ : Cond) ∈ bigW := inB_4 224 (by decide +kernel) rfl
theorem u_635 : (Cond.methodLink "MapFramer$Stepper" 74 ⟨"MapFramer$Stepper", "useObject", "(I)V"⟩ : Cond) ∈ bigW := inB_5 10 (by decide +kernel) rfl
theorem u_636 : (Cond.instanceMethod ⟨"MapFramer$Stepper", "useObject", "(I)V"⟩ : Cond) ∈ bigW := inB_5 12 (by decide +kernel) rfl
theorem u_637 : (Cond.selects "MapFramer$Stepper" ⟨"MapFramer$Stepper", "useObject", "(I)V"⟩ ⟨"MapFramer$Stepper", "useObject", "(I)V"⟩ : Cond) ∈ bigW := inS (y := ⟨"MapFramer$Stepper", "useObject", "(I)V"⟩) (n := 5) (List.mem_of_getElem? (i := 33) (by decide +kernel))
theorem u_638 : (Cond.code ⟨"MapFramer$Stepper", "useObject", "(I)V"⟩ prog_10_method_27_code 2 none : Cond) ∈ bigW := inB_5 13 rfl rfl
theorem u_639 : (Cond.methodLink "MapFramer$Stepper" 71 ⟨"MapFramer$Stepper", "callMethod", "()V"⟩ : Cond) ∈ bigW := inB_5 5 (by decide +kernel) rfl
theorem u_640 : (Cond.instanceMethod ⟨"MapFramer$Stepper", "callMethod", "()V"⟩ : Cond) ∈ bigW := inB_5 7 (by decide +kernel) rfl
theorem u_641 : (Cond.selects "MapFramer$Stepper" ⟨"MapFramer$Stepper", "callMethod", "()V"⟩ ⟨"MapFramer$Stepper", "callMethod", "()V"⟩ : Cond) ∈ bigW := inS (y := ⟨"MapFramer$Stepper", "callMethod", "()V"⟩) (n := 5) (List.mem_of_getElem? (i := 32) (by decide +kernel))
theorem u_642 : (Cond.code ⟨"MapFramer$Stepper", "callMethod", "()V"⟩ prog_10_method_25_code 3 none : Cond) ∈ bigW := inB_5 8 rfl rfl
theorem u_643 : (Cond.methodLink "MapFramer$Stepper" 68 ⟨"MapFramer$Stepper", "useField", "(I)V"⟩ : Cond) ∈ bigW := inB_4 233 (by decide +kernel) rfl
theorem u_644 : (Cond.instanceMethod ⟨"MapFramer$Stepper", "useField", "(I)V"⟩ : Cond) ∈ bigW := inB_4 235 (by decide +kernel) rfl
theorem u_645 : (Cond.selects "MapFramer$Stepper" ⟨"MapFramer$Stepper", "useField", "(I)V"⟩ ⟨"MapFramer$Stepper", "useField", "(I)V"⟩ : Cond) ∈ bigW := inS (y := ⟨"MapFramer$Stepper", "useField", "(I)V"⟩) (n := 5) (List.mem_of_getElem? (i := 31) (by decide +kernel))
theorem u_646 : (Cond.code ⟨"MapFramer$Stepper", "useField", "(I)V"⟩ prog_10_method_24_code 3 none : Cond) ∈ bigW := inB_4 236 rfl rfl
theorem u_647 : (Cond.methodLink "MapFramer$Stepper" 65 ⟨"MapFramer$Stepper", "popResult", "(I)V"⟩ : Cond) ∈ bigW := inB_4 229 (by decide +kernel) rfl
theorem u_648 : (Cond.instanceMethod ⟨"MapFramer$Stepper", "popResult", "(I)V"⟩ : Cond) ∈ bigW := inB_4 231 (by decide +kernel) rfl
theorem u_649 : (Cond.selects "MapFramer$Stepper" ⟨"MapFramer$Stepper", "popResult", "(I)V"⟩ ⟨"MapFramer$Stepper", "popResult", "(I)V"⟩ : Cond) ∈ bigW := inS (y := ⟨"MapFramer$Stepper", "popResult", "(I)V"⟩) (n := 5) (List.mem_of_getElem? (i := 30) (by decide +kernel))
theorem u_650 : (Cond.code ⟨"MapFramer$Stepper", "popResult", "(I)V"⟩ prog_10_method_23_code 4 none : Cond) ∈ bigW := inB_4 232 rfl rfl
theorem u_651 : (Cond.methodLink "MapFramer$Stepper" 62 ⟨"MapFramer$Stepper", "popCondition", "(I)V"⟩ : Cond) ∈ bigW := inB_4 225 (by decide +kernel) rfl
theorem u_652 : (Cond.instanceMethod ⟨"MapFramer$Stepper", "popCondition", "(I)V"⟩ : Cond) ∈ bigW := inB_4 227 (by decide +kernel) rfl
theorem u_653 : (Cond.selects "MapFramer$Stepper" ⟨"MapFramer$Stepper", "popCondition", "(I)V"⟩ ⟨"MapFramer$Stepper", "popCondition", "(I)V"⟩ : Cond) ∈ bigW := inS (y := ⟨"MapFramer$Stepper", "popCondition", "(I)V"⟩) (n := 5) (List.mem_of_getElem? (i := 29) (by decide +kernel))
theorem u_654 : (Cond.code ⟨"MapFramer$Stepper", "popCondition", "(I)V"⟩ prog_10_method_22_code 2 none : Cond) ∈ bigW := inB_4 228 rfl rfl
theorem u_655 : (Cond.methodLink "MapFramer$Stepper" 56 ⟨"MapFramer$Stepper", "reckon", "(I)V"⟩ : Cond) ∈ bigW := inB_4 220 (by decide +kernel) rfl
theorem u_656 : (Cond.instanceMethod ⟨"MapFramer$Stepper", "reckon", "(I)V"⟩ : Cond) ∈ bigW := inB_4 222 (by decide +kernel) rfl
theorem u_657 : (Cond.selects "MapFramer$Stepper" ⟨"MapFramer$Stepper", "reckon", "(I)V"⟩ ⟨"MapFramer$Stepper", "reckon", "(I)V"⟩ : Cond) ∈ bigW := inS (y := ⟨"MapFramer$Stepper", "reckon", "(I)V"⟩) (n := 5) (List.mem_of_getElem? (i := 28) (by decide +kernel))
theorem u_658 : (Cond.code ⟨"MapFramer$Stepper", "reckon", "(I)V"⟩ prog_10_method_21_code 3 none : Cond) ∈ bigW := inB_4 223 rfl rfl
theorem u_659 : (Cond.methodLink "MapFramer$Stepper" 53 ⟨"MapFramer$Stepper", "moveOnStack", "(I)V"⟩ : Cond) ∈ bigW := inB_4 208 (by decide +kernel) rfl
theorem u_660 : (Cond.instanceMethod ⟨"MapFramer$Stepper", "moveOnStack", "(I)V"⟩ : Cond) ∈ bigW := inB_4 210 (by decide +kernel) rfl
theorem u_661 : (Cond.selects "MapFramer$Stepper" ⟨"MapFramer$Stepper", "moveOnStack", "(I)V"⟩ ⟨"MapFramer$Stepper", "moveOnStack", "(I)V"⟩ : Cond) ∈ bigW := inS (y := ⟨"MapFramer$Stepper", "moveOnStack", "(I)V"⟩) (n := 5) (List.mem_of_getElem? (i := 25) (by decide +kernel))
theorem u_662 : (Cond.code ⟨"MapFramer$Stepper", "moveOnStack", "(I)V"⟩ prog_10_method_19_code 5 none : Cond) ∈ bigW := inB_4 211 rfl rfl
theorem u_663 : (Cond.methodLink "MapFramer$Stepper" 50 ⟨"MapFramer$Stepper", "putElement", "(I)V"⟩ : Cond) ∈ bigW := inB_4 200 (by decide +kernel) rfl
theorem u_664 : (Cond.instanceMethod ⟨"MapFramer$Stepper", "putElement", "(I)V"⟩ : Cond) ∈ bigW := inB_4 202 (by decide +kernel) rfl
theorem u_665 : (Cond.selects "MapFramer$Stepper" ⟨"MapFramer$Stepper", "putElement", "(I)V"⟩ ⟨"MapFramer$Stepper", "putElement", "(I)V"⟩ : Cond) ∈ bigW := inS (y := ⟨"MapFramer$Stepper", "putElement", "(I)V"⟩) (n := 5) (List.mem_of_getElem? (i := 23) (by decide +kernel))
theorem u_666 : (Cond.code ⟨"MapFramer$Stepper", "putElement", "(I)V"⟩ prog_10_method_18_code 2 none : Cond) ∈ bigW := inB_4 203 rfl rfl
theorem u_667 : (Cond.methodLink "MapFramer$Stepper" 47 ⟨"MapFramer$Stepper", "useLocal", "(I)V"⟩ : Cond) ∈ bigW := inB_4 163 (by decide +kernel) rfl
theorem u_668 : (Cond.instanceMethod ⟨"MapFramer$Stepper", "useLocal", "(I)V"⟩ : Cond) ∈ bigW := inB_4 165 (by decide +kernel) rfl
theorem u_669 : (Cond.selects "MapFramer$Stepper" ⟨"MapFramer$Stepper", "useLocal", "(I)V"⟩ ⟨"MapFramer$Stepper", "useLocal", "(I)V"⟩ : Cond) ∈ bigW := inS (y := ⟨"MapFramer$Stepper", "useLocal", "(I)V"⟩) (n := 5) (List.mem_of_getElem? (i := 16) (by decide +kernel))
theorem u_670 : (Cond.code ⟨"MapFramer$Stepper", "useLocal", "(I)V"⟩ prog_10_method_11_code 2 none : Cond) ∈ bigW := inB_4 166 rfl rfl
theorem u_671 : (Cond.methodLink "MapFramer$Stepper" 44 ⟨"MapFramer$Stepper", "getElement", "(I)V"⟩ : Cond) ∈ bigW := inB_4 142 (by decide +kernel) rfl
theorem u_672 : (Cond.instanceMethod ⟨"MapFramer$Stepper", "getElement", "(I)V"⟩ : Cond) ∈ bigW := inB_4 144 (by decide +kernel) rfl
theorem u_673 : (Cond.selects "MapFramer$Stepper" ⟨"MapFramer$Stepper", "getElement", "(I)V"⟩ ⟨"MapFramer$Stepper", "getElement", "(I)V"⟩ : Cond) ∈ bigW := inS (y := ⟨"MapFramer$Stepper", "getElement", "(I)V"⟩) (n := 5) (List.mem_of_getElem? (i := 13) (by decide +kernel))
theorem u_674 : (Cond.code ⟨"MapFramer$Stepper", "getElement", "(I)V"⟩ prog_10_method_16_code 3 none : Cond) ∈ bigW := inB_4 145 rfl rfl
theorem u_675 : (Cond.methodLink "MapFramer$Stepper" 36 ⟨"MapFramer$Stepper", "pushConstant", "(I)V"⟩ : Cond) ∈ bigW := inB_4 123 (by decide +kernel) rfl
theorem u_676 : (Cond.instanceMethod ⟨"MapFramer$Stepper", "pushConstant", "(I)V"⟩ : Cond) ∈ bigW := inB_4 125 (by decide +kernel) rfl
theorem u_677 : (Cond.selects "MapFramer$Stepper" ⟨"MapFramer$Stepper", "pushConstant", "(I)V"⟩ ⟨"MapFramer$Stepper", "pushConstant", "(I)V"⟩ : Cond) ∈ bigW := inS (y := ⟨"MapFramer$Stepper", "pushConstant", "(I)V"⟩) (n := 5) (List.mem_of_getElem? (i := 10) (by decide +kernel))
theorem u_678 : (Cond.code ⟨"MapFramer$Stepper", "pushConstant", "(I)V"⟩ prog_10_method_10_code 2 none : Cond) ∈ bigW := inB_4 126 rfl rfl
theorem h_Sp_step_0 : decode prog_10_method_2_code 0 = .ok (.aload_n 0, 1) := by decide +kernel
theorem h_Sp_step_1 : decode prog_10_method_2_code 1 = .ok (.aload_n 1, 1) := by decide +kernel
theorem h_Sp_step_2 : decode prog_10_method_2_code 2 = .ok (.putfield 17, 3) := by decide +kernel
theorem h_Sp_step_5 : decode prog_10_method_2_code 5 = .ok (.aload_n 0, 1) := by decide +kernel
theorem h_Sp_step_6 : decode prog_10_method_2_code 6 = .ok (.iload_n 2, 1) := by decide +kernel
theorem h_Sp_step_7 : decode prog_10_method_2_code 7 = .ok (.putfield 21, 3) := by decide +kernel
theorem h_Sp_step_10 : decode prog_10_method_2_code 10 = .ok (.aload_n 0, 1) := by decide +kernel
theorem h_Sp_step_11 : decode prog_10_method_2_code 11 = .ok (.iconst 0, 1) := by decide +kernel
theorem h_Sp_step_12 : decode prog_10_method_2_code 12 = .ok (.putfield 25, 3) := by decide +kernel
theorem h_Sp_step_15 : decode prog_10_method_2_code 15 = .ok (.aload_n 0, 1) := by decide +kernel
theorem h_Sp_step_16 : decode prog_10_method_2_code 16 = .ok (.getfield 13, 3) := by decide +kernel
theorem h_Sp_step_19 : decode prog_10_method_2_code 19 = .ok (.iload_n 2, 1) := by decide +kernel
theorem h_Sp_step_20 : decode prog_10_method_2_code 20 = .ok (.invokevirtual 28, 3) := by decide +kernel
theorem h_Sp_step_23 : decode prog_10_method_2_code 23 = .ok (.istore_n 3, 1) := by decide +kernel
theorem h_Sp_step_24 : decode prog_10_method_2_code 24 = .ok (.iload_n 3, 1) := by decide +kernel
theorem h_Sp_step_25 : decode prog_10_method_2_code 25 = .ok (.bipush 17, 2) := by decide +kernel
theorem h_Sp_step_27 : decode prog_10_method_2_code 27 = .ok (.if_icmp .gt 11, 3) := by decide +kernel
theorem h_Sp_step_30 : decode prog_10_method_2_code 30 = .ok (.aload_n 0, 1) := by decide +kernel
theorem h_Sp_step_31 : decode prog_10_method_2_code 31 = .ok (.iload_n 3, 1) := by decide +kernel
theorem h_Sp_step_32 : decode prog_10_method_2_code 32 = .ok (.invokevirtual 36, 3) := by decide +kernel
theorem h_Sp_step_35 : decode prog_10_method_2_code 35 = .ok (.goto 139, 3) := by decide +kernel
theorem h_Sp_step_38 : decode prog_10_method_2_code 38 = .ok (.iload_n 3, 1) := by decide +kernel
theorem h_Sp_step_39 : decode prog_10_method_2_code 39 = .ok (.invokestatic 40, 3) := by decide +kernel
theorem h_Sp_step_42 : decode prog_10_method_2_code 42 = .ok (.ifCond .eq 11, 3) := by decide +kernel
theorem h_Sp_step_45 : decode prog_10_method_2_code 45 = .ok (.aload_n 0, 1) := by decide +kernel
theorem h_Sp_step_46 : decode prog_10_method_2_code 46 = .ok (.iload_n 3, 1) := by decide +kernel
theorem h_Sp_step_47 : decode prog_10_method_2_code 47 = .ok (.invokevirtual 44, 3) := by decide +kernel
theorem h_Sp_step_50 : decode prog_10_method_2_code 50 = .ok (.goto 124, 3) := by decide +kernel
theorem h_Sp_step_53 : decode prog_10_method_2_code 53 = .ok (.iload_n 3, 1) := by decide +kernel
theorem h_Sp_step_54 : decode prog_10_method_2_code 54 = .ok (.bipush 58, 2) := by decide +kernel
theorem h_Sp_step_56 : decode prog_10_method_2_code 56 = .ok (.if_icmp .gt 11, 3) := by decide +kernel
theorem h_Sp_step_59 : decode prog_10_method_2_code 59 = .ok (.aload_n 0, 1) := by decide +kernel
theorem h_Sp_step_60 : decode prog_10_method_2_code 60 = .ok (.iload_n 3, 1) := by decide +kernel
theorem h_Sp_step_61 : decode prog_10_method_2_code 61 = .ok (.invokevirtual 47, 3) := by decide +kernel
theorem h_Sp_step_64 : decode prog_10_method_2_code 64 = .ok (.goto 110, 3) := by decide +kernel
theorem h_Sp_step_67 : decode prog_10_method_2_code 67 = .ok (.iload_n 3, 1) := by decide +kernel
theorem h_Sp_step_68 : decode prog_10_method_2_code 68 = .ok (.bipush 83, 2) := by decide +kernel
theorem h_Sp_step_70 : decode prog_10_method_2_code 70 = .ok (.if_icmp .gt 11, 3) := by decide +kernel
theorem h_Sp_step_73 : decode prog_10_method_2_code 73 = .ok (.aload_n 0, 1) := by decide +kernel
theorem h_Sp_step_74 : decode prog_10_method_2_code 74 = .ok (.iload_n 3, 1) := by decide +kernel
theorem h_Sp_step_75 : decode prog_10_method_2_code 75 = .ok (.invokevirtual 50, 3) := by decide +kernel
theorem h_Sp_step_78 : decode prog_10_method_2_code 78 = .ok (.goto 96, 3) := by decide +kernel
theorem h_Sp_step_81 : decode prog_10_method_2_code 81 = .ok (.iload_n 3, 1) := by decide +kernel
theorem h_Sp_step_82 : decode prog_10_method_2_code 82 = .ok (.bipush 95, 2) := by decide +kernel
theorem h_Sp_step_84 : decode prog_10_method_2_code 84 = .ok (.if_icmp .gt 11, 3) := by decide +kernel
theorem h_Sp_step_87 : decode prog_10_method_2_code 87 = .ok (.aload_n 0, 1) := by decide +kernel
theorem h_Sp_step_88 : decode prog_10_method_2_code 88 = .ok (.iload_n 3, 1) := by decide +kernel
theorem h_Sp_step_89 : decode prog_10_method_2_code 89 = .ok (.invokevirtual 53, 3) := by decide +kernel
theorem h_Sp_step_92 : decode prog_10_method_2_code 92 = .ok (.goto 82, 3) := by decide +kernel
theorem h_Sp_step_95 : decode prog_10_method_2_code 95 = .ok (.iload_n 3, 1) := by decide +kernel
theorem h_Sp_step_96 : decode prog_10_method_2_code 96 = .ok (.sipush 148, 3) := by decide +kernel
theorem h_Sp_step_99 : decode prog_10_method_2_code 99 = .ok (.if_icmp .gt 11, 3) := by decide +kernel
theorem h_Sp_step_102 : decode prog_10_method_2_code 102 = .ok (.aload_n 0, 1) := by decide +kernel
theorem h_Sp_step_103 : decode prog_10_method_2_code 103 = .ok (.iload_n 3, 1) := by decide +kernel
theorem h_Sp_step_104 : decode prog_10_method_2_code 104 = .ok (.invokevirtual 56, 3) := by decide +kernel
theorem h_Sp_step_107 : decode prog_10_method_2_code 107 = .ok (.goto 67, 3) := by decide +kernel
theorem h_Sp_step_110 : decode prog_10_method_2_code 110 = .ok (.iload_n 3, 1) := by decide +kernel
theorem h_Sp_step_111 : decode prog_10_method_2_code 111 = .ok (.invokestatic 59, 3) := by decide +kernel
theorem h_Sp_step_114 : decode prog_10_method_2_code 114 = .ok (.ifCond .eq 11, 3) := by decide +kernel
theorem h_Sp_step_117 : decode prog_10_method_2_code 117 = .ok (.aload_n 0, 1) := by decide +kernel
theorem h_Sp_step_118 : decode prog_10_method_2_code 118 = .ok (.iload_n 3, 1) := by decide +kernel
theorem h_Sp_step_119 : decode prog_10_method_2_code 119 = .ok (.invokevirtual 62, 3) := by decide +kernel
theorem h_Sp_step_122 : decode prog_10_method_2_code 122 = .ok (.goto 52, 3) := by decide +kernel
theorem h_Sp_step_125 : decode prog_10_method_2_code 125 = .ok (.iload_n 3, 1) := by decide +kernel
theorem h_Sp_step_126 : decode prog_10_method_2_code 126 = .ok (.sipush 177, 3) := by decide +kernel
theorem h_Sp_step_129 : decode prog_10_method_2_code 129 = .ok (.if_icmp .gt 11, 3) := by decide +kernel
theorem h_Sp_step_132 : decode prog_10_method_2_code 132 = .ok (.aload_n 0, 1) := by decide +kernel
theorem h_Sp_step_133 : decode prog_10_method_2_code 133 = .ok (.iload_n 3, 1) := by decide +kernel
theorem h_Sp_step_134 : decode prog_10_method_2_code 134 = .ok (.invokevirtual 65, 3) := by decide +kernel
theorem h_Sp_step_137 : decode prog_10_method_2_code 137 = .ok (.goto 37, 3) := by decide +kernel
theorem h_Sp_step_140 : decode prog_10_method_2_code 140 = .ok (.iload_n 3, 1) := by decide +kernel
theorem h_Sp_step_141 : decode prog_10_method_2_code 141 = .ok (.sipush 181, 3) := by decide +kernel
theorem h_Sp_step_144 : decode prog_10_method_2_code 144 = .ok (.if_icmp .gt 11, 3) := by decide +kernel
theorem h_Sp_step_147 : decode prog_10_method_2_code 147 = .ok (.aload_n 0, 1) := by decide +kernel
theorem h_Sp_step_148 : decode prog_10_method_2_code 148 = .ok (.iload_n 3, 1) := by decide +kernel
theorem h_Sp_step_149 : decode prog_10_method_2_code 149 = .ok (.invokevirtual 68, 3) := by decide +kernel
theorem h_Sp_step_152 : decode prog_10_method_2_code 152 = .ok (.goto 22, 3) := by decide +kernel
theorem h_Sp_step_155 : decode prog_10_method_2_code 155 = .ok (.iload_n 3, 1) := by decide +kernel
theorem h_Sp_step_156 : decode prog_10_method_2_code 156 = .ok (.sipush 184, 3) := by decide +kernel
theorem h_Sp_step_159 : decode prog_10_method_2_code 159 = .ok (.if_icmp .ne 10, 3) := by decide +kernel
theorem h_Sp_step_162 : decode prog_10_method_2_code 162 = .ok (.aload_n 0, 1) := by decide +kernel
theorem h_Sp_step_163 : decode prog_10_method_2_code 163 = .ok (.invokevirtual 71, 3) := by decide +kernel
theorem h_Sp_step_166 : decode prog_10_method_2_code 166 = .ok (.goto 8, 3) := by decide +kernel
theorem h_Sp_step_169 : decode prog_10_method_2_code 169 = .ok (.aload_n 0, 1) := by decide +kernel
theorem h_Sp_step_170 : decode prog_10_method_2_code 170 = .ok (.iload_n 3, 1) := by decide +kernel
theorem h_Sp_step_171 : decode prog_10_method_2_code 171 = .ok (.invokevirtual 74, 3) := by decide +kernel
theorem h_Sp_step_174 : decode prog_10_method_2_code 174 = .ok (.iload_n 3, 1) := by decide +kernel
theorem h_Sp_step_175 : decode prog_10_method_2_code 175 = .ok (.invokestatic 77, 3) := by decide +kernel
theorem h_Sp_step_178 : decode prog_10_method_2_code 178 = .ok (.ifCond .ne 26, 3) := by decide +kernel
theorem h_Sp_step_181 : decode prog_10_method_2_code 181 = .ok (.iload_n 2, 1) := by decide +kernel
theorem h_Sp_step_182 : decode prog_10_method_2_code 182 = .ok (.iload_n 3, 1) := by decide +kernel
theorem h_Sp_step_183 : decode prog_10_method_2_code 183 = .ok (.invokestatic 80, 3) := by decide +kernel
theorem h_Sp_step_186 : decode prog_10_method_2_code 186 = .ok (.iadd, 1) := by decide +kernel
theorem h_Sp_step_187 : decode prog_10_method_2_code 187 = .ok (.aload_n 0, 1) := by decide +kernel
theorem h_Sp_step_188 : decode prog_10_method_2_code 188 = .ok (.getfield 13, 3) := by decide +kernel
theorem h_Sp_step_191 : decode prog_10_method_2_code 191 = .ok (.getfield 83, 3) := by decide +kernel
theorem h_Sp_step_194 : decode prog_10_method_2_code 194 = .ok (.arraylength, 1) := by decide +kernel
theorem h_Sp_step_195 : decode prog_10_method_2_code 195 = .ok (.if_icmp .lt 9, 3) := by decide +kernel
theorem h_Sp_step_198 : decode prog_10_method_2_code 198 = .ok (.aload_n 0, 1) := by decide +kernel
theorem h_Sp_step_199 : decode prog_10_method_2_code 199 = .ok (.bipush 8, 2) := by decide +kernel
theorem h_Sp_step_201 : decode prog_10_method_2_code 201 = .ok (.invokevirtual 87, 3) := by decide +kernel
theorem h_Sp_step_204 : decode prog_10_method_2_code 204 = .ok (.aload_n 0, 1) := by decide +kernel
theorem h_Sp_step_205 : decode prog_10_method_2_code 205 = .ok (.getfield 25, 3) := by decide +kernel
theorem h_Sp_step_208 : decode prog_10_method_2_code 208 = .ok (.ireturn, 1) := by decide +kernel
def x_Sp_step_204 (a0 : Nat) (a1 : Nat) (P : Int32 → CST → Prop) (σ : CST) : Prop := σ.1 a0 = some (9, 0) ∧ (P (σ.2.1 a0 4) σ)
def x_Sp_step_174 (a0 : Nat) (a1 : Nat) (P : Int32 → CST → Prop) (z2 : Int32) (z3 : Int32) (σ : CST) : Prop := x_Op_endsFlow z3 σ (fun r3 σ2 => ((r3 = 0 → x_Op_length z3 σ2 (fun r6 σ5 => σ5.1 a0 = some (9, 0) ∧ (∀ b8 : Option Nat, b8 = (σ5.2.2.2.1 a0 1) → (∃ r9 : Nat, b8 = some r9 ∧ (σ5.1 r9 = some (5, 0) ∧ (∀ b11 : Option Nat, b11 = (σ5.2.2.2.1 r9 2) → (∃ r12 : Nat, b11 = some r12 ∧ ((∃ n14 : Nat, σ5.1 r12 = some (20, n14) ∧ ((((z2 + r6) < (Int32.ofNat n14) → x_Sp_step_204 a0 a1 P σ5) ∧ (¬ (z2 + r6) < (Int32.ofNat n14) → x_Sp_fail a0 (8 : Int32) σ5 (fun σ16 => x_Sp_step_204 a0 a1 P σ16))))))))))))) ∧ (¬ r3 = 0 → x_Sp_step_204 a0 a1 P σ2)))
def x_Sp_step (a0 : Nat) (a1 : Nat) (x2 : Int32) (σ0 : CST) (P : Int32 → CST → Prop) : Prop := σ0.1 a0 = some (9, 0) ∧ (∀ σ19 : CST, σ19 = sR σ0 a0 2 (some a1) → σ19.1 a0 = some (9, 0) ∧ (∀ σ21 : CST, σ21 = sI σ19 a0 3 x2 → σ21.1 a0 = some (9, 0) ∧ (∀ σ23 : CST, σ23 = sI σ21 a0 4 (0 : Int32) → σ23.1 a0 = some (9, 0) ∧ (∀ b25 : Option Nat, b25 = (σ23.2.2.2.1 a0 1) → (∃ r26 : Nat, b25 = some r26 ∧ (σ23.1 r26 = some (5, 0) ∧ (x_E_byteAt r26 x2 σ23 (fun r29 σ28 => ((17 < r29 → x_Op_isGet r29 σ28 (fun r32 σ31 => ((r32 = 0 → ((58 < r29 → ((83 < r29 → ((95 < r29 → ((148 < r29 → x_Op_isBranch r29 σ31 (fun r39 σ38 => ((r39 = 0 → ((177 < r29 → ((181 < r29 → ((r29 = 184 → σ38.1 a0 = some (9, 0) ∧ (x_Sp_callMethod a0 σ38 (fun σ48 => x_Sp_step_174 a0 a1 P x2 r29 σ48))) ∧ (¬ r29 = 184 → σ38.1 a0 = some (9, 0) ∧ (x_Sp_useObject a0 r29 σ38 (fun σ45 => x_Sp_step_174 a0 a1 P x2 r29 σ45))))) ∧ (¬ 181 < r29 → σ38.1 a0 = some (9, 0) ∧ (x_Sp_useField a0 r29 σ38 (fun σ51 => x_Sp_step_174 a0 a1 P x2 r29 σ51))))) ∧ (¬ 177 < r29 → σ38.1 a0 = some (9, 0) ∧ (x_Sp_popResult a0 r29 σ38 (fun σ54 => x_Sp_step_174 a0 a1 P x2 r29 σ54))))) ∧ (¬ r39 = 0 → σ38.1 a0 = some (9, 0) ∧ (x_Sp_popCondition a0 r29 σ38 (fun σ57 => x_Sp_step_174 a0 a1 P x2 r29 σ57)))))) ∧ (¬ 148 < r29 → σ31.1 a0 = some (9, 0) ∧ (x_Sp_reckon a0 r29 σ31 (fun σ60 => x_Sp_step_174 a0 a1 P x2 r29 σ60))))) ∧ (¬ 95 < r29 → σ31.1 a0 = some (9, 0) ∧ (x_Sp_moveOnStack a0 r29 σ31 (fun σ63 => x_Sp_step_174 a0 a1 P x2 r29 σ63))))) ∧ (¬ 83 < r29 → σ31.1 a0 = some (9, 0) ∧ (x_Sp_putElement a0 r29 σ31 (fun σ66 => x_Sp_step_174 a0 a1 P x2 r29 σ66))))) ∧ (¬ 58 < r29 → σ31.1 a0 = some (9, 0) ∧ (x_Sp_useLocal a0 r29 σ31 (fun σ69 => x_Sp_step_174 a0 a1 P x2 r29 σ69))))) ∧ (¬ r32 = 0 → σ31.1 a0 = some (9, 0) ∧ (x_Sp_getElement a0 r29 σ31 (fun σ72 => x_Sp_step_174 a0 a1 P x2 r29 σ72)))))) ∧ (¬ 17 < r29 → σ28.1 a0 = some (9, 0) ∧ (x_Sp_pushConstant a0 r29 σ28 (fun σ75 => x_Sp_step_174 a0 a1 P x2 r29 σ75))))))))))))
set_option maxHeartbeats 4000000 in
set_option maxRecDepth 100000 in
theorem X_Sp_step (l : Launch) (dC : Nat → ClassId) (dI : Nat → Nat → Nat) (ca : Nat → ClassId) (H0 : Heap) (σ0 : CST) (a0 : Nat) (a1 : Nat) (x2 : Int32) {P : Int32 → CST → Prop} (hw : x_Sp_step a0 a1 x2 σ0 P) : Met l g_Sp_step (mW g_Sp_step prog_10_method_2_code 4 (some .int)) ({ frames := 4, cells := σ0.2.2.2.2.1, slots := σ0.2.2.2.2.2.1, locals := 89 } : Room) (va_Pc [.ref a0, .ref a1, .int x2] (CPre (dC, dI) ca σ0 H0)) (va_Qi P (CB (dC, dI) ca σ0 H0) (cA σ0 H0.size)) σ0.2.2.2.2.1 σ0.2.2.2.2.2.1 (cA σ0 H0.size) := by
  refine C_ofi (by decide +kernel) rfl rfl rfl (Nat.le_of_ble_eq_true rfl) ?_
  intro p e s m below meth cx Q A ls C hnm hend hH0 h hl
  subst hH0
  have C0 := C
  obtain ⟨⟨hx, hb, hml, hown, hts⟩, hsub⟩ := C0
  obtain ⟨cells, e_cells⟩ : ∃ z : Nat, z = 0 := ⟨_, rfl⟩
  obtain ⟨slots, e_slots⟩ : ∃ z : Nat, z = 0 := ⟨_, rfl⟩
  have h : CH (dC, dI) A ca ({ frames := 4, cells := σ0.2.2.2.2.1, slots := σ0.2.2.2.2.2.1, locals := 89 } : Room) σ0.2.2.2.2.2.2 σ0 s s.heap [] cells slots := by rw [e_cells, e_slots]; exact h
  show W p l e ({ frames := 4, cells := σ0.2.2.2.2.1, slots := σ0.2.2.2.2.2.1, locals := 89 } : Room) s m ([.ref a0, .ref a1, .int x2] : List Value).toArray below meth cx s.heap [] 0 0 Q (F0 m 0 ls [])
  rw [show W p l e ({ frames := 4, cells := σ0.2.2.2.2.1, slots := σ0.2.2.2.2.2.1, locals := 89 } : Room) s m ([.ref a0, .ref a1, .int x2] : List Value).toArray below meth cx s.heap [] 0 0 Q (F0 m 0 ls []) = W p l e ({ frames := 4, cells := σ0.2.2.2.2.1, slots := σ0.2.2.2.2.2.1, locals := 89 } : Room) s m ([.ref a0, .ref a1, .int x2] : List Value).toArray below meth cx s.heap [] cells slots Q (F0 m 0 ls []) by rw [e_cells, e_slots]]
  have K_204 : ∀ (u9 : Unit), ∀ (σ : CST) (H : Heap) (locs : List Loc) (cells slots : Nat) (ls : Array Slot), x_Sp_step_204 a0 a1 P σ → CH (dC, dI) A ca ({ frames := 4, cells := σ0.2.2.2.2.1, slots := σ0.2.2.2.2.2.1, locals := 89 } : Room) σ0.2.2.2.2.2.2 σ s H locs cells slots → lv_has ls 4 [(0, .ref a0)] → W p l e ({ frames := 4, cells := σ0.2.2.2.2.1, slots := σ0.2.2.2.2.2.1, locals := 89 } : Room) s m ([.ref a0, .ref a1, .int x2] : List Value).toArray below meth cx H locs cells slots Q (F0 m 204 ls []) := by
    intro u9  σ H locs cells slots ls hw h hl
    unfold x_Sp_step_204 at hw
    refine lv_aload_n hx hb h_Sp_step_204 rfl (lv_at hl 0 rfl) ?_
    obtain ⟨g1, hw⟩ := hw
    refine C_get C h 9 4 (v := .int (σ.2.1 a0 4)) g1 rfl (Cn := R_Sp) (T := T_Sp) (N := 5) rfl (by decide) rfl uw_Sp (by decide) u_515 (fun _ q => q) h_Sp_step_205 ?_
    exact hend (σ.2.1 a0 4) σ _ _ _ _ _ _ hw h h_Sp_step_208
  have K_174 : ∀ (u9 : Unit), ∀ (z2 : Int32) (z3 : Int32) (σ : CST) (H : Heap) (locs : List Loc) (cells slots : Nat) (ls : Array Slot), x_Sp_step_174 a0 a1 P z2 z3 σ → CH (dC, dI) A ca ({ frames := 4, cells := σ0.2.2.2.2.1, slots := σ0.2.2.2.2.2.1, locals := 89 } : Room) σ0.2.2.2.2.2.2 σ s H locs cells slots → lv_has ls 4 [(0, .ref a0), (2, .int z2), (3, .int z3)] → W p l e ({ frames := 4, cells := σ0.2.2.2.2.1, slots := σ0.2.2.2.2.2.1, locals := 89 } : Room) s m ([.ref a0, .ref a1, .int x2] : List Value).toArray below meth cx H locs cells slots Q (F0 m 174 ls []) := by
    intro u9 z2 z3 σ H locs cells slots ls hw h hl
    unfold x_Sp_step_174 at hw
    refine lv_iload_n hx hb h_Sp_step_174 rfl (lv_at hl 2 rfl) ?_
    refine C_callSi (As := [.int z3]) (rest := []) C h (X_Op_endsFlow l dC dI ca H σ z3 hw) (va_cwS 1 hts (gS hsub u_628 u_629 u_327 u_630) rfl rfl rfl (by decide +kernel) ⟨(Nat.le_of_ble_eq_true rfl), (Nat.le_of_ble_eq_true rfl)⟩) rfl hl.1 (Nat.le_of_ble_eq_true rfl) h_Sp_step_175 (fun r3 σ2 H locs cells slots hw9 h9 => ?_)
    clear hw h; have hw := hw9; have h := h9; clear hw9 h9
    refine W.eq (g2 := F0 m 178 ls [.int r3]) rfl ?_
    refine lv_if_ne (tgt := 204) hx hb h_Sp_step_178 (by decide) (fun c4 => ?_) (fun c4 => ?_)
    · skip
      replace hw := hw.2 c4
      exact K_204 () σ2 _ _ _ _ _ hw h (lv_sub hl [0] rfl)
    · skip
      replace hw := hw.1 c4
      refine lv_iload_n hx hb h_Sp_step_181 rfl (lv_at hl 1 rfl) ?_
      refine lv_iload_n hx hb h_Sp_step_182 rfl (lv_at hl 2 rfl) ?_
      refine C_callSi (As := [.int z3]) (rest := [.int z2]) C h (X_Op_length l dC dI ca H σ2 z3 hw) (va_cwS 1 hts (gS hsub u_631 u_326 u_327 u_328) rfl rfl rfl (by decide +kernel) ⟨(Nat.le_of_ble_eq_true rfl), (Nat.le_of_ble_eq_true rfl)⟩) rfl hl.1 (Nat.le_of_ble_eq_true rfl) h_Sp_step_183 (fun r6 σ5 H locs cells slots hw9 h9 => ?_)
      clear hw h; have hw := hw9; have h := h9; clear hw9 h9
      refine W.eq (g2 := F0 m 186 ls [.int r6, .int z2]) rfl ?_
      refine lv_iadd hx hb h_Sp_step_186 ?_
      refine lv_aload_n hx hb h_Sp_step_187 rfl (lv_at hl 0 rfl) ?_
      obtain ⟨g7, hw⟩ := hw
      refine C_get C h 9 1 (v := va_rf (σ5.2.2.2.1 a0 1)) g7 rfl (Cn := R_Sp) (T := T_Sp) (N := 5) rfl (by decide) rfl uw_Sp (by decide) u_514 (fun _ q => q) h_Sp_step_188 ?_
      refine lv_topq (fun b8 e_b8 => ?_)
      replace hw := hw b8 e_b8
      obtain ⟨r9, e_r9, hw⟩ := hw
      subst e_r9
      have hl : lv_has ls 4 [(0, .ref a0), (2, .int z2), (3, .int z3)] := hl
      refine W.eq (g2 := F0 m 191 ls [.ref r9, .int (z2 + r6)]) rfl ?_
      obtain ⟨g10, hw⟩ := hw
      refine C_get C h 5 2 (v := va_rf (σ5.2.2.2.1 r9 2)) g10 rfl (Cn := R_E) (T := T_E) (N := 13) rfl (by decide) rfl uw_E (by decide) u_632 (fun _ q => q) h_Sp_step_191 ?_
      refine lv_topq (fun b11 e_b11 => ?_)
      replace hw := hw b11 e_b11
      obtain ⟨r12, e_r12, hw⟩ := hw
      subst e_r12
      have hl : lv_has ls 4 [(0, .ref a0), (2, .int z2), (3, .int z3)] := hl
      refine W.eq (g2 := F0 m 194 ls [.ref r12, .int (z2 + r6)]) rfl ?_
      obtain ⟨n14, g13, hw⟩ := hw
      refine C_alen C h 20 0 rfl (by decide) g13 h_Sp_step_194 ?_
      refine lv_icmp_lt (tgt := 204) hx hb h_Sp_step_195 (by decide) (fun c15 => ?_) (fun c15 => ?_)
      · skip
        replace hw := hw.1 c15
        exact K_204 () σ5 _ _ _ _ _ hw h (lv_sub hl [0] rfl)
      · skip
        replace hw := hw.2 c15
        refine lv_aload_n hx hb h_Sp_step_198 rfl (lv_at hl 0 rfl) ?_
        refine lv_bipush (v := 8) hx hb h_Sp_step_199 (by decide) ?_
        refine C_callVv (As := [.int 8]) (rest := []) C h (ci := 9) (Cn := R_Sp) (T := T_Sp) (N := 5) g7 rfl (by decide) (X_Sp_fail l dC dI ca H σ5 a0 (8 : Int32) hw) (cwV 1 hts (gV hsub u_521 u_522 u_523 u_524 u_525) rfl rfl rfl (by decide +kernel) ⟨(Nat.le_of_ble_eq_true rfl), (Nat.le_of_ble_eq_true rfl)⟩) rfl hl.1 (Nat.le_of_ble_eq_true rfl) h_Sp_step_201 (fun σ16 H locs cells slots hw9 h9 => ?_)
        clear hw h; have hw := hw9; have h := h9; clear hw9 h9
        refine W.eq (g2 := F0 m 204 ls []) rfl ?_
        exact K_204 () σ16 _ _ _ _ _ hw h (lv_sub hl [0] rfl)
  have hl : lv_has ls 4 [(0, .ref a0), (1, .ref a1), (2, .int x2)] := hl
  unfold x_Sp_step at hw
  refine lv_aload_n hx hb h_Sp_step_0 rfl (lv_at hl 0 rfl) ?_
  refine lv_aload_n hx hb h_Sp_step_1 rfl (lv_at hl 1 rfl) ?_
  obtain ⟨g18, hw⟩ := hw
  refine C_putr C h 9 2 (v := (some a1)) (ty := (.object "MapFramer$State")) g18 (Cn := R_Sp) (T := T_Sp) (N := 5) rfl (by decide) rfl uw_Sp tok_Sp nm_Sp (by decide) rfl u_516 (fun _ q => q) (Or.inl rfl) (by decide +kernel) ck_o h_Sp_step_2 (fun H locs h => ?_)
  obtain ⟨σ19, e_σ19⟩ : ∃ z : CST, z = sR σ0 a0 2 (some a1) := ⟨_, rfl⟩
  rw [← e_σ19] at h
  replace hw := hw σ19 e_σ19
  refine lv_aload_n hx hb h_Sp_step_5 rfl (lv_at hl 0 rfl) ?_
  refine lv_iload_n hx hb h_Sp_step_6 rfl (lv_at hl 2 rfl) ?_
  obtain ⟨g20, hw⟩ := hw
  refine C_puti C h 9 3 g20 (Cn := R_Sp) (T := T_Sp) (N := 5) rfl (by decide) rfl uw_Sp tok_Sp nm_Sp (by decide) rfl u_544 (fun _ q => q) (Or.inl rfl) (by decide +kernel) h_Sp_step_7 (fun H locs h => ?_)
  obtain ⟨σ21, e_σ21⟩ : ∃ z : CST, z = sI σ19 a0 3 x2 := ⟨_, rfl⟩
  rw [← e_σ21] at h
  replace hw := hw σ21 e_σ21
  refine lv_aload_n hx hb h_Sp_step_10 rfl (lv_at hl 0 rfl) ?_
  refine lv_iconst (v := 0) hx hb h_Sp_step_11 (by decide) ?_
  obtain ⟨g22, hw⟩ := hw
  refine C_puti C h 9 4 g22 (Cn := R_Sp) (T := T_Sp) (N := 5) rfl (by decide) rfl uw_Sp tok_Sp nm_Sp (by decide) rfl u_515 (fun _ q => q) (Or.inl rfl) (by decide +kernel) h_Sp_step_12 (fun H locs h => ?_)
  obtain ⟨σ23, e_σ23⟩ : ∃ z : CST, z = sI σ21 a0 4 (0 : Int32) := ⟨_, rfl⟩
  rw [← e_σ23] at h
  replace hw := hw σ23 e_σ23
  refine lv_aload_n hx hb h_Sp_step_15 rfl (lv_at hl 0 rfl) ?_
  obtain ⟨g24, hw⟩ := hw
  refine C_get C h 9 1 (v := va_rf (σ23.2.2.2.1 a0 1)) g24 rfl (Cn := R_Sp) (T := T_Sp) (N := 5) rfl (by decide) rfl uw_Sp (by decide) u_514 (fun _ q => q) h_Sp_step_16 ?_
  refine lv_topq (fun b25 e_b25 => ?_)
  replace hw := hw b25 e_b25
  refine lv_iload_n hx hb h_Sp_step_19 rfl (lv_at hl 2 rfl) ?_
  obtain ⟨r26, e_r26, hw⟩ := hw
  subst e_r26
  have hl : lv_has ls 4 [(0, .ref a0), (1, .ref a1), (2, .int x2)] := hl
  refine W.eq (g2 := F0 m 20 ls [.int x2, .ref r26]) rfl ?_
  obtain ⟨g27, hw⟩ := hw
  refine C_callVi (As := [.int x2]) (rest := []) C h (ci := 5) (Cn := R_E) (T := T_E) (N := 13) g27 rfl (by decide) (X_E_byteAt l dC dI ca H σ23 r26 x2 hw) (cwV 1 hts (gV hsub u_545 u_227 u_228 u_229 u_230) rfl rfl rfl (by decide +kernel) ⟨(Nat.le_of_ble_eq_true rfl), (Nat.le_of_ble_eq_true rfl)⟩) rfl hl.1 (Nat.le_of_ble_eq_true rfl) h_Sp_step_20 (fun r29 σ28 H locs cells slots hw9 h9 => ?_)
  clear hw h; have hw := hw9; have h := h9; clear hw9 h9
  refine W.eq (g2 := F0 m 23 ls [.int r29]) rfl ?_
  refine lv_istore_n (i := 3) (lv' := [(3, .int r29), (0, .ref a0), (1, .ref a1), (2, .int x2)]) hx hb h_Sp_step_23 rfl hl (by decide) rfl (fun ls hl => ?_)
  refine lv_iload_n hx hb h_Sp_step_24 rfl (lv_at hl 0 rfl) ?_
  refine lv_bipush (v := 17) hx hb h_Sp_step_25 (by decide) ?_
  refine lv_icmp_gt (tgt := 38) hx hb h_Sp_step_27 (by decide) (fun c30 => ?_) (fun c30 => ?_)
  · skip
    replace hw := hw.1 c30
    refine lv_iload_n hx hb h_Sp_step_38 rfl (lv_at hl 0 rfl) ?_
    refine C_callSi (As := [.int r29]) (rest := []) C h (X_Op_isGet l dC dI ca H σ28 r29 hw) (va_cwS 1 hts (gS hsub u_633 u_376 u_327 u_377) rfl rfl rfl (by decide +kernel) ⟨(Nat.le_of_ble_eq_true rfl), (Nat.le_of_ble_eq_true rfl)⟩) rfl hl.1 (Nat.le_of_ble_eq_true rfl) h_Sp_step_39 (fun r32 σ31 H locs cells slots hw9 h9 => ?_)
    clear hw h; have hw := hw9; have h := h9; clear hw9 h9
    refine W.eq (g2 := F0 m 42 ls [.int r32]) rfl ?_
    refine lv_if_eq (tgt := 53) hx hb h_Sp_step_42 (by decide) (fun c33 => ?_) (fun c33 => ?_)
    · skip
      replace hw := hw.1 c33
      refine lv_iload_n hx hb h_Sp_step_53 rfl (lv_at hl 0 rfl) ?_
      refine lv_bipush (v := 58) hx hb h_Sp_step_54 (by decide) ?_
      refine lv_icmp_gt (tgt := 67) hx hb h_Sp_step_56 (by decide) (fun c34 => ?_) (fun c34 => ?_)
      · skip
        replace hw := hw.1 c34
        refine lv_iload_n hx hb h_Sp_step_67 rfl (lv_at hl 0 rfl) ?_
        refine lv_bipush (v := 83) hx hb h_Sp_step_68 (by decide) ?_
        refine lv_icmp_gt (tgt := 81) hx hb h_Sp_step_70 (by decide) (fun c35 => ?_) (fun c35 => ?_)
        · skip
          replace hw := hw.1 c35
          refine lv_iload_n hx hb h_Sp_step_81 rfl (lv_at hl 0 rfl) ?_
          refine lv_bipush (v := 95) hx hb h_Sp_step_82 (by decide) ?_
          refine lv_icmp_gt (tgt := 95) hx hb h_Sp_step_84 (by decide) (fun c36 => ?_) (fun c36 => ?_)
          · skip
            replace hw := hw.1 c36
            refine lv_iload_n hx hb h_Sp_step_95 rfl (lv_at hl 0 rfl) ?_
            refine lv_sipush (v := 148) hx hb h_Sp_step_96 (by decide) ?_
            refine lv_icmp_gt (tgt := 110) hx hb h_Sp_step_99 (by decide) (fun c37 => ?_) (fun c37 => ?_)
            · skip
              replace hw := hw.1 c37
              refine lv_iload_n hx hb h_Sp_step_110 rfl (lv_at hl 0 rfl) ?_
              refine C_callSi (As := [.int r29]) (rest := []) C h (X_Op_isBranch l dC dI ca H σ31 r29 hw) (va_cwS 1 hts (gS hsub u_634 u_379 u_327 u_380) rfl rfl rfl (by decide +kernel) ⟨(Nat.le_of_ble_eq_true rfl), (Nat.le_of_ble_eq_true rfl)⟩) rfl hl.1 (Nat.le_of_ble_eq_true rfl) h_Sp_step_111 (fun r39 σ38 H locs cells slots hw9 h9 => ?_)
              clear hw h; have hw := hw9; have h := h9; clear hw9 h9
              refine W.eq (g2 := F0 m 114 ls [.int r39]) rfl ?_
              refine lv_if_eq (tgt := 125) hx hb h_Sp_step_114 (by decide) (fun c40 => ?_) (fun c40 => ?_)
              · skip
                replace hw := hw.1 c40
                refine lv_iload_n hx hb h_Sp_step_125 rfl (lv_at hl 0 rfl) ?_
                refine lv_sipush (v := 177) hx hb h_Sp_step_126 (by decide) ?_
                refine lv_icmp_gt (tgt := 140) hx hb h_Sp_step_129 (by decide) (fun c41 => ?_) (fun c41 => ?_)
                · skip
                  replace hw := hw.1 c41
                  refine lv_iload_n hx hb h_Sp_step_140 rfl (lv_at hl 0 rfl) ?_
                  refine lv_sipush (v := 181) hx hb h_Sp_step_141 (by decide) ?_
                  refine lv_icmp_gt (tgt := 155) hx hb h_Sp_step_144 (by decide) (fun c42 => ?_) (fun c42 => ?_)
                  · skip
                    replace hw := hw.1 c42
                    refine lv_iload_n hx hb h_Sp_step_155 rfl (lv_at hl 0 rfl) ?_
                    refine lv_sipush (v := 184) hx hb h_Sp_step_156 (by decide) ?_
                    refine lv_icmp_ne (tgt := 169) hx hb h_Sp_step_159 (by decide) (fun c43 => ?_) (fun c43 => ?_)
                    · skip
                      replace hw := hw.2 c43
                      refine lv_aload_n hx hb h_Sp_step_169 rfl (lv_at hl 1 rfl) ?_
                      refine lv_iload_n hx hb h_Sp_step_170 rfl (lv_at hl 0 rfl) ?_
                      obtain ⟨g44, hw⟩ := hw
                      refine C_callVv (As := [.int r29]) (rest := []) C h (ci := 9) (Cn := R_Sp) (T := T_Sp) (N := 5) g44 rfl (by decide) (X_Sp_useObject l dC dI ca H σ38 a0 r29 hw) (cwV 1 hts (gV hsub u_635 u_636 u_637 u_524 u_638) rfl rfl rfl (by decide +kernel) ⟨(Nat.le_of_ble_eq_true rfl), (Nat.le_of_ble_eq_true rfl)⟩) rfl hl.1 (Nat.le_of_ble_eq_true rfl) h_Sp_step_171 (fun σ45 H locs cells slots hw9 h9 => ?_)
                      clear hw h; have hw := hw9; have h := h9; clear hw9 h9
                      refine W.eq (g2 := F0 m 174 ls []) rfl ?_
                      exact K_174 () x2 r29 σ45 _ _ _ _ _ hw h (lv_sub hl [1, 3, 0] rfl)
                    · skip
                      replace hw := hw.1 c43
                      refine lv_aload_n hx hb h_Sp_step_162 rfl (lv_at hl 1 rfl) ?_
                      obtain ⟨g47, hw⟩ := hw
                      refine C_callVv (As := []) (rest := []) C h (ci := 9) (Cn := R_Sp) (T := T_Sp) (N := 5) g47 rfl (by decide) (X_Sp_callMethod l dC dI ca H σ38 a0 hw) (cwV 0 hts (gV hsub u_639 u_640 u_641 u_524 u_642) rfl rfl rfl (by decide +kernel) ⟨(Nat.le_of_ble_eq_true rfl), (Nat.le_of_ble_eq_true rfl)⟩) rfl hl.1 (Nat.le_of_ble_eq_true rfl) h_Sp_step_163 (fun σ48 H locs cells slots hw9 h9 => ?_)
                      clear hw h; have hw := hw9; have h := h9; clear hw9 h9
                      refine W.eq (g2 := F0 m 166 ls []) rfl ?_
                      refine lv_goto (tgt := 174) hx hb h_Sp_step_166 (by decide) ?_
                      exact K_174 () x2 r29 σ48 _ _ _ _ _ hw h (lv_sub hl [1, 3, 0] rfl)
                  · skip
                    replace hw := hw.2 c42
                    refine lv_aload_n hx hb h_Sp_step_147 rfl (lv_at hl 1 rfl) ?_
                    refine lv_iload_n hx hb h_Sp_step_148 rfl (lv_at hl 0 rfl) ?_
                    obtain ⟨g50, hw⟩ := hw
                    refine C_callVv (As := [.int r29]) (rest := []) C h (ci := 9) (Cn := R_Sp) (T := T_Sp) (N := 5) g50 rfl (by decide) (X_Sp_useField l dC dI ca H σ38 a0 r29 hw) (cwV 1 hts (gV hsub u_643 u_644 u_645 u_524 u_646) rfl rfl rfl (by decide +kernel) ⟨(Nat.le_of_ble_eq_true rfl), (Nat.le_of_ble_eq_true rfl)⟩) rfl hl.1 (Nat.le_of_ble_eq_true rfl) h_Sp_step_149 (fun σ51 H locs cells slots hw9 h9 => ?_)
                    clear hw h; have hw := hw9; have h := h9; clear hw9 h9
                    refine W.eq (g2 := F0 m 152 ls []) rfl ?_
                    refine lv_goto (tgt := 174) hx hb h_Sp_step_152 (by decide) ?_
                    exact K_174 () x2 r29 σ51 _ _ _ _ _ hw h (lv_sub hl [1, 3, 0] rfl)
                · skip
                  replace hw := hw.2 c41
                  refine lv_aload_n hx hb h_Sp_step_132 rfl (lv_at hl 1 rfl) ?_
                  refine lv_iload_n hx hb h_Sp_step_133 rfl (lv_at hl 0 rfl) ?_
                  obtain ⟨g53, hw⟩ := hw
                  refine C_callVv (As := [.int r29]) (rest := []) C h (ci := 9) (Cn := R_Sp) (T := T_Sp) (N := 5) g53 rfl (by decide) (X_Sp_popResult l dC dI ca H σ38 a0 r29 hw) (cwV 1 hts (gV hsub u_647 u_648 u_649 u_524 u_650) rfl rfl rfl (by decide +kernel) ⟨(Nat.le_of_ble_eq_true rfl), (Nat.le_of_ble_eq_true rfl)⟩) rfl hl.1 (Nat.le_of_ble_eq_true rfl) h_Sp_step_134 (fun σ54 H locs cells slots hw9 h9 => ?_)
                  clear hw h; have hw := hw9; have h := h9; clear hw9 h9
                  refine W.eq (g2 := F0 m 137 ls []) rfl ?_
                  refine lv_goto (tgt := 174) hx hb h_Sp_step_137 (by decide) ?_
                  exact K_174 () x2 r29 σ54 _ _ _ _ _ hw h (lv_sub hl [1, 3, 0] rfl)
              · skip
                replace hw := hw.2 c40
                refine lv_aload_n hx hb h_Sp_step_117 rfl (lv_at hl 1 rfl) ?_
                refine lv_iload_n hx hb h_Sp_step_118 rfl (lv_at hl 0 rfl) ?_
                obtain ⟨g56, hw⟩ := hw
                refine C_callVv (As := [.int r29]) (rest := []) C h (ci := 9) (Cn := R_Sp) (T := T_Sp) (N := 5) g56 rfl (by decide) (X_Sp_popCondition l dC dI ca H σ38 a0 r29 hw) (cwV 1 hts (gV hsub u_651 u_652 u_653 u_524 u_654) rfl rfl rfl (by decide +kernel) ⟨(Nat.le_of_ble_eq_true rfl), (Nat.le_of_ble_eq_true rfl)⟩) rfl hl.1 (Nat.le_of_ble_eq_true rfl) h_Sp_step_119 (fun σ57 H locs cells slots hw9 h9 => ?_)
                clear hw h; have hw := hw9; have h := h9; clear hw9 h9
                refine W.eq (g2 := F0 m 122 ls []) rfl ?_
                refine lv_goto (tgt := 174) hx hb h_Sp_step_122 (by decide) ?_
                exact K_174 () x2 r29 σ57 _ _ _ _ _ hw h (lv_sub hl [1, 3, 0] rfl)
            · skip
              replace hw := hw.2 c37
              refine lv_aload_n hx hb h_Sp_step_102 rfl (lv_at hl 1 rfl) ?_
              refine lv_iload_n hx hb h_Sp_step_103 rfl (lv_at hl 0 rfl) ?_
              obtain ⟨g59, hw⟩ := hw
              refine C_callVv (As := [.int r29]) (rest := []) C h (ci := 9) (Cn := R_Sp) (T := T_Sp) (N := 5) g59 rfl (by decide) (X_Sp_reckon l dC dI ca H σ31 a0 r29 hw) (cwV 1 hts (gV hsub u_655 u_656 u_657 u_524 u_658) rfl rfl rfl (by decide +kernel) ⟨(Nat.le_of_ble_eq_true rfl), (Nat.le_of_ble_eq_true rfl)⟩) rfl hl.1 (Nat.le_of_ble_eq_true rfl) h_Sp_step_104 (fun σ60 H locs cells slots hw9 h9 => ?_)
              clear hw h; have hw := hw9; have h := h9; clear hw9 h9
              refine W.eq (g2 := F0 m 107 ls []) rfl ?_
              refine lv_goto (tgt := 174) hx hb h_Sp_step_107 (by decide) ?_
              exact K_174 () x2 r29 σ60 _ _ _ _ _ hw h (lv_sub hl [1, 3, 0] rfl)
          · skip
            replace hw := hw.2 c36
            refine lv_aload_n hx hb h_Sp_step_87 rfl (lv_at hl 1 rfl) ?_
            refine lv_iload_n hx hb h_Sp_step_88 rfl (lv_at hl 0 rfl) ?_
            obtain ⟨g62, hw⟩ := hw
            refine C_callVv (As := [.int r29]) (rest := []) C h (ci := 9) (Cn := R_Sp) (T := T_Sp) (N := 5) g62 rfl (by decide) (X_Sp_moveOnStack l dC dI ca H σ31 a0 r29 hw) (cwV 1 hts (gV hsub u_659 u_660 u_661 u_524 u_662) rfl rfl rfl (by decide +kernel) ⟨(Nat.le_of_ble_eq_true rfl), (Nat.le_of_ble_eq_true rfl)⟩) rfl hl.1 (Nat.le_of_ble_eq_true rfl) h_Sp_step_89 (fun σ63 H locs cells slots hw9 h9 => ?_)
            clear hw h; have hw := hw9; have h := h9; clear hw9 h9
            refine W.eq (g2 := F0 m 92 ls []) rfl ?_
            refine lv_goto (tgt := 174) hx hb h_Sp_step_92 (by decide) ?_
            exact K_174 () x2 r29 σ63 _ _ _ _ _ hw h (lv_sub hl [1, 3, 0] rfl)
        · skip
          replace hw := hw.2 c35
          refine lv_aload_n hx hb h_Sp_step_73 rfl (lv_at hl 1 rfl) ?_
          refine lv_iload_n hx hb h_Sp_step_74 rfl (lv_at hl 0 rfl) ?_
          obtain ⟨g65, hw⟩ := hw
          refine C_callVv (As := [.int r29]) (rest := []) C h (ci := 9) (Cn := R_Sp) (T := T_Sp) (N := 5) g65 rfl (by decide) (X_Sp_putElement l dC dI ca H σ31 a0 r29 hw) (cwV 1 hts (gV hsub u_663 u_664 u_665 u_524 u_666) rfl rfl rfl (by decide +kernel) ⟨(Nat.le_of_ble_eq_true rfl), (Nat.le_of_ble_eq_true rfl)⟩) rfl hl.1 (Nat.le_of_ble_eq_true rfl) h_Sp_step_75 (fun σ66 H locs cells slots hw9 h9 => ?_)
          clear hw h; have hw := hw9; have h := h9; clear hw9 h9
          refine W.eq (g2 := F0 m 78 ls []) rfl ?_
          refine lv_goto (tgt := 174) hx hb h_Sp_step_78 (by decide) ?_
          exact K_174 () x2 r29 σ66 _ _ _ _ _ hw h (lv_sub hl [1, 3, 0] rfl)
      · skip
        replace hw := hw.2 c34
        refine lv_aload_n hx hb h_Sp_step_59 rfl (lv_at hl 1 rfl) ?_
        refine lv_iload_n hx hb h_Sp_step_60 rfl (lv_at hl 0 rfl) ?_
        obtain ⟨g68, hw⟩ := hw
        refine C_callVv (As := [.int r29]) (rest := []) C h (ci := 9) (Cn := R_Sp) (T := T_Sp) (N := 5) g68 rfl (by decide) (X_Sp_useLocal l dC dI ca H σ31 a0 r29 hw) (cwV 1 hts (gV hsub u_667 u_668 u_669 u_524 u_670) rfl rfl rfl (by decide +kernel) ⟨(Nat.le_of_ble_eq_true rfl), (Nat.le_of_ble_eq_true rfl)⟩) rfl hl.1 (Nat.le_of_ble_eq_true rfl) h_Sp_step_61 (fun σ69 H locs cells slots hw9 h9 => ?_)
        clear hw h; have hw := hw9; have h := h9; clear hw9 h9
        refine W.eq (g2 := F0 m 64 ls []) rfl ?_
        refine lv_goto (tgt := 174) hx hb h_Sp_step_64 (by decide) ?_
        exact K_174 () x2 r29 σ69 _ _ _ _ _ hw h (lv_sub hl [1, 3, 0] rfl)
    · skip
      replace hw := hw.2 c33
      refine lv_aload_n hx hb h_Sp_step_45 rfl (lv_at hl 1 rfl) ?_
      refine lv_iload_n hx hb h_Sp_step_46 rfl (lv_at hl 0 rfl) ?_
      obtain ⟨g71, hw⟩ := hw
      refine C_callVv (As := [.int r29]) (rest := []) C h (ci := 9) (Cn := R_Sp) (T := T_Sp) (N := 5) g71 rfl (by decide) (X_Sp_getElement l dC dI ca H σ31 a0 r29 hw) (cwV 1 hts (gV hsub u_671 u_672 u_673 u_524 u_674) rfl rfl rfl (by decide +kernel) ⟨(Nat.le_of_ble_eq_true rfl), (Nat.le_of_ble_eq_true rfl)⟩) rfl hl.1 (Nat.le_of_ble_eq_true rfl) h_Sp_step_47 (fun σ72 H locs cells slots hw9 h9 => ?_)
      clear hw h; have hw := hw9; have h := h9; clear hw9 h9
      refine W.eq (g2 := F0 m 50 ls []) rfl ?_
      refine lv_goto (tgt := 174) hx hb h_Sp_step_50 (by decide) ?_
      exact K_174 () x2 r29 σ72 _ _ _ _ _ hw h (lv_sub hl [1, 3, 0] rfl)
  · skip
    replace hw := hw.2 c30
    refine lv_aload_n hx hb h_Sp_step_30 rfl (lv_at hl 1 rfl) ?_
    refine lv_iload_n hx hb h_Sp_step_31 rfl (lv_at hl 0 rfl) ?_
    obtain ⟨g74, hw⟩ := hw
    refine C_callVv (As := [.int r29]) (rest := []) C h (ci := 9) (Cn := R_Sp) (T := T_Sp) (N := 5) g74 rfl (by decide) (X_Sp_pushConstant l dC dI ca H σ28 a0 r29 hw) (cwV 1 hts (gV hsub u_675 u_676 u_677 u_524 u_678) rfl rfl rfl (by decide +kernel) ⟨(Nat.le_of_ble_eq_true rfl), (Nat.le_of_ble_eq_true rfl)⟩) rfl hl.1 (Nat.le_of_ble_eq_true rfl) h_Sp_step_32 (fun σ75 H locs cells slots hw9 h9 => ?_)
    clear hw h; have hw := hw9; have h := h9; clear hw9 h9
    refine W.eq (g2 := F0 m 35 ls []) rfl ?_
    refine lv_goto (tgt := 174) hx hb h_Sp_step_35 (by decide) ?_
    exact K_174 () x2 r29 σ75 _ _ _ _ _ hw h (lv_sub hl [1, 3, 0] rfl)
abbrev g_Ve_init : MethodName := ⟨"MapFramer$Verifier", "<init>", "(LMapFramer$World;LMapFramer$Method;)V"⟩
theorem u_679 : (Cond.methodLink "MapFramer$Verifier" 3 ⟨"java/lang/Object", "<init>", "()V"⟩ : Cond) ∈ bigW := inB_3 147 (by decide +kernel) rfl
theorem u_680 : (Cond.fieldLink "MapFramer$Verifier" 9 "MapFramer$Verifier" "world" "LMapFramer$World;" : Cond) ∈ bigW := inB_3 195 (by decide +kernel) rfl
theorem u_681 : (Cond.fieldLink "MapFramer$Verifier" 15 "MapFramer$Verifier" "method" "LMapFramer$Method;" : Cond) ∈ bigW := inB_3 196 (by decide +kernel) rfl
theorem u_682 : (Cond.classLink "MapFramer$Verifier" 19 "MapFramer$Stepper" : Cond) ∈ bigW := inB_3 148 (by decide +kernel) rfl
theorem u_683 : (Cond.instantiable "MapFramer$Stepper" 5 : Cond) ∈ bigW := inB_3 149 (by decide +kernel) rfl
theorem u_684 : (Cond.code ⟨"MapFramer$Stepper", "<init>", "(LMapFramer$World;LMapFramer$Method;)V"⟩ prog_10_method_1_code 3 none : Cond) ∈ bigW := inB_3 152 rfl rfl
theorem u_685 : (Cond.methodLink "MapFramer$Verifier" 21 ⟨"MapFramer$Stepper", "<init>", "(LMapFramer$World;LMapFramer$Method;)V"⟩ : Cond) ∈ bigW := inB_3 150 (by decide +kernel) rfl
theorem u_686 : (Cond.instanceMethod ⟨"MapFramer$Stepper", "<init>", "(LMapFramer$World;LMapFramer$Method;)V"⟩ : Cond) ∈ bigW := inB_3 151 (by decide +kernel) rfl
theorem u_687 : (Cond.fieldLink "MapFramer$Verifier" 24 "MapFramer$Verifier" "stepper" "LMapFramer$Stepper;" : Cond) ∈ bigW := inB_3 197 (by decide +kernel) rfl
theorem u_688 : (Cond.fieldLink "MapFramer$Verifier" 28 "MapFramer$Method" "code" "[I" : Cond) ∈ bigW := inB_2 165 (by decide +kernel) rfl
theorem u_689 : (Cond.arrayClass .boolean : Cond) ∈ bigW := inB_1 88 (by decide +kernel) rfl
theorem u_690 : (Cond.fieldLink "MapFramer$Verifier" 34 "MapFramer$Verifier" "begins" "[Z" : Cond) ∈ bigW := inB_3 198 (by decide +kernel) rfl
theorem u_691 : (Cond.fieldLink "MapFramer$Verifier" 38 "MapFramer$Verifier" "waiting" "[Z" : Cond) ∈ bigW := inB_3 199 (by decide +kernel) rfl
theorem u_692 : (Cond.classLink "MapFramer$Verifier" 41 "MapFramer$State" : Cond) ∈ bigW := inB_3 170 (by decide +kernel) rfl
theorem u_693 : (Cond.fieldLink "MapFramer$Verifier" 43 "MapFramer$Verifier" "states" "[LMapFramer$State;" : Cond) ∈ bigW := inB_3 201 (by decide +kernel) rfl
theorem u_694 : (Cond.instantiable "MapFramer$State" 4 : Cond) ∈ bigW := inB_3 171 (by decide +kernel) rfl
theorem u_695 : (Cond.fieldLink "MapFramer$Verifier" 47 "MapFramer$Method" "maxLocals" "I" : Cond) ∈ bigW := inB_2 170 (by decide +kernel) rfl
theorem u_696 : (Cond.fieldLink "MapFramer$Verifier" 51 "MapFramer$Method" "maxStack" "I" : Cond) ∈ bigW := inB_2 168 (by decide +kernel) rfl
theorem u_697 : (Cond.code ⟨"MapFramer$State", "<init>", "(II)V"⟩ prog_9_method_1_code 3 none : Cond) ∈ bigW := inB_3 174 rfl rfl
theorem u_698 : (Cond.methodLink "MapFramer$Verifier" 54 ⟨"MapFramer$State", "<init>", "(II)V"⟩ : Cond) ∈ bigW := inB_3 172 (by decide +kernel) rfl
theorem u_699 : (Cond.instanceMethod ⟨"MapFramer$State", "<init>", "(II)V"⟩ : Cond) ∈ bigW := inB_3 173 (by decide +kernel) rfl
theorem u_700 : (Cond.fieldLink "MapFramer$Verifier" 57 "MapFramer$Verifier" "ahead" "LMapFramer$State;" : Cond) ∈ bigW := inB_3 202 (by decide +kernel) rfl
theorem u_701 : (Cond.fieldLink "MapFramer$Verifier" 61 "MapFramer$Verifier" "behind" "LMapFramer$State;" : Cond) ∈ bigW := inB_3 203 (by decide +kernel) rfl
theorem u_702 : (Cond.fieldLink "MapFramer$Verifier" 64 "MapFramer$Verifier" "caught" "LMapFramer$State;" : Cond) ∈ bigW := inB_3 204 (by decide +kernel) rfl
theorem h_Ve_init_0 : decode prog_11_method_1_code 0 = .ok (.aload_n 0, 1) := by decide +kernel
theorem h_Ve_init_1 : decode prog_11_method_1_code 1 = .ok (.invokespecial 3, 3) := by decide +kernel
theorem h_Ve_init_4 : decode prog_11_method_1_code 4 = .ok (.aload_n 0, 1) := by decide +kernel
theorem h_Ve_init_5 : decode prog_11_method_1_code 5 = .ok (.aload_n 1, 1) := by decide +kernel
theorem h_Ve_init_6 : decode prog_11_method_1_code 6 = .ok (.putfield 9, 3) := by decide +kernel
theorem h_Ve_init_9 : decode prog_11_method_1_code 9 = .ok (.aload_n 0, 1) := by decide +kernel
theorem h_Ve_init_10 : decode prog_11_method_1_code 10 = .ok (.aload_n 2, 1) := by decide +kernel
theorem h_Ve_init_11 : decode prog_11_method_1_code 11 = .ok (.putfield 15, 3) := by decide +kernel
theorem h_Ve_init_14 : decode prog_11_method_1_code 14 = .ok (.aload_n 0, 1) := by decide +kernel
theorem h_Ve_init_15 : decode prog_11_method_1_code 15 = .ok (.new 19, 3) := by decide +kernel
theorem h_Ve_init_18 : decode prog_11_method_1_code 18 = .ok (.dup, 1) := by decide +kernel
theorem h_Ve_init_19 : decode prog_11_method_1_code 19 = .ok (.aload_n 1, 1) := by decide +kernel
theorem h_Ve_init_20 : decode prog_11_method_1_code 20 = .ok (.aload_n 2, 1) := by decide +kernel
theorem h_Ve_init_21 : decode prog_11_method_1_code 21 = .ok (.invokespecial 21, 3) := by decide +kernel
theorem h_Ve_init_24 : decode prog_11_method_1_code 24 = .ok (.putfield 24, 3) := by decide +kernel
theorem h_Ve_init_27 : decode prog_11_method_1_code 27 = .ok (.aload_n 0, 1) := by decide +kernel
theorem h_Ve_init_28 : decode prog_11_method_1_code 28 = .ok (.aload_n 2, 1) := by decide +kernel
theorem h_Ve_init_29 : decode prog_11_method_1_code 29 = .ok (.getfield 28, 3) := by decide +kernel
theorem h_Ve_init_32 : decode prog_11_method_1_code 32 = .ok (.arraylength, 1) := by decide +kernel
theorem h_Ve_init_33 : decode prog_11_method_1_code 33 = .ok (.newarray .boolean, 2) := by decide +kernel
theorem h_Ve_init_35 : decode prog_11_method_1_code 35 = .ok (.putfield 34, 3) := by decide +kernel
theorem h_Ve_init_38 : decode prog_11_method_1_code 38 = .ok (.aload_n 0, 1) := by decide +kernel
theorem h_Ve_init_39 : decode prog_11_method_1_code 39 = .ok (.aload_n 2, 1) := by decide +kernel
theorem h_Ve_init_40 : decode prog_11_method_1_code 40 = .ok (.getfield 28, 3) := by decide +kernel
theorem h_Ve_init_43 : decode prog_11_method_1_code 43 = .ok (.arraylength, 1) := by decide +kernel
theorem h_Ve_init_44 : decode prog_11_method_1_code 44 = .ok (.newarray .boolean, 2) := by decide +kernel
theorem h_Ve_init_46 : decode prog_11_method_1_code 46 = .ok (.putfield 38, 3) := by decide +kernel
theorem h_Ve_init_49 : decode prog_11_method_1_code 49 = .ok (.aload_n 0, 1) := by decide +kernel
theorem h_Ve_init_50 : decode prog_11_method_1_code 50 = .ok (.aload_n 2, 1) := by decide +kernel
theorem h_Ve_init_51 : decode prog_11_method_1_code 51 = .ok (.getfield 28, 3) := by decide +kernel
theorem h_Ve_init_54 : decode prog_11_method_1_code 54 = .ok (.arraylength, 1) := by decide +kernel
theorem h_Ve_init_55 : decode prog_11_method_1_code 55 = .ok (.anewarray 41, 3) := by decide +kernel
theorem h_Ve_init_58 : decode prog_11_method_1_code 58 = .ok (.putfield 43, 3) := by decide +kernel
theorem h_Ve_init_61 : decode prog_11_method_1_code 61 = .ok (.aload_n 0, 1) := by decide +kernel
theorem h_Ve_init_62 : decode prog_11_method_1_code 62 = .ok (.new 41, 3) := by decide +kernel
theorem h_Ve_init_65 : decode prog_11_method_1_code 65 = .ok (.dup, 1) := by decide +kernel
theorem h_Ve_init_66 : decode prog_11_method_1_code 66 = .ok (.aload_n 2, 1) := by decide +kernel
theorem h_Ve_init_67 : decode prog_11_method_1_code 67 = .ok (.getfield 47, 3) := by decide +kernel
theorem h_Ve_init_70 : decode prog_11_method_1_code 70 = .ok (.aload_n 2, 1) := by decide +kernel
theorem h_Ve_init_71 : decode prog_11_method_1_code 71 = .ok (.getfield 51, 3) := by decide +kernel
theorem h_Ve_init_74 : decode prog_11_method_1_code 74 = .ok (.invokespecial 54, 3) := by decide +kernel
theorem h_Ve_init_77 : decode prog_11_method_1_code 77 = .ok (.putfield 57, 3) := by decide +kernel
theorem h_Ve_init_80 : decode prog_11_method_1_code 80 = .ok (.aload_n 0, 1) := by decide +kernel
theorem h_Ve_init_81 : decode prog_11_method_1_code 81 = .ok (.new 41, 3) := by decide +kernel
theorem h_Ve_init_84 : decode prog_11_method_1_code 84 = .ok (.dup, 1) := by decide +kernel
theorem h_Ve_init_85 : decode prog_11_method_1_code 85 = .ok (.aload_n 2, 1) := by decide +kernel
theorem h_Ve_init_86 : decode prog_11_method_1_code 86 = .ok (.getfield 47, 3) := by decide +kernel
theorem h_Ve_init_89 : decode prog_11_method_1_code 89 = .ok (.aload_n 2, 1) := by decide +kernel
theorem h_Ve_init_90 : decode prog_11_method_1_code 90 = .ok (.getfield 51, 3) := by decide +kernel
theorem h_Ve_init_93 : decode prog_11_method_1_code 93 = .ok (.invokespecial 54, 3) := by decide +kernel
theorem h_Ve_init_96 : decode prog_11_method_1_code 96 = .ok (.putfield 61, 3) := by decide +kernel
theorem h_Ve_init_99 : decode prog_11_method_1_code 99 = .ok (.aload_n 0, 1) := by decide +kernel
theorem h_Ve_init_100 : decode prog_11_method_1_code 100 = .ok (.new 41, 3) := by decide +kernel
theorem h_Ve_init_103 : decode prog_11_method_1_code 103 = .ok (.dup, 1) := by decide +kernel
theorem h_Ve_init_104 : decode prog_11_method_1_code 104 = .ok (.aload_n 2, 1) := by decide +kernel
theorem h_Ve_init_105 : decode prog_11_method_1_code 105 = .ok (.getfield 47, 3) := by decide +kernel
theorem h_Ve_init_108 : decode prog_11_method_1_code 108 = .ok (.aload_n 2, 1) := by decide +kernel
theorem h_Ve_init_109 : decode prog_11_method_1_code 109 = .ok (.getfield 51, 3) := by decide +kernel
theorem h_Ve_init_112 : decode prog_11_method_1_code 112 = .ok (.invokespecial 54, 3) := by decide +kernel
theorem h_Ve_init_115 : decode prog_11_method_1_code 115 = .ok (.putfield 64, 3) := by decide +kernel
theorem h_Ve_init_118 : decode prog_11_method_1_code 118 = .ok (.return_, 1) := by decide +kernel
def x_Ve_init (a0 : Nat) (a1 : Nat) (a2 : Nat) (σ0 : CST) (P : CST → Prop) : Prop := σ0.1 a0 = some (10, 0) ∧ (∀ σ2 : CST, σ2 = sR σ0 a0 0 (some a1) → σ2.1 a0 = some (10, 0) ∧ (∀ σ4 : CST, σ4 = sR σ2 a0 1 (some a2) → (1 ≤ σ4.2.2.2.2.1 ∧ 5 ≤ σ4.2.2.2.2.2.1 ∧ ∀ q5 : Nat, σ4.1 q5 = none → q5 ≠ σ4.2.2.2.2.2.2.1 → ∀ σ9 : CST, σ9 = nw σ4 q5 9 0 5 → x_Sp_init q5 a1 a2 σ9 (fun σ10 => σ10.1 a0 = some (10, 0) ∧ (∀ σ13 : CST, σ13 = sR σ10 a0 2 (some q5) → σ13.1 a2 = some (5, 0) ∧ (∀ b15 : Option Nat, b15 = (σ13.2.2.2.1 a2 2) → (∃ r16 : Nat, b15 = some r16 ∧ ((∃ n18 : Nat, σ13.1 r16 = some (20, n18) ∧ ((¬ ((Int32.ofNat n18) : Int32) < 0 ∧ ((Int32.ofNat n18) : Int32).toNatClampNeg ≤ 60000000 ∧ 1 ≤ σ13.2.2.2.2.1 ∧ ((Int32.ofNat n18) : Int32).toNatClampNeg ≤ σ13.2.2.2.2.2.1 ∧ ∀ q19 : Nat, σ13.1 q19 = none → q19 ≠ σ13.2.2.2.2.2.2.1 → ∀ σ25 : CST, σ25 = nw σ13 q19 21 ((Int32.ofNat n18) : Int32).toNatClampNeg ((Int32.ofNat n18) : Int32).toNatClampNeg → σ25.1 a0 = some (10, 0) ∧ (∀ σ27 : CST, σ27 = sR σ25 a0 3 (some q19) → σ27.1 a2 = some (5, 0) ∧ (∀ b29 : Option Nat, b29 = (σ27.2.2.2.1 a2 2) → (∃ r30 : Nat, b29 = some r30 ∧ ((∃ n32 : Nat, σ27.1 r30 = some (20, n32) ∧ ((¬ ((Int32.ofNat n32) : Int32) < 0 ∧ ((Int32.ofNat n32) : Int32).toNatClampNeg ≤ 60000000 ∧ 1 ≤ σ27.2.2.2.2.1 ∧ ((Int32.ofNat n32) : Int32).toNatClampNeg ≤ σ27.2.2.2.2.2.1 ∧ ∀ q33 : Nat, σ27.1 q33 = none → q33 ≠ σ27.2.2.2.2.2.2.1 → ∀ σ39 : CST, σ39 = nw σ27 q33 21 ((Int32.ofNat n32) : Int32).toNatClampNeg ((Int32.ofNat n32) : Int32).toNatClampNeg → σ39.1 a0 = some (10, 0) ∧ (∀ σ41 : CST, σ41 = sR σ39 a0 4 (some q33) → σ41.1 a2 = some (5, 0) ∧ (∀ b43 : Option Nat, b43 = (σ41.2.2.2.1 a2 2) → (∃ r44 : Nat, b43 = some r44 ∧ ((∃ n46 : Nat, σ41.1 r44 = some (20, n46) ∧ ((¬ ((Int32.ofNat n46) : Int32) < 0 ∧ ((Int32.ofNat n46) : Int32).toNatClampNeg ≤ 60000000 ∧ 1 ≤ σ41.2.2.2.2.1 ∧ ((Int32.ofNat n46) : Int32).toNatClampNeg ≤ σ41.2.2.2.2.2.1 ∧ ∀ q47 : Nat, σ41.1 q47 = none → q47 ≠ σ41.2.2.2.2.2.2.1 → ∀ σ53 : CST, σ53 = nw σ41 q47 25 ((Int32.ofNat n46) : Int32).toNatClampNeg ((Int32.ofNat n46) : Int32).toNatClampNeg → σ53.1 a0 = some (10, 0) ∧ (∀ σ55 : CST, σ55 = sR σ53 a0 6 (some q47) → (1 ≤ σ55.2.2.2.2.1 ∧ 4 ≤ σ55.2.2.2.2.2.1 ∧ ∀ q56 : Nat, σ55.1 q56 = none → q56 ≠ σ55.2.2.2.2.2.2.1 → ∀ σ60 : CST, σ60 = nw σ55 q56 8 0 4 → σ60.1 a2 = some (5, 0) ∧ (x_St_init q56 (σ60.2.1 a2 4) (σ60.2.1 a2 3) σ60 (fun σ62 => σ62.1 a0 = some (10, 0) ∧ (∀ σ65 : CST, σ65 = sR σ62 a0 7 (some q56) → (1 ≤ σ65.2.2.2.2.1 ∧ 4 ≤ σ65.2.2.2.2.2.1 ∧ ∀ q66 : Nat, σ65.1 q66 = none → q66 ≠ σ65.2.2.2.2.2.2.1 → ∀ σ70 : CST, σ70 = nw σ65 q66 8 0 4 → σ70.1 a2 = some (5, 0) ∧ (x_St_init q66 (σ70.2.1 a2 4) (σ70.2.1 a2 3) σ70 (fun σ72 => σ72.1 a0 = some (10, 0) ∧ (∀ σ75 : CST, σ75 = sR σ72 a0 8 (some q66) → (1 ≤ σ75.2.2.2.2.1 ∧ 4 ≤ σ75.2.2.2.2.2.1 ∧ ∀ q76 : Nat, σ75.1 q76 = none → q76 ≠ σ75.2.2.2.2.2.2.1 → ∀ σ80 : CST, σ80 = nw σ75 q76 8 0 4 → σ80.1 a2 = some (5, 0) ∧ (x_St_init q76 (σ80.2.1 a2 4) (σ80.2.1 a2 3) σ80 (fun σ82 => σ82.1 a0 = some (10, 0) ∧ (∀ σ85 : CST, σ85 = sR σ82 a0 9 (some q76) → P σ85))))))))))))))))))))))))))))))))))))))
set_option maxHeartbeats 4000000 in
set_option maxRecDepth 100000 in
theorem X_Ve_init (l : Launch) (dC : Nat → ClassId) (dI : Nat → Nat → Nat) (ca : Nat → ClassId) (H0 : Heap) (σ0 : CST) (a0 : Nat) (a1 : Nat) (a2 : Nat) {P : CST → Prop} (hw : x_Ve_init a0 a1 a2 σ0 P) : Met l g_Ve_init (mW g_Ve_init prog_11_method_1_code 3 none) ({ frames := 2, cells := σ0.2.2.2.2.1, slots := σ0.2.2.2.2.2.1, locals := 34 } : Room) (va_Pc [.ref a0, .ref a1, .ref a2] (CPre (dC, dI) ca σ0 H0)) (va_Qv P (CB (dC, dI) ca σ0 H0) (cA σ0 H0.size)) σ0.2.2.2.2.1 σ0.2.2.2.2.2.1 (cA σ0 H0.size) := by
  refine C_ofv (by decide +kernel) rfl rfl rfl (Nat.le_of_ble_eq_true rfl) ?_
  intro p e s m below meth cx Q A ls C hnm hend hH0 h hl
  subst hH0
  have C0 := C
  obtain ⟨⟨hx, hb, hml, hown, hts⟩, hsub⟩ := C0
  obtain ⟨cells, e_cells⟩ : ∃ z : Nat, z = 0 := ⟨_, rfl⟩
  obtain ⟨slots, e_slots⟩ : ∃ z : Nat, z = 0 := ⟨_, rfl⟩
  have h : CH (dC, dI) A ca ({ frames := 2, cells := σ0.2.2.2.2.1, slots := σ0.2.2.2.2.2.1, locals := 34 } : Room) σ0.2.2.2.2.2.2 σ0 s s.heap [] cells slots := by rw [e_cells, e_slots]; exact h
  show W p l e ({ frames := 2, cells := σ0.2.2.2.2.1, slots := σ0.2.2.2.2.2.1, locals := 34 } : Room) s m ([.ref a0, .ref a1, .ref a2] : List Value).toArray below meth cx s.heap [] 0 0 Q (F0 m 0 ls [])
  rw [show W p l e ({ frames := 2, cells := σ0.2.2.2.2.1, slots := σ0.2.2.2.2.2.1, locals := 34 } : Room) s m ([.ref a0, .ref a1, .ref a2] : List Value).toArray below meth cx s.heap [] 0 0 Q (F0 m 0 ls []) = W p l e ({ frames := 2, cells := σ0.2.2.2.2.1, slots := σ0.2.2.2.2.2.1, locals := 34 } : Room) s m ([.ref a0, .ref a1, .ref a2] : List Value).toArray below meth cx s.heap [] cells slots Q (F0 m 0 ls []) by rw [e_cells, e_slots]]
  have hl : lv_has ls 3 [(0, .ref a0), (1, .ref a1), (2, .ref a2)] := hl
  unfold x_Ve_init at hw
  refine lv_aload_n hx hb h_Ve_init_0 rfl (lv_at hl 0 rfl) ?_
  refine W.objInit hx hb hown (hts _ (hsub _ u_679)) (hts _ (hsub _ u_1)) (hts _ (hsub _ u_2)) rfl (by rw [hml]; exact hl.1) rfl h_Ve_init_1 (Nat.le_of_ble_eq_true rfl) (Nat.le_of_ble_eq_true rfl) ?_
  refine W.eq (g2 := F0 m 4 ls []) rfl ?_
  refine lv_aload_n hx hb h_Ve_init_4 rfl (lv_at hl 0 rfl) ?_
  refine lv_aload_n hx hb h_Ve_init_5 rfl (lv_at hl 1 rfl) ?_
  obtain ⟨g1, hw⟩ := hw
  refine C_putr C h 10 0 (v := (some a1)) (ty := (.object "MapFramer$World")) g1 (Cn := R_Ve) (T := T_Ve) (N := 10) rfl (by decide) rfl uw_Ve tok_Ve nm_Ve (by decide) rfl u_680 (fun _ q => q) (Or.inr ⟨rfl, hnm, rfl⟩) (by decide +kernel) ck_o h_Ve_init_6 (fun H locs h => ?_)
  obtain ⟨σ2, e_σ2⟩ : ∃ z : CST, z = sR σ0 a0 0 (some a1) := ⟨_, rfl⟩
  rw [← e_σ2] at h
  replace hw := hw σ2 e_σ2
  refine lv_aload_n hx hb h_Ve_init_9 rfl (lv_at hl 0 rfl) ?_
  refine lv_aload_n hx hb h_Ve_init_10 rfl (lv_at hl 2 rfl) ?_
  obtain ⟨g3, hw⟩ := hw
  refine C_putr C h 10 1 (v := (some a2)) (ty := (.object "MapFramer$Method")) g3 (Cn := R_Ve) (T := T_Ve) (N := 10) rfl (by decide) rfl uw_Ve tok_Ve nm_Ve (by decide) rfl u_681 (fun _ q => q) (Or.inr ⟨rfl, hnm, rfl⟩) (by decide +kernel) ck_o h_Ve_init_11 (fun H locs h => ?_)
  obtain ⟨σ4, e_σ4⟩ : ∃ z : CST, z = sR σ2 a0 1 (some a2) := ⟨_, rfl⟩
  rw [← e_σ4] at h
  replace hw := hw σ4 e_σ4
  refine lv_aload_n hx hb h_Ve_init_14 rfl (lv_at hl 0 rfl) ?_
  obtain ⟨g6, g7, hw⟩ := hw
  refine C_new C h 9 (Cn := R_Sp) (T := T_Sp) (N := 5) rfl (by decide) uw_Sp tok_Sp (cdf_Sp rfl rfl rfl) u_682 u_683 u_524 g6 g7 h_Ve_init_15 (fun q5 H g8 hz9 h => ?_)
  replace hw := hw q5 g8 hz9
  obtain ⟨σ9, e_σ9⟩ : ∃ z : CST, z = nw σ4 q5 9 0 5 := ⟨_, rfl⟩
  rw [← e_σ9] at h
  replace hw := hw σ9 e_σ9
  generalize cells + 1 = cells at h ⊢
  generalize slots + 5 = slots at h ⊢
  refine lv_dup hx hb h_Ve_init_18 rfl ?_
  refine lv_aload_n hx hb h_Ve_init_19 rfl (lv_at hl 1 rfl) ?_
  refine lv_aload_n hx hb h_Ve_init_20 rfl (lv_at hl 2 rfl) ?_
  refine C_callIv (As := [.ref a1, .ref a2]) (rest := [.ref q5, .ref a0]) C h (X_Sp_init l dC dI ca H σ9 q5 a1 a2 hw) (cwI 2 hts (gC hsub u_684) rfl rfl rfl (hts _ (hsub _ u_524)) (hts _ (hsub _ u_685)) (hts _ (hsub _ u_686)) rfl (by decide +kernel) ⟨(Nat.le_of_ble_eq_true rfl), (Nat.le_of_ble_eq_true rfl)⟩) rfl hl.1 (Nat.le_of_ble_eq_true rfl) h_Ve_init_21 (fun σ10 H locs cells slots hw9 h9 => ?_)
  clear hw h; have hw := hw9; have h := h9; clear hw9 h9
  refine W.eq (g2 := F0 m 24 ls [.ref q5, .ref a0]) rfl ?_
  obtain ⟨g12, hw⟩ := hw
  refine C_putr C h 10 2 (v := (some q5)) (ty := (.object "MapFramer$Stepper")) g12 (Cn := R_Ve) (T := T_Ve) (N := 10) rfl (by decide) rfl uw_Ve tok_Ve nm_Ve (by decide) rfl u_687 (fun _ q => q) (Or.inr ⟨rfl, hnm, rfl⟩) (by decide +kernel) ck_o h_Ve_init_24 (fun H locs h => ?_)
  obtain ⟨σ13, e_σ13⟩ : ∃ z : CST, z = sR σ10 a0 2 (some q5) := ⟨_, rfl⟩
  rw [← e_σ13] at h
  replace hw := hw σ13 e_σ13
  refine lv_aload_n hx hb h_Ve_init_27 rfl (lv_at hl 0 rfl) ?_
  refine lv_aload_n hx hb h_Ve_init_28 rfl (lv_at hl 2 rfl) ?_
  obtain ⟨g14, hw⟩ := hw
  refine C_get C h 5 2 (v := va_rf (σ13.2.2.2.1 a2 2)) g14 rfl (Cn := R_E) (T := T_E) (N := 13) rfl (by decide) rfl uw_E (by decide) u_688 (fun _ q => q) h_Ve_init_29 ?_
  refine lv_topq (fun b15 e_b15 => ?_)
  replace hw := hw b15 e_b15
  obtain ⟨r16, e_r16, hw⟩ := hw
  subst e_r16
  have hl : lv_has ls 3 [(0, .ref a0), (1, .ref a1), (2, .ref a2)] := hl
  refine W.eq (g2 := F0 m 32 ls [.ref r16, .ref a0]) rfl ?_
  obtain ⟨n18, g17, hw⟩ := hw
  refine C_alen C h 20 0 rfl (by decide) g17 h_Ve_init_32 ?_
  obtain ⟨g23, g24, g20, g21, hw⟩ := hw
  refine C_newaz C h u_689 g23 rfl g24 g20 g21 h_Ve_init_33 (fun q19 H g22 hz9 h => ?_)
  replace hw := hw q19 g22 hz9
  obtain ⟨σ25, e_σ25⟩ : ∃ z : CST, z = nw σ13 q19 21 ((Int32.ofNat n18) : Int32).toNatClampNeg ((Int32.ofNat n18) : Int32).toNatClampNeg := ⟨_, rfl⟩
  rw [← e_σ25] at h
  replace hw := hw σ25 e_σ25
  generalize cells + 1 = cells at h ⊢
  generalize slots + ((Int32.ofNat n18) : Int32).toNatClampNeg = slots at h ⊢
  obtain ⟨g26, hw⟩ := hw
  refine C_putr C h 10 3 (v := (some q19)) (ty := (.array .boolean)) g26 (Cn := R_Ve) (T := T_Ve) (N := 10) rfl (by decide) rfl uw_Ve tok_Ve nm_Ve (by decide) rfl u_690 (fun _ q => q) (Or.inr ⟨rfl, hnm, rfl⟩) (by decide +kernel) ck_a h_Ve_init_35 (fun H locs h => ?_)
  obtain ⟨σ27, e_σ27⟩ : ∃ z : CST, z = sR σ25 a0 3 (some q19) := ⟨_, rfl⟩
  rw [← e_σ27] at h
  replace hw := hw σ27 e_σ27
  refine lv_aload_n hx hb h_Ve_init_38 rfl (lv_at hl 0 rfl) ?_
  refine lv_aload_n hx hb h_Ve_init_39 rfl (lv_at hl 2 rfl) ?_
  obtain ⟨g28, hw⟩ := hw
  refine C_get C h 5 2 (v := va_rf (σ27.2.2.2.1 a2 2)) g28 rfl (Cn := R_E) (T := T_E) (N := 13) rfl (by decide) rfl uw_E (by decide) u_688 (fun _ q => q) h_Ve_init_40 ?_
  refine lv_topq (fun b29 e_b29 => ?_)
  replace hw := hw b29 e_b29
  obtain ⟨r30, e_r30, hw⟩ := hw
  subst e_r30
  have hl : lv_has ls 3 [(0, .ref a0), (1, .ref a1), (2, .ref a2)] := hl
  refine W.eq (g2 := F0 m 43 ls [.ref r30, .ref a0]) rfl ?_
  obtain ⟨n32, g31, hw⟩ := hw
  refine C_alen C h 20 0 rfl (by decide) g31 h_Ve_init_43 ?_
  obtain ⟨g37, g38, g34, g35, hw⟩ := hw
  refine C_newaz C h u_689 g37 rfl g38 g34 g35 h_Ve_init_44 (fun q33 H g36 hz9 h => ?_)
  replace hw := hw q33 g36 hz9
  obtain ⟨σ39, e_σ39⟩ : ∃ z : CST, z = nw σ27 q33 21 ((Int32.ofNat n32) : Int32).toNatClampNeg ((Int32.ofNat n32) : Int32).toNatClampNeg := ⟨_, rfl⟩
  rw [← e_σ39] at h
  replace hw := hw σ39 e_σ39
  generalize cells + 1 = cells at h ⊢
  generalize slots + ((Int32.ofNat n32) : Int32).toNatClampNeg = slots at h ⊢
  obtain ⟨g40, hw⟩ := hw
  refine C_putr C h 10 4 (v := (some q33)) (ty := (.array .boolean)) g40 (Cn := R_Ve) (T := T_Ve) (N := 10) rfl (by decide) rfl uw_Ve tok_Ve nm_Ve (by decide) rfl u_691 (fun _ q => q) (Or.inr ⟨rfl, hnm, rfl⟩) (by decide +kernel) ck_a h_Ve_init_46 (fun H locs h => ?_)
  obtain ⟨σ41, e_σ41⟩ : ∃ z : CST, z = sR σ39 a0 4 (some q33) := ⟨_, rfl⟩
  rw [← e_σ41] at h
  replace hw := hw σ41 e_σ41
  refine lv_aload_n hx hb h_Ve_init_49 rfl (lv_at hl 0 rfl) ?_
  refine lv_aload_n hx hb h_Ve_init_50 rfl (lv_at hl 2 rfl) ?_
  obtain ⟨g42, hw⟩ := hw
  refine C_get C h 5 2 (v := va_rf (σ41.2.2.2.1 a2 2)) g42 rfl (Cn := R_E) (T := T_E) (N := 13) rfl (by decide) rfl uw_E (by decide) u_688 (fun _ q => q) h_Ve_init_51 ?_
  refine lv_topq (fun b43 e_b43 => ?_)
  replace hw := hw b43 e_b43
  obtain ⟨r44, e_r44, hw⟩ := hw
  subst e_r44
  have hl : lv_has ls 3 [(0, .ref a0), (1, .ref a1), (2, .ref a2)] := hl
  refine W.eq (g2 := F0 m 54 ls [.ref r44, .ref a0]) rfl ?_
  obtain ⟨n46, g45, hw⟩ := hw
  refine C_alen C h 20 0 rfl (by decide) g45 h_Ve_init_54 ?_
  obtain ⟨g51, g52, g48, g49, hw⟩ := hw
  refine C_anew C h 25 4 rfl (by decide) u_692 h.2.2.2.2.1.2.1.2.2.2.2.2.1.2.2.2.2 g51 rfl g52 g48 g49 h_Ve_init_55 (fun q47 H g50 hz9 h => ?_)
  replace hw := hw q47 g50 hz9
  obtain ⟨σ53, e_σ53⟩ : ∃ z : CST, z = nw σ41 q47 25 ((Int32.ofNat n46) : Int32).toNatClampNeg ((Int32.ofNat n46) : Int32).toNatClampNeg := ⟨_, rfl⟩
  rw [← e_σ53] at h
  replace hw := hw σ53 e_σ53
  generalize cells + 1 = cells at h ⊢
  generalize slots + ((Int32.ofNat n46) : Int32).toNatClampNeg = slots at h ⊢
  obtain ⟨g54, hw⟩ := hw
  refine C_putr C h 10 6 (v := (some q47)) (ty := (.array (.object "MapFramer$State"))) g54 (Cn := R_Ve) (T := T_Ve) (N := 10) rfl (by decide) rfl uw_Ve tok_Ve nm_Ve (by decide) rfl u_693 (fun _ q => q) (Or.inr ⟨rfl, hnm, rfl⟩) (by decide +kernel) ck_a h_Ve_init_58 (fun H locs h => ?_)
  obtain ⟨σ55, e_σ55⟩ : ∃ z : CST, z = sR σ53 a0 6 (some q47) := ⟨_, rfl⟩
  rw [← e_σ55] at h
  replace hw := hw σ55 e_σ55
  refine lv_aload_n hx hb h_Ve_init_61 rfl (lv_at hl 0 rfl) ?_
  obtain ⟨g57, g58, hw⟩ := hw
  refine C_new C h 8 (Cn := R_St) (T := T_St) (N := 4) rfl (by decide) uw_St tok_St (cdf_St rfl rfl rfl) u_692 u_694 u_502 g57 g58 h_Ve_init_62 (fun q56 H g59 hz9 h => ?_)
  replace hw := hw q56 g59 hz9
  obtain ⟨σ60, e_σ60⟩ : ∃ z : CST, z = nw σ55 q56 8 0 4 := ⟨_, rfl⟩
  rw [← e_σ60] at h
  replace hw := hw σ60 e_σ60
  generalize cells + 1 = cells at h ⊢
  generalize slots + 4 = slots at h ⊢
  refine lv_dup hx hb h_Ve_init_65 rfl ?_
  refine lv_aload_n hx hb h_Ve_init_66 rfl (lv_at hl 2 rfl) ?_
  obtain ⟨g61, hw⟩ := hw
  refine C_get C h 5 4 (v := .int (σ60.2.1 a2 4)) g61 rfl (Cn := R_E) (T := T_E) (N := 13) rfl (by decide) rfl uw_E (by decide) u_695 (fun _ q => q) h_Ve_init_67 ?_
  refine lv_aload_n hx hb h_Ve_init_70 rfl (lv_at hl 2 rfl) ?_
  refine C_get C h 5 3 (v := .int (σ60.2.1 a2 3)) g61 rfl (Cn := R_E) (T := T_E) (N := 13) rfl (by decide) rfl uw_E (by decide) u_696 (fun _ q => q) h_Ve_init_71 ?_
  refine C_callIv (As := [.int (σ60.2.1 a2 4), .int (σ60.2.1 a2 3)]) (rest := [.ref q56, .ref a0]) C h (X_St_init l dC dI ca H σ60 q56 (σ60.2.1 a2 4) (σ60.2.1 a2 3) hw) (cwI 2 hts (gC hsub u_697) rfl rfl rfl (hts _ (hsub _ u_502)) (hts _ (hsub _ u_698)) (hts _ (hsub _ u_699)) rfl (by decide +kernel) ⟨(Nat.le_of_ble_eq_true rfl), (Nat.le_of_ble_eq_true rfl)⟩) rfl hl.1 (Nat.le_of_ble_eq_true rfl) h_Ve_init_74 (fun σ62 H locs cells slots hw9 h9 => ?_)
  clear hw h; have hw := hw9; have h := h9; clear hw9 h9
  refine W.eq (g2 := F0 m 77 ls [.ref q56, .ref a0]) rfl ?_
  obtain ⟨g64, hw⟩ := hw
  refine C_putr C h 10 7 (v := (some q56)) (ty := (.object "MapFramer$State")) g64 (Cn := R_Ve) (T := T_Ve) (N := 10) rfl (by decide) rfl uw_Ve tok_Ve nm_Ve (by decide) rfl u_700 (fun _ q => q) (Or.inr ⟨rfl, hnm, rfl⟩) (by decide +kernel) ck_o h_Ve_init_77 (fun H locs h => ?_)
  obtain ⟨σ65, e_σ65⟩ : ∃ z : CST, z = sR σ62 a0 7 (some q56) := ⟨_, rfl⟩
  rw [← e_σ65] at h
  replace hw := hw σ65 e_σ65
  refine lv_aload_n hx hb h_Ve_init_80 rfl (lv_at hl 0 rfl) ?_
  obtain ⟨g67, g68, hw⟩ := hw
  refine C_new C h 8 (Cn := R_St) (T := T_St) (N := 4) rfl (by decide) uw_St tok_St (cdf_St rfl rfl rfl) u_692 u_694 u_502 g67 g68 h_Ve_init_81 (fun q66 H g69 hz9 h => ?_)
  replace hw := hw q66 g69 hz9
  obtain ⟨σ70, e_σ70⟩ : ∃ z : CST, z = nw σ65 q66 8 0 4 := ⟨_, rfl⟩
  rw [← e_σ70] at h
  replace hw := hw σ70 e_σ70
  generalize cells + 1 = cells at h ⊢
  generalize slots + 4 = slots at h ⊢
  refine lv_dup hx hb h_Ve_init_84 rfl ?_
  refine lv_aload_n hx hb h_Ve_init_85 rfl (lv_at hl 2 rfl) ?_
  obtain ⟨g71, hw⟩ := hw
  refine C_get C h 5 4 (v := .int (σ70.2.1 a2 4)) g71 rfl (Cn := R_E) (T := T_E) (N := 13) rfl (by decide) rfl uw_E (by decide) u_695 (fun _ q => q) h_Ve_init_86 ?_
  refine lv_aload_n hx hb h_Ve_init_89 rfl (lv_at hl 2 rfl) ?_
  refine C_get C h 5 3 (v := .int (σ70.2.1 a2 3)) g71 rfl (Cn := R_E) (T := T_E) (N := 13) rfl (by decide) rfl uw_E (by decide) u_696 (fun _ q => q) h_Ve_init_90 ?_
  refine C_callIv (As := [.int (σ70.2.1 a2 4), .int (σ70.2.1 a2 3)]) (rest := [.ref q66, .ref a0]) C h (X_St_init l dC dI ca H σ70 q66 (σ70.2.1 a2 4) (σ70.2.1 a2 3) hw) (cwI 2 hts (gC hsub u_697) rfl rfl rfl (hts _ (hsub _ u_502)) (hts _ (hsub _ u_698)) (hts _ (hsub _ u_699)) rfl (by decide +kernel) ⟨(Nat.le_of_ble_eq_true rfl), (Nat.le_of_ble_eq_true rfl)⟩) rfl hl.1 (Nat.le_of_ble_eq_true rfl) h_Ve_init_93 (fun σ72 H locs cells slots hw9 h9 => ?_)
  clear hw h; have hw := hw9; have h := h9; clear hw9 h9
  refine W.eq (g2 := F0 m 96 ls [.ref q66, .ref a0]) rfl ?_
  obtain ⟨g74, hw⟩ := hw
  refine C_putr C h 10 8 (v := (some q66)) (ty := (.object "MapFramer$State")) g74 (Cn := R_Ve) (T := T_Ve) (N := 10) rfl (by decide) rfl uw_Ve tok_Ve nm_Ve (by decide) rfl u_701 (fun _ q => q) (Or.inr ⟨rfl, hnm, rfl⟩) (by decide +kernel) ck_o h_Ve_init_96 (fun H locs h => ?_)
  obtain ⟨σ75, e_σ75⟩ : ∃ z : CST, z = sR σ72 a0 8 (some q66) := ⟨_, rfl⟩
  rw [← e_σ75] at h
  replace hw := hw σ75 e_σ75
  refine lv_aload_n hx hb h_Ve_init_99 rfl (lv_at hl 0 rfl) ?_
  obtain ⟨g77, g78, hw⟩ := hw
  refine C_new C h 8 (Cn := R_St) (T := T_St) (N := 4) rfl (by decide) uw_St tok_St (cdf_St rfl rfl rfl) u_692 u_694 u_502 g77 g78 h_Ve_init_100 (fun q76 H g79 hz9 h => ?_)
  replace hw := hw q76 g79 hz9
  obtain ⟨σ80, e_σ80⟩ : ∃ z : CST, z = nw σ75 q76 8 0 4 := ⟨_, rfl⟩
  rw [← e_σ80] at h
  replace hw := hw σ80 e_σ80
  generalize cells + 1 = cells at h ⊢
  generalize slots + 4 = slots at h ⊢
  refine lv_dup hx hb h_Ve_init_103 rfl ?_
  refine lv_aload_n hx hb h_Ve_init_104 rfl (lv_at hl 2 rfl) ?_
  obtain ⟨g81, hw⟩ := hw
  refine C_get C h 5 4 (v := .int (σ80.2.1 a2 4)) g81 rfl (Cn := R_E) (T := T_E) (N := 13) rfl (by decide) rfl uw_E (by decide) u_695 (fun _ q => q) h_Ve_init_105 ?_
  refine lv_aload_n hx hb h_Ve_init_108 rfl (lv_at hl 2 rfl) ?_
  refine C_get C h 5 3 (v := .int (σ80.2.1 a2 3)) g81 rfl (Cn := R_E) (T := T_E) (N := 13) rfl (by decide) rfl uw_E (by decide) u_696 (fun _ q => q) h_Ve_init_109 ?_
  refine C_callIv (As := [.int (σ80.2.1 a2 4), .int (σ80.2.1 a2 3)]) (rest := [.ref q76, .ref a0]) C h (X_St_init l dC dI ca H σ80 q76 (σ80.2.1 a2 4) (σ80.2.1 a2 3) hw) (cwI 2 hts (gC hsub u_697) rfl rfl rfl (hts _ (hsub _ u_502)) (hts _ (hsub _ u_698)) (hts _ (hsub _ u_699)) rfl (by decide +kernel) ⟨(Nat.le_of_ble_eq_true rfl), (Nat.le_of_ble_eq_true rfl)⟩) rfl hl.1 (Nat.le_of_ble_eq_true rfl) h_Ve_init_112 (fun σ82 H locs cells slots hw9 h9 => ?_)
  clear hw h; have hw := hw9; have h := h9; clear hw9 h9
  refine W.eq (g2 := F0 m 115 ls [.ref q76, .ref a0]) rfl ?_
  obtain ⟨g84, hw⟩ := hw
  refine C_putr C h 10 9 (v := (some q76)) (ty := (.object "MapFramer$State")) g84 (Cn := R_Ve) (T := T_Ve) (N := 10) rfl (by decide) rfl uw_Ve tok_Ve nm_Ve (by decide) rfl u_702 (fun _ q => q) (Or.inr ⟨rfl, hnm, rfl⟩) (by decide +kernel) ck_o h_Ve_init_115 (fun H locs h => ?_)
  obtain ⟨σ85, e_σ85⟩ : ∃ z : CST, z = sR σ82 a0 9 (some q76) := ⟨_, rfl⟩
  rw [← e_σ85] at h
  replace hw := hw σ85 e_σ85
  exact hend σ85 _ _ _ _ _ _ hw h h_Ve_init_118
abbrev g_Ve_localsUsed : MethodName := ⟨"MapFramer$Verifier", "localsUsed", "(I)I"⟩
theorem h_Ve_localsUsed_0 : decode prog_11_method_4_code 0 = .ok (.iload_n 0, 1) := by decide +kernel
theorem h_Ve_localsUsed_1 : decode prog_11_method_4_code 1 = .ok (.lookupswitch 71 #[(21, 67), (22, 69), (25, 67), (54, 67), (55, 69), (58, 67), (132, 67)], 67) := by decide +kernel
theorem h_Ve_localsUsed_68 : decode prog_11_method_4_code 68 = .ok (.iconst 1, 1) := by decide +kernel
theorem h_Ve_localsUsed_69 : decode prog_11_method_4_code 69 = .ok (.ireturn, 1) := by decide +kernel
theorem h_Ve_localsUsed_70 : decode prog_11_method_4_code 70 = .ok (.iconst 2, 1) := by decide +kernel
theorem h_Ve_localsUsed_71 : decode prog_11_method_4_code 71 = .ok (.ireturn, 1) := by decide +kernel
theorem h_Ve_localsUsed_72 : decode prog_11_method_4_code 72 = .ok (.iconst 0, 1) := by decide +kernel
theorem h_Ve_localsUsed_73 : decode prog_11_method_4_code 73 = .ok (.ireturn, 1) := by decide +kernel
def x_Ve_localsUsed (x0 : Int32) (σ0 : CST) (P : Int32 → CST → Prop) : Prop := ((x0 = 21 → P (1 : Int32) σ0) ∧ (¬ x0 = 21 → ((x0 = 22 → P (2 : Int32) σ0) ∧ (¬ x0 = 22 → ((x0 = 25 → P (1 : Int32) σ0) ∧ (¬ x0 = 25 → ((x0 = 54 → P (1 : Int32) σ0) ∧ (¬ x0 = 54 → ((x0 = 55 → P (2 : Int32) σ0) ∧ (¬ x0 = 55 → ((x0 = 58 → P (1 : Int32) σ0) ∧ (¬ x0 = 58 → ((x0 = 132 → P (1 : Int32) σ0) ∧ (¬ x0 = 132 → P (0 : Int32) σ0))))))))))))))
set_option maxHeartbeats 4000000 in
set_option maxRecDepth 100000 in
theorem X_Ve_localsUsed (l : Launch) (dC : Nat → ClassId) (dI : Nat → Nat → Nat) (ca : Nat → ClassId) (H0 : Heap) (σ0 : CST) (x0 : Int32) {P : Int32 → CST → Prop} (hw : x_Ve_localsUsed x0 σ0 P) : Met l g_Ve_localsUsed (mW g_Ve_localsUsed prog_11_method_4_code 1 (some .int)) ({ frames := 0, cells := σ0.2.2.2.2.1, slots := σ0.2.2.2.2.2.1, locals := 0 } : Room) (va_Pc [.int x0] (CPre (dC, dI) ca σ0 H0)) (va_Qi P (CB (dC, dI) ca σ0 H0) (cA σ0 H0.size)) σ0.2.2.2.2.1 σ0.2.2.2.2.2.1 (cA σ0 H0.size) := by
  refine C_ofi (by decide +kernel) rfl rfl rfl (Nat.le_of_ble_eq_true rfl) ?_
  intro p e s m below meth cx Q A ls C hnm hend hH0 h hl
  subst hH0
  have C0 := C
  obtain ⟨⟨hx, hb, hml, hown, hts⟩, hsub⟩ := C0
  obtain ⟨cells, e_cells⟩ : ∃ z : Nat, z = 0 := ⟨_, rfl⟩
  obtain ⟨slots, e_slots⟩ : ∃ z : Nat, z = 0 := ⟨_, rfl⟩
  have h : CH (dC, dI) A ca ({ frames := 0, cells := σ0.2.2.2.2.1, slots := σ0.2.2.2.2.2.1, locals := 0 } : Room) σ0.2.2.2.2.2.2 σ0 s s.heap [] cells slots := by rw [e_cells, e_slots]; exact h
  show W p l e ({ frames := 0, cells := σ0.2.2.2.2.1, slots := σ0.2.2.2.2.2.1, locals := 0 } : Room) s m ([.int x0] : List Value).toArray below meth cx s.heap [] 0 0 Q (F0 m 0 ls [])
  rw [show W p l e ({ frames := 0, cells := σ0.2.2.2.2.1, slots := σ0.2.2.2.2.2.1, locals := 0 } : Room) s m ([.int x0] : List Value).toArray below meth cx s.heap [] 0 0 Q (F0 m 0 ls []) = W p l e ({ frames := 0, cells := σ0.2.2.2.2.1, slots := σ0.2.2.2.2.2.1, locals := 0 } : Room) s m ([.int x0] : List Value).toArray below meth cx s.heap [] cells slots Q (F0 m 0 ls []) by rw [e_cells, e_slots]]
  have hl : lv_has ls 1 [(0, .int x0)] := hl
  unfold x_Ve_localsUsed at hw
  refine lv_iload_n hx hb h_Ve_localsUsed_0 rfl (lv_at hl 0 rfl) ?_
  by_cases c1 : x0 = 21
  · skip
    replace hw := hw.1 c1
    refine tp_i 21 c1 ?_
    refine lv_lookup (off := 67) (tgt := 68) hx hb h_Ve_localsUsed_1 (by decide) (by decide) (by decide) ?_
    refine lv_iconst (v := 1) hx hb h_Ve_localsUsed_68 (by decide) ?_
    exact hend (1 : Int32) σ0 _ _ _ _ _ _ hw h h_Ve_localsUsed_69
  · skip
    replace hw := hw.2 c1
    by_cases c2 : x0 = 22
    · skip
      replace hw := hw.1 c2
      refine tp_i 22 c2 ?_
      refine lv_lookup (off := 69) (tgt := 70) hx hb h_Ve_localsUsed_1 (by decide) (by decide) (by decide) ?_
      refine lv_iconst (v := 2) hx hb h_Ve_localsUsed_70 (by decide) ?_
      exact hend (2 : Int32) σ0 _ _ _ _ _ _ hw h h_Ve_localsUsed_71
    · skip
      replace hw := hw.2 c2
      by_cases c3 : x0 = 25
      · skip
        replace hw := hw.1 c3
        refine tp_i 25 c3 ?_
        refine lv_lookup (off := 67) (tgt := 68) hx hb h_Ve_localsUsed_1 (by decide) (by decide) (by decide) ?_
        refine lv_iconst (v := 1) hx hb h_Ve_localsUsed_68 (by decide) ?_
        exact hend (1 : Int32) σ0 _ _ _ _ _ _ hw h h_Ve_localsUsed_69
      · skip
        replace hw := hw.2 c3
        by_cases c4 : x0 = 54
        · skip
          replace hw := hw.1 c4
          refine tp_i 54 c4 ?_
          refine lv_lookup (off := 67) (tgt := 68) hx hb h_Ve_localsUsed_1 (by decide) (by decide) (by decide) ?_
          refine lv_iconst (v := 1) hx hb h_Ve_localsUsed_68 (by decide) ?_
          exact hend (1 : Int32) σ0 _ _ _ _ _ _ hw h h_Ve_localsUsed_69
        · skip
          replace hw := hw.2 c4
          by_cases c5 : x0 = 55
          · skip
            replace hw := hw.1 c5
            refine tp_i 55 c5 ?_
            refine lv_lookup (off := 69) (tgt := 70) hx hb h_Ve_localsUsed_1 (by decide) (by decide) (by decide) ?_
            refine lv_iconst (v := 2) hx hb h_Ve_localsUsed_70 (by decide) ?_
            exact hend (2 : Int32) σ0 _ _ _ _ _ _ hw h h_Ve_localsUsed_71
          · skip
            replace hw := hw.2 c5
            by_cases c6 : x0 = 58
            · skip
              replace hw := hw.1 c6
              refine tp_i 58 c6 ?_
              refine lv_lookup (off := 67) (tgt := 68) hx hb h_Ve_localsUsed_1 (by decide) (by decide) (by decide) ?_
              refine lv_iconst (v := 1) hx hb h_Ve_localsUsed_68 (by decide) ?_
              exact hend (1 : Int32) σ0 _ _ _ _ _ _ hw h h_Ve_localsUsed_69
            · skip
              replace hw := hw.2 c6
              by_cases c7 : x0 = 132
              · skip
                replace hw := hw.1 c7
                refine tp_i 132 c7 ?_
                refine lv_lookup (off := 67) (tgt := 68) hx hb h_Ve_localsUsed_1 (by decide) (by decide) (by decide) ?_
                refine lv_iconst (v := 1) hx hb h_Ve_localsUsed_68 (by decide) ?_
                exact hend (1 : Int32) σ0 _ _ _ _ _ _ hw h h_Ve_localsUsed_69
              · skip
                replace hw := hw.2 c7
                refine lv_lookup (off := 71) (tgt := 72) hx hb h_Ve_localsUsed_1 (by decide) ((lv_osw c1 (by decide)).trans ((lv_osw c2 (by decide)).trans ((lv_osw c3 (by decide)).trans ((lv_osw c4 (by decide)).trans ((lv_osw c5 (by decide)).trans ((lv_osw c6 (by decide)).trans ((lv_osw c7 (by decide)).trans rfl))))))) (by decide) ?_
                refine lv_iconst (v := 0) hx hb h_Ve_localsUsed_72 (by decide) ?_
                exact hend (0 : Int32) σ0 _ _ _ _ _ _ hw h h_Ve_localsUsed_73
abbrev g_W_hasField : MethodName := ⟨"MapFramer$World", "hasField", "(IZ)Z"⟩
theorem u_703 : (Cond.fieldLink "MapFramer$World" 28 "MapFramer$World" "fieldStatics" "[Z" : Cond) ∈ bigW := inB_1 60 (by decide +kernel) rfl
theorem h_W_hasField_0 : decode prog_12_method_10_code 0 = .ok (.iload_n 1, 1) := by decide +kernel
theorem h_W_hasField_1 : decode prog_12_method_10_code 1 = .ok (.ifCond .lt 25, 3) := by decide +kernel
theorem h_W_hasField_4 : decode prog_12_method_10_code 4 = .ok (.iload_n 1, 1) := by decide +kernel
theorem h_W_hasField_5 : decode prog_12_method_10_code 5 = .ok (.aload_n 0, 1) := by decide +kernel
theorem h_W_hasField_6 : decode prog_12_method_10_code 6 = .ok (.getfield 41, 3) := by decide +kernel
theorem h_W_hasField_9 : decode prog_12_method_10_code 9 = .ok (.if_icmp .ge 17, 3) := by decide +kernel
theorem h_W_hasField_12 : decode prog_12_method_10_code 12 = .ok (.aload_n 0, 1) := by decide +kernel
theorem h_W_hasField_13 : decode prog_12_method_10_code 13 = .ok (.getfield 28, 3) := by decide +kernel
theorem h_W_hasField_16 : decode prog_12_method_10_code 16 = .ok (.iload_n 1, 1) := by decide +kernel
theorem h_W_hasField_17 : decode prog_12_method_10_code 17 = .ok (.baload, 1) := by decide +kernel
theorem h_W_hasField_18 : decode prog_12_method_10_code 18 = .ok (.iload_n 2, 1) := by decide +kernel
theorem h_W_hasField_19 : decode prog_12_method_10_code 19 = .ok (.if_icmp .ne 7, 3) := by decide +kernel
theorem h_W_hasField_22 : decode prog_12_method_10_code 22 = .ok (.iconst 1, 1) := by decide +kernel
theorem h_W_hasField_23 : decode prog_12_method_10_code 23 = .ok (.goto 4, 3) := by decide +kernel
theorem h_W_hasField_26 : decode prog_12_method_10_code 26 = .ok (.iconst 0, 1) := by decide +kernel
theorem h_W_hasField_27 : decode prog_12_method_10_code 27 = .ok (.ireturn, 1) := by decide +kernel
def x_W_hasField (a0 : Nat) (x1 : Int32) (x2 : Int32) (σ0 : CST) (P : Int32 → CST → Prop) : Prop := ((x1 < 0 → P (0 : Int32) σ0) ∧ (¬ x1 < 0 → σ0.1 a0 = some (3, 0) ∧ ((((σ0.2.1 a0 7) ≤ x1 → P (0 : Int32) σ0) ∧ (¬ (σ0.2.1 a0 7) ≤ x1 → ∀ b4 : Option Nat, b4 = (σ0.2.2.2.1 a0 6) → (∃ r5 : Nat, b4 = some r5 ∧ ((∃ n7 : Nat, σ0.1 r5 = some (21, n7) ∧ (vp_in x1 n7 ∧ (∀ b9 : Int32, b9 = (σ0.2.1 r5 (x1 : Int32).toNatClampNeg) → ((b9 = x2 → P (1 : Int32) σ0) ∧ (¬ b9 = x2 → P (0 : Int32) σ0))))))))))))
set_option maxHeartbeats 4000000 in
set_option maxRecDepth 100000 in
theorem X_W_hasField (l : Launch) (dC : Nat → ClassId) (dI : Nat → Nat → Nat) (ca : Nat → ClassId) (H0 : Heap) (σ0 : CST) (a0 : Nat) (x1 : Int32) (x2 : Int32) {P : Int32 → CST → Prop} (hw : x_W_hasField a0 x1 x2 σ0 P) : Met l g_W_hasField (mW g_W_hasField prog_12_method_10_code 3 (some .boolean)) ({ frames := 0, cells := σ0.2.2.2.2.1, slots := σ0.2.2.2.2.2.1, locals := 0 } : Room) (va_Pc [.ref a0, .int x1, .int x2] (CPre (dC, dI) ca σ0 H0)) (va_Qi P (CB (dC, dI) ca σ0 H0) (cA σ0 H0.size)) σ0.2.2.2.2.1 σ0.2.2.2.2.2.1 (cA σ0 H0.size) := by
  refine C_ofz (by decide +kernel) rfl rfl rfl (Nat.le_of_ble_eq_true rfl) ?_
  intro p e s m below meth cx Q A ls C hnm hend hH0 h hl
  subst hH0
  have C0 := C
  obtain ⟨⟨hx, hb, hml, hown, hts⟩, hsub⟩ := C0
  obtain ⟨cells, e_cells⟩ : ∃ z : Nat, z = 0 := ⟨_, rfl⟩
  obtain ⟨slots, e_slots⟩ : ∃ z : Nat, z = 0 := ⟨_, rfl⟩
  have h : CH (dC, dI) A ca ({ frames := 0, cells := σ0.2.2.2.2.1, slots := σ0.2.2.2.2.2.1, locals := 0 } : Room) σ0.2.2.2.2.2.2 σ0 s s.heap [] cells slots := by rw [e_cells, e_slots]; exact h
  show W p l e ({ frames := 0, cells := σ0.2.2.2.2.1, slots := σ0.2.2.2.2.2.1, locals := 0 } : Room) s m ([.ref a0, .int x1, .int x2] : List Value).toArray below meth cx s.heap [] 0 0 Q (F0 m 0 ls [])
  rw [show W p l e ({ frames := 0, cells := σ0.2.2.2.2.1, slots := σ0.2.2.2.2.2.1, locals := 0 } : Room) s m ([.ref a0, .int x1, .int x2] : List Value).toArray below meth cx s.heap [] 0 0 Q (F0 m 0 ls []) = W p l e ({ frames := 0, cells := σ0.2.2.2.2.1, slots := σ0.2.2.2.2.2.1, locals := 0 } : Room) s m ([.ref a0, .int x1, .int x2] : List Value).toArray below meth cx s.heap [] cells slots Q (F0 m 0 ls []) by rw [e_cells, e_slots]]
  have hl : lv_has ls 3 [(0, .ref a0), (1, .int x1), (2, .int x2)] := hl
  unfold x_W_hasField at hw
  refine lv_iload_n hx hb h_W_hasField_0 rfl (lv_at hl 1 rfl) ?_
  refine lv_if_lt (tgt := 26) hx hb h_W_hasField_1 (by decide) (fun c1 => ?_) (fun c1 => ?_)
  · skip
    replace hw := hw.1 c1
    refine lv_iconst (v := 0) hx hb h_W_hasField_26 (by decide) ?_
    exact hend (0 : Int32) σ0 _ _ _ _ _ _ rfl hw h h_W_hasField_27
  · skip
    replace hw := hw.2 c1
    refine lv_iload_n hx hb h_W_hasField_4 rfl (lv_at hl 1 rfl) ?_
    refine lv_aload_n hx hb h_W_hasField_5 rfl (lv_at hl 0 rfl) ?_
    obtain ⟨g2, hw⟩ := hw
    refine C_get C h 3 7 (v := .int (σ0.2.1 a0 7)) g2 rfl (Cn := R_W) (T := T_W) (N := 10) rfl (by decide) rfl uw_W (by decide) u_331 (fun _ q => q) h_W_hasField_6 ?_
    refine lv_icmp_ge (tgt := 26) hx hb h_W_hasField_9 (by decide) (fun c3 => ?_) (fun c3 => ?_)
    · skip
      replace hw := hw.1 c3
      refine lv_iconst (v := 0) hx hb h_W_hasField_26 (by decide) ?_
      exact hend (0 : Int32) σ0 _ _ _ _ _ _ rfl hw h h_W_hasField_27
    · skip
      replace hw := hw.2 c3
      refine lv_aload_n hx hb h_W_hasField_12 rfl (lv_at hl 0 rfl) ?_
      refine C_get C h 3 6 (v := va_rf (σ0.2.2.2.1 a0 6)) g2 rfl (Cn := R_W) (T := T_W) (N := 10) rfl (by decide) rfl uw_W (by decide) u_703 (fun _ q => q) h_W_hasField_13 ?_
      refine lv_topq (fun b4 e_b4 => ?_)
      replace hw := hw b4 e_b4
      refine lv_iload_n hx hb h_W_hasField_16 rfl (lv_at hl 1 rfl) ?_
      obtain ⟨r5, e_r5, hw⟩ := hw
      subst e_r5
      have hl : lv_has ls 3 [(0, .ref a0), (1, .int x1), (2, .int x2)] := hl
      refine W.eq (g2 := F0 m 17 ls [.int x1, .ref r5]) rfl ?_
      obtain ⟨n7, g6, hw⟩ := hw
      obtain ⟨g8, hw⟩ := hw
      refine C_zald C h g6 g8 h_W_hasField_17 ?_
      refine lv_topi (fun b9 e_b9 => ?_)
      replace hw := hw b9 e_b9
      refine lv_iload_n hx hb h_W_hasField_18 rfl (lv_at hl 2 rfl) ?_
      refine lv_icmp_ne (tgt := 26) hx hb h_W_hasField_19 (by decide) (fun c10 => ?_) (fun c10 => ?_)
      · skip
        replace hw := hw.2 c10
        refine lv_iconst (v := 0) hx hb h_W_hasField_26 (by decide) ?_
        exact hend (0 : Int32) σ0 _ _ _ _ _ _ rfl hw h h_W_hasField_27
      · skip
        replace hw := hw.1 c10
        refine lv_iconst (v := 1) hx hb h_W_hasField_22 (by decide) ?_
        refine lv_goto (tgt := 27) hx hb h_W_hasField_23 (by decide) ?_
        exact hend (1 : Int32) σ0 _ _ _ _ _ _ rfl hw h h_W_hasField_27
abbrev g_W_hasClass : MethodName := ⟨"MapFramer$World", "hasClass", "(I)Z"⟩
theorem u_704 : (Cond.fieldLink "MapFramer$World" 37 "MapFramer$World" "classCount" "I" : Cond) ∈ bigW := inB_1 56 (by decide +kernel) rfl
theorem h_W_hasClass_0 : decode prog_12_method_8_code 0 = .ok (.iload_n 1, 1) := by decide +kernel
theorem h_W_hasClass_1 : decode prog_12_method_8_code 1 = .ok (.ifCond .lt 15, 3) := by decide +kernel
theorem h_W_hasClass_4 : decode prog_12_method_8_code 4 = .ok (.iload_n 1, 1) := by decide +kernel
theorem h_W_hasClass_5 : decode prog_12_method_8_code 5 = .ok (.aload_n 0, 1) := by decide +kernel
theorem h_W_hasClass_6 : decode prog_12_method_8_code 6 = .ok (.getfield 37, 3) := by decide +kernel
theorem h_W_hasClass_9 : decode prog_12_method_8_code 9 = .ok (.if_icmp .ge 7, 3) := by decide +kernel
theorem h_W_hasClass_12 : decode prog_12_method_8_code 12 = .ok (.iconst 1, 1) := by decide +kernel
theorem h_W_hasClass_13 : decode prog_12_method_8_code 13 = .ok (.goto 4, 3) := by decide +kernel
theorem h_W_hasClass_16 : decode prog_12_method_8_code 16 = .ok (.iconst 0, 1) := by decide +kernel
theorem h_W_hasClass_17 : decode prog_12_method_8_code 17 = .ok (.ireturn, 1) := by decide +kernel
def x_W_hasClass (a0 : Nat) (x1 : Int32) (σ0 : CST) (P : Int32 → CST → Prop) : Prop := ((x1 < 0 → P (0 : Int32) σ0) ∧ (¬ x1 < 0 → σ0.1 a0 = some (3, 0) ∧ ((((σ0.2.1 a0 3) ≤ x1 → P (0 : Int32) σ0) ∧ (¬ (σ0.2.1 a0 3) ≤ x1 → P (1 : Int32) σ0)))))
set_option maxHeartbeats 4000000 in
set_option maxRecDepth 100000 in
theorem X_W_hasClass (l : Launch) (dC : Nat → ClassId) (dI : Nat → Nat → Nat) (ca : Nat → ClassId) (H0 : Heap) (σ0 : CST) (a0 : Nat) (x1 : Int32) {P : Int32 → CST → Prop} (hw : x_W_hasClass a0 x1 σ0 P) : Met l g_W_hasClass (mW g_W_hasClass prog_12_method_8_code 2 (some .boolean)) ({ frames := 0, cells := σ0.2.2.2.2.1, slots := σ0.2.2.2.2.2.1, locals := 0 } : Room) (va_Pc [.ref a0, .int x1] (CPre (dC, dI) ca σ0 H0)) (va_Qi P (CB (dC, dI) ca σ0 H0) (cA σ0 H0.size)) σ0.2.2.2.2.1 σ0.2.2.2.2.2.1 (cA σ0 H0.size) := by
  refine C_ofz (by decide +kernel) rfl rfl rfl (Nat.le_of_ble_eq_true rfl) ?_
  intro p e s m below meth cx Q A ls C hnm hend hH0 h hl
  subst hH0
  have C0 := C
  obtain ⟨⟨hx, hb, hml, hown, hts⟩, hsub⟩ := C0
  obtain ⟨cells, e_cells⟩ : ∃ z : Nat, z = 0 := ⟨_, rfl⟩
  obtain ⟨slots, e_slots⟩ : ∃ z : Nat, z = 0 := ⟨_, rfl⟩
  have h : CH (dC, dI) A ca ({ frames := 0, cells := σ0.2.2.2.2.1, slots := σ0.2.2.2.2.2.1, locals := 0 } : Room) σ0.2.2.2.2.2.2 σ0 s s.heap [] cells slots := by rw [e_cells, e_slots]; exact h
  show W p l e ({ frames := 0, cells := σ0.2.2.2.2.1, slots := σ0.2.2.2.2.2.1, locals := 0 } : Room) s m ([.ref a0, .int x1] : List Value).toArray below meth cx s.heap [] 0 0 Q (F0 m 0 ls [])
  rw [show W p l e ({ frames := 0, cells := σ0.2.2.2.2.1, slots := σ0.2.2.2.2.2.1, locals := 0 } : Room) s m ([.ref a0, .int x1] : List Value).toArray below meth cx s.heap [] 0 0 Q (F0 m 0 ls []) = W p l e ({ frames := 0, cells := σ0.2.2.2.2.1, slots := σ0.2.2.2.2.2.1, locals := 0 } : Room) s m ([.ref a0, .int x1] : List Value).toArray below meth cx s.heap [] cells slots Q (F0 m 0 ls []) by rw [e_cells, e_slots]]
  have hl : lv_has ls 2 [(0, .ref a0), (1, .int x1)] := hl
  unfold x_W_hasClass at hw
  refine lv_iload_n hx hb h_W_hasClass_0 rfl (lv_at hl 1 rfl) ?_
  refine lv_if_lt (tgt := 16) hx hb h_W_hasClass_1 (by decide) (fun c1 => ?_) (fun c1 => ?_)
  · skip
    replace hw := hw.1 c1
    refine lv_iconst (v := 0) hx hb h_W_hasClass_16 (by decide) ?_
    exact hend (0 : Int32) σ0 _ _ _ _ _ _ rfl hw h h_W_hasClass_17
  · skip
    replace hw := hw.2 c1
    refine lv_iload_n hx hb h_W_hasClass_4 rfl (lv_at hl 1 rfl) ?_
    refine lv_aload_n hx hb h_W_hasClass_5 rfl (lv_at hl 0 rfl) ?_
    obtain ⟨g2, hw⟩ := hw
    refine C_get C h 3 3 (v := .int (σ0.2.1 a0 3)) g2 rfl (Cn := R_W) (T := T_W) (N := 10) rfl (by decide) rfl uw_W (by decide) u_704 (fun _ q => q) h_W_hasClass_6 ?_
    refine lv_icmp_ge (tgt := 16) hx hb h_W_hasClass_9 (by decide) (fun c3 => ?_) (fun c3 => ?_)
    · skip
      replace hw := hw.1 c3
      refine lv_iconst (v := 0) hx hb h_W_hasClass_16 (by decide) ?_
      exact hend (0 : Int32) σ0 _ _ _ _ _ _ rfl hw h h_W_hasClass_17
    · skip
      replace hw := hw.2 c3
      refine lv_iconst (v := 1) hx hb h_W_hasClass_12 (by decide) ?_
      refine lv_goto (tgt := 17) hx hb h_W_hasClass_13 (by decide) ?_
      exact hend (1 : Int32) σ0 _ _ _ _ _ _ rfl hw h h_W_hasClass_17
abbrev g_W_isProperClass : MethodName := ⟨"MapFramer$World", "isProperClass", "(I)Z"⟩
theorem u_705 : (Cond.methodLink "MapFramer$World" 58 ⟨"MapFramer$World", "hasClass", "(I)Z"⟩ : Cond) ∈ bigW := inB_1 228 (by decide +kernel) rfl
theorem u_706 : (Cond.instanceMethod ⟨"MapFramer$World", "hasClass", "(I)Z"⟩ : Cond) ∈ bigW := inB_1 229 (by decide +kernel) rfl
theorem u_707 : (Cond.selects "MapFramer$World" ⟨"MapFramer$World", "hasClass", "(I)Z"⟩ ⟨"MapFramer$World", "hasClass", "(I)Z"⟩ : Cond) ∈ bigW := inB_1 230 (by decide +kernel) rfl
theorem u_708 : (Cond.code ⟨"MapFramer$World", "hasClass", "(I)Z"⟩ prog_12_method_8_code 2 (some .boolean) : Cond) ∈ bigW := inB_1 231 rfl rfl
theorem h_W_isProperClass_0 : decode prog_12_method_9_code 0 = .ok (.aload_n 0, 1) := by decide +kernel
theorem h_W_isProperClass_1 : decode prog_12_method_9_code 1 = .ok (.iload_n 1, 1) := by decide +kernel
theorem h_W_isProperClass_2 : decode prog_12_method_9_code 2 = .ok (.invokevirtual 58, 3) := by decide +kernel
theorem h_W_isProperClass_5 : decode prog_12_method_9_code 5 = .ok (.ifCond .eq 16, 3) := by decide +kernel
theorem h_W_isProperClass_8 : decode prog_12_method_9_code 8 = .ok (.aload_n 0, 1) := by decide +kernel
theorem h_W_isProperClass_9 : decode prog_12_method_9_code 9 = .ok (.getfield 18, 3) := by decide +kernel
theorem h_W_isProperClass_12 : decode prog_12_method_9_code 12 = .ok (.iload_n 1, 1) := by decide +kernel
theorem h_W_isProperClass_13 : decode prog_12_method_9_code 13 = .ok (.baload, 1) := by decide +kernel
theorem h_W_isProperClass_14 : decode prog_12_method_9_code 14 = .ok (.ifCond .ne 7, 3) := by decide +kernel
theorem h_W_isProperClass_17 : decode prog_12_method_9_code 17 = .ok (.iconst 1, 1) := by decide +kernel
theorem h_W_isProperClass_18 : decode prog_12_method_9_code 18 = .ok (.goto 4, 3) := by decide +kernel
theorem h_W_isProperClass_21 : decode prog_12_method_9_code 21 = .ok (.iconst 0, 1) := by decide +kernel
theorem h_W_isProperClass_22 : decode prog_12_method_9_code 22 = .ok (.ireturn, 1) := by decide +kernel
def x_W_isProperClass (a0 : Nat) (x1 : Int32) (σ0 : CST) (P : Int32 → CST → Prop) : Prop := σ0.1 a0 = some (3, 0) ∧ (x_W_hasClass a0 x1 σ0 (fun r3 σ2 => ((r3 = 0 → P (0 : Int32) σ2) ∧ (¬ r3 = 0 → σ2.1 a0 = some (3, 0) ∧ (∀ b6 : Option Nat, b6 = (σ2.2.2.2.1 a0 2) → (∃ r7 : Nat, b6 = some r7 ∧ ((∃ n9 : Nat, σ2.1 r7 = some (21, n9) ∧ (vp_in x1 n9 ∧ (∀ b11 : Int32, b11 = (σ2.2.1 r7 (x1 : Int32).toNatClampNeg) → ((b11 = 0 → P (1 : Int32) σ2) ∧ (¬ b11 = 0 → P (0 : Int32) σ2))))))))))))
set_option maxHeartbeats 4000000 in
set_option maxRecDepth 100000 in
theorem X_W_isProperClass (l : Launch) (dC : Nat → ClassId) (dI : Nat → Nat → Nat) (ca : Nat → ClassId) (H0 : Heap) (σ0 : CST) (a0 : Nat) (x1 : Int32) {P : Int32 → CST → Prop} (hw : x_W_isProperClass a0 x1 σ0 P) : Met l g_W_isProperClass (mW g_W_isProperClass prog_12_method_9_code 2 (some .boolean)) ({ frames := 1, cells := σ0.2.2.2.2.1, slots := σ0.2.2.2.2.2.1, locals := 21 } : Room) (va_Pc [.ref a0, .int x1] (CPre (dC, dI) ca σ0 H0)) (va_Qi P (CB (dC, dI) ca σ0 H0) (cA σ0 H0.size)) σ0.2.2.2.2.1 σ0.2.2.2.2.2.1 (cA σ0 H0.size) := by
  refine C_ofz (by decide +kernel) rfl rfl rfl (Nat.le_of_ble_eq_true rfl) ?_
  intro p e s m below meth cx Q A ls C hnm hend hH0 h hl
  subst hH0
  have C0 := C
  obtain ⟨⟨hx, hb, hml, hown, hts⟩, hsub⟩ := C0
  obtain ⟨cells, e_cells⟩ : ∃ z : Nat, z = 0 := ⟨_, rfl⟩
  obtain ⟨slots, e_slots⟩ : ∃ z : Nat, z = 0 := ⟨_, rfl⟩
  have h : CH (dC, dI) A ca ({ frames := 1, cells := σ0.2.2.2.2.1, slots := σ0.2.2.2.2.2.1, locals := 21 } : Room) σ0.2.2.2.2.2.2 σ0 s s.heap [] cells slots := by rw [e_cells, e_slots]; exact h
  show W p l e ({ frames := 1, cells := σ0.2.2.2.2.1, slots := σ0.2.2.2.2.2.1, locals := 21 } : Room) s m ([.ref a0, .int x1] : List Value).toArray below meth cx s.heap [] 0 0 Q (F0 m 0 ls [])
  rw [show W p l e ({ frames := 1, cells := σ0.2.2.2.2.1, slots := σ0.2.2.2.2.2.1, locals := 21 } : Room) s m ([.ref a0, .int x1] : List Value).toArray below meth cx s.heap [] 0 0 Q (F0 m 0 ls []) = W p l e ({ frames := 1, cells := σ0.2.2.2.2.1, slots := σ0.2.2.2.2.2.1, locals := 21 } : Room) s m ([.ref a0, .int x1] : List Value).toArray below meth cx s.heap [] cells slots Q (F0 m 0 ls []) by rw [e_cells, e_slots]]
  have hl : lv_has ls 2 [(0, .ref a0), (1, .int x1)] := hl
  unfold x_W_isProperClass at hw
  refine lv_aload_n hx hb h_W_isProperClass_0 rfl (lv_at hl 0 rfl) ?_
  refine lv_iload_n hx hb h_W_isProperClass_1 rfl (lv_at hl 1 rfl) ?_
  obtain ⟨g1, hw⟩ := hw
  refine C_callVi (As := [.int x1]) (rest := []) C h (ci := 3) (Cn := R_W) (T := T_W) (N := 10) g1 rfl (by decide) (X_W_hasClass l dC dI ca s.heap σ0 a0 x1 hw) (cwV 1 hts (gV hsub u_705 u_706 u_707 u_51 u_708) rfl rfl rfl (by decide +kernel) ⟨(Nat.le_of_ble_eq_true rfl), (Nat.le_of_ble_eq_true rfl)⟩) rfl hl.1 (Nat.le_of_ble_eq_true rfl) h_W_isProperClass_2 (fun r3 σ2 H locs cells slots hw9 h9 => ?_)
  clear hw h; have hw := hw9; have h := h9; clear hw9 h9
  refine W.eq (g2 := F0 m 5 ls [.int r3]) rfl ?_
  refine lv_if_eq (tgt := 21) hx hb h_W_isProperClass_5 (by decide) (fun c4 => ?_) (fun c4 => ?_)
  · skip
    replace hw := hw.1 c4
    refine lv_iconst (v := 0) hx hb h_W_isProperClass_21 (by decide) ?_
    exact hend (0 : Int32) σ2 _ _ _ _ _ _ rfl hw h h_W_isProperClass_22
  · skip
    replace hw := hw.2 c4
    refine lv_aload_n hx hb h_W_isProperClass_8 rfl (lv_at hl 0 rfl) ?_
    obtain ⟨g5, hw⟩ := hw
    refine C_get C h 3 2 (v := va_rf (σ2.2.2.2.1 a0 2)) g5 rfl (Cn := R_W) (T := T_W) (N := 10) rfl (by decide) rfl uw_W (by decide) u_276 (fun _ q => q) h_W_isProperClass_9 ?_
    refine lv_topq (fun b6 e_b6 => ?_)
    replace hw := hw b6 e_b6
    refine lv_iload_n hx hb h_W_isProperClass_12 rfl (lv_at hl 1 rfl) ?_
    obtain ⟨r7, e_r7, hw⟩ := hw
    subst e_r7
    have hl : lv_has ls 2 [(0, .ref a0), (1, .int x1)] := hl
    refine W.eq (g2 := F0 m 13 ls [.int x1, .ref r7]) rfl ?_
    obtain ⟨n9, g8, hw⟩ := hw
    obtain ⟨g10, hw⟩ := hw
    refine C_zald C h g8 g10 h_W_isProperClass_13 ?_
    refine lv_topi (fun b11 e_b11 => ?_)
    replace hw := hw b11 e_b11
    refine lv_if_ne (tgt := 21) hx hb h_W_isProperClass_14 (by decide) (fun c12 => ?_) (fun c12 => ?_)
    · skip
      replace hw := hw.2 c12
      refine lv_iconst (v := 0) hx hb h_W_isProperClass_21 (by decide) ?_
      exact hend (0 : Int32) σ2 _ _ _ _ _ _ rfl hw h h_W_isProperClass_22
    · skip
      replace hw := hw.1 c12
      refine lv_iconst (v := 1) hx hb h_W_isProperClass_17 (by decide) ?_
      refine lv_goto (tgt := 22) hx hb h_W_isProperClass_18 (by decide) ?_
      exact hend (1 : Int32) σ2 _ _ _ _ _ _ rfl hw h h_W_isProperClass_22
abbrev g_Ve_hasMember : MethodName := ⟨"MapFramer$Verifier", "hasMember", "(II)Z"⟩
theorem u_709 : (Cond.methodLink "MapFramer$Verifier" 93 ⟨"MapFramer$World", "hasField", "(IZ)Z"⟩ : Cond) ∈ bigW := inB_4 14 (by decide +kernel) rfl
theorem u_710 : (Cond.instanceMethod ⟨"MapFramer$World", "hasField", "(IZ)Z"⟩ : Cond) ∈ bigW := inB_4 15 (by decide +kernel) rfl
theorem u_711 : (Cond.selects "MapFramer$World" ⟨"MapFramer$World", "hasField", "(IZ)Z"⟩ ⟨"MapFramer$World", "hasField", "(IZ)Z"⟩ : Cond) ∈ bigW := inB_4 16 (by decide +kernel) rfl
theorem u_712 : (Cond.code ⟨"MapFramer$World", "hasField", "(IZ)Z"⟩ prog_12_method_10_code 3 (some .boolean) : Cond) ∈ bigW := inB_4 17 rfl rfl
theorem u_713 : (Cond.methodLink "MapFramer$Verifier" 107 ⟨"MapFramer$World", "isProperClass", "(I)Z"⟩ : Cond) ∈ bigW := inB_4 20 (by decide +kernel) rfl
theorem u_714 : (Cond.instanceMethod ⟨"MapFramer$World", "isProperClass", "(I)Z"⟩ : Cond) ∈ bigW := inB_1 225 (by decide +kernel) rfl
theorem u_715 : (Cond.selects "MapFramer$World" ⟨"MapFramer$World", "isProperClass", "(I)Z"⟩ ⟨"MapFramer$World", "isProperClass", "(I)Z"⟩ : Cond) ∈ bigW := inB_1 226 (by decide +kernel) rfl
theorem u_716 : (Cond.code ⟨"MapFramer$World", "isProperClass", "(I)Z"⟩ prog_12_method_9_code 2 (some .boolean) : Cond) ∈ bigW := inB_1 227 rfl rfl
theorem u_717 : (Cond.methodLink "MapFramer$Verifier" 99 ⟨"MapFramer$World", "methodAt", "(I)LMapFramer$Method;"⟩ : Cond) ∈ bigW := inB_4 18 (by decide +kernel) rfl
theorem u_718 : (Cond.methodLink "MapFramer$Verifier" 103 ⟨"MapFramer$Method", "hasCode", "()Z"⟩ : Cond) ∈ bigW := inB_4 19 (by decide +kernel) rfl
theorem u_719 : (Cond.instanceMethod ⟨"MapFramer$Method", "hasCode", "()Z"⟩ : Cond) ∈ bigW := inB_3 1 (by decide +kernel) rfl
theorem u_720 : (Cond.selects "MapFramer$Method" ⟨"MapFramer$Method", "hasCode", "()Z"⟩ ⟨"MapFramer$Method", "hasCode", "()Z"⟩ : Cond) ∈ bigW := inB_3 2 (by decide +kernel) rfl
theorem u_721 : (Cond.code ⟨"MapFramer$Method", "hasCode", "()Z"⟩ prog_7_method_2_code 1 (some .boolean) : Cond) ∈ bigW := inB_3 3 rfl rfl
theorem u_722 : (Cond.methodLink "MapFramer$Verifier" 111 ⟨"MapFramer$World", "hasClass", "(I)Z"⟩ : Cond) ∈ bigW := inB_4 21 (by decide +kernel) rfl
theorem h_Ve_hasMember_0 : decode prog_11_method_5_code 0 = .ok (.iload_n 1, 1) := by decide +kernel
theorem h_Ve_hasMember_1 : decode prog_11_method_5_code 1 = .ok (.tableswitch 161 178 193 #[79, 79, 89, 89, 161, 125, 99, 161, 161, 125, 134, 152, 161, 161, 152, 152], 79) := by decide +kernel
theorem h_Ve_hasMember_80 : decode prog_11_method_5_code 80 = .ok (.aload_n 0, 1) := by decide +kernel
theorem h_Ve_hasMember_81 : decode prog_11_method_5_code 81 = .ok (.getfield 9, 3) := by decide +kernel
theorem h_Ve_hasMember_84 : decode prog_11_method_5_code 84 = .ok (.iload_n 2, 1) := by decide +kernel
theorem h_Ve_hasMember_85 : decode prog_11_method_5_code 85 = .ok (.iconst 1, 1) := by decide +kernel
theorem h_Ve_hasMember_86 : decode prog_11_method_5_code 86 = .ok (.invokevirtual 93, 3) := by decide +kernel
theorem h_Ve_hasMember_89 : decode prog_11_method_5_code 89 = .ok (.ireturn, 1) := by decide +kernel
theorem h_Ve_hasMember_90 : decode prog_11_method_5_code 90 = .ok (.aload_n 0, 1) := by decide +kernel
theorem h_Ve_hasMember_91 : decode prog_11_method_5_code 91 = .ok (.getfield 9, 3) := by decide +kernel
theorem h_Ve_hasMember_94 : decode prog_11_method_5_code 94 = .ok (.iload_n 2, 1) := by decide +kernel
theorem h_Ve_hasMember_95 : decode prog_11_method_5_code 95 = .ok (.iconst 0, 1) := by decide +kernel
theorem h_Ve_hasMember_96 : decode prog_11_method_5_code 96 = .ok (.invokevirtual 93, 3) := by decide +kernel
theorem h_Ve_hasMember_99 : decode prog_11_method_5_code 99 = .ok (.ireturn, 1) := by decide +kernel
theorem h_Ve_hasMember_100 : decode prog_11_method_5_code 100 = .ok (.aload_n 0, 1) := by decide +kernel
theorem h_Ve_hasMember_101 : decode prog_11_method_5_code 101 = .ok (.getfield 9, 3) := by decide +kernel
theorem h_Ve_hasMember_104 : decode prog_11_method_5_code 104 = .ok (.iload_n 2, 1) := by decide +kernel
theorem h_Ve_hasMember_105 : decode prog_11_method_5_code 105 = .ok (.invokevirtual 99, 3) := by decide +kernel
theorem h_Ve_hasMember_108 : decode prog_11_method_5_code 108 = .ok (.astore_n 3, 1) := by decide +kernel
theorem h_Ve_hasMember_109 : decode prog_11_method_5_code 109 = .ok (.aload_n 3, 1) := by decide +kernel
theorem h_Ve_hasMember_110 : decode prog_11_method_5_code 110 = .ok (.ifnull 14, 3) := by decide +kernel
theorem h_Ve_hasMember_113 : decode prog_11_method_5_code 113 = .ok (.aload_n 3, 1) := by decide +kernel
theorem h_Ve_hasMember_114 : decode prog_11_method_5_code 114 = .ok (.invokevirtual 103, 3) := by decide +kernel
theorem h_Ve_hasMember_117 : decode prog_11_method_5_code 117 = .ok (.ifCond .eq 7, 3) := by decide +kernel
theorem h_Ve_hasMember_120 : decode prog_11_method_5_code 120 = .ok (.iconst 1, 1) := by decide +kernel
theorem h_Ve_hasMember_121 : decode prog_11_method_5_code 121 = .ok (.goto 4, 3) := by decide +kernel
theorem h_Ve_hasMember_124 : decode prog_11_method_5_code 124 = .ok (.iconst 0, 1) := by decide +kernel
theorem h_Ve_hasMember_125 : decode prog_11_method_5_code 125 = .ok (.ireturn, 1) := by decide +kernel
theorem h_Ve_hasMember_126 : decode prog_11_method_5_code 126 = .ok (.aload_n 0, 1) := by decide +kernel
theorem h_Ve_hasMember_127 : decode prog_11_method_5_code 127 = .ok (.getfield 9, 3) := by decide +kernel
theorem h_Ve_hasMember_130 : decode prog_11_method_5_code 130 = .ok (.iload_n 2, 1) := by decide +kernel
theorem h_Ve_hasMember_131 : decode prog_11_method_5_code 131 = .ok (.invokevirtual 107, 3) := by decide +kernel
theorem h_Ve_hasMember_134 : decode prog_11_method_5_code 134 = .ok (.ireturn, 1) := by decide +kernel
theorem h_Ve_hasMember_135 : decode prog_11_method_5_code 135 = .ok (.iload_n 2, 1) := by decide +kernel
theorem h_Ve_hasMember_136 : decode prog_11_method_5_code 136 = .ok (.bipush 10, 2) := by decide +kernel
theorem h_Ve_hasMember_138 : decode prog_11_method_5_code 138 = .ok (.if_icmp .eq 9, 3) := by decide +kernel
theorem h_Ve_hasMember_141 : decode prog_11_method_5_code 141 = .ok (.iload_n 2, 1) := by decide +kernel
theorem h_Ve_hasMember_142 : decode prog_11_method_5_code 142 = .ok (.bipush 11, 2) := by decide +kernel
theorem h_Ve_hasMember_144 : decode prog_11_method_5_code 144 = .ok (.if_icmp .ne 7, 3) := by decide +kernel
theorem h_Ve_hasMember_147 : decode prog_11_method_5_code 147 = .ok (.iconst 1, 1) := by decide +kernel
theorem h_Ve_hasMember_148 : decode prog_11_method_5_code 148 = .ok (.goto 4, 3) := by decide +kernel
theorem h_Ve_hasMember_151 : decode prog_11_method_5_code 151 = .ok (.iconst 0, 1) := by decide +kernel
theorem h_Ve_hasMember_152 : decode prog_11_method_5_code 152 = .ok (.ireturn, 1) := by decide +kernel
theorem h_Ve_hasMember_153 : decode prog_11_method_5_code 153 = .ok (.aload_n 0, 1) := by decide +kernel
theorem h_Ve_hasMember_154 : decode prog_11_method_5_code 154 = .ok (.getfield 9, 3) := by decide +kernel
theorem h_Ve_hasMember_157 : decode prog_11_method_5_code 157 = .ok (.iload_n 2, 1) := by decide +kernel
theorem h_Ve_hasMember_158 : decode prog_11_method_5_code 158 = .ok (.invokevirtual 111, 3) := by decide +kernel
theorem h_Ve_hasMember_161 : decode prog_11_method_5_code 161 = .ok (.ireturn, 1) := by decide +kernel
theorem h_Ve_hasMember_162 : decode prog_11_method_5_code 162 = .ok (.iconst 1, 1) := by decide +kernel
theorem h_Ve_hasMember_163 : decode prog_11_method_5_code 163 = .ok (.ireturn, 1) := by decide +kernel
def x_Ve_hasMember_147 (a0 : Nat) (P : Int32 → CST → Prop) (σ : CST) : Prop := P (1 : Int32) σ
def x_Ve_hasMember (a0 : Nat) (x1 : Int32) (x2 : Int32) (σ0 : CST) (P : Int32 → CST → Prop) : Prop := ((x1 = 178 → σ0.1 a0 = some (10, 0) ∧ (∀ b3 : Option Nat, b3 = (σ0.2.2.2.1 a0 0) → (∃ r4 : Nat, b3 = some r4 ∧ (σ0.1 r4 = some (3, 0) ∧ (x_W_hasField r4 x2 (1 : Int32) σ0 (fun r7 σ6 => (narrow .boolean (.int r7) = .int r7 ∧ P r7 σ6))))))) ∧ (¬ x1 = 178 → ((x1 = 179 → σ0.1 a0 = some (10, 0) ∧ (∀ b10 : Option Nat, b10 = (σ0.2.2.2.1 a0 0) → (∃ r11 : Nat, b10 = some r11 ∧ (σ0.1 r11 = some (3, 0) ∧ (x_W_hasField r11 x2 (1 : Int32) σ0 (fun r14 σ13 => (narrow .boolean (.int r14) = .int r14 ∧ P r14 σ13))))))) ∧ (¬ x1 = 179 → ((x1 = 180 → σ0.1 a0 = some (10, 0) ∧ (∀ b17 : Option Nat, b17 = (σ0.2.2.2.1 a0 0) → (∃ r18 : Nat, b17 = some r18 ∧ (σ0.1 r18 = some (3, 0) ∧ (x_W_hasField r18 x2 (0 : Int32) σ0 (fun r21 σ20 => (narrow .boolean (.int r21) = .int r21 ∧ P r21 σ20))))))) ∧ (¬ x1 = 180 → ((x1 = 181 → σ0.1 a0 = some (10, 0) ∧ (∀ b24 : Option Nat, b24 = (σ0.2.2.2.1 a0 0) → (∃ r25 : Nat, b24 = some r25 ∧ (σ0.1 r25 = some (3, 0) ∧ (x_W_hasField r25 x2 (0 : Int32) σ0 (fun r28 σ27 => (narrow .boolean (.int r28) = .int r28 ∧ P r28 σ27))))))) ∧ (¬ x1 = 181 → ((x1 = 182 → P (1 : Int32) σ0) ∧ (¬ x1 = 182 → ((x1 = 183 → σ0.1 a0 = some (10, 0) ∧ (∀ b32 : Option Nat, b32 = (σ0.2.2.2.1 a0 0) → (∃ r33 : Nat, b32 = some r33 ∧ (σ0.1 r33 = some (3, 0) ∧ (x_W_isProperClass r33 x2 σ0 (fun r36 σ35 => (narrow .boolean (.int r36) = .int r36 ∧ P r36 σ35))))))) ∧ (¬ x1 = 183 → ((x1 = 184 → σ0.1 a0 = some (10, 0) ∧ (∀ b39 : Option Nat, b39 = (σ0.2.2.2.1 a0 0) → (∃ r40 : Nat, b39 = some r40 ∧ (σ0.1 r40 = some (3, 0) ∧ (x_W_methodAt r40 x2 σ0 (fun r43 σ42 => ((r43 = none → P (0 : Int32) σ42) ∧ (∀ r45 : Nat, r43 = some r45 → σ42.1 r45 = some (5, 0) ∧ (x_E_hasCode r45 σ42 (fun r48 σ47 => ((r48 = 0 → P (0 : Int32) σ47) ∧ (¬ r48 = 0 → P (1 : Int32) σ47)))))))))))) ∧ (¬ x1 = 184 → ((x1 = 185 → P (1 : Int32) σ0) ∧ (¬ x1 = 185 → ((x1 = 186 → P (1 : Int32) σ0) ∧ (¬ x1 = 186 → ((x1 = 187 → σ0.1 a0 = some (10, 0) ∧ (∀ b54 : Option Nat, b54 = (σ0.2.2.2.1 a0 0) → (∃ r55 : Nat, b54 = some r55 ∧ (σ0.1 r55 = some (3, 0) ∧ (x_W_isProperClass r55 x2 σ0 (fun r58 σ57 => (narrow .boolean (.int r58) = .int r58 ∧ P r58 σ57))))))) ∧ (¬ x1 = 187 → ((x1 = 188 → ((x2 = 10 → x_Ve_hasMember_147 a0 P σ0) ∧ (¬ x2 = 10 → ((x2 = 11 → x_Ve_hasMember_147 a0 P σ0) ∧ (¬ x2 = 11 → P (0 : Int32) σ0))))) ∧ (¬ x1 = 188 → ((x1 = 189 → σ0.1 a0 = some (10, 0) ∧ (∀ b64 : Option Nat, b64 = (σ0.2.2.2.1 a0 0) → (∃ r65 : Nat, b64 = some r65 ∧ (σ0.1 r65 = some (3, 0) ∧ (x_W_hasClass r65 x2 σ0 (fun r68 σ67 => (narrow .boolean (.int r68) = .int r68 ∧ P r68 σ67))))))) ∧ (¬ x1 = 189 → ((x1 = 190 → P (1 : Int32) σ0) ∧ (¬ x1 = 190 → ((x1 = 191 → P (1 : Int32) σ0) ∧ (¬ x1 = 191 → ((x1 = 192 → σ0.1 a0 = some (10, 0) ∧ (∀ b73 : Option Nat, b73 = (σ0.2.2.2.1 a0 0) → (∃ r74 : Nat, b73 = some r74 ∧ (σ0.1 r74 = some (3, 0) ∧ (x_W_hasClass r74 x2 σ0 (fun r77 σ76 => (narrow .boolean (.int r77) = .int r77 ∧ P r77 σ76))))))) ∧ (¬ x1 = 192 → ((x1 = 193 → σ0.1 a0 = some (10, 0) ∧ (∀ b80 : Option Nat, b80 = (σ0.2.2.2.1 a0 0) → (∃ r81 : Nat, b80 = some r81 ∧ (σ0.1 r81 = some (3, 0) ∧ (x_W_hasClass r81 x2 σ0 (fun r84 σ83 => (narrow .boolean (.int r84) = .int r84 ∧ P r84 σ83))))))) ∧ (¬ x1 = 193 → P (1 : Int32) σ0))))))))))))))))))))))))))))))))
set_option maxHeartbeats 4000000 in
set_option maxRecDepth 100000 in
theorem X_Ve_hasMember (l : Launch) (dC : Nat → ClassId) (dI : Nat → Nat → Nat) (ca : Nat → ClassId) (H0 : Heap) (σ0 : CST) (a0 : Nat) (x1 : Int32) (x2 : Int32) {P : Int32 → CST → Prop} (hw : x_Ve_hasMember a0 x1 x2 σ0 P) : Met l g_Ve_hasMember (mW g_Ve_hasMember prog_11_method_5_code 4 (some .boolean)) ({ frames := 2, cells := σ0.2.2.2.2.1, slots := σ0.2.2.2.2.2.1, locals := 42 } : Room) (va_Pc [.ref a0, .int x1, .int x2] (CPre (dC, dI) ca σ0 H0)) (va_Qi P (CB (dC, dI) ca σ0 H0) (cA σ0 H0.size)) σ0.2.2.2.2.1 σ0.2.2.2.2.2.1 (cA σ0 H0.size) := by
  refine C_ofz (by decide +kernel) rfl rfl rfl (Nat.le_of_ble_eq_true rfl) ?_
  intro p e s m below meth cx Q A ls C hnm hend hH0 h hl
  subst hH0
  have C0 := C
  obtain ⟨⟨hx, hb, hml, hown, hts⟩, hsub⟩ := C0
  obtain ⟨cells, e_cells⟩ : ∃ z : Nat, z = 0 := ⟨_, rfl⟩
  obtain ⟨slots, e_slots⟩ : ∃ z : Nat, z = 0 := ⟨_, rfl⟩
  have h : CH (dC, dI) A ca ({ frames := 2, cells := σ0.2.2.2.2.1, slots := σ0.2.2.2.2.2.1, locals := 42 } : Room) σ0.2.2.2.2.2.2 σ0 s s.heap [] cells slots := by rw [e_cells, e_slots]; exact h
  show W p l e ({ frames := 2, cells := σ0.2.2.2.2.1, slots := σ0.2.2.2.2.2.1, locals := 42 } : Room) s m ([.ref a0, .int x1, .int x2] : List Value).toArray below meth cx s.heap [] 0 0 Q (F0 m 0 ls [])
  rw [show W p l e ({ frames := 2, cells := σ0.2.2.2.2.1, slots := σ0.2.2.2.2.2.1, locals := 42 } : Room) s m ([.ref a0, .int x1, .int x2] : List Value).toArray below meth cx s.heap [] 0 0 Q (F0 m 0 ls []) = W p l e ({ frames := 2, cells := σ0.2.2.2.2.1, slots := σ0.2.2.2.2.2.1, locals := 42 } : Room) s m ([.ref a0, .int x1, .int x2] : List Value).toArray below meth cx s.heap [] cells slots Q (F0 m 0 ls []) by rw [e_cells, e_slots]]
  have K_147 : ∀ (u9 : Unit), ∀ (σ : CST) (H : Heap) (locs : List Loc) (cells slots : Nat) (ls : Array Slot), x_Ve_hasMember_147 a0 P σ → CH (dC, dI) A ca ({ frames := 2, cells := σ0.2.2.2.2.1, slots := σ0.2.2.2.2.2.1, locals := 42 } : Room) σ0.2.2.2.2.2.2 σ s H locs cells slots → lv_has ls 4 [] → W p l e ({ frames := 2, cells := σ0.2.2.2.2.1, slots := σ0.2.2.2.2.2.1, locals := 42 } : Room) s m ([.ref a0, .int x1, .int x2] : List Value).toArray below meth cx H locs cells slots Q (F0 m 147 ls []) := by
    intro u9  σ H locs cells slots ls hw h hl
    unfold x_Ve_hasMember_147 at hw
    refine lv_iconst (v := 1) hx hb h_Ve_hasMember_147 (by decide) ?_
    refine lv_goto (tgt := 152) hx hb h_Ve_hasMember_148 (by decide) ?_
    exact hend (1 : Int32) σ _ _ _ _ _ _ rfl hw h h_Ve_hasMember_152
  have hl : lv_has ls 4 [(0, .ref a0), (1, .int x1), (2, .int x2)] := hl
  unfold x_Ve_hasMember at hw
  refine lv_iload_n hx hb h_Ve_hasMember_0 rfl (lv_at hl 1 rfl) ?_
  by_cases c1 : x1 = 178
  · skip
    replace hw := hw.1 c1
    refine tp_i 178 c1 ?_
    refine lv_tableIn (off := 79) (tgt := 80) hx hb h_Ve_hasMember_1 (by decide) (by decide) (by decide) (by decide) ?_
    refine lv_aload_n hx hb h_Ve_hasMember_80 rfl (lv_at hl 0 rfl) ?_
    obtain ⟨g2, hw⟩ := hw
    refine C_get C h 10 0 (v := va_rf (σ0.2.2.2.1 a0 0)) g2 rfl (Cn := R_Ve) (T := T_Ve) (N := 10) rfl (by decide) rfl uw_Ve (by decide) u_680 (fun _ q => q) h_Ve_hasMember_81 ?_
    refine lv_topq (fun b3 e_b3 => ?_)
    replace hw := hw b3 e_b3
    refine lv_iload_n hx hb h_Ve_hasMember_84 rfl (lv_at hl 2 rfl) ?_
    refine lv_iconst (v := 1) hx hb h_Ve_hasMember_85 (by decide) ?_
    obtain ⟨r4, e_r4, hw⟩ := hw
    subst e_r4
    have hl : lv_has ls 4 [(0, .ref a0), (1, .int x1), (2, .int x2)] := hl
    refine W.eq (g2 := F0 m 86 ls [.int 1, .int x2, .ref r4]) rfl ?_
    obtain ⟨g5, hw⟩ := hw
    refine C_callVi (As := [.int x2, .int 1]) (rest := []) C h (ci := 3) (Cn := R_W) (T := T_W) (N := 10) g5 rfl (by decide) (X_W_hasField l dC dI ca s.heap σ0 r4 x2 (1 : Int32) hw) (cwV 2 hts (gV hsub u_709 u_710 u_711 u_51 u_712) rfl rfl rfl (by decide +kernel) ⟨(Nat.le_of_ble_eq_true rfl), (Nat.le_of_ble_eq_true rfl)⟩) rfl hl.1 (Nat.le_of_ble_eq_true rfl) h_Ve_hasMember_86 (fun r7 σ6 H locs cells slots hw9 h9 => ?_)
    clear hw h; have hw := hw9; have h := h9; clear hw9 h9
    refine W.eq (g2 := F0 m 89 ls [.int r7]) rfl ?_
    exact hend r7 σ6 _ _ _ _ _ _ hw.1 hw.2 h h_Ve_hasMember_89
  · skip
    replace hw := hw.2 c1
    by_cases c8 : x1 = 179
    · skip
      replace hw := hw.1 c8
      refine tp_i 179 c8 ?_
      refine lv_tableIn (off := 79) (tgt := 80) hx hb h_Ve_hasMember_1 (by decide) (by decide) (by decide) (by decide) ?_
      refine lv_aload_n hx hb h_Ve_hasMember_80 rfl (lv_at hl 0 rfl) ?_
      obtain ⟨g9, hw⟩ := hw
      refine C_get C h 10 0 (v := va_rf (σ0.2.2.2.1 a0 0)) g9 rfl (Cn := R_Ve) (T := T_Ve) (N := 10) rfl (by decide) rfl uw_Ve (by decide) u_680 (fun _ q => q) h_Ve_hasMember_81 ?_
      refine lv_topq (fun b10 e_b10 => ?_)
      replace hw := hw b10 e_b10
      refine lv_iload_n hx hb h_Ve_hasMember_84 rfl (lv_at hl 2 rfl) ?_
      refine lv_iconst (v := 1) hx hb h_Ve_hasMember_85 (by decide) ?_
      obtain ⟨r11, e_r11, hw⟩ := hw
      subst e_r11
      have hl : lv_has ls 4 [(0, .ref a0), (1, .int x1), (2, .int x2)] := hl
      refine W.eq (g2 := F0 m 86 ls [.int 1, .int x2, .ref r11]) rfl ?_
      obtain ⟨g12, hw⟩ := hw
      refine C_callVi (As := [.int x2, .int 1]) (rest := []) C h (ci := 3) (Cn := R_W) (T := T_W) (N := 10) g12 rfl (by decide) (X_W_hasField l dC dI ca s.heap σ0 r11 x2 (1 : Int32) hw) (cwV 2 hts (gV hsub u_709 u_710 u_711 u_51 u_712) rfl rfl rfl (by decide +kernel) ⟨(Nat.le_of_ble_eq_true rfl), (Nat.le_of_ble_eq_true rfl)⟩) rfl hl.1 (Nat.le_of_ble_eq_true rfl) h_Ve_hasMember_86 (fun r14 σ13 H locs cells slots hw9 h9 => ?_)
      clear hw h; have hw := hw9; have h := h9; clear hw9 h9
      refine W.eq (g2 := F0 m 89 ls [.int r14]) rfl ?_
      exact hend r14 σ13 _ _ _ _ _ _ hw.1 hw.2 h h_Ve_hasMember_89
    · skip
      replace hw := hw.2 c8
      by_cases c15 : x1 = 180
      · skip
        replace hw := hw.1 c15
        refine tp_i 180 c15 ?_
        refine lv_tableIn (off := 89) (tgt := 90) hx hb h_Ve_hasMember_1 (by decide) (by decide) (by decide) (by decide) ?_
        refine lv_aload_n hx hb h_Ve_hasMember_90 rfl (lv_at hl 0 rfl) ?_
        obtain ⟨g16, hw⟩ := hw
        refine C_get C h 10 0 (v := va_rf (σ0.2.2.2.1 a0 0)) g16 rfl (Cn := R_Ve) (T := T_Ve) (N := 10) rfl (by decide) rfl uw_Ve (by decide) u_680 (fun _ q => q) h_Ve_hasMember_91 ?_
        refine lv_topq (fun b17 e_b17 => ?_)
        replace hw := hw b17 e_b17
        refine lv_iload_n hx hb h_Ve_hasMember_94 rfl (lv_at hl 2 rfl) ?_
        refine lv_iconst (v := 0) hx hb h_Ve_hasMember_95 (by decide) ?_
        obtain ⟨r18, e_r18, hw⟩ := hw
        subst e_r18
        have hl : lv_has ls 4 [(0, .ref a0), (1, .int x1), (2, .int x2)] := hl
        refine W.eq (g2 := F0 m 96 ls [.int 0, .int x2, .ref r18]) rfl ?_
        obtain ⟨g19, hw⟩ := hw
        refine C_callVi (As := [.int x2, .int 0]) (rest := []) C h (ci := 3) (Cn := R_W) (T := T_W) (N := 10) g19 rfl (by decide) (X_W_hasField l dC dI ca s.heap σ0 r18 x2 (0 : Int32) hw) (cwV 2 hts (gV hsub u_709 u_710 u_711 u_51 u_712) rfl rfl rfl (by decide +kernel) ⟨(Nat.le_of_ble_eq_true rfl), (Nat.le_of_ble_eq_true rfl)⟩) rfl hl.1 (Nat.le_of_ble_eq_true rfl) h_Ve_hasMember_96 (fun r21 σ20 H locs cells slots hw9 h9 => ?_)
        clear hw h; have hw := hw9; have h := h9; clear hw9 h9
        refine W.eq (g2 := F0 m 99 ls [.int r21]) rfl ?_
        exact hend r21 σ20 _ _ _ _ _ _ hw.1 hw.2 h h_Ve_hasMember_99
      · skip
        replace hw := hw.2 c15
        by_cases c22 : x1 = 181
        · skip
          replace hw := hw.1 c22
          refine tp_i 181 c22 ?_
          refine lv_tableIn (off := 89) (tgt := 90) hx hb h_Ve_hasMember_1 (by decide) (by decide) (by decide) (by decide) ?_
          refine lv_aload_n hx hb h_Ve_hasMember_90 rfl (lv_at hl 0 rfl) ?_
          obtain ⟨g23, hw⟩ := hw
          refine C_get C h 10 0 (v := va_rf (σ0.2.2.2.1 a0 0)) g23 rfl (Cn := R_Ve) (T := T_Ve) (N := 10) rfl (by decide) rfl uw_Ve (by decide) u_680 (fun _ q => q) h_Ve_hasMember_91 ?_
          refine lv_topq (fun b24 e_b24 => ?_)
          replace hw := hw b24 e_b24
          refine lv_iload_n hx hb h_Ve_hasMember_94 rfl (lv_at hl 2 rfl) ?_
          refine lv_iconst (v := 0) hx hb h_Ve_hasMember_95 (by decide) ?_
          obtain ⟨r25, e_r25, hw⟩ := hw
          subst e_r25
          have hl : lv_has ls 4 [(0, .ref a0), (1, .int x1), (2, .int x2)] := hl
          refine W.eq (g2 := F0 m 96 ls [.int 0, .int x2, .ref r25]) rfl ?_
          obtain ⟨g26, hw⟩ := hw
          refine C_callVi (As := [.int x2, .int 0]) (rest := []) C h (ci := 3) (Cn := R_W) (T := T_W) (N := 10) g26 rfl (by decide) (X_W_hasField l dC dI ca s.heap σ0 r25 x2 (0 : Int32) hw) (cwV 2 hts (gV hsub u_709 u_710 u_711 u_51 u_712) rfl rfl rfl (by decide +kernel) ⟨(Nat.le_of_ble_eq_true rfl), (Nat.le_of_ble_eq_true rfl)⟩) rfl hl.1 (Nat.le_of_ble_eq_true rfl) h_Ve_hasMember_96 (fun r28 σ27 H locs cells slots hw9 h9 => ?_)
          clear hw h; have hw := hw9; have h := h9; clear hw9 h9
          refine W.eq (g2 := F0 m 99 ls [.int r28]) rfl ?_
          exact hend r28 σ27 _ _ _ _ _ _ hw.1 hw.2 h h_Ve_hasMember_99
        · skip
          replace hw := hw.2 c22
          by_cases c29 : x1 = 182
          · skip
            replace hw := hw.1 c29
            refine tp_i 182 c29 ?_
            refine lv_tableIn (off := 161) (tgt := 162) hx hb h_Ve_hasMember_1 (by decide) (by decide) (by decide) (by decide) ?_
            refine lv_iconst (v := 1) hx hb h_Ve_hasMember_162 (by decide) ?_
            exact hend (1 : Int32) σ0 _ _ _ _ _ _ rfl hw h h_Ve_hasMember_163
          · skip
            replace hw := hw.2 c29
            by_cases c30 : x1 = 183
            · skip
              replace hw := hw.1 c30
              refine tp_i 183 c30 ?_
              refine lv_tableIn (off := 125) (tgt := 126) hx hb h_Ve_hasMember_1 (by decide) (by decide) (by decide) (by decide) ?_
              refine lv_aload_n hx hb h_Ve_hasMember_126 rfl (lv_at hl 0 rfl) ?_
              obtain ⟨g31, hw⟩ := hw
              refine C_get C h 10 0 (v := va_rf (σ0.2.2.2.1 a0 0)) g31 rfl (Cn := R_Ve) (T := T_Ve) (N := 10) rfl (by decide) rfl uw_Ve (by decide) u_680 (fun _ q => q) h_Ve_hasMember_127 ?_
              refine lv_topq (fun b32 e_b32 => ?_)
              replace hw := hw b32 e_b32
              refine lv_iload_n hx hb h_Ve_hasMember_130 rfl (lv_at hl 2 rfl) ?_
              obtain ⟨r33, e_r33, hw⟩ := hw
              subst e_r33
              have hl : lv_has ls 4 [(0, .ref a0), (1, .int x1), (2, .int x2)] := hl
              refine W.eq (g2 := F0 m 131 ls [.int x2, .ref r33]) rfl ?_
              obtain ⟨g34, hw⟩ := hw
              refine C_callVi (As := [.int x2]) (rest := []) C h (ci := 3) (Cn := R_W) (T := T_W) (N := 10) g34 rfl (by decide) (X_W_isProperClass l dC dI ca s.heap σ0 r33 x2 hw) (cwV 1 hts (gV hsub u_713 u_714 u_715 u_51 u_716) rfl rfl rfl (by decide +kernel) ⟨(Nat.le_of_ble_eq_true rfl), (Nat.le_of_ble_eq_true rfl)⟩) rfl hl.1 (Nat.le_of_ble_eq_true rfl) h_Ve_hasMember_131 (fun r36 σ35 H locs cells slots hw9 h9 => ?_)
              clear hw h; have hw := hw9; have h := h9; clear hw9 h9
              refine W.eq (g2 := F0 m 134 ls [.int r36]) rfl ?_
              exact hend r36 σ35 _ _ _ _ _ _ hw.1 hw.2 h h_Ve_hasMember_134
            · skip
              replace hw := hw.2 c30
              by_cases c37 : x1 = 184
              · skip
                replace hw := hw.1 c37
                refine tp_i 184 c37 ?_
                refine lv_tableIn (off := 99) (tgt := 100) hx hb h_Ve_hasMember_1 (by decide) (by decide) (by decide) (by decide) ?_
                refine lv_aload_n hx hb h_Ve_hasMember_100 rfl (lv_at hl 0 rfl) ?_
                obtain ⟨g38, hw⟩ := hw
                refine C_get C h 10 0 (v := va_rf (σ0.2.2.2.1 a0 0)) g38 rfl (Cn := R_Ve) (T := T_Ve) (N := 10) rfl (by decide) rfl uw_Ve (by decide) u_680 (fun _ q => q) h_Ve_hasMember_101 ?_
                refine lv_topq (fun b39 e_b39 => ?_)
                replace hw := hw b39 e_b39
                refine lv_iload_n hx hb h_Ve_hasMember_104 rfl (lv_at hl 2 rfl) ?_
                obtain ⟨r40, e_r40, hw⟩ := hw
                subst e_r40
                have hl : lv_has ls 4 [(0, .ref a0), (1, .int x1), (2, .int x2)] := hl
                refine W.eq (g2 := F0 m 105 ls [.int x2, .ref r40]) rfl ?_
                obtain ⟨g41, hw⟩ := hw
                refine C_callVq (As := [.int x2]) (rest := []) C h (ci := 3) (Cn := R_W) (T := T_W) (N := 10) g41 rfl (by decide) (X_W_methodAt l dC dI ca s.heap σ0 r40 x2 hw) (cwV 1 hts (gV hsub u_717 u_342 u_343 u_51 u_344) rfl rfl rfl (by decide +kernel) ⟨(Nat.le_of_ble_eq_true rfl), (Nat.le_of_ble_eq_true rfl)⟩) rfl hl.1 (Nat.le_of_ble_eq_true rfl) h_Ve_hasMember_105 (fun r43 σ42 H locs cells slots hw9 h9 => ?_)
                clear hw h; have hw := hw9; have h := h9; clear hw9 h9
                refine W.eq (g2 := F0 m 108 ls [va_rf r43]) rfl ?_
                refine cq_astore_n (i := 3) (lv' := [(3, va_rf r43), (0, .ref a0), (1, .int x1), (2, .int x2)]) hx hb h_Ve_hasMember_108 rfl hl (by decide) rfl (fun ls hl => ?_)
                refine cq_aload_n hx hb h_Ve_hasMember_109 rfl (lv_at hl 0 rfl) ?_
                rcases cq_or r43 with c44 | ⟨r45, c44⟩
                · subst c44
                  replace hw := hw.1 rfl
                  have hl : lv_has ls 4 [(3, .null), (0, .ref a0), (1, .int x1), (2, .int x2)] := hl
                  refine W.eq (g2 := F0 m 110 ls [.null]) rfl ?_
                  refine lv_ifnullN (tgt := 124) hx hb h_Ve_hasMember_110 (by decide) ?_
                  refine lv_iconst (v := 0) hx hb h_Ve_hasMember_124 (by decide) ?_
                  exact hend (0 : Int32) σ42 _ _ _ _ _ _ rfl hw h h_Ve_hasMember_125
                · subst c44
                  replace hw := hw.2 r45 rfl
                  have hl : lv_has ls 4 [(3, .ref r45), (0, .ref a0), (1, .int x1), (2, .int x2)] := hl
                  refine W.eq (g2 := F0 m 110 ls [.ref r45]) rfl ?_
                  refine lv_ifnull hx hb h_Ve_hasMember_110 ?_
                  refine lv_aload_n hx hb h_Ve_hasMember_113 rfl (lv_at hl 0 rfl) ?_
                  obtain ⟨g46, hw⟩ := hw
                  refine C_callVi (As := []) (rest := []) C h (ci := 5) (Cn := R_E) (T := T_E) (N := 13) g46 rfl (by decide) (X_E_hasCode l dC dI ca H σ42 r45 hw) (cwV 0 hts (gV hsub u_718 u_719 u_720 u_229 u_721) rfl rfl rfl (by decide +kernel) ⟨(Nat.le_of_ble_eq_true rfl), (Nat.le_of_ble_eq_true rfl)⟩) rfl hl.1 (Nat.le_of_ble_eq_true rfl) h_Ve_hasMember_114 (fun r48 σ47 H locs cells slots hw9 h9 => ?_)
                  clear hw h; have hw := hw9; have h := h9; clear hw9 h9
                  refine W.eq (g2 := F0 m 117 ls [.int r48]) rfl ?_
                  refine lv_if_eq (tgt := 124) hx hb h_Ve_hasMember_117 (by decide) (fun c49 => ?_) (fun c49 => ?_)
                  · skip
                    replace hw := hw.1 c49
                    refine lv_iconst (v := 0) hx hb h_Ve_hasMember_124 (by decide) ?_
                    exact hend (0 : Int32) σ47 _ _ _ _ _ _ rfl hw h h_Ve_hasMember_125
                  · skip
                    replace hw := hw.2 c49
                    refine lv_iconst (v := 1) hx hb h_Ve_hasMember_120 (by decide) ?_
                    refine lv_goto (tgt := 125) hx hb h_Ve_hasMember_121 (by decide) ?_
                    exact hend (1 : Int32) σ47 _ _ _ _ _ _ rfl hw h h_Ve_hasMember_125
              · skip
                replace hw := hw.2 c37
                by_cases c50 : x1 = 185
                · skip
                  replace hw := hw.1 c50
                  refine tp_i 185 c50 ?_
                  refine lv_tableIn (off := 161) (tgt := 162) hx hb h_Ve_hasMember_1 (by decide) (by decide) (by decide) (by decide) ?_
                  refine lv_iconst (v := 1) hx hb h_Ve_hasMember_162 (by decide) ?_
                  exact hend (1 : Int32) σ0 _ _ _ _ _ _ rfl hw h h_Ve_hasMember_163
                · skip
                  replace hw := hw.2 c50
                  by_cases c51 : x1 = 186
                  · skip
                    replace hw := hw.1 c51
                    refine tp_i 186 c51 ?_
                    refine lv_tableIn (off := 161) (tgt := 162) hx hb h_Ve_hasMember_1 (by decide) (by decide) (by decide) (by decide) ?_
                    refine lv_iconst (v := 1) hx hb h_Ve_hasMember_162 (by decide) ?_
                    exact hend (1 : Int32) σ0 _ _ _ _ _ _ rfl hw h h_Ve_hasMember_163
                  · skip
                    replace hw := hw.2 c51
                    by_cases c52 : x1 = 187
                    · skip
                      replace hw := hw.1 c52
                      refine tp_i 187 c52 ?_
                      refine lv_tableIn (off := 125) (tgt := 126) hx hb h_Ve_hasMember_1 (by decide) (by decide) (by decide) (by decide) ?_
                      refine lv_aload_n hx hb h_Ve_hasMember_126 rfl (lv_at hl 0 rfl) ?_
                      obtain ⟨g53, hw⟩ := hw
                      refine C_get C h 10 0 (v := va_rf (σ0.2.2.2.1 a0 0)) g53 rfl (Cn := R_Ve) (T := T_Ve) (N := 10) rfl (by decide) rfl uw_Ve (by decide) u_680 (fun _ q => q) h_Ve_hasMember_127 ?_
                      refine lv_topq (fun b54 e_b54 => ?_)
                      replace hw := hw b54 e_b54
                      refine lv_iload_n hx hb h_Ve_hasMember_130 rfl (lv_at hl 2 rfl) ?_
                      obtain ⟨r55, e_r55, hw⟩ := hw
                      subst e_r55
                      have hl : lv_has ls 4 [(0, .ref a0), (1, .int x1), (2, .int x2)] := hl
                      refine W.eq (g2 := F0 m 131 ls [.int x2, .ref r55]) rfl ?_
                      obtain ⟨g56, hw⟩ := hw
                      refine C_callVi (As := [.int x2]) (rest := []) C h (ci := 3) (Cn := R_W) (T := T_W) (N := 10) g56 rfl (by decide) (X_W_isProperClass l dC dI ca s.heap σ0 r55 x2 hw) (cwV 1 hts (gV hsub u_713 u_714 u_715 u_51 u_716) rfl rfl rfl (by decide +kernel) ⟨(Nat.le_of_ble_eq_true rfl), (Nat.le_of_ble_eq_true rfl)⟩) rfl hl.1 (Nat.le_of_ble_eq_true rfl) h_Ve_hasMember_131 (fun r58 σ57 H locs cells slots hw9 h9 => ?_)
                      clear hw h; have hw := hw9; have h := h9; clear hw9 h9
                      refine W.eq (g2 := F0 m 134 ls [.int r58]) rfl ?_
                      exact hend r58 σ57 _ _ _ _ _ _ hw.1 hw.2 h h_Ve_hasMember_134
                    · skip
                      replace hw := hw.2 c52
                      by_cases c59 : x1 = 188
                      · skip
                        replace hw := hw.1 c59
                        refine tp_i 188 c59 ?_
                        refine lv_tableIn (off := 134) (tgt := 135) hx hb h_Ve_hasMember_1 (by decide) (by decide) (by decide) (by decide) ?_
                        refine lv_iload_n hx hb h_Ve_hasMember_135 rfl (lv_at hl 2 rfl) ?_
                        refine lv_bipush (v := 10) hx hb h_Ve_hasMember_136 (by decide) ?_
                        refine lv_icmp_eq (tgt := 147) hx hb h_Ve_hasMember_138 (by decide) (fun c60 => ?_) (fun c60 => ?_)
                        · skip
                          replace hw := hw.1 c60
                          exact K_147 () σ0 _ _ _ _ _ hw h (lv_sub hl [] rfl)
                        · skip
                          replace hw := hw.2 c60
                          refine lv_iload_n hx hb h_Ve_hasMember_141 rfl (lv_at hl 2 rfl) ?_
                          refine lv_bipush (v := 11) hx hb h_Ve_hasMember_142 (by decide) ?_
                          refine lv_icmp_ne (tgt := 151) hx hb h_Ve_hasMember_144 (by decide) (fun c61 => ?_) (fun c61 => ?_)
                          · skip
                            replace hw := hw.2 c61
                            refine lv_iconst (v := 0) hx hb h_Ve_hasMember_151 (by decide) ?_
                            exact hend (0 : Int32) σ0 _ _ _ _ _ _ rfl hw h h_Ve_hasMember_152
                          · skip
                            replace hw := hw.1 c61
                            exact K_147 () σ0 _ _ _ _ _ hw h (lv_sub hl [] rfl)
                      · skip
                        replace hw := hw.2 c59
                        by_cases c62 : x1 = 189
                        · skip
                          replace hw := hw.1 c62
                          refine tp_i 189 c62 ?_
                          refine lv_tableIn (off := 152) (tgt := 153) hx hb h_Ve_hasMember_1 (by decide) (by decide) (by decide) (by decide) ?_
                          refine lv_aload_n hx hb h_Ve_hasMember_153 rfl (lv_at hl 0 rfl) ?_
                          obtain ⟨g63, hw⟩ := hw
                          refine C_get C h 10 0 (v := va_rf (σ0.2.2.2.1 a0 0)) g63 rfl (Cn := R_Ve) (T := T_Ve) (N := 10) rfl (by decide) rfl uw_Ve (by decide) u_680 (fun _ q => q) h_Ve_hasMember_154 ?_
                          refine lv_topq (fun b64 e_b64 => ?_)
                          replace hw := hw b64 e_b64
                          refine lv_iload_n hx hb h_Ve_hasMember_157 rfl (lv_at hl 2 rfl) ?_
                          obtain ⟨r65, e_r65, hw⟩ := hw
                          subst e_r65
                          have hl : lv_has ls 4 [(0, .ref a0), (1, .int x1), (2, .int x2)] := hl
                          refine W.eq (g2 := F0 m 158 ls [.int x2, .ref r65]) rfl ?_
                          obtain ⟨g66, hw⟩ := hw
                          refine C_callVi (As := [.int x2]) (rest := []) C h (ci := 3) (Cn := R_W) (T := T_W) (N := 10) g66 rfl (by decide) (X_W_hasClass l dC dI ca s.heap σ0 r65 x2 hw) (cwV 1 hts (gV hsub u_722 u_706 u_707 u_51 u_708) rfl rfl rfl (by decide +kernel) ⟨(Nat.le_of_ble_eq_true rfl), (Nat.le_of_ble_eq_true rfl)⟩) rfl hl.1 (Nat.le_of_ble_eq_true rfl) h_Ve_hasMember_158 (fun r68 σ67 H locs cells slots hw9 h9 => ?_)
                          clear hw h; have hw := hw9; have h := h9; clear hw9 h9
                          refine W.eq (g2 := F0 m 161 ls [.int r68]) rfl ?_
                          exact hend r68 σ67 _ _ _ _ _ _ hw.1 hw.2 h h_Ve_hasMember_161
                        · skip
                          replace hw := hw.2 c62
                          by_cases c69 : x1 = 190
                          · skip
                            replace hw := hw.1 c69
                            refine tp_i 190 c69 ?_
                            refine lv_tableIn (off := 161) (tgt := 162) hx hb h_Ve_hasMember_1 (by decide) (by decide) (by decide) (by decide) ?_
                            refine lv_iconst (v := 1) hx hb h_Ve_hasMember_162 (by decide) ?_
                            exact hend (1 : Int32) σ0 _ _ _ _ _ _ rfl hw h h_Ve_hasMember_163
                          · skip
                            replace hw := hw.2 c69
                            by_cases c70 : x1 = 191
                            · skip
                              replace hw := hw.1 c70
                              refine tp_i 191 c70 ?_
                              refine lv_tableIn (off := 161) (tgt := 162) hx hb h_Ve_hasMember_1 (by decide) (by decide) (by decide) (by decide) ?_
                              refine lv_iconst (v := 1) hx hb h_Ve_hasMember_162 (by decide) ?_
                              exact hend (1 : Int32) σ0 _ _ _ _ _ _ rfl hw h h_Ve_hasMember_163
                            · skip
                              replace hw := hw.2 c70
                              by_cases c71 : x1 = 192
                              · skip
                                replace hw := hw.1 c71
                                refine tp_i 192 c71 ?_
                                refine lv_tableIn (off := 152) (tgt := 153) hx hb h_Ve_hasMember_1 (by decide) (by decide) (by decide) (by decide) ?_
                                refine lv_aload_n hx hb h_Ve_hasMember_153 rfl (lv_at hl 0 rfl) ?_
                                obtain ⟨g72, hw⟩ := hw
                                refine C_get C h 10 0 (v := va_rf (σ0.2.2.2.1 a0 0)) g72 rfl (Cn := R_Ve) (T := T_Ve) (N := 10) rfl (by decide) rfl uw_Ve (by decide) u_680 (fun _ q => q) h_Ve_hasMember_154 ?_
                                refine lv_topq (fun b73 e_b73 => ?_)
                                replace hw := hw b73 e_b73
                                refine lv_iload_n hx hb h_Ve_hasMember_157 rfl (lv_at hl 2 rfl) ?_
                                obtain ⟨r74, e_r74, hw⟩ := hw
                                subst e_r74
                                have hl : lv_has ls 4 [(0, .ref a0), (1, .int x1), (2, .int x2)] := hl
                                refine W.eq (g2 := F0 m 158 ls [.int x2, .ref r74]) rfl ?_
                                obtain ⟨g75, hw⟩ := hw
                                refine C_callVi (As := [.int x2]) (rest := []) C h (ci := 3) (Cn := R_W) (T := T_W) (N := 10) g75 rfl (by decide) (X_W_hasClass l dC dI ca s.heap σ0 r74 x2 hw) (cwV 1 hts (gV hsub u_722 u_706 u_707 u_51 u_708) rfl rfl rfl (by decide +kernel) ⟨(Nat.le_of_ble_eq_true rfl), (Nat.le_of_ble_eq_true rfl)⟩) rfl hl.1 (Nat.le_of_ble_eq_true rfl) h_Ve_hasMember_158 (fun r77 σ76 H locs cells slots hw9 h9 => ?_)
                                clear hw h; have hw := hw9; have h := h9; clear hw9 h9
                                refine W.eq (g2 := F0 m 161 ls [.int r77]) rfl ?_
                                exact hend r77 σ76 _ _ _ _ _ _ hw.1 hw.2 h h_Ve_hasMember_161
                              · skip
                                replace hw := hw.2 c71
                                by_cases c78 : x1 = 193
                                · skip
                                  replace hw := hw.1 c78
                                  refine tp_i 193 c78 ?_
                                  refine lv_tableIn (off := 152) (tgt := 153) hx hb h_Ve_hasMember_1 (by decide) (by decide) (by decide) (by decide) ?_
                                  refine lv_aload_n hx hb h_Ve_hasMember_153 rfl (lv_at hl 0 rfl) ?_
                                  obtain ⟨g79, hw⟩ := hw
                                  refine C_get C h 10 0 (v := va_rf (σ0.2.2.2.1 a0 0)) g79 rfl (Cn := R_Ve) (T := T_Ve) (N := 10) rfl (by decide) rfl uw_Ve (by decide) u_680 (fun _ q => q) h_Ve_hasMember_154 ?_
                                  refine lv_topq (fun b80 e_b80 => ?_)
                                  replace hw := hw b80 e_b80
                                  refine lv_iload_n hx hb h_Ve_hasMember_157 rfl (lv_at hl 2 rfl) ?_
                                  obtain ⟨r81, e_r81, hw⟩ := hw
                                  subst e_r81
                                  have hl : lv_has ls 4 [(0, .ref a0), (1, .int x1), (2, .int x2)] := hl
                                  refine W.eq (g2 := F0 m 158 ls [.int x2, .ref r81]) rfl ?_
                                  obtain ⟨g82, hw⟩ := hw
                                  refine C_callVi (As := [.int x2]) (rest := []) C h (ci := 3) (Cn := R_W) (T := T_W) (N := 10) g82 rfl (by decide) (X_W_hasClass l dC dI ca s.heap σ0 r81 x2 hw) (cwV 1 hts (gV hsub u_722 u_706 u_707 u_51 u_708) rfl rfl rfl (by decide +kernel) ⟨(Nat.le_of_ble_eq_true rfl), (Nat.le_of_ble_eq_true rfl)⟩) rfl hl.1 (Nat.le_of_ble_eq_true rfl) h_Ve_hasMember_158 (fun r84 σ83 H locs cells slots hw9 h9 => ?_)
                                  clear hw h; have hw := hw9; have h := h9; clear hw9 h9
                                  refine W.eq (g2 := F0 m 161 ls [.int r84]) rfl ?_
                                  exact hend r84 σ83 _ _ _ _ _ _ hw.1 hw.2 h h_Ve_hasMember_161
                                · skip
                                  replace hw := hw.2 c78
                                  have h9 : (x1 : Int32).toInt < 178 ∨ 193 < (x1 : Int32).toInt := by simp only [← Int32.toInt_inj, Int32.reduceToInt] at c1 c8 c15 c22 c29 c30 c37 c50 c51 c52 c59 c62 c69 c70 c71 c78; omega
                                  refine lv_tableOut (tgt := 162) hx hb h_Ve_hasMember_1 h9 (by decide) ?_
                                  refine lv_iconst (v := 1) hx hb h_Ve_hasMember_162 (by decide) ?_
                                  exact hend (1 : Int32) σ0 _ _ _ _ _ _ rfl hw h h_Ve_hasMember_163
