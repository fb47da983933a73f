abbrev g_E_byteAt : MethodName := ⟨"MapFramer$Method", "byteAt", "(I)I"⟩
theorem u_224 : (Cond.fieldLink "MapFramer$Method" 9 "MapFramer$Method" "code" "[I" : Cond) ∈ bigW := inB_2 164 (by decide +kernel) rfl
theorem h_E_byteAt_0 : decode prog_7_method_7_code 0 = .ok (.iload_n 1, 1) := by decide +kernel
theorem h_E_byteAt_1 : decode prog_7_method_7_code 1 = .ok (.ifCond .lt 21, 3) := by decide +kernel
theorem h_E_byteAt_4 : decode prog_7_method_7_code 4 = .ok (.iload_n 1, 1) := by decide +kernel
theorem h_E_byteAt_5 : decode prog_7_method_7_code 5 = .ok (.aload_n 0, 1) := by decide +kernel
theorem h_E_byteAt_6 : decode prog_7_method_7_code 6 = .ok (.getfield 9, 3) := by decide +kernel
theorem h_E_byteAt_9 : decode prog_7_method_7_code 9 = .ok (.arraylength, 1) := by decide +kernel
theorem h_E_byteAt_10 : decode prog_7_method_7_code 10 = .ok (.if_icmp .ge 12, 3) := by decide +kernel
theorem h_E_byteAt_13 : decode prog_7_method_7_code 13 = .ok (.aload_n 0, 1) := by decide +kernel
theorem h_E_byteAt_14 : decode prog_7_method_7_code 14 = .ok (.getfield 9, 3) := by decide +kernel
theorem h_E_byteAt_17 : decode prog_7_method_7_code 17 = .ok (.iload_n 1, 1) := by decide +kernel
theorem h_E_byteAt_18 : decode prog_7_method_7_code 18 = .ok (.iaload, 1) := by decide +kernel
theorem h_E_byteAt_19 : decode prog_7_method_7_code 19 = .ok (.goto 4, 3) := by decide +kernel
theorem h_E_byteAt_22 : decode prog_7_method_7_code 22 = .ok (.iconst 0, 1) := by decide +kernel
theorem h_E_byteAt_23 : decode prog_7_method_7_code 23 = .ok (.ireturn, 1) := by decide +kernel
def x_E_byteAt (a0 : Nat) (x1 : Int32) (σ0 : CST) (P : Int32 → CST → Prop) : Prop := ((x1 < 0 → P (0 : Int32) σ0) ∧ (¬ x1 < 0 → σ0.1 a0 = some (5, 0) ∧ (∀ b3 : Option Nat, b3 = (σ0.2.2.2.1 a0 2) → (∃ r4 : Nat, b3 = some r4 ∧ ((∃ n6 : Nat, σ0.1 r4 = some (20, n6) ∧ ((((Int32.ofNat n6) ≤ x1 → P (0 : Int32) σ0) ∧ (¬ (Int32.ofNat n6) ≤ x1 → ∀ b8 : Option Nat, b8 = (σ0.2.2.2.1 a0 2) → (∃ r9 : Nat, b8 = some r9 ∧ ((∃ n11 : Nat, σ0.1 r9 = some (20, n11) ∧ (vp_in x1 n11 ∧ (∀ b13 : Int32, b13 = (σ0.2.1 r9 (x1 : Int32).toNatClampNeg) → P b13 σ0))))))))))))))
set_option maxHeartbeats 4000000 in
set_option maxRecDepth 100000 in
theorem X_E_byteAt (l : Launch) (dC : Nat → ClassId) (dI : Nat → Nat → Nat) (ca : Nat → ClassId) (H0 : Heap) (σ0 : CST) (a0 : Nat) (x1 : Int32) {P : Int32 → CST → Prop} (hw : x_E_byteAt a0 x1 σ0 P) : Met l g_E_byteAt (mW g_E_byteAt prog_7_method_7_code 2 (some .int)) ({ frames := 0, cells := σ0.2.2.2.2.1, slots := σ0.2.2.2.2.2.1, locals := 0 } : Room) (va_Pc [.ref a0, .int x1] (CPre (dC, dI) ca σ0 H0)) (va_Qi P (CB (dC, dI) ca σ0 H0) (cA σ0 H0.size)) σ0.2.2.2.2.1 σ0.2.2.2.2.2.1 (cA σ0 H0.size) := by
  refine C_ofi (by decide +kernel) rfl rfl rfl (Nat.le_of_ble_eq_true rfl) ?_
  intro p e s m below meth cx Q A ls C hnm hend hH0 h hl
  subst hH0
  have C0 := C
  obtain ⟨⟨hx, hb, hml, hown, hts⟩, hsub⟩ := C0
  obtain ⟨cells, e_cells⟩ : ∃ z : Nat, z = 0 := ⟨_, rfl⟩
  obtain ⟨slots, e_slots⟩ : ∃ z : Nat, z = 0 := ⟨_, rfl⟩
  have h : CH (dC, dI) A ca ({ frames := 0, cells := σ0.2.2.2.2.1, slots := σ0.2.2.2.2.2.1, locals := 0 } : Room) σ0.2.2.2.2.2.2 σ0 s s.heap [] cells slots := by rw [e_cells, e_slots]; exact h
  show W p l e ({ frames := 0, cells := σ0.2.2.2.2.1, slots := σ0.2.2.2.2.2.1, locals := 0 } : Room) s m ([.ref a0, .int x1] : List Value).toArray below meth cx s.heap [] 0 0 Q (F0 m 0 ls [])
  rw [show W p l e ({ frames := 0, cells := σ0.2.2.2.2.1, slots := σ0.2.2.2.2.2.1, locals := 0 } : Room) s m ([.ref a0, .int x1] : List Value).toArray below meth cx s.heap [] 0 0 Q (F0 m 0 ls []) = W p l e ({ frames := 0, cells := σ0.2.2.2.2.1, slots := σ0.2.2.2.2.2.1, locals := 0 } : Room) s m ([.ref a0, .int x1] : List Value).toArray below meth cx s.heap [] cells slots Q (F0 m 0 ls []) by rw [e_cells, e_slots]]
  have hl : lv_has ls 2 [(0, .ref a0), (1, .int x1)] := hl
  unfold x_E_byteAt at hw
  refine lv_iload_n hx hb h_E_byteAt_0 rfl (lv_at hl 1 rfl) ?_
  refine lv_if_lt (tgt := 22) hx hb h_E_byteAt_1 (by decide) (fun c1 => ?_) (fun c1 => ?_)
  · skip
    replace hw := hw.1 c1
    refine lv_iconst (v := 0) hx hb h_E_byteAt_22 (by decide) ?_
    exact hend (0 : Int32) σ0 _ _ _ _ _ _ hw h h_E_byteAt_23
  · skip
    replace hw := hw.2 c1
    refine lv_iload_n hx hb h_E_byteAt_4 rfl (lv_at hl 1 rfl) ?_
    refine lv_aload_n hx hb h_E_byteAt_5 rfl (lv_at hl 0 rfl) ?_
    obtain ⟨g2, hw⟩ := hw
    refine C_get C h 5 2 (v := va_rf (σ0.2.2.2.1 a0 2)) g2 rfl (Cn := R_E) (T := T_E) (N := 13) rfl (by decide) rfl uw_E (by decide) u_224 (fun _ q => q) h_E_byteAt_6 ?_
    refine lv_topq (fun b3 e_b3 => ?_)
    replace hw := hw b3 e_b3
    obtain ⟨r4, e_r4, hw⟩ := hw
    subst e_r4
    have hl : lv_has ls 2 [(0, .ref a0), (1, .int x1)] := hl
    refine W.eq (g2 := F0 m 9 ls [.ref r4, .int x1]) rfl ?_
    obtain ⟨n6, g5, hw⟩ := hw
    refine C_alen C h 20 0 rfl (by decide) g5 h_E_byteAt_9 ?_
    refine lv_icmp_ge (tgt := 22) hx hb h_E_byteAt_10 (by decide) (fun c7 => ?_) (fun c7 => ?_)
    · skip
      replace hw := hw.1 c7
      refine lv_iconst (v := 0) hx hb h_E_byteAt_22 (by decide) ?_
      exact hend (0 : Int32) σ0 _ _ _ _ _ _ hw h h_E_byteAt_23
    · skip
      replace hw := hw.2 c7
      refine lv_aload_n hx hb h_E_byteAt_13 rfl (lv_at hl 0 rfl) ?_
      refine C_get C h 5 2 (v := va_rf (σ0.2.2.2.1 a0 2)) g2 rfl (Cn := R_E) (T := T_E) (N := 13) rfl (by decide) rfl uw_E (by decide) u_224 (fun _ q => q) h_E_byteAt_14 ?_
      refine lv_topq (fun b8 e_b8 => ?_)
      replace hw := hw b8 e_b8
      refine lv_iload_n hx hb h_E_byteAt_17 rfl (lv_at hl 1 rfl) ?_
      obtain ⟨r9, e_r9, hw⟩ := hw
      subst e_r9
      have hl : lv_has ls 2 [(0, .ref a0), (1, .int x1)] := hl
      refine W.eq (g2 := F0 m 18 ls [.int x1, .ref r9]) rfl ?_
      obtain ⟨n11, g10, hw⟩ := hw
      obtain ⟨g12, hw⟩ := hw
      refine C_iald C h g10 g12 h_E_byteAt_18 ?_
      refine lv_topi (fun b13 e_b13 => ?_)
      replace hw := hw b13 e_b13
      refine lv_goto (tgt := 23) hx hb h_E_byteAt_19 (by decide) ?_
      exact hend b13 σ0 _ _ _ _ _ _ hw h h_E_byteAt_23
abbrev g_Op_length : MethodName := ⟨"MapFramer$Op", "length", "(I)I"⟩
theorem u_225 : (Cond.fieldLink "MapFramer$Op" 7 "MapFramer$Op" "LENGTHS" "[B" : Cond) ∈ bigW := inB_3 233 (by decide +kernel) rfl
theorem h_Op_length_0 : decode prog_8_method_2_code 0 = .ok (.iload_n 0, 1) := by decide +kernel
theorem h_Op_length_1 : decode prog_8_method_2_code 1 = .ok (.ifCond .lt 19, 3) := by decide +kernel
theorem h_Op_length_4 : decode prog_8_method_2_code 4 = .ok (.iload_n 0, 1) := by decide +kernel
theorem h_Op_length_5 : decode prog_8_method_2_code 5 = .ok (.getstatic 7, 3) := by decide +kernel
theorem h_Op_length_8 : decode prog_8_method_2_code 8 = .ok (.arraylength, 1) := by decide +kernel
theorem h_Op_length_9 : decode prog_8_method_2_code 9 = .ok (.if_icmp .ge 11, 3) := by decide +kernel
theorem h_Op_length_12 : decode prog_8_method_2_code 12 = .ok (.getstatic 7, 3) := by decide +kernel
theorem h_Op_length_15 : decode prog_8_method_2_code 15 = .ok (.iload_n 0, 1) := by decide +kernel
theorem h_Op_length_16 : decode prog_8_method_2_code 16 = .ok (.baload, 1) := by decide +kernel
theorem h_Op_length_17 : decode prog_8_method_2_code 17 = .ok (.goto 4, 3) := by decide +kernel
theorem h_Op_length_20 : decode prog_8_method_2_code 20 = .ok (.iconst 0, 1) := by decide +kernel
theorem h_Op_length_21 : decode prog_8_method_2_code 21 = .ok (.ireturn, 1) := by decide +kernel
def x_Op_length (x0 : Int32) (σ0 : CST) (P : Int32 → CST → Prop) : Prop := ((x0 < 0 → P (0 : Int32) σ0) ∧ (¬ x0 < 0 → ((200 ≤ x0 → P (0 : Int32) σ0) ∧ (¬ 200 ≤ x0 → vp_in x0 200 ∧ (∀ b6 : Int32, b6 = (lenT (x0 : Int32).toNatClampNeg) → P b6 σ0)))))
set_option maxHeartbeats 4000000 in
set_option maxRecDepth 100000 in
theorem X_Op_length (l : Launch) (dC : Nat → ClassId) (dI : Nat → Nat → Nat) (ca : Nat → ClassId) (H0 : Heap) (σ0 : CST) (x0 : Int32) {P : Int32 → CST → Prop} (hw : x_Op_length x0 σ0 P) : Met l g_Op_length (mW g_Op_length prog_8_method_2_code 1 (some .int)) ({ frames := 0, cells := σ0.2.2.2.2.1, slots := σ0.2.2.2.2.2.1, locals := 0 } : Room) (va_Pc [.int x0] (CPre (dC, dI) ca σ0 H0)) (va_Qi P (CB (dC, dI) ca σ0 H0) (cA σ0 H0.size)) σ0.2.2.2.2.1 σ0.2.2.2.2.2.1 (cA σ0 H0.size) := by
  refine C_ofi (by decide +kernel) rfl rfl rfl (Nat.le_of_ble_eq_true rfl) ?_
  intro p e s m below meth cx Q A ls C hnm hend hH0 h hl
  subst hH0
  have C0 := C
  obtain ⟨⟨hx, hb, hml, hown, hts⟩, hsub⟩ := C0
  obtain ⟨cells, e_cells⟩ : ∃ z : Nat, z = 0 := ⟨_, rfl⟩
  obtain ⟨slots, e_slots⟩ : ∃ z : Nat, z = 0 := ⟨_, rfl⟩
  have h : CH (dC, dI) A ca ({ frames := 0, cells := σ0.2.2.2.2.1, slots := σ0.2.2.2.2.2.1, locals := 0 } : Room) σ0.2.2.2.2.2.2 σ0 s s.heap [] cells slots := by rw [e_cells, e_slots]; exact h
  show W p l e ({ frames := 0, cells := σ0.2.2.2.2.1, slots := σ0.2.2.2.2.2.1, locals := 0 } : Room) s m ([.int x0] : List Value).toArray below meth cx s.heap [] 0 0 Q (F0 m 0 ls [])
  rw [show W p l e ({ frames := 0, cells := σ0.2.2.2.2.1, slots := σ0.2.2.2.2.2.1, locals := 0 } : Room) s m ([.int x0] : List Value).toArray below meth cx s.heap [] 0 0 Q (F0 m 0 ls []) = W p l e ({ frames := 0, cells := σ0.2.2.2.2.1, slots := σ0.2.2.2.2.2.1, locals := 0 } : Room) s m ([.int x0] : List Value).toArray below meth cx s.heap [] cells slots Q (F0 m 0 ls []) by rw [e_cells, e_slots]]
  have hl : lv_has ls 1 [(0, .int x0)] := hl
  unfold x_Op_length at hw
  refine lv_iload_n hx hb h_Op_length_0 rfl (lv_at hl 0 rfl) ?_
  refine lv_if_lt (tgt := 20) hx hb h_Op_length_1 (by decide) (fun c1 => ?_) (fun c1 => ?_)
  · skip
    replace hw := hw.1 c1
    refine lv_iconst (v := 0) hx hb h_Op_length_20 (by decide) ?_
    exact hend (0 : Int32) σ0 _ _ _ _ _ _ hw h h_Op_length_21
  · skip
    replace hw := hw.2 c1
    refine lv_iload_n hx hb h_Op_length_4 rfl (lv_at hl 0 rfl) ?_
    refine C_getlen C h u_225 h_Op_length_5 (fun t2 hT9 => ?_)
    refine va_tlen hx hb hT9 h.2.2.1 (v := 200) rfl h_Op_length_8 ?_
    refine lv_icmp_ge (tgt := 20) hx hb h_Op_length_9 (by decide) (fun c3 => ?_) (fun c3 => ?_)
    · skip
      replace hw := hw.1 c3
      refine lv_iconst (v := 0) hx hb h_Op_length_20 (by decide) ?_
      exact hend (0 : Int32) σ0 _ _ _ _ _ _ hw h h_Op_length_21
    · skip
      replace hw := hw.2 c3
      refine C_getlen C h u_225 h_Op_length_12 (fun t4 hT9 => ?_)
      refine lv_iload_n hx hb h_Op_length_15 rfl (lv_at hl 0 rfl) ?_
      obtain ⟨g5, hw⟩ := hw
      refine va_tb hx hb hT9 h.2.2.1 g5 (v := .int (lenT (x0 : Int32).toNatClampNeg)) rfl h_Op_length_16 ?_
      refine lv_topi (fun b6 e_b6 => ?_)
      replace hw := hw b6 e_b6
      refine lv_goto (tgt := 21) hx hb h_Op_length_17 (by decide) ?_
      exact hend b6 σ0 _ _ _ _ _ _ hw h h_Op_length_21
abbrev g_E_signedByteAt : MethodName := ⟨"MapFramer$Method", "signedByteAt", "(I)I"⟩
theorem u_226 : (Cond.methodLink "MapFramer$Method" 58 ⟨"MapFramer$Method", "byteAt", "(I)I"⟩ : Cond) ∈ bigW := inB_4 37 (by decide +kernel) rfl
theorem u_227 : (Cond.instanceMethod ⟨"MapFramer$Method", "byteAt", "(I)I"⟩ : Cond) ∈ bigW := inB_4 0 (by decide +kernel) rfl
theorem u_228 : (Cond.selects "MapFramer$Method" ⟨"MapFramer$Method", "byteAt", "(I)I"⟩ ⟨"MapFramer$Method", "byteAt", "(I)I"⟩ : Cond) ∈ bigW := inB_4 1 (by decide +kernel) rfl
theorem u_229 : (Cond.initialized "MapFramer$Method" : Cond) ∈ bigW := inB_1 12 (by decide +kernel) rfl
theorem u_230 : (Cond.code ⟨"MapFramer$Method", "byteAt", "(I)I"⟩ prog_7_method_7_code 2 (some .int) : Cond) ∈ bigW := inB_4 2 rfl rfl
theorem h_E_signedByteAt_0 : decode prog_7_method_8_code 0 = .ok (.aload_n 0, 1) := by decide +kernel
theorem h_E_signedByteAt_1 : decode prog_7_method_8_code 1 = .ok (.iload_n 1, 1) := by decide +kernel
theorem h_E_signedByteAt_2 : decode prog_7_method_8_code 2 = .ok (.invokevirtual 58, 3) := by decide +kernel
theorem h_E_signedByteAt_5 : decode prog_7_method_8_code 5 = .ok (.i2b, 1) := by decide +kernel
theorem h_E_signedByteAt_6 : decode prog_7_method_8_code 6 = .ok (.ireturn, 1) := by decide +kernel
def x_E_signedByteAt (a0 : Nat) (x1 : Int32) (σ0 : CST) (P : Int32 → CST → Prop) : Prop := σ0.1 a0 = some (5, 0) ∧ (x_E_byteAt a0 x1 σ0 (fun r3 σ2 => P ((r3 : Int32).toInt8.toInt32) σ2))
set_option maxHeartbeats 4000000 in
set_option maxRecDepth 100000 in
theorem X_E_signedByteAt (l : Launch) (dC : Nat → ClassId) (dI : Nat → Nat → Nat) (ca : Nat → ClassId) (H0 : Heap) (σ0 : CST) (a0 : Nat) (x1 : Int32) {P : Int32 → CST → Prop} (hw : x_E_signedByteAt a0 x1 σ0 P) : Met l g_E_signedByteAt (mW g_E_signedByteAt prog_7_method_8_code 2 (some .int)) ({ frames := 1, cells := σ0.2.2.2.2.1, slots := σ0.2.2.2.2.2.1, locals := 21 } : Room) (va_Pc [.ref a0, .int x1] (CPre (dC, dI) ca σ0 H0)) (va_Qi P (CB (dC, dI) ca σ0 H0) (cA σ0 H0.size)) σ0.2.2.2.2.1 σ0.2.2.2.2.2.1 (cA σ0 H0.size) := by
  refine C_ofi (by decide +kernel) rfl rfl rfl (Nat.le_of_ble_eq_true rfl) ?_
  intro p e s m below meth cx Q A ls C hnm hend hH0 h hl
  subst hH0
  have C0 := C
  obtain ⟨⟨hx, hb, hml, hown, hts⟩, hsub⟩ := C0
  obtain ⟨cells, e_cells⟩ : ∃ z : Nat, z = 0 := ⟨_, rfl⟩
  obtain ⟨slots, e_slots⟩ : ∃ z : Nat, z = 0 := ⟨_, rfl⟩
  have h : CH (dC, dI) A ca ({ frames := 1, cells := σ0.2.2.2.2.1, slots := σ0.2.2.2.2.2.1, locals := 21 } : Room) σ0.2.2.2.2.2.2 σ0 s s.heap [] cells slots := by rw [e_cells, e_slots]; exact h
  show W p l e ({ frames := 1, cells := σ0.2.2.2.2.1, slots := σ0.2.2.2.2.2.1, locals := 21 } : Room) s m ([.ref a0, .int x1] : List Value).toArray below meth cx s.heap [] 0 0 Q (F0 m 0 ls [])
  rw [show W p l e ({ frames := 1, cells := σ0.2.2.2.2.1, slots := σ0.2.2.2.2.2.1, locals := 21 } : Room) s m ([.ref a0, .int x1] : List Value).toArray below meth cx s.heap [] 0 0 Q (F0 m 0 ls []) = W p l e ({ frames := 1, cells := σ0.2.2.2.2.1, slots := σ0.2.2.2.2.2.1, locals := 21 } : Room) s m ([.ref a0, .int x1] : List Value).toArray below meth cx s.heap [] cells slots Q (F0 m 0 ls []) by rw [e_cells, e_slots]]
  have hl : lv_has ls 2 [(0, .ref a0), (1, .int x1)] := hl
  unfold x_E_signedByteAt at hw
  refine lv_aload_n hx hb h_E_signedByteAt_0 rfl (lv_at hl 0 rfl) ?_
  refine lv_iload_n hx hb h_E_signedByteAt_1 rfl (lv_at hl 1 rfl) ?_
  obtain ⟨g1, hw⟩ := hw
  refine C_callVi (As := [.int x1]) (rest := []) C h (ci := 5) (Cn := R_E) (T := T_E) (N := 13) g1 rfl (by decide) (X_E_byteAt l dC dI ca s.heap σ0 a0 x1 hw) (cwV 1 hts (gV hsub u_226 u_227 u_228 u_229 u_230) rfl rfl rfl (by decide +kernel) ⟨(Nat.le_of_ble_eq_true rfl), (Nat.le_of_ble_eq_true rfl)⟩) rfl hl.1 (Nat.le_of_ble_eq_true rfl) h_E_signedByteAt_2 (fun r3 σ2 H locs cells slots hw9 h9 => ?_)
  clear hw h; have hw := hw9; have h := h9; clear hw9 h9
  refine W.eq (g2 := F0 m 5 ls [.int r3]) rfl ?_
  refine lv_i2b (v := (r3 : Int32).toInt8.toInt32) hx hb h_E_signedByteAt_5 rfl ?_
  exact hend ((r3 : Int32).toInt8.toInt32) σ2 _ _ _ _ _ _ hw h h_E_signedByteAt_6
abbrev g_E_signedPairAt : MethodName := ⟨"MapFramer$Method", "signedPairAt", "(I)I"⟩
theorem h_E_signedPairAt_0 : decode prog_7_method_9_code 0 = .ok (.aload_n 0, 1) := by decide +kernel
theorem h_E_signedPairAt_1 : decode prog_7_method_9_code 1 = .ok (.iload_n 1, 1) := by decide +kernel
theorem h_E_signedPairAt_2 : decode prog_7_method_9_code 2 = .ok (.invokevirtual 58, 3) := by decide +kernel
theorem h_E_signedPairAt_5 : decode prog_7_method_9_code 5 = .ok (.bipush 8, 2) := by decide +kernel
theorem h_E_signedPairAt_7 : decode prog_7_method_9_code 7 = .ok (.ishl, 1) := by decide +kernel
theorem h_E_signedPairAt_8 : decode prog_7_method_9_code 8 = .ok (.aload_n 0, 1) := by decide +kernel
theorem h_E_signedPairAt_9 : decode prog_7_method_9_code 9 = .ok (.iload_n 1, 1) := by decide +kernel
theorem h_E_signedPairAt_10 : decode prog_7_method_9_code 10 = .ok (.iconst 1, 1) := by decide +kernel
theorem h_E_signedPairAt_11 : decode prog_7_method_9_code 11 = .ok (.iadd, 1) := by decide +kernel
theorem h_E_signedPairAt_12 : decode prog_7_method_9_code 12 = .ok (.invokevirtual 58, 3) := by decide +kernel
theorem h_E_signedPairAt_15 : decode prog_7_method_9_code 15 = .ok (.ior, 1) := by decide +kernel
theorem h_E_signedPairAt_16 : decode prog_7_method_9_code 16 = .ok (.i2s, 1) := by decide +kernel
theorem h_E_signedPairAt_17 : decode prog_7_method_9_code 17 = .ok (.ireturn, 1) := by decide +kernel
def x_E_signedPairAt (a0 : Nat) (x1 : Int32) (σ0 : CST) (P : Int32 → CST → Prop) : Prop := σ0.1 a0 = some (5, 0) ∧ (x_E_byteAt a0 x1 σ0 (fun r3 σ2 => ∀ b4 : Int32, b4 = (r3 <<< ((8 : Int32) &&& 31)) → σ2.1 a0 = some (5, 0) ∧ (x_E_byteAt a0 (x1 + 1) σ2 (fun r7 σ6 => ∀ b8 : Int32, b8 = (b4 ||| r7) → P ((b8 : Int32).toInt16.toInt32) σ6))))
set_option maxHeartbeats 4000000 in
set_option maxRecDepth 100000 in
theorem X_E_signedPairAt (l : Launch) (dC : Nat → ClassId) (dI : Nat → Nat → Nat) (ca : Nat → ClassId) (H0 : Heap) (σ0 : CST) (a0 : Nat) (x1 : Int32) {P : Int32 → CST → Prop} (hw : x_E_signedPairAt a0 x1 σ0 P) : Met l g_E_signedPairAt (mW g_E_signedPairAt prog_7_method_9_code 2 (some .int)) ({ frames := 1, cells := σ0.2.2.2.2.1, slots := σ0.2.2.2.2.2.1, locals := 21 } : Room) (va_Pc [.ref a0, .int x1] (CPre (dC, dI) ca σ0 H0)) (va_Qi P (CB (dC, dI) ca σ0 H0) (cA σ0 H0.size)) σ0.2.2.2.2.1 σ0.2.2.2.2.2.1 (cA σ0 H0.size) := by
  refine C_ofi (by decide +kernel) rfl rfl rfl (Nat.le_of_ble_eq_true rfl) ?_
  intro p e s m below meth cx Q A ls C hnm hend hH0 h hl
  subst hH0
  have C0 := C
  obtain ⟨⟨hx, hb, hml, hown, hts⟩, hsub⟩ := C0
  obtain ⟨cells, e_cells⟩ : ∃ z : Nat, z = 0 := ⟨_, rfl⟩
  obtain ⟨slots, e_slots⟩ : ∃ z : Nat, z = 0 := ⟨_, rfl⟩
  have h : CH (dC, dI) A ca ({ frames := 1, cells := σ0.2.2.2.2.1, slots := σ0.2.2.2.2.2.1, locals := 21 } : Room) σ0.2.2.2.2.2.2 σ0 s s.heap [] cells slots := by rw [e_cells, e_slots]; exact h
  show W p l e ({ frames := 1, cells := σ0.2.2.2.2.1, slots := σ0.2.2.2.2.2.1, locals := 21 } : Room) s m ([.ref a0, .int x1] : List Value).toArray below meth cx s.heap [] 0 0 Q (F0 m 0 ls [])
  rw [show W p l e ({ frames := 1, cells := σ0.2.2.2.2.1, slots := σ0.2.2.2.2.2.1, locals := 21 } : Room) s m ([.ref a0, .int x1] : List Value).toArray below meth cx s.heap [] 0 0 Q (F0 m 0 ls []) = W p l e ({ frames := 1, cells := σ0.2.2.2.2.1, slots := σ0.2.2.2.2.2.1, locals := 21 } : Room) s m ([.ref a0, .int x1] : List Value).toArray below meth cx s.heap [] cells slots Q (F0 m 0 ls []) by rw [e_cells, e_slots]]
  have hl : lv_has ls 2 [(0, .ref a0), (1, .int x1)] := hl
  unfold x_E_signedPairAt at hw
  refine lv_aload_n hx hb h_E_signedPairAt_0 rfl (lv_at hl 0 rfl) ?_
  refine lv_iload_n hx hb h_E_signedPairAt_1 rfl (lv_at hl 1 rfl) ?_
  obtain ⟨g1, hw⟩ := hw
  refine C_callVi (As := [.int x1]) (rest := []) C h (ci := 5) (Cn := R_E) (T := T_E) (N := 13) g1 rfl (by decide) (X_E_byteAt l dC dI ca s.heap σ0 a0 x1 hw) (cwV 1 hts (gV hsub u_226 u_227 u_228 u_229 u_230) rfl rfl rfl (by decide +kernel) ⟨(Nat.le_of_ble_eq_true rfl), (Nat.le_of_ble_eq_true rfl)⟩) rfl hl.1 (Nat.le_of_ble_eq_true rfl) h_E_signedPairAt_2 (fun r3 σ2 H locs cells slots hw9 h9 => ?_)
  clear hw h; have hw := hw9; have h := h9; clear hw9 h9
  refine W.eq (g2 := F0 m 5 ls [.int r3]) rfl ?_
  refine lv_bipush (v := 8) hx hb h_E_signedPairAt_5 (by decide) ?_
  refine lv_ishl hx hb h_E_signedPairAt_7 ?_
  refine lv_topi (fun b4 e_b4 => ?_)
  replace hw := hw b4 e_b4
  refine lv_aload_n hx hb h_E_signedPairAt_8 rfl (lv_at hl 0 rfl) ?_
  refine lv_iload_n hx hb h_E_signedPairAt_9 rfl (lv_at hl 1 rfl) ?_
  refine lv_iconst (v := 1) hx hb h_E_signedPairAt_10 (by decide) ?_
  refine lv_iadd hx hb h_E_signedPairAt_11 ?_
  obtain ⟨g5, hw⟩ := hw
  refine C_callVi (As := [.int (x1 + 1)]) (rest := [.int b4]) C h (ci := 5) (Cn := R_E) (T := T_E) (N := 13) g5 rfl (by decide) (X_E_byteAt l dC dI ca H σ2 a0 (x1 + 1) hw) (cwV 1 hts (gV hsub u_226 u_227 u_228 u_229 u_230) rfl rfl rfl (by decide +kernel) ⟨(Nat.le_of_ble_eq_true rfl), (Nat.le_of_ble_eq_true rfl)⟩) rfl hl.1 (Nat.le_of_ble_eq_true rfl) h_E_signedPairAt_12 (fun r7 σ6 H locs cells slots hw9 h9 => ?_)
  clear hw h; have hw := hw9; have h := h9; clear hw9 h9
  refine W.eq (g2 := F0 m 15 ls [.int r7, .int b4]) rfl ?_
  refine lv_ior hx hb h_E_signedPairAt_15 ?_
  refine lv_topi (fun b8 e_b8 => ?_)
  replace hw := hw b8 e_b8
  refine lv_i2s (v := (b8 : Int32).toInt16.toInt32) hx hb h_E_signedPairAt_16 rfl ?_
  exact hend ((b8 : Int32).toInt16.toInt32) σ6 _ _ _ _ _ _ hw h h_E_signedPairAt_17
abbrev g_K_pushConstant : MethodName := ⟨"MapFramer$Machine", "pushConstant", "(I)V"⟩
theorem u_231 : (Cond.fieldLink "MapFramer$Machine" 76 "MapFramer$Machine" "call" "LMapFramer$Call;" : Cond) ∈ bigW := inB_1 149 (by decide +kernel) rfl
theorem u_232 : (Cond.methodLink "MapFramer$Machine" 147 ⟨"MapFramer$Call", "push", "(J)V"⟩ : Cond) ∈ bigW := inB_7 116 (by decide +kernel) rfl
theorem u_233 : (Cond.methodLink "MapFramer$Machine" 234 ⟨"MapFramer$Call", "pushLong", "(J)V"⟩ : Cond) ∈ bigW := inB_7 125 (by decide +kernel) rfl
theorem u_234 : (Cond.instanceMethod ⟨"MapFramer$Call", "pushLong", "(J)V"⟩ : Cond) ∈ bigW := inB_7 126 (by decide +kernel) rfl
theorem u_235 : (Cond.selects "MapFramer$Call" ⟨"MapFramer$Call", "pushLong", "(J)V"⟩ ⟨"MapFramer$Call", "pushLong", "(J)V"⟩ : Cond) ∈ bigW := inB_7 127 (by decide +kernel) rfl
theorem u_236 : (Cond.code ⟨"MapFramer$Call", "pushLong", "(J)V"⟩ prog_2_method_5_code 3 none : Cond) ∈ bigW := inB_7 128 rfl rfl
theorem u_237 : (Cond.fieldLink "MapFramer$Machine" 84 "MapFramer$Call" "place" "I" : Cond) ∈ bigW := inB_1 127 (by decide +kernel) rfl
theorem u_238 : (Cond.methodLink "MapFramer$Machine" 231 ⟨"MapFramer$Method", "signedPairAt", "(I)I"⟩ : Cond) ∈ bigW := inB_7 124 (by decide +kernel) rfl
theorem u_239 : (Cond.instanceMethod ⟨"MapFramer$Method", "signedPairAt", "(I)I"⟩ : Cond) ∈ bigW := inB_4 34 (by decide +kernel) rfl
theorem u_240 : (Cond.selects "MapFramer$Method" ⟨"MapFramer$Method", "signedPairAt", "(I)I"⟩ ⟨"MapFramer$Method", "signedPairAt", "(I)I"⟩ : Cond) ∈ bigW := inB_4 35 (by decide +kernel) rfl
theorem u_241 : (Cond.code ⟨"MapFramer$Method", "signedPairAt", "(I)I"⟩ prog_7_method_9_code 2 (some .int) : Cond) ∈ bigW := inB_4 36 rfl rfl
theorem u_242 : (Cond.methodLink "MapFramer$Machine" 228 ⟨"MapFramer$Method", "signedByteAt", "(I)I"⟩ : Cond) ∈ bigW := inB_7 120 (by decide +kernel) rfl
theorem u_243 : (Cond.instanceMethod ⟨"MapFramer$Method", "signedByteAt", "(I)I"⟩ : Cond) ∈ bigW := inB_7 121 (by decide +kernel) rfl
theorem u_244 : (Cond.selects "MapFramer$Method" ⟨"MapFramer$Method", "signedByteAt", "(I)I"⟩ ⟨"MapFramer$Method", "signedByteAt", "(I)I"⟩ : Cond) ∈ bigW := inB_7 122 (by decide +kernel) rfl
theorem u_245 : (Cond.code ⟨"MapFramer$Method", "signedByteAt", "(I)I"⟩ prog_7_method_8_code 2 (some .int) : Cond) ∈ bigW := inB_7 123 rfl rfl
theorem h_K_pushConstant_0 : decode prog_6_method_10_code 0 = .ok (.iload_n 1, 1) := by decide +kernel
theorem h_K_pushConstant_1 : decode prog_6_method_10_code 1 = .ok (.iconst 1, 1) := by decide +kernel
theorem h_K_pushConstant_2 : decode prog_6_method_10_code 2 = .ok (.if_icmp .ne 14, 3) := by decide +kernel
theorem h_K_pushConstant_5 : decode prog_6_method_10_code 5 = .ok (.aload_n 0, 1) := by decide +kernel
theorem h_K_pushConstant_6 : decode prog_6_method_10_code 6 = .ok (.getfield 76, 3) := by decide +kernel
theorem h_K_pushConstant_9 : decode prog_6_method_10_code 9 = .ok (.lconst 0, 1) := by decide +kernel
theorem h_K_pushConstant_10 : decode prog_6_method_10_code 10 = .ok (.invokevirtual 147, 3) := by decide +kernel
theorem h_K_pushConstant_13 : decode prog_6_method_10_code 13 = .ok (.goto 112, 3) := by decide +kernel
theorem h_K_pushConstant_16 : decode prog_6_method_10_code 16 = .ok (.iload_n 1, 1) := by decide +kernel
theorem h_K_pushConstant_17 : decode prog_6_method_10_code 17 = .ok (.bipush 16, 2) := by decide +kernel
theorem h_K_pushConstant_19 : decode prog_6_method_10_code 19 = .ok (.if_icmp .ne 33, 3) := by decide +kernel
theorem h_K_pushConstant_22 : decode prog_6_method_10_code 22 = .ok (.aload_n 0, 1) := by decide +kernel
theorem h_K_pushConstant_23 : decode prog_6_method_10_code 23 = .ok (.getfield 76, 3) := by decide +kernel
theorem h_K_pushConstant_26 : decode prog_6_method_10_code 26 = .ok (.aload_n 0, 1) := by decide +kernel
theorem h_K_pushConstant_27 : decode prog_6_method_10_code 27 = .ok (.getfield 76, 3) := by decide +kernel
theorem h_K_pushConstant_30 : decode prog_6_method_10_code 30 = .ok (.getfield 80, 3) := by decide +kernel
theorem h_K_pushConstant_33 : decode prog_6_method_10_code 33 = .ok (.aload_n 0, 1) := by decide +kernel
theorem h_K_pushConstant_34 : decode prog_6_method_10_code 34 = .ok (.getfield 76, 3) := by decide +kernel
theorem h_K_pushConstant_37 : decode prog_6_method_10_code 37 = .ok (.getfield 84, 3) := by decide +kernel
theorem h_K_pushConstant_40 : decode prog_6_method_10_code 40 = .ok (.iconst 1, 1) := by decide +kernel
theorem h_K_pushConstant_41 : decode prog_6_method_10_code 41 = .ok (.iadd, 1) := by decide +kernel
theorem h_K_pushConstant_42 : decode prog_6_method_10_code 42 = .ok (.invokevirtual 228, 3) := by decide +kernel
theorem h_K_pushConstant_45 : decode prog_6_method_10_code 45 = .ok (.i2l, 1) := by decide +kernel
theorem h_K_pushConstant_46 : decode prog_6_method_10_code 46 = .ok (.invokevirtual 147, 3) := by decide +kernel
theorem h_K_pushConstant_49 : decode prog_6_method_10_code 49 = .ok (.goto 76, 3) := by decide +kernel
theorem h_K_pushConstant_52 : decode prog_6_method_10_code 52 = .ok (.iload_n 1, 1) := by decide +kernel
theorem h_K_pushConstant_53 : decode prog_6_method_10_code 53 = .ok (.bipush 17, 2) := by decide +kernel
theorem h_K_pushConstant_55 : decode prog_6_method_10_code 55 = .ok (.if_icmp .ne 33, 3) := by decide +kernel
theorem h_K_pushConstant_58 : decode prog_6_method_10_code 58 = .ok (.aload_n 0, 1) := by decide +kernel
theorem h_K_pushConstant_59 : decode prog_6_method_10_code 59 = .ok (.getfield 76, 3) := by decide +kernel
theorem h_K_pushConstant_62 : decode prog_6_method_10_code 62 = .ok (.aload_n 0, 1) := by decide +kernel
theorem h_K_pushConstant_63 : decode prog_6_method_10_code 63 = .ok (.getfield 76, 3) := by decide +kernel
theorem h_K_pushConstant_66 : decode prog_6_method_10_code 66 = .ok (.getfield 80, 3) := by decide +kernel
theorem h_K_pushConstant_69 : decode prog_6_method_10_code 69 = .ok (.aload_n 0, 1) := by decide +kernel
theorem h_K_pushConstant_70 : decode prog_6_method_10_code 70 = .ok (.getfield 76, 3) := by decide +kernel
theorem h_K_pushConstant_73 : decode prog_6_method_10_code 73 = .ok (.getfield 84, 3) := by decide +kernel
theorem h_K_pushConstant_76 : decode prog_6_method_10_code 76 = .ok (.iconst 1, 1) := by decide +kernel
theorem h_K_pushConstant_77 : decode prog_6_method_10_code 77 = .ok (.iadd, 1) := by decide +kernel
theorem h_K_pushConstant_78 : decode prog_6_method_10_code 78 = .ok (.invokevirtual 231, 3) := by decide +kernel
theorem h_K_pushConstant_81 : decode prog_6_method_10_code 81 = .ok (.i2l, 1) := by decide +kernel
theorem h_K_pushConstant_82 : decode prog_6_method_10_code 82 = .ok (.invokevirtual 147, 3) := by decide +kernel
theorem h_K_pushConstant_85 : decode prog_6_method_10_code 85 = .ok (.goto 40, 3) := by decide +kernel
theorem h_K_pushConstant_88 : decode prog_6_method_10_code 88 = .ok (.iload_n 1, 1) := by decide +kernel
theorem h_K_pushConstant_89 : decode prog_6_method_10_code 89 = .ok (.bipush 9, 2) := by decide +kernel
theorem h_K_pushConstant_91 : decode prog_6_method_10_code 91 = .ok (.if_icmp .lt 18, 3) := by decide +kernel
theorem h_K_pushConstant_94 : decode prog_6_method_10_code 94 = .ok (.aload_n 0, 1) := by decide +kernel
theorem h_K_pushConstant_95 : decode prog_6_method_10_code 95 = .ok (.getfield 76, 3) := by decide +kernel
theorem h_K_pushConstant_98 : decode prog_6_method_10_code 98 = .ok (.iload_n 1, 1) := by decide +kernel
theorem h_K_pushConstant_99 : decode prog_6_method_10_code 99 = .ok (.bipush 9, 2) := by decide +kernel
theorem h_K_pushConstant_101 : decode prog_6_method_10_code 101 = .ok (.isub, 1) := by decide +kernel
theorem h_K_pushConstant_102 : decode prog_6_method_10_code 102 = .ok (.i2l, 1) := by decide +kernel
theorem h_K_pushConstant_103 : decode prog_6_method_10_code 103 = .ok (.invokevirtual 234, 3) := by decide +kernel
theorem h_K_pushConstant_106 : decode prog_6_method_10_code 106 = .ok (.goto 19, 3) := by decide +kernel
theorem h_K_pushConstant_109 : decode prog_6_method_10_code 109 = .ok (.iload_n 1, 1) := by decide +kernel
theorem h_K_pushConstant_110 : decode prog_6_method_10_code 110 = .ok (.iconst 2, 1) := by decide +kernel
theorem h_K_pushConstant_111 : decode prog_6_method_10_code 111 = .ok (.if_icmp .lt 14, 3) := by decide +kernel
theorem h_K_pushConstant_114 : decode prog_6_method_10_code 114 = .ok (.aload_n 0, 1) := by decide +kernel
theorem h_K_pushConstant_115 : decode prog_6_method_10_code 115 = .ok (.getfield 76, 3) := by decide +kernel
theorem h_K_pushConstant_118 : decode prog_6_method_10_code 118 = .ok (.iload_n 1, 1) := by decide +kernel
theorem h_K_pushConstant_119 : decode prog_6_method_10_code 119 = .ok (.iconst 3, 1) := by decide +kernel
theorem h_K_pushConstant_120 : decode prog_6_method_10_code 120 = .ok (.isub, 1) := by decide +kernel
theorem h_K_pushConstant_121 : decode prog_6_method_10_code 121 = .ok (.i2l, 1) := by decide +kernel
theorem h_K_pushConstant_122 : decode prog_6_method_10_code 122 = .ok (.invokevirtual 147, 3) := by decide +kernel
theorem h_K_pushConstant_125 : decode prog_6_method_10_code 125 = .ok (.return_, 1) := by decide +kernel
def x_K_pushConstant (a0 : Nat) (x1 : Int32) (σ0 : CST) (P : CST → Prop) : Prop := ((x1 = 1 → σ0.1 a0 = some (2, 0) ∧ (∀ b53 : Option Nat, b53 = (σ0.2.2.2.1 a0 5) → (∃ r54 : Nat, b53 = some r54 ∧ (σ0.1 r54 = some (0, 0) ∧ (x_C_push r54 (0 : Int64) σ0 (fun σ56 => P σ56)))))) ∧ (¬ x1 = 1 → ((x1 = 16 → σ0.1 a0 = some (2, 0) ∧ (∀ b36 : Option Nat, b36 = (σ0.2.2.2.1 a0 5) → ∀ b37 : Option Nat, b37 = (σ0.2.2.2.1 a0 5) → (∃ r38 : Nat, b37 = some r38 ∧ (σ0.1 r38 = some (0, 0) ∧ (∀ b40 : Option Nat, b40 = (σ0.2.2.2.1 r38 0) → ∀ b41 : Option Nat, b41 = (σ0.2.2.2.1 a0 5) → (∃ r42 : Nat, b41 = some r42 ∧ (σ0.1 r42 = some (0, 0) ∧ ((∃ r44 : Nat, b40 = some r44 ∧ (σ0.1 r44 = some (5, 0) ∧ (x_E_signedByteAt r44 ((σ0.2.1 r42 1) + 1) σ0 (fun r47 σ46 => (∃ r48 : Nat, b36 = some r48 ∧ (σ46.1 r48 = some (0, 0) ∧ (x_C_push r48 ((r47 : Int32).toInt64) σ46 (fun σ50 => P σ50)))))))))))))))) ∧ (¬ x1 = 16 → ((x1 = 17 → σ0.1 a0 = some (2, 0) ∧ (∀ b19 : Option Nat, b19 = (σ0.2.2.2.1 a0 5) → ∀ b20 : Option Nat, b20 = (σ0.2.2.2.1 a0 5) → (∃ r21 : Nat, b20 = some r21 ∧ (σ0.1 r21 = some (0, 0) ∧ (∀ b23 : Option Nat, b23 = (σ0.2.2.2.1 r21 0) → ∀ b24 : Option Nat, b24 = (σ0.2.2.2.1 a0 5) → (∃ r25 : Nat, b24 = some r25 ∧ (σ0.1 r25 = some (0, 0) ∧ ((∃ r27 : Nat, b23 = some r27 ∧ (σ0.1 r27 = some (5, 0) ∧ (x_E_signedPairAt r27 ((σ0.2.1 r25 1) + 1) σ0 (fun r30 σ29 => (∃ r31 : Nat, b19 = some r31 ∧ (σ29.1 r31 = some (0, 0) ∧ (x_C_push r31 ((r30 : Int32).toInt64) σ29 (fun σ33 => P σ33)))))))))))))))) ∧ (¬ x1 = 17 → ((x1 < 9 → ((x1 < 2 → P σ0) ∧ (¬ x1 < 2 → σ0.1 a0 = some (2, 0) ∧ (∀ b7 : Option Nat, b7 = (σ0.2.2.2.1 a0 5) → (∃ r8 : Nat, b7 = some r8 ∧ (σ0.1 r8 = some (0, 0) ∧ (x_C_push r8 (((x1 - 3) : Int32).toInt64) σ0 (fun σ10 => P σ10)))))))) ∧ (¬ x1 < 9 → σ0.1 a0 = some (2, 0) ∧ (∀ b13 : Option Nat, b13 = (σ0.2.2.2.1 a0 5) → (∃ r14 : Nat, b13 = some r14 ∧ (σ0.1 r14 = some (0, 0) ∧ (x_C_pushLong r14 (((x1 - 9) : Int32).toInt64) σ0 (fun σ16 => P σ16)))))))))))))
set_option maxHeartbeats 4000000 in
set_option maxRecDepth 100000 in
theorem X_K_pushConstant (l : Launch) (dC : Nat → ClassId) (dI : Nat → Nat → Nat) (ca : Nat → ClassId) (H0 : Heap) (σ0 : CST) (a0 : Nat) (x1 : Int32) {P : CST → Prop} (hw : x_K_pushConstant a0 x1 σ0 P) : Met l g_K_pushConstant (mW g_K_pushConstant prog_6_method_10_code 2 none) ({ frames := 2, cells := σ0.2.2.2.2.1, slots := σ0.2.2.2.2.2.1, locals := 44 } : Room) (va_Pc [.ref a0, .int x1] (CPre (dC, dI) ca σ0 H0)) (va_Qv P (CB (dC, dI) ca σ0 H0) (cA σ0 H0.size)) σ0.2.2.2.2.1 σ0.2.2.2.2.2.1 (cA σ0 H0.size) := by
  refine C_ofv (by decide +kernel) rfl rfl rfl (Nat.le_of_ble_eq_true rfl) ?_
  intro p e s m below meth cx Q A ls C hnm hend hH0 h hl
  subst hH0
  have C0 := C
  obtain ⟨⟨hx, hb, hml, hown, hts⟩, hsub⟩ := C0
  obtain ⟨cells, e_cells⟩ : ∃ z : Nat, z = 0 := ⟨_, rfl⟩
  obtain ⟨slots, e_slots⟩ : ∃ z : Nat, z = 0 := ⟨_, rfl⟩
  have h : CH (dC, dI) A ca ({ frames := 2, cells := σ0.2.2.2.2.1, slots := σ0.2.2.2.2.2.1, locals := 44 } : Room) σ0.2.2.2.2.2.2 σ0 s s.heap [] cells slots := by rw [e_cells, e_slots]; exact h
  show W p l e ({ frames := 2, cells := σ0.2.2.2.2.1, slots := σ0.2.2.2.2.2.1, locals := 44 } : Room) s m ([.ref a0, .int x1] : List Value).toArray below meth cx s.heap [] 0 0 Q (F0 m 0 ls [])
  rw [show W p l e ({ frames := 2, cells := σ0.2.2.2.2.1, slots := σ0.2.2.2.2.2.1, locals := 44 } : Room) s m ([.ref a0, .int x1] : List Value).toArray below meth cx s.heap [] 0 0 Q (F0 m 0 ls []) = W p l e ({ frames := 2, cells := σ0.2.2.2.2.1, slots := σ0.2.2.2.2.2.1, locals := 44 } : Room) s m ([.ref a0, .int x1] : List Value).toArray below meth cx s.heap [] cells slots Q (F0 m 0 ls []) by rw [e_cells, e_slots]]
  have hl : lv_has ls 2 [(0, .ref a0), (1, .int x1)] := hl
  unfold x_K_pushConstant at hw
  refine lv_iload_n hx hb h_K_pushConstant_0 rfl (lv_at hl 1 rfl) ?_
  refine lv_iconst (v := 1) hx hb h_K_pushConstant_1 (by decide) ?_
  refine lv_icmp_ne (tgt := 16) hx hb h_K_pushConstant_2 (by decide) (fun c1 => ?_) (fun c1 => ?_)
  · skip
    replace hw := hw.2 c1
    refine lv_iload_n hx hb h_K_pushConstant_16 rfl (lv_at hl 1 rfl) ?_
    refine lv_bipush (v := 16) hx hb h_K_pushConstant_17 (by decide) ?_
    refine lv_icmp_ne (tgt := 52) hx hb h_K_pushConstant_19 (by decide) (fun c2 => ?_) (fun c2 => ?_)
    · skip
      replace hw := hw.2 c2
      refine lv_iload_n hx hb h_K_pushConstant_52 rfl (lv_at hl 1 rfl) ?_
      refine lv_bipush (v := 17) hx hb h_K_pushConstant_53 (by decide) ?_
      refine lv_icmp_ne (tgt := 88) hx hb h_K_pushConstant_55 (by decide) (fun c3 => ?_) (fun c3 => ?_)
      · skip
        replace hw := hw.2 c3
        refine lv_iload_n hx hb h_K_pushConstant_88 rfl (lv_at hl 1 rfl) ?_
        refine lv_bipush (v := 9) hx hb h_K_pushConstant_89 (by decide) ?_
        refine lv_icmp_lt (tgt := 109) hx hb h_K_pushConstant_91 (by decide) (fun c4 => ?_) (fun c4 => ?_)
        · skip
          replace hw := hw.1 c4
          refine lv_iload_n hx hb h_K_pushConstant_109 rfl (lv_at hl 1 rfl) ?_
          refine lv_iconst (v := 2) hx hb h_K_pushConstant_110 (by decide) ?_
          refine lv_icmp_lt (tgt := 125) hx hb h_K_pushConstant_111 (by decide) (fun c5 => ?_) (fun c5 => ?_)
          · skip
            replace hw := hw.1 c5
            exact hend σ0 _ _ _ _ _ _ hw h h_K_pushConstant_125
          · skip
            replace hw := hw.2 c5
            refine lv_aload_n hx hb h_K_pushConstant_114 rfl (lv_at hl 0 rfl) ?_
            obtain ⟨g6, hw⟩ := hw
            refine C_get C h 2 5 (v := va_rf (σ0.2.2.2.1 a0 5)) g6 rfl (Cn := R_K) (T := T_K) (N := 14) rfl (by decide) rfl uw_K (by decide) u_231 (fun _ q => q) h_K_pushConstant_115 ?_
            refine lv_topq (fun b7 e_b7 => ?_)
            replace hw := hw b7 e_b7
            refine lv_iload_n hx hb h_K_pushConstant_118 rfl (lv_at hl 1 rfl) ?_
            refine lv_iconst (v := 3) hx hb h_K_pushConstant_119 (by decide) ?_
            refine lv_isub hx hb h_K_pushConstant_120 ?_
            refine lv_i2l (v := ((x1 - 3) : Int32).toInt64) hx hb h_K_pushConstant_121 rfl ?_
            obtain ⟨r8, e_r8, hw⟩ := hw
            subst e_r8
            have hl : lv_has ls 2 [(0, .ref a0), (1, .int x1)] := hl
            refine W.eq (g2 := F0 m 122 ls [.long (((x1 - 3) : Int32).toInt64), .ref r8]) rfl ?_
            obtain ⟨g9, hw⟩ := hw
            refine C_callVv (As := [.long (((x1 - 3) : Int32).toInt64)]) (rest := []) C h (ci := 0) (Cn := R_C) (T := T_C) (N := 5) g9 rfl (by decide) (X_C_push l dC dI ca s.heap σ0 r8 (((x1 - 3) : Int32).toInt64) hw) (cwV 1 hts (gV hsub u_232 u_10 u_11 u_12 u_13) rfl rfl rfl (by decide +kernel) ⟨(Nat.le_of_ble_eq_true rfl), (Nat.le_of_ble_eq_true rfl)⟩) rfl hl.1 (Nat.le_of_ble_eq_true rfl) h_K_pushConstant_122 (fun σ10 H locs cells slots hw9 h9 => ?_)
            clear hw h; have hw := hw9; have h := h9; clear hw9 h9
            refine W.eq (g2 := F0 m 125 ls []) rfl ?_
            exact hend σ10 _ _ _ _ _ _ hw h h_K_pushConstant_125
        · skip
          replace hw := hw.2 c4
          refine lv_aload_n hx hb h_K_pushConstant_94 rfl (lv_at hl 0 rfl) ?_
          obtain ⟨g12, hw⟩ := hw
          refine C_get C h 2 5 (v := va_rf (σ0.2.2.2.1 a0 5)) g12 rfl (Cn := R_K) (T := T_K) (N := 14) rfl (by decide) rfl uw_K (by decide) u_231 (fun _ q => q) h_K_pushConstant_95 ?_
          refine lv_topq (fun b13 e_b13 => ?_)
          replace hw := hw b13 e_b13
          refine lv_iload_n hx hb h_K_pushConstant_98 rfl (lv_at hl 1 rfl) ?_
          refine lv_bipush (v := 9) hx hb h_K_pushConstant_99 (by decide) ?_
          refine lv_isub hx hb h_K_pushConstant_101 ?_
          refine lv_i2l (v := ((x1 - 9) : Int32).toInt64) hx hb h_K_pushConstant_102 rfl ?_
          obtain ⟨r14, e_r14, hw⟩ := hw
          subst e_r14
          have hl : lv_has ls 2 [(0, .ref a0), (1, .int x1)] := hl
          refine W.eq (g2 := F0 m 103 ls [.long (((x1 - 9) : Int32).toInt64), .ref r14]) rfl ?_
          obtain ⟨g15, hw⟩ := hw
          refine C_callVv (As := [.long (((x1 - 9) : Int32).toInt64)]) (rest := []) C h (ci := 0) (Cn := R_C) (T := T_C) (N := 5) g15 rfl (by decide) (X_C_pushLong l dC dI ca s.heap σ0 r14 (((x1 - 9) : Int32).toInt64) hw) (cwV 1 hts (gV hsub u_233 u_234 u_235 u_12 u_236) rfl rfl rfl (by decide +kernel) ⟨(Nat.le_of_ble_eq_true rfl), (Nat.le_of_ble_eq_true rfl)⟩) rfl hl.1 (Nat.le_of_ble_eq_true rfl) h_K_pushConstant_103 (fun σ16 H locs cells slots hw9 h9 => ?_)
          clear hw h; have hw := hw9; have h := h9; clear hw9 h9
          refine W.eq (g2 := F0 m 106 ls []) rfl ?_
          refine lv_goto (tgt := 125) hx hb h_K_pushConstant_106 (by decide) ?_
          exact hend σ16 _ _ _ _ _ _ hw h h_K_pushConstant_125
      · skip
        replace hw := hw.1 c3
        refine lv_aload_n hx hb h_K_pushConstant_58 rfl (lv_at hl 0 rfl) ?_
        obtain ⟨g18, hw⟩ := hw
        refine C_get C h 2 5 (v := va_rf (σ0.2.2.2.1 a0 5)) g18 rfl (Cn := R_K) (T := T_K) (N := 14) rfl (by decide) rfl uw_K (by decide) u_231 (fun _ q => q) h_K_pushConstant_59 ?_
        refine lv_topq (fun b19 e_b19 => ?_)
        replace hw := hw b19 e_b19
        refine lv_aload_n hx hb h_K_pushConstant_62 rfl (lv_at hl 0 rfl) ?_
        refine C_get C h 2 5 (v := va_rf (σ0.2.2.2.1 a0 5)) g18 rfl (Cn := R_K) (T := T_K) (N := 14) rfl (by decide) rfl uw_K (by decide) u_231 (fun _ q => q) h_K_pushConstant_63 ?_
        refine lv_topq (fun b20 e_b20 => ?_)
        replace hw := hw b20 e_b20
        obtain ⟨r21, e_r21, hw⟩ := hw
        subst e_r21
        have hl : lv_has ls 2 [(0, .ref a0), (1, .int x1)] := hl
        refine W.eq (g2 := F0 m 66 ls [.ref r21, va_rf b19]) rfl ?_
        obtain ⟨g22, hw⟩ := hw
        refine C_get C h 0 0 (v := va_rf (σ0.2.2.2.1 r21 0)) g22 rfl (Cn := R_C) (T := T_C) (N := 5) rfl (by decide) rfl uw_C (by decide) u_222 (fun _ q => q) h_K_pushConstant_66 ?_
        refine lv_topq (fun b23 e_b23 => ?_)
        replace hw := hw b23 e_b23
        refine lv_aload_n hx hb h_K_pushConstant_69 rfl (lv_at hl 0 rfl) ?_
        refine C_get C h 2 5 (v := va_rf (σ0.2.2.2.1 a0 5)) g18 rfl (Cn := R_K) (T := T_K) (N := 14) rfl (by decide) rfl uw_K (by decide) u_231 (fun _ q => q) h_K_pushConstant_70 ?_
        refine lv_topq (fun b24 e_b24 => ?_)
        replace hw := hw b24 e_b24
        obtain ⟨r25, e_r25, hw⟩ := hw
        subst e_r25
        have hl : lv_has ls 2 [(0, .ref a0), (1, .int x1)] := hl
        refine W.eq (g2 := F0 m 73 ls [.ref r25, va_rf b23, va_rf b19]) rfl ?_
        obtain ⟨g26, hw⟩ := hw
        refine C_get C h 0 1 (v := .int (σ0.2.1 r25 1)) g26 rfl (Cn := R_C) (T := T_C) (N := 5) rfl (by decide) rfl uw_C (by decide) u_237 (fun _ q => q) h_K_pushConstant_73 ?_
        refine lv_iconst (v := 1) hx hb h_K_pushConstant_76 (by decide) ?_
        refine lv_iadd hx hb h_K_pushConstant_77 ?_
        obtain ⟨r27, e_r27, hw⟩ := hw
        subst e_r27
        have hl : lv_has ls 2 [(0, .ref a0), (1, .int x1)] := hl
        refine W.eq (g2 := F0 m 78 ls [.int ((σ0.2.1 r25 1) + 1), .ref r27, va_rf b19]) rfl ?_
        obtain ⟨g28, hw⟩ := hw
        refine C_callVi (As := [.int ((σ0.2.1 r25 1) + 1)]) (rest := [va_rf b19]) C h (ci := 5) (Cn := R_E) (T := T_E) (N := 13) g28 rfl (by decide) (X_E_signedPairAt l dC dI ca s.heap σ0 r27 ((σ0.2.1 r25 1) + 1) hw) (cwV 1 hts (gV hsub u_238 u_239 u_240 u_229 u_241) rfl rfl rfl (by decide +kernel) ⟨(Nat.le_of_ble_eq_true rfl), (Nat.le_of_ble_eq_true rfl)⟩) rfl hl.1 (by simp only [List.map_cons, List.map_nil, List.sum_cons, List.sum_nil, cq_cat]; exact Nat.le_of_ble_eq_true rfl) h_K_pushConstant_78 (fun r30 σ29 H locs cells slots hw9 h9 => ?_)
        clear hw h; have hw := hw9; have h := h9; clear hw9 h9
        refine W.eq (g2 := F0 m 81 ls [.int r30, va_rf b19]) rfl ?_
        refine lv_i2l (v := (r30 : Int32).toInt64) hx hb h_K_pushConstant_81 rfl ?_
        obtain ⟨r31, e_r31, hw⟩ := hw
        subst e_r31
        have hl : lv_has ls 2 [(0, .ref a0), (1, .int x1)] := hl
        refine W.eq (g2 := F0 m 82 ls [.long ((r30 : Int32).toInt64), .ref r31]) rfl ?_
        obtain ⟨g32, hw⟩ := hw
        refine C_callVv (As := [.long ((r30 : Int32).toInt64)]) (rest := []) C h (ci := 0) (Cn := R_C) (T := T_C) (N := 5) g32 rfl (by decide) (X_C_push l dC dI ca H σ29 r31 ((r30 : Int32).toInt64) hw) (cwV 1 hts (gV hsub u_232 u_10 u_11 u_12 u_13) rfl rfl rfl (by decide +kernel) ⟨(Nat.le_of_ble_eq_true rfl), (Nat.le_of_ble_eq_true rfl)⟩) rfl hl.1 (Nat.le_of_ble_eq_true rfl) h_K_pushConstant_82 (fun σ33 H locs cells slots hw9 h9 => ?_)
        clear hw h; have hw := hw9; have h := h9; clear hw9 h9
        refine W.eq (g2 := F0 m 85 ls []) rfl ?_
        refine lv_goto (tgt := 125) hx hb h_K_pushConstant_85 (by decide) ?_
        exact hend σ33 _ _ _ _ _ _ hw h h_K_pushConstant_125
    · skip
      replace hw := hw.1 c2
      refine lv_aload_n hx hb h_K_pushConstant_22 rfl (lv_at hl 0 rfl) ?_
      obtain ⟨g35, hw⟩ := hw
      refine C_get C h 2 5 (v := va_rf (σ0.2.2.2.1 a0 5)) g35 rfl (Cn := R_K) (T := T_K) (N := 14) rfl (by decide) rfl uw_K (by decide) u_231 (fun _ q => q) h_K_pushConstant_23 ?_
      refine lv_topq (fun b36 e_b36 => ?_)
      replace hw := hw b36 e_b36
      refine lv_aload_n hx hb h_K_pushConstant_26 rfl (lv_at hl 0 rfl) ?_
      refine C_get C h 2 5 (v := va_rf (σ0.2.2.2.1 a0 5)) g35 rfl (Cn := R_K) (T := T_K) (N := 14) rfl (by decide) rfl uw_K (by decide) u_231 (fun _ q => q) h_K_pushConstant_27 ?_
      refine lv_topq (fun b37 e_b37 => ?_)
      replace hw := hw b37 e_b37
      obtain ⟨r38, e_r38, hw⟩ := hw
      subst e_r38
      have hl : lv_has ls 2 [(0, .ref a0), (1, .int x1)] := hl
      refine W.eq (g2 := F0 m 30 ls [.ref r38, va_rf b36]) rfl ?_
      obtain ⟨g39, hw⟩ := hw
      refine C_get C h 0 0 (v := va_rf (σ0.2.2.2.1 r38 0)) g39 rfl (Cn := R_C) (T := T_C) (N := 5) rfl (by decide) rfl uw_C (by decide) u_222 (fun _ q => q) h_K_pushConstant_30 ?_
      refine lv_topq (fun b40 e_b40 => ?_)
      replace hw := hw b40 e_b40
      refine lv_aload_n hx hb h_K_pushConstant_33 rfl (lv_at hl 0 rfl) ?_
      refine C_get C h 2 5 (v := va_rf (σ0.2.2.2.1 a0 5)) g35 rfl (Cn := R_K) (T := T_K) (N := 14) rfl (by decide) rfl uw_K (by decide) u_231 (fun _ q => q) h_K_pushConstant_34 ?_
      refine lv_topq (fun b41 e_b41 => ?_)
      replace hw := hw b41 e_b41
      obtain ⟨r42, e_r42, hw⟩ := hw
      subst e_r42
      have hl : lv_has ls 2 [(0, .ref a0), (1, .int x1)] := hl
      refine W.eq (g2 := F0 m 37 ls [.ref r42, va_rf b40, va_rf b36]) rfl ?_
      obtain ⟨g43, hw⟩ := hw
      refine C_get C h 0 1 (v := .int (σ0.2.1 r42 1)) g43 rfl (Cn := R_C) (T := T_C) (N := 5) rfl (by decide) rfl uw_C (by decide) u_237 (fun _ q => q) h_K_pushConstant_37 ?_
      refine lv_iconst (v := 1) hx hb h_K_pushConstant_40 (by decide) ?_
      refine lv_iadd hx hb h_K_pushConstant_41 ?_
      obtain ⟨r44, e_r44, hw⟩ := hw
      subst e_r44
      have hl : lv_has ls 2 [(0, .ref a0), (1, .int x1)] := hl
      refine W.eq (g2 := F0 m 42 ls [.int ((σ0.2.1 r42 1) + 1), .ref r44, va_rf b36]) rfl ?_
      obtain ⟨g45, hw⟩ := hw
      refine C_callVi (As := [.int ((σ0.2.1 r42 1) + 1)]) (rest := [va_rf b36]) C h (ci := 5) (Cn := R_E) (T := T_E) (N := 13) g45 rfl (by decide) (X_E_signedByteAt l dC dI ca s.heap σ0 r44 ((σ0.2.1 r42 1) + 1) hw) (cwV 1 hts (gV hsub u_242 u_243 u_244 u_229 u_245) rfl rfl rfl (by decide +kernel) ⟨(Nat.le_of_ble_eq_true rfl), (Nat.le_of_ble_eq_true rfl)⟩) rfl hl.1 (by simp only [List.map_cons, List.map_nil, List.sum_cons, List.sum_nil, cq_cat]; exact Nat.le_of_ble_eq_true rfl) h_K_pushConstant_42 (fun r47 σ46 H locs cells slots hw9 h9 => ?_)
      clear hw h; have hw := hw9; have h := h9; clear hw9 h9
      refine W.eq (g2 := F0 m 45 ls [.int r47, va_rf b36]) rfl ?_
      refine lv_i2l (v := (r47 : Int32).toInt64) hx hb h_K_pushConstant_45 rfl ?_
      obtain ⟨r48, e_r48, hw⟩ := hw
      subst e_r48
      have hl : lv_has ls 2 [(0, .ref a0), (1, .int x1)] := hl
      refine W.eq (g2 := F0 m 46 ls [.long ((r47 : Int32).toInt64), .ref r48]) rfl ?_
      obtain ⟨g49, hw⟩ := hw
      refine C_callVv (As := [.long ((r47 : Int32).toInt64)]) (rest := []) C h (ci := 0) (Cn := R_C) (T := T_C) (N := 5) g49 rfl (by decide) (X_C_push l dC dI ca H σ46 r48 ((r47 : Int32).toInt64) hw) (cwV 1 hts (gV hsub u_232 u_10 u_11 u_12 u_13) rfl rfl rfl (by decide +kernel) ⟨(Nat.le_of_ble_eq_true rfl), (Nat.le_of_ble_eq_true rfl)⟩) rfl hl.1 (Nat.le_of_ble_eq_true rfl) h_K_pushConstant_46 (fun σ50 H locs cells slots hw9 h9 => ?_)
      clear hw h; have hw := hw9; have h := h9; clear hw9 h9
      refine W.eq (g2 := F0 m 49 ls []) rfl ?_
      refine lv_goto (tgt := 125) hx hb h_K_pushConstant_49 (by decide) ?_
      exact hend σ50 _ _ _ _ _ _ hw h h_K_pushConstant_125
  · skip
    replace hw := hw.1 c1
    refine lv_aload_n hx hb h_K_pushConstant_5 rfl (lv_at hl 0 rfl) ?_
    obtain ⟨g52, hw⟩ := hw
    refine C_get C h 2 5 (v := va_rf (σ0.2.2.2.1 a0 5)) g52 rfl (Cn := R_K) (T := T_K) (N := 14) rfl (by decide) rfl uw_K (by decide) u_231 (fun _ q => q) h_K_pushConstant_6 ?_
    refine lv_topq (fun b53 e_b53 => ?_)
    replace hw := hw b53 e_b53
    refine lv_lconst (v := 0) hx hb h_K_pushConstant_9 (by decide) ?_
    obtain ⟨r54, e_r54, hw⟩ := hw
    subst e_r54
    have hl : lv_has ls 2 [(0, .ref a0), (1, .int x1)] := hl
    refine W.eq (g2 := F0 m 10 ls [.long 0, .ref r54]) rfl ?_
    obtain ⟨g55, hw⟩ := hw
    refine C_callVv (As := [.long 0]) (rest := []) C h (ci := 0) (Cn := R_C) (T := T_C) (N := 5) g55 rfl (by decide) (X_C_push l dC dI ca s.heap σ0 r54 (0 : Int64) hw) (cwV 1 hts (gV hsub u_232 u_10 u_11 u_12 u_13) rfl rfl rfl (by decide +kernel) ⟨(Nat.le_of_ble_eq_true rfl), (Nat.le_of_ble_eq_true rfl)⟩) rfl hl.1 (Nat.le_of_ble_eq_true rfl) h_K_pushConstant_10 (fun σ56 H locs cells slots hw9 h9 => ?_)
    clear hw h; have hw := hw9; have h := h9; clear hw9 h9
    refine W.eq (g2 := F0 m 13 ls []) rfl ?_
    refine lv_goto (tgt := 125) hx hb h_K_pushConstant_13 (by decide) ?_
    exact hend σ56 _ _ _ _ _ _ hw h h_K_pushConstant_125
abbrev g_Op_isGet : MethodName := ⟨"MapFramer$Op", "isGet", "(I)Z"⟩
theorem h_Op_isGet_0 : decode prog_8_method_5_code 0 = .ok (.iload_n 0, 1) := by decide +kernel
theorem h_Op_isGet_1 : decode prog_8_method_5_code 1 = .ok (.bipush 46, 2) := by decide +kernel
theorem h_Op_isGet_3 : decode prog_8_method_5_code 3 = .ok (.if_icmp .lt 13, 3) := by decide +kernel
theorem h_Op_isGet_6 : decode prog_8_method_5_code 6 = .ok (.iload_n 0, 1) := by decide +kernel
theorem h_Op_isGet_7 : decode prog_8_method_5_code 7 = .ok (.bipush 50, 2) := by decide +kernel
theorem h_Op_isGet_9 : decode prog_8_method_5_code 9 = .ok (.if_icmp .gt 7, 3) := by decide +kernel
theorem h_Op_isGet_12 : decode prog_8_method_5_code 12 = .ok (.iconst 1, 1) := by decide +kernel
theorem h_Op_isGet_13 : decode prog_8_method_5_code 13 = .ok (.goto 4, 3) := by decide +kernel
theorem h_Op_isGet_16 : decode prog_8_method_5_code 16 = .ok (.iconst 0, 1) := by decide +kernel
theorem h_Op_isGet_17 : decode prog_8_method_5_code 17 = .ok (.ireturn, 1) := by decide +kernel
def x_Op_isGet (x0 : Int32) (σ0 : CST) (P : Int32 → CST → Prop) : Prop := ((x0 < 46 → P (0 : Int32) σ0) ∧ (¬ x0 < 46 → ((50 < x0 → P (0 : Int32) σ0) ∧ (¬ 50 < x0 → P (1 : Int32) σ0))))
set_option maxHeartbeats 4000000 in
set_option maxRecDepth 100000 in
theorem X_Op_isGet (l : Launch) (dC : Nat → ClassId) (dI : Nat → Nat → Nat) (ca : Nat → ClassId) (H0 : Heap) (σ0 : CST) (x0 : Int32) {P : Int32 → CST → Prop} (hw : x_Op_isGet x0 σ0 P) : Met l g_Op_isGet (mW g_Op_isGet prog_8_method_5_code 1 (some .boolean)) ({ frames := 0, cells := σ0.2.2.2.2.1, slots := σ0.2.2.2.2.2.1, locals := 0 } : Room) (va_Pc [.int x0] (CPre (dC, dI) ca σ0 H0)) (va_Qi P (CB (dC, dI) ca σ0 H0) (cA σ0 H0.size)) σ0.2.2.2.2.1 σ0.2.2.2.2.2.1 (cA σ0 H0.size) := by
  refine C_ofz (by decide +kernel) rfl rfl rfl (Nat.le_of_ble_eq_true rfl) ?_
  intro p e s m below meth cx Q A ls C hnm hend hH0 h hl
  subst hH0
  have C0 := C
  obtain ⟨⟨hx, hb, hml, hown, hts⟩, hsub⟩ := C0
  obtain ⟨cells, e_cells⟩ : ∃ z : Nat, z = 0 := ⟨_, rfl⟩
  obtain ⟨slots, e_slots⟩ : ∃ z : Nat, z = 0 := ⟨_, rfl⟩
  have h : CH (dC, dI) A ca ({ frames := 0, cells := σ0.2.2.2.2.1, slots := σ0.2.2.2.2.2.1, locals := 0 } : Room) σ0.2.2.2.2.2.2 σ0 s s.heap [] cells slots := by rw [e_cells, e_slots]; exact h
  show W p l e ({ frames := 0, cells := σ0.2.2.2.2.1, slots := σ0.2.2.2.2.2.1, locals := 0 } : Room) s m ([.int x0] : List Value).toArray below meth cx s.heap [] 0 0 Q (F0 m 0 ls [])
  rw [show W p l e ({ frames := 0, cells := σ0.2.2.2.2.1, slots := σ0.2.2.2.2.2.1, locals := 0 } : Room) s m ([.int x0] : List Value).toArray below meth cx s.heap [] 0 0 Q (F0 m 0 ls []) = W p l e ({ frames := 0, cells := σ0.2.2.2.2.1, slots := σ0.2.2.2.2.2.1, locals := 0 } : Room) s m ([.int x0] : List Value).toArray below meth cx s.heap [] cells slots Q (F0 m 0 ls []) by rw [e_cells, e_slots]]
  have hl : lv_has ls 1 [(0, .int x0)] := hl
  unfold x_Op_isGet at hw
  refine lv_iload_n hx hb h_Op_isGet_0 rfl (lv_at hl 0 rfl) ?_
  refine lv_bipush (v := 46) hx hb h_Op_isGet_1 (by decide) ?_
  refine lv_icmp_lt (tgt := 16) hx hb h_Op_isGet_3 (by decide) (fun c1 => ?_) (fun c1 => ?_)
  · skip
    replace hw := hw.1 c1
    refine lv_iconst (v := 0) hx hb h_Op_isGet_16 (by decide) ?_
    exact hend (0 : Int32) σ0 _ _ _ _ _ _ rfl hw h h_Op_isGet_17
  · skip
    replace hw := hw.2 c1
    refine lv_iload_n hx hb h_Op_isGet_6 rfl (lv_at hl 0 rfl) ?_
    refine lv_bipush (v := 50) hx hb h_Op_isGet_7 (by decide) ?_
    refine lv_icmp_gt (tgt := 16) hx hb h_Op_isGet_9 (by decide) (fun c2 => ?_) (fun c2 => ?_)
    · skip
      replace hw := hw.1 c2
      refine lv_iconst (v := 0) hx hb h_Op_isGet_16 (by decide) ?_
      exact hend (0 : Int32) σ0 _ _ _ _ _ _ rfl hw h h_Op_isGet_17
    · skip
      replace hw := hw.2 c2
      refine lv_iconst (v := 1) hx hb h_Op_isGet_12 (by decide) ?_
      refine lv_goto (tgt := 17) hx hb h_Op_isGet_13 (by decide) ?_
      exact hend (1 : Int32) σ0 _ _ _ _ _ _ rfl hw h h_Op_isGet_17
abbrev g_K_getElement : MethodName := ⟨"MapFramer$Machine", "getElement", "(I)V"⟩
theorem u_246 : (Cond.methodLink "MapFramer$Machine" 248 ⟨"MapFramer$Call", "popInt", "()I"⟩ : Cond) ∈ bigW := inB_7 135 (by decide +kernel) rfl
theorem u_247 : (Cond.instanceMethod ⟨"MapFramer$Call", "popInt", "()I"⟩ : Cond) ∈ bigW := inB_7 136 (by decide +kernel) rfl
theorem u_248 : (Cond.selects "MapFramer$Call" ⟨"MapFramer$Call", "popInt", "()I"⟩ ⟨"MapFramer$Call", "popInt", "()I"⟩ : Cond) ∈ bigW := inB_7 137 (by decide +kernel) rfl
theorem u_249 : (Cond.code ⟨"MapFramer$Call", "popInt", "()I"⟩ prog_2_method_7_code 1 (some .int) : Cond) ∈ bigW := inB_7 138 rfl rfl
theorem u_250 : (Cond.methodLink "MapFramer$Machine" 251 ⟨"MapFramer$Heap", "hasValue", "(II)Z"⟩ : Cond) ∈ bigW := inB_7 143 (by decide +kernel) rfl
theorem u_251 : (Cond.methodLink "MapFramer$Machine" 254 ⟨"MapFramer$Heap", "valueAt", "(II)J"⟩ : Cond) ∈ bigW := inB_7 151 (by decide +kernel) rfl
theorem u_252 : (Cond.instanceMethod ⟨"MapFramer$Heap", "valueAt", "(II)J"⟩ : Cond) ∈ bigW := inB_7 152 (by decide +kernel) rfl
theorem u_253 : (Cond.selects "MapFramer$Heap" ⟨"MapFramer$Heap", "valueAt", "(II)J"⟩ ⟨"MapFramer$Heap", "valueAt", "(II)J"⟩ : Cond) ∈ bigW := inB_7 153 (by decide +kernel) rfl
theorem u_254 : (Cond.code ⟨"MapFramer$Heap", "valueAt", "(II)J"⟩ prog_5_method_6_code 3 (some .long) : Cond) ∈ bigW := inB_7 154 rfl rfl
theorem u_255 : (Cond.fieldLink "MapFramer$Machine" 123 "MapFramer$Machine" "raises" "Z" : Cond) ∈ bigW := inB_1 151 (by decide +kernel) rfl
theorem h_K_getElement_0 : decode prog_6_method_12_code 0 = .ok (.aload_n 0, 1) := by decide +kernel
theorem h_K_getElement_1 : decode prog_6_method_12_code 1 = .ok (.getfield 76, 3) := by decide +kernel
theorem h_K_getElement_4 : decode prog_6_method_12_code 4 = .ok (.invokevirtual 248, 3) := by decide +kernel
theorem h_K_getElement_7 : decode prog_6_method_12_code 7 = .ok (.istore_n 2, 1) := by decide +kernel
theorem h_K_getElement_8 : decode prog_6_method_12_code 8 = .ok (.aload_n 0, 1) := by decide +kernel
theorem h_K_getElement_9 : decode prog_6_method_12_code 9 = .ok (.getfield 76, 3) := by decide +kernel
theorem h_K_getElement_12 : decode prog_6_method_12_code 12 = .ok (.invokevirtual 248, 3) := by decide +kernel
theorem h_K_getElement_15 : decode prog_6_method_12_code 15 = .ok (.istore_n 3, 1) := by decide +kernel
theorem h_K_getElement_16 : decode prog_6_method_12_code 16 = .ok (.aload_n 0, 1) := by decide +kernel
theorem h_K_getElement_17 : decode prog_6_method_12_code 17 = .ok (.getfield 12, 3) := by decide +kernel
theorem h_K_getElement_20 : decode prog_6_method_12_code 20 = .ok (.iload_n 3, 1) := by decide +kernel
theorem h_K_getElement_21 : decode prog_6_method_12_code 21 = .ok (.iload_n 2, 1) := by decide +kernel
theorem h_K_getElement_22 : decode prog_6_method_12_code 22 = .ok (.invokevirtual 251, 3) := by decide +kernel
theorem h_K_getElement_25 : decode prog_6_method_12_code 25 = .ok (.ifCond .ne 11, 3) := by decide +kernel
theorem h_K_getElement_28 : decode prog_6_method_12_code 28 = .ok (.aload_n 0, 1) := by decide +kernel
theorem h_K_getElement_29 : decode prog_6_method_12_code 29 = .ok (.iconst 1, 1) := by decide +kernel
theorem h_K_getElement_30 : decode prog_6_method_12_code 30 = .ok (.putfield 123, 3) := by decide +kernel
theorem h_K_getElement_33 : decode prog_6_method_12_code 33 = .ok (.goto 44, 3) := by decide +kernel
theorem h_K_getElement_36 : decode prog_6_method_12_code 36 = .ok (.iload_n 1, 1) := by decide +kernel
theorem h_K_getElement_37 : decode prog_6_method_12_code 37 = .ok (.bipush 47, 2) := by decide +kernel
theorem h_K_getElement_39 : decode prog_6_method_12_code 39 = .ok (.if_icmp .ne 22, 3) := by decide +kernel
theorem h_K_getElement_42 : decode prog_6_method_12_code 42 = .ok (.aload_n 0, 1) := by decide +kernel
theorem h_K_getElement_43 : decode prog_6_method_12_code 43 = .ok (.getfield 76, 3) := by decide +kernel
theorem h_K_getElement_46 : decode prog_6_method_12_code 46 = .ok (.aload_n 0, 1) := by decide +kernel
theorem h_K_getElement_47 : decode prog_6_method_12_code 47 = .ok (.getfield 12, 3) := by decide +kernel
theorem h_K_getElement_50 : decode prog_6_method_12_code 50 = .ok (.iload_n 3, 1) := by decide +kernel
theorem h_K_getElement_51 : decode prog_6_method_12_code 51 = .ok (.iload_n 2, 1) := by decide +kernel
theorem h_K_getElement_52 : decode prog_6_method_12_code 52 = .ok (.invokevirtual 254, 3) := by decide +kernel
theorem h_K_getElement_55 : decode prog_6_method_12_code 55 = .ok (.invokevirtual 234, 3) := by decide +kernel
theorem h_K_getElement_58 : decode prog_6_method_12_code 58 = .ok (.goto 19, 3) := by decide +kernel
theorem h_K_getElement_61 : decode prog_6_method_12_code 61 = .ok (.aload_n 0, 1) := by decide +kernel
theorem h_K_getElement_62 : decode prog_6_method_12_code 62 = .ok (.getfield 76, 3) := by decide +kernel
theorem h_K_getElement_65 : decode prog_6_method_12_code 65 = .ok (.aload_n 0, 1) := by decide +kernel
theorem h_K_getElement_66 : decode prog_6_method_12_code 66 = .ok (.getfield 12, 3) := by decide +kernel
theorem h_K_getElement_69 : decode prog_6_method_12_code 69 = .ok (.iload_n 3, 1) := by decide +kernel
theorem h_K_getElement_70 : decode prog_6_method_12_code 70 = .ok (.iload_n 2, 1) := by decide +kernel
theorem h_K_getElement_71 : decode prog_6_method_12_code 71 = .ok (.invokevirtual 254, 3) := by decide +kernel
theorem h_K_getElement_74 : decode prog_6_method_12_code 74 = .ok (.invokevirtual 147, 3) := by decide +kernel
theorem h_K_getElement_77 : decode prog_6_method_12_code 77 = .ok (.return_, 1) := by decide +kernel
def x_K_getElement (a0 : Nat) (x1 : Int32) (σ0 : CST) (P : CST → Prop) : Prop := σ0.1 a0 = some (2, 0) ∧ (∀ b2 : Option Nat, b2 = (σ0.2.2.2.1 a0 5) → (∃ r3 : Nat, b2 = some r3 ∧ (σ0.1 r3 = some (0, 0) ∧ (x_C_popInt r3 σ0 (fun r6 σ5 => σ5.1 a0 = some (2, 0) ∧ (∀ b8 : Option Nat, b8 = (σ5.2.2.2.1 a0 5) → (∃ r9 : Nat, b8 = some r9 ∧ (σ5.1 r9 = some (0, 0) ∧ (x_C_popInt r9 σ5 (fun r12 σ11 => σ11.1 a0 = some (2, 0) ∧ (∀ b14 : Option Nat, b14 = (σ11.2.2.2.1 a0 0) → (∃ r15 : Nat, b14 = some r15 ∧ (σ11.1 r15 = some (1, 0) ∧ (x_H_hasValue r15 r12 r6 σ11 (fun r18 σ17 => ((r18 = 0 → σ17.1 a0 = some (2, 0) ∧ (∀ σ44 : CST, σ44 = sI σ17 a0 7 (1 : Int32) → P σ44)) ∧ (¬ r18 = 0 → ((x1 = 47 → σ17.1 a0 = some (2, 0) ∧ (∀ b33 : Option Nat, b33 = (σ17.2.2.2.1 a0 5) → ∀ b34 : Option Nat, b34 = (σ17.2.2.2.1 a0 0) → (∃ r35 : Nat, b34 = some r35 ∧ (σ17.1 r35 = some (1, 0) ∧ (x_H_valueAt r35 r12 r6 σ17 (fun r38 σ37 => (∃ r39 : Nat, b33 = some r39 ∧ (σ37.1 r39 = some (0, 0) ∧ (x_C_pushLong r39 r38 σ37 (fun σ41 => P σ41)))))))))) ∧ (¬ x1 = 47 → σ17.1 a0 = some (2, 0) ∧ (∀ b22 : Option Nat, b22 = (σ17.2.2.2.1 a0 5) → ∀ b23 : Option Nat, b23 = (σ17.2.2.2.1 a0 0) → (∃ r24 : Nat, b23 = some r24 ∧ (σ17.1 r24 = some (1, 0) ∧ (x_H_valueAt r24 r12 r6 σ17 (fun r27 σ26 => (∃ r28 : Nat, b22 = some r28 ∧ (σ26.1 r28 = some (0, 0) ∧ (x_C_push r28 r27 σ26 (fun σ30 => P σ30))))))))))))))))))))))))))))
set_option maxHeartbeats 4000000 in
set_option maxRecDepth 100000 in
theorem X_K_getElement (l : Launch) (dC : Nat → ClassId) (dI : Nat → Nat → Nat) (ca : Nat → ClassId) (H0 : Heap) (σ0 : CST) (a0 : Nat) (x1 : Int32) {P : CST → Prop} (hw : x_K_getElement a0 x1 σ0 P) : Met l g_K_getElement (mW g_K_getElement prog_6_method_12_code 4 none) ({ frames := 3, cells := σ0.2.2.2.2.1, slots := σ0.2.2.2.2.2.1, locals := 65 } : Room) (va_Pc [.ref a0, .int x1] (CPre (dC, dI) ca σ0 H0)) (va_Qv P (CB (dC, dI) ca σ0 H0) (cA σ0 H0.size)) σ0.2.2.2.2.1 σ0.2.2.2.2.2.1 (cA σ0 H0.size) := by
  refine C_ofv (by decide +kernel) rfl rfl rfl (Nat.le_of_ble_eq_true rfl) ?_
  intro p e s m below meth cx Q A ls C hnm hend hH0 h hl
  subst hH0
  have C0 := C
  obtain ⟨⟨hx, hb, hml, hown, hts⟩, hsub⟩ := C0
  obtain ⟨cells, e_cells⟩ : ∃ z : Nat, z = 0 := ⟨_, rfl⟩
  obtain ⟨slots, e_slots⟩ : ∃ z : Nat, z = 0 := ⟨_, rfl⟩
  have h : CH (dC, dI) A ca ({ frames := 3, cells := σ0.2.2.2.2.1, slots := σ0.2.2.2.2.2.1, locals := 65 } : Room) σ0.2.2.2.2.2.2 σ0 s s.heap [] cells slots := by rw [e_cells, e_slots]; exact h
  show W p l e ({ frames := 3, cells := σ0.2.2.2.2.1, slots := σ0.2.2.2.2.2.1, locals := 65 } : Room) s m ([.ref a0, .int x1] : List Value).toArray below meth cx s.heap [] 0 0 Q (F0 m 0 ls [])
  rw [show W p l e ({ frames := 3, cells := σ0.2.2.2.2.1, slots := σ0.2.2.2.2.2.1, locals := 65 } : Room) s m ([.ref a0, .int x1] : List Value).toArray below meth cx s.heap [] 0 0 Q (F0 m 0 ls []) = W p l e ({ frames := 3, cells := σ0.2.2.2.2.1, slots := σ0.2.2.2.2.2.1, locals := 65 } : Room) s m ([.ref a0, .int x1] : List Value).toArray below meth cx s.heap [] cells slots Q (F0 m 0 ls []) by rw [e_cells, e_slots]]
  have hl : lv_has ls 4 [(0, .ref a0), (1, .int x1)] := hl
  unfold x_K_getElement at hw
  refine lv_aload_n hx hb h_K_getElement_0 rfl (lv_at hl 0 rfl) ?_
  obtain ⟨g1, hw⟩ := hw
  refine C_get C h 2 5 (v := va_rf (σ0.2.2.2.1 a0 5)) g1 rfl (Cn := R_K) (T := T_K) (N := 14) rfl (by decide) rfl uw_K (by decide) u_231 (fun _ q => q) h_K_getElement_1 ?_
  refine lv_topq (fun b2 e_b2 => ?_)
  replace hw := hw b2 e_b2
  obtain ⟨r3, e_r3, hw⟩ := hw
  subst e_r3
  have hl : lv_has ls 4 [(0, .ref a0), (1, .int x1)] := hl
  refine W.eq (g2 := F0 m 4 ls [.ref r3]) rfl ?_
  obtain ⟨g4, hw⟩ := hw
  refine C_callVi (As := []) (rest := []) C h (ci := 0) (Cn := R_C) (T := T_C) (N := 5) g4 rfl (by decide) (X_C_popInt l dC dI ca s.heap σ0 r3 hw) (cwV 0 hts (gV hsub u_246 u_247 u_248 u_12 u_249) rfl rfl rfl (by decide +kernel) ⟨(Nat.le_of_ble_eq_true rfl), (Nat.le_of_ble_eq_true rfl)⟩) rfl hl.1 (Nat.le_of_ble_eq_true rfl) h_K_getElement_4 (fun r6 σ5 H locs cells slots hw9 h9 => ?_)
  clear hw h; have hw := hw9; have h := h9; clear hw9 h9
  refine W.eq (g2 := F0 m 7 ls [.int r6]) rfl ?_
  refine lv_istore_n (i := 2) (lv' := [(2, .int r6), (0, .ref a0), (1, .int x1)]) hx hb h_K_getElement_7 rfl hl (by decide) rfl (fun ls hl => ?_)
  refine lv_aload_n hx hb h_K_getElement_8 rfl (lv_at hl 1 rfl) ?_
  obtain ⟨g7, hw⟩ := hw
  refine C_get C h 2 5 (v := va_rf (σ5.2.2.2.1 a0 5)) g7 rfl (Cn := R_K) (T := T_K) (N := 14) rfl (by decide) rfl uw_K (by decide) u_231 (fun _ q => q) h_K_getElement_9 ?_
  refine lv_topq (fun b8 e_b8 => ?_)
  replace hw := hw b8 e_b8
  obtain ⟨r9, e_r9, hw⟩ := hw
  subst e_r9
  have hl : lv_has ls 4 [(2, .int r6), (0, .ref a0), (1, .int x1)] := hl
  refine W.eq (g2 := F0 m 12 ls [.ref r9]) rfl ?_
  obtain ⟨g10, hw⟩ := hw
  refine C_callVi (As := []) (rest := []) C h (ci := 0) (Cn := R_C) (T := T_C) (N := 5) g10 rfl (by decide) (X_C_popInt l dC dI ca H σ5 r9 hw) (cwV 0 hts (gV hsub u_246 u_247 u_248 u_12 u_249) rfl rfl rfl (by decide +kernel) ⟨(Nat.le_of_ble_eq_true rfl), (Nat.le_of_ble_eq_true rfl)⟩) rfl hl.1 (Nat.le_of_ble_eq_true rfl) h_K_getElement_12 (fun r12 σ11 H locs cells slots hw9 h9 => ?_)
  clear hw h; have hw := hw9; have h := h9; clear hw9 h9
  refine W.eq (g2 := F0 m 15 ls [.int r12]) rfl ?_
  refine lv_istore_n (i := 3) (lv' := [(3, .int r12), (2, .int r6), (0, .ref a0), (1, .int x1)]) hx hb h_K_getElement_15 rfl hl (by decide) rfl (fun ls hl => ?_)
  refine lv_aload_n hx hb h_K_getElement_16 rfl (lv_at hl 2 rfl) ?_
  obtain ⟨g13, hw⟩ := hw
  refine C_get C h 2 0 (v := va_rf (σ11.2.2.2.1 a0 0)) g13 rfl (Cn := R_K) (T := T_K) (N := 14) rfl (by decide) rfl uw_K (by decide) u_213 (fun _ q => q) h_K_getElement_17 ?_
  refine lv_topq (fun b14 e_b14 => ?_)
  replace hw := hw b14 e_b14
  refine lv_iload_n hx hb h_K_getElement_20 rfl (lv_at hl 0 rfl) ?_
  refine lv_iload_n hx hb h_K_getElement_21 rfl (lv_at hl 1 rfl) ?_
  obtain ⟨r15, e_r15, hw⟩ := hw
  subst e_r15
  have hl : lv_has ls 4 [(3, .int r12), (2, .int r6), (0, .ref a0), (1, .int x1)] := hl
  refine W.eq (g2 := F0 m 22 ls [.int r6, .int r12, .ref r15]) rfl ?_
  obtain ⟨g16, hw⟩ := hw
  refine C_callVi (As := [.int r12, .int r6]) (rest := []) C h (ci := 1) (Cn := R_H) (T := T_H) (N := 4) g16 rfl (by decide) (X_H_hasValue l dC dI ca H σ11 r15 r12 r6 hw) (cwV 2 hts (gV hsub u_250 u_200 u_201 u_197 u_202) rfl rfl rfl (by decide +kernel) ⟨(Nat.le_of_ble_eq_true rfl), (Nat.le_of_ble_eq_true rfl)⟩) rfl hl.1 (Nat.le_of_ble_eq_true rfl) h_K_getElement_22 (fun r18 σ17 H locs cells slots hw9 h9 => ?_)
  clear hw h; have hw := hw9; have h := h9; clear hw9 h9
  refine W.eq (g2 := F0 m 25 ls [.int r18]) rfl ?_
  refine lv_if_ne (tgt := 36) hx hb h_K_getElement_25 (by decide) (fun c19 => ?_) (fun c19 => ?_)
  · skip
    replace hw := hw.2 c19
    refine lv_iload_n hx hb h_K_getElement_36 rfl (lv_at hl 3 rfl) ?_
    refine lv_bipush (v := 47) hx hb h_K_getElement_37 (by decide) ?_
    refine lv_icmp_ne (tgt := 61) hx hb h_K_getElement_39 (by decide) (fun c20 => ?_) (fun c20 => ?_)
    · skip
      replace hw := hw.2 c20
      refine lv_aload_n hx hb h_K_getElement_61 rfl (lv_at hl 2 rfl) ?_
      obtain ⟨g21, hw⟩ := hw
      refine C_get C h 2 5 (v := va_rf (σ17.2.2.2.1 a0 5)) g21 rfl (Cn := R_K) (T := T_K) (N := 14) rfl (by decide) rfl uw_K (by decide) u_231 (fun _ q => q) h_K_getElement_62 ?_
      refine lv_topq (fun b22 e_b22 => ?_)
      replace hw := hw b22 e_b22
      refine lv_aload_n hx hb h_K_getElement_65 rfl (lv_at hl 2 rfl) ?_
      refine C_get C h 2 0 (v := va_rf (σ17.2.2.2.1 a0 0)) g21 rfl (Cn := R_K) (T := T_K) (N := 14) rfl (by decide) rfl uw_K (by decide) u_213 (fun _ q => q) h_K_getElement_66 ?_
      refine lv_topq (fun b23 e_b23 => ?_)
      replace hw := hw b23 e_b23
      refine lv_iload_n hx hb h_K_getElement_69 rfl (lv_at hl 0 rfl) ?_
      refine lv_iload_n hx hb h_K_getElement_70 rfl (lv_at hl 1 rfl) ?_
      obtain ⟨r24, e_r24, hw⟩ := hw
      subst e_r24
      have hl : lv_has ls 4 [(3, .int r12), (2, .int r6), (0, .ref a0), (1, .int x1)] := hl
      refine W.eq (g2 := F0 m 71 ls [.int r6, .int r12, .ref r24, va_rf b22]) rfl ?_
      obtain ⟨g25, hw⟩ := hw
      refine C_callVl (As := [.int r12, .int r6]) (rest := [va_rf b22]) C h (ci := 1) (Cn := R_H) (T := T_H) (N := 4) g25 rfl (by decide) (X_H_valueAt l dC dI ca H σ17 r24 r12 r6 hw) (cwV 2 hts (gV hsub u_251 u_252 u_253 u_197 u_254) rfl rfl rfl (by decide +kernel) ⟨(Nat.le_of_ble_eq_true rfl), (Nat.le_of_ble_eq_true rfl)⟩) rfl hl.1 (by simp only [List.map_cons, List.map_nil, List.sum_cons, List.sum_nil, cq_cat]; exact Nat.le_of_ble_eq_true rfl) h_K_getElement_71 (fun r27 σ26 H locs cells slots hw9 h9 => ?_)
      clear hw h; have hw := hw9; have h := h9; clear hw9 h9
      refine W.eq (g2 := F0 m 74 ls [.long r27, va_rf b22]) rfl ?_
      obtain ⟨r28, e_r28, hw⟩ := hw
      subst e_r28
      have hl : lv_has ls 4 [(3, .int r12), (2, .int r6), (0, .ref a0), (1, .int x1)] := hl
      refine W.eq (g2 := F0 m 74 ls [.long r27, .ref r28]) rfl ?_
      obtain ⟨g29, hw⟩ := hw
      refine C_callVv (As := [.long r27]) (rest := []) C h (ci := 0) (Cn := R_C) (T := T_C) (N := 5) g29 rfl (by decide) (X_C_push l dC dI ca H σ26 r28 r27 hw) (cwV 1 hts (gV hsub u_232 u_10 u_11 u_12 u_13) rfl rfl rfl (by decide +kernel) ⟨(Nat.le_of_ble_eq_true rfl), (Nat.le_of_ble_eq_true rfl)⟩) rfl hl.1 (Nat.le_of_ble_eq_true rfl) h_K_getElement_74 (fun σ30 H locs cells slots hw9 h9 => ?_)
      clear hw h; have hw := hw9; have h := h9; clear hw9 h9
      refine W.eq (g2 := F0 m 77 ls []) rfl ?_
      exact hend σ30 _ _ _ _ _ _ hw h h_K_getElement_77
    · skip
      replace hw := hw.1 c20
      refine lv_aload_n hx hb h_K_getElement_42 rfl (lv_at hl 2 rfl) ?_
      obtain ⟨g32, hw⟩ := hw
      refine C_get C h 2 5 (v := va_rf (σ17.2.2.2.1 a0 5)) g32 rfl (Cn := R_K) (T := T_K) (N := 14) rfl (by decide) rfl uw_K (by decide) u_231 (fun _ q => q) h_K_getElement_43 ?_
      refine lv_topq (fun b33 e_b33 => ?_)
      replace hw := hw b33 e_b33
      refine lv_aload_n hx hb h_K_getElement_46 rfl (lv_at hl 2 rfl) ?_
      refine C_get C h 2 0 (v := va_rf (σ17.2.2.2.1 a0 0)) g32 rfl (Cn := R_K) (T := T_K) (N := 14) rfl (by decide) rfl uw_K (by decide) u_213 (fun _ q => q) h_K_getElement_47 ?_
      refine lv_topq (fun b34 e_b34 => ?_)
      replace hw := hw b34 e_b34
      refine lv_iload_n hx hb h_K_getElement_50 rfl (lv_at hl 0 rfl) ?_
      refine lv_iload_n hx hb h_K_getElement_51 rfl (lv_at hl 1 rfl) ?_
      obtain ⟨r35, e_r35, hw⟩ := hw
      subst e_r35
      have hl : lv_has ls 4 [(3, .int r12), (2, .int r6), (0, .ref a0), (1, .int x1)] := hl
      refine W.eq (g2 := F0 m 52 ls [.int r6, .int r12, .ref r35, va_rf b33]) rfl ?_
      obtain ⟨g36, hw⟩ := hw
      refine C_callVl (As := [.int r12, .int r6]) (rest := [va_rf b33]) C h (ci := 1) (Cn := R_H) (T := T_H) (N := 4) g36 rfl (by decide) (X_H_valueAt l dC dI ca H σ17 r35 r12 r6 hw) (cwV 2 hts (gV hsub u_251 u_252 u_253 u_197 u_254) rfl rfl rfl (by decide +kernel) ⟨(Nat.le_of_ble_eq_true rfl), (Nat.le_of_ble_eq_true rfl)⟩) rfl hl.1 (by simp only [List.map_cons, List.map_nil, List.sum_cons, List.sum_nil, cq_cat]; exact Nat.le_of_ble_eq_true rfl) h_K_getElement_52 (fun r38 σ37 H locs cells slots hw9 h9 => ?_)
      clear hw h; have hw := hw9; have h := h9; clear hw9 h9
      refine W.eq (g2 := F0 m 55 ls [.long r38, va_rf b33]) rfl ?_
      obtain ⟨r39, e_r39, hw⟩ := hw
      subst e_r39
      have hl : lv_has ls 4 [(3, .int r12), (2, .int r6), (0, .ref a0), (1, .int x1)] := hl
      refine W.eq (g2 := F0 m 55 ls [.long r38, .ref r39]) rfl ?_
      obtain ⟨g40, hw⟩ := hw
      refine C_callVv (As := [.long r38]) (rest := []) C h (ci := 0) (Cn := R_C) (T := T_C) (N := 5) g40 rfl (by decide) (X_C_pushLong l dC dI ca H σ37 r39 r38 hw) (cwV 1 hts (gV hsub u_233 u_234 u_235 u_12 u_236) rfl rfl rfl (by decide +kernel) ⟨(Nat.le_of_ble_eq_true rfl), (Nat.le_of_ble_eq_true rfl)⟩) rfl hl.1 (Nat.le_of_ble_eq_true rfl) h_K_getElement_55 (fun σ41 H locs cells slots hw9 h9 => ?_)
      clear hw h; have hw := hw9; have h := h9; clear hw9 h9
      refine W.eq (g2 := F0 m 58 ls []) rfl ?_
      refine lv_goto (tgt := 77) hx hb h_K_getElement_58 (by decide) ?_
      exact hend σ41 _ _ _ _ _ _ hw h h_K_getElement_77
  · skip
    replace hw := hw.1 c19
    refine lv_aload_n hx hb h_K_getElement_28 rfl (lv_at hl 2 rfl) ?_
    refine lv_iconst (v := 1) hx hb h_K_getElement_29 (by decide) ?_
    obtain ⟨g43, hw⟩ := hw
    refine C_putz C h 2 7 g43 (Cn := R_K) (T := T_K) (N := 14) rfl (by decide) rfl uw_K tok_K nm_K (by decide) rfl u_255 (fun _ q => q) (Or.inl rfl) (by decide +kernel) (by decide) h_K_getElement_30 (fun H locs h => ?_)
    obtain ⟨σ44, e_σ44⟩ : ∃ z : CST, z = sI σ17 a0 7 (1 : Int32) := ⟨_, rfl⟩
    rw [← e_σ44] at h
    replace hw := hw σ44 e_σ44
    refine lv_goto (tgt := 77) hx hb h_K_getElement_33 (by decide) ?_
    exact hend σ44 _ _ _ _ _ _ hw h h_K_getElement_77
abbrev g_K_operand : MethodName := ⟨"MapFramer$Machine", "operand", "()I"⟩
theorem u_256 : (Cond.methodLink "MapFramer$Machine" 87 ⟨"MapFramer$Method", "byteAt", "(I)I"⟩ : Cond) ∈ bigW := inB_7 106 (by decide +kernel) rfl
theorem h_K_operand_0 : decode prog_6_method_8_code 0 = .ok (.aload_n 0, 1) := by decide +kernel
theorem h_K_operand_1 : decode prog_6_method_8_code 1 = .ok (.getfield 76, 3) := by decide +kernel
theorem h_K_operand_4 : decode prog_6_method_8_code 4 = .ok (.getfield 80, 3) := by decide +kernel
theorem h_K_operand_7 : decode prog_6_method_8_code 7 = .ok (.aload_n 0, 1) := by decide +kernel
theorem h_K_operand_8 : decode prog_6_method_8_code 8 = .ok (.getfield 76, 3) := by decide +kernel
theorem h_K_operand_11 : decode prog_6_method_8_code 11 = .ok (.getfield 84, 3) := by decide +kernel
theorem h_K_operand_14 : decode prog_6_method_8_code 14 = .ok (.iconst 1, 1) := by decide +kernel
theorem h_K_operand_15 : decode prog_6_method_8_code 15 = .ok (.iadd, 1) := by decide +kernel
theorem h_K_operand_16 : decode prog_6_method_8_code 16 = .ok (.invokevirtual 87, 3) := by decide +kernel
theorem h_K_operand_19 : decode prog_6_method_8_code 19 = .ok (.ireturn, 1) := by decide +kernel
def x_K_operand (a0 : Nat) (σ0 : CST) (P : Int32 → CST → Prop) : Prop := σ0.1 a0 = some (2, 0) ∧ (∀ b2 : Option Nat, b2 = (σ0.2.2.2.1 a0 5) → (∃ r3 : Nat, b2 = some r3 ∧ (σ0.1 r3 = some (0, 0) ∧ (∀ b5 : Option Nat, b5 = (σ0.2.2.2.1 r3 0) → ∀ b6 : Option Nat, b6 = (σ0.2.2.2.1 a0 5) → (∃ r7 : Nat, b6 = some r7 ∧ (σ0.1 r7 = some (0, 0) ∧ ((∃ r9 : Nat, b5 = some r9 ∧ (σ0.1 r9 = some (5, 0) ∧ (x_E_byteAt r9 ((σ0.2.1 r7 1) + 1) σ0 (fun r12 σ11 => P r12 σ11)))))))))))
set_option maxHeartbeats 4000000 in
set_option maxRecDepth 100000 in
theorem X_K_operand (l : Launch) (dC : Nat → ClassId) (dI : Nat → Nat → Nat) (ca : Nat → ClassId) (H0 : Heap) (σ0 : CST) (a0 : Nat) {P : Int32 → CST → Prop} (hw : x_K_operand a0 σ0 P) : Met l g_K_operand (mW g_K_operand prog_6_method_8_code 1 (some .int)) ({ frames := 1, cells := σ0.2.2.2.2.1, slots := σ0.2.2.2.2.2.1, locals := 21 } : Room) (va_Pc [.ref a0] (CPre (dC, dI) ca σ0 H0)) (va_Qi P (CB (dC, dI) ca σ0 H0) (cA σ0 H0.size)) σ0.2.2.2.2.1 σ0.2.2.2.2.2.1 (cA σ0 H0.size) := by
  refine C_ofi (by decide +kernel) rfl rfl rfl (Nat.le_of_ble_eq_true rfl) ?_
  intro p e s m below meth cx Q A ls C hnm hend hH0 h hl
  subst hH0
  have C0 := C
  obtain ⟨⟨hx, hb, hml, hown, hts⟩, hsub⟩ := C0
  obtain ⟨cells, e_cells⟩ : ∃ z : Nat, z = 0 := ⟨_, rfl⟩
  obtain ⟨slots, e_slots⟩ : ∃ z : Nat, z = 0 := ⟨_, rfl⟩
  have h : CH (dC, dI) A ca ({ frames := 1, cells := σ0.2.2.2.2.1, slots := σ0.2.2.2.2.2.1, locals := 21 } : Room) σ0.2.2.2.2.2.2 σ0 s s.heap [] cells slots := by rw [e_cells, e_slots]; exact h
  show W p l e ({ frames := 1, cells := σ0.2.2.2.2.1, slots := σ0.2.2.2.2.2.1, locals := 21 } : Room) s m ([.ref a0] : List Value).toArray below meth cx s.heap [] 0 0 Q (F0 m 0 ls [])
  rw [show W p l e ({ frames := 1, cells := σ0.2.2.2.2.1, slots := σ0.2.2.2.2.2.1, locals := 21 } : Room) s m ([.ref a0] : List Value).toArray below meth cx s.heap [] 0 0 Q (F0 m 0 ls []) = W p l e ({ frames := 1, cells := σ0.2.2.2.2.1, slots := σ0.2.2.2.2.2.1, locals := 21 } : Room) s m ([.ref a0] : List Value).toArray below meth cx s.heap [] cells slots Q (F0 m 0 ls []) by rw [e_cells, e_slots]]
  have hl : lv_has ls 1 [(0, .ref a0)] := hl
  unfold x_K_operand at hw
  refine lv_aload_n hx hb h_K_operand_0 rfl (lv_at hl 0 rfl) ?_
  obtain ⟨g1, hw⟩ := hw
  refine C_get C h 2 5 (v := va_rf (σ0.2.2.2.1 a0 5)) g1 rfl (Cn := R_K) (T := T_K) (N := 14) rfl (by decide) rfl uw_K (by decide) u_231 (fun _ q => q) h_K_operand_1 ?_
  refine lv_topq (fun b2 e_b2 => ?_)
  replace hw := hw b2 e_b2
  obtain ⟨r3, e_r3, hw⟩ := hw
  subst e_r3
  have hl : lv_has ls 1 [(0, .ref a0)] := hl
  refine W.eq (g2 := F0 m 4 ls [.ref r3]) rfl ?_
  obtain ⟨g4, hw⟩ := hw
  refine C_get C h 0 0 (v := va_rf (σ0.2.2.2.1 r3 0)) g4 rfl (Cn := R_C) (T := T_C) (N := 5) rfl (by decide) rfl uw_C (by decide) u_222 (fun _ q => q) h_K_operand_4 ?_
  refine lv_topq (fun b5 e_b5 => ?_)
  replace hw := hw b5 e_b5
  refine lv_aload_n hx hb h_K_operand_7 rfl (lv_at hl 0 rfl) ?_
  refine C_get C h 2 5 (v := va_rf (σ0.2.2.2.1 a0 5)) g1 rfl (Cn := R_K) (T := T_K) (N := 14) rfl (by decide) rfl uw_K (by decide) u_231 (fun _ q => q) h_K_operand_8 ?_
  refine lv_topq (fun b6 e_b6 => ?_)
  replace hw := hw b6 e_b6
  obtain ⟨r7, e_r7, hw⟩ := hw
  subst e_r7
  have hl : lv_has ls 1 [(0, .ref a0)] := hl
  refine W.eq (g2 := F0 m 11 ls [.ref r7, va_rf b5]) rfl ?_
  obtain ⟨g8, hw⟩ := hw
  refine C_get C h 0 1 (v := .int (σ0.2.1 r7 1)) g8 rfl (Cn := R_C) (T := T_C) (N := 5) rfl (by decide) rfl uw_C (by decide) u_237 (fun _ q => q) h_K_operand_11 ?_
  refine lv_iconst (v := 1) hx hb h_K_operand_14 (by decide) ?_
  refine lv_iadd hx hb h_K_operand_15 ?_
  obtain ⟨r9, e_r9, hw⟩ := hw
  subst e_r9
  have hl : lv_has ls 1 [(0, .ref a0)] := hl
  refine W.eq (g2 := F0 m 16 ls [.int ((σ0.2.1 r7 1) + 1), .ref r9]) rfl ?_
  obtain ⟨g10, hw⟩ := hw
  refine C_callVi (As := [.int ((σ0.2.1 r7 1) + 1)]) (rest := []) C h (ci := 5) (Cn := R_E) (T := T_E) (N := 13) g10 rfl (by decide) (X_E_byteAt l dC dI ca s.heap σ0 r9 ((σ0.2.1 r7 1) + 1) hw) (cwV 1 hts (gV hsub u_256 u_227 u_228 u_229 u_230) rfl rfl rfl (by decide +kernel) ⟨(Nat.le_of_ble_eq_true rfl), (Nat.le_of_ble_eq_true rfl)⟩) rfl hl.1 (Nat.le_of_ble_eq_true rfl) h_K_operand_16 (fun r12 σ11 H locs cells slots hw9 h9 => ?_)
  clear hw h; have hw := hw9; have h := h9; clear hw9 h9
  refine W.eq (g2 := F0 m 19 ls [.int r12]) rfl ?_
  exact hend r12 σ11 _ _ _ _ _ _ hw h h_K_operand_19
abbrev g_K_useLocal : MethodName := ⟨"MapFramer$Machine", "useLocal", "(I)V"⟩
theorem u_257 : (Cond.methodLink "MapFramer$Machine" 215 ⟨"MapFramer$Machine", "operand", "()I"⟩ : Cond) ∈ bigW := inB_7 160 (by decide +kernel) rfl
theorem u_258 : (Cond.instanceMethod ⟨"MapFramer$Machine", "operand", "()I"⟩ : Cond) ∈ bigW := inB_7 162 (by decide +kernel) rfl
theorem u_259 : (Cond.selects "MapFramer$Machine" ⟨"MapFramer$Machine", "operand", "()I"⟩ ⟨"MapFramer$Machine", "operand", "()I"⟩ : Cond) ∈ bigW := inS (y := ⟨"MapFramer$Machine", "operand", "()I"⟩) (n := 14) (List.mem_of_getElem? (i := 57) (by decide +kernel))
theorem u_260 : (Cond.initialized "MapFramer$Machine" : Cond) ∈ bigW := inB_1 3 (by decide +kernel) rfl
theorem u_261 : (Cond.code ⟨"MapFramer$Machine", "operand", "()I"⟩ prog_6_method_8_code 1 (some .int) : Cond) ∈ bigW := inB_7 163 rfl rfl
theorem u_262 : (Cond.methodLink "MapFramer$Machine" 237 ⟨"MapFramer$Call", "localAt", "(I)J"⟩ : Cond) ∈ bigW := inB_7 164 (by decide +kernel) rfl
theorem u_263 : (Cond.instanceMethod ⟨"MapFramer$Call", "localAt", "(I)J"⟩ : Cond) ∈ bigW := inB_7 165 (by decide +kernel) rfl
theorem u_264 : (Cond.selects "MapFramer$Call" ⟨"MapFramer$Call", "localAt", "(I)J"⟩ ⟨"MapFramer$Call", "localAt", "(I)J"⟩ : Cond) ∈ bigW := inB_7 166 (by decide +kernel) rfl
theorem u_265 : (Cond.code ⟨"MapFramer$Call", "localAt", "(I)J"⟩ prog_2_method_8_code 2 (some .long) : Cond) ∈ bigW := inB_7 167 rfl rfl
theorem u_266 : (Cond.methodLink "MapFramer$Machine" 241 ⟨"MapFramer$Call", "popLong", "()J"⟩ : Cond) ∈ bigW := inB_7 168 (by decide +kernel) rfl
theorem u_267 : (Cond.instanceMethod ⟨"MapFramer$Call", "popLong", "()J"⟩ : Cond) ∈ bigW := inB_7 169 (by decide +kernel) rfl
theorem u_268 : (Cond.selects "MapFramer$Call" ⟨"MapFramer$Call", "popLong", "()J"⟩ ⟨"MapFramer$Call", "popLong", "()J"⟩ : Cond) ∈ bigW := inB_7 170 (by decide +kernel) rfl
theorem u_269 : (Cond.code ⟨"MapFramer$Call", "popLong", "()J"⟩ prog_2_method_6_code 1 (some .long) : Cond) ∈ bigW := inB_7 171 rfl rfl
theorem u_270 : (Cond.methodLink "MapFramer$Machine" 245 ⟨"MapFramer$Call", "pop", "()J"⟩ : Cond) ∈ bigW := inB_7 172 (by decide +kernel) rfl
theorem h_K_useLocal_0 : decode prog_6_method_11_code 0 = .ok (.iload_n 1, 1) := by decide +kernel
theorem h_K_useLocal_1 : decode prog_6_method_11_code 1 = .ok (.lookupswitch 106 #[(21, 43), (22, 64), (25, 43), (55, 85)], 43) := by decide +kernel
theorem h_K_useLocal_44 : decode prog_6_method_11_code 44 = .ok (.aload_n 0, 1) := by decide +kernel
theorem h_K_useLocal_45 : decode prog_6_method_11_code 45 = .ok (.getfield 76, 3) := by decide +kernel
theorem h_K_useLocal_48 : decode prog_6_method_11_code 48 = .ok (.aload_n 0, 1) := by decide +kernel
theorem h_K_useLocal_49 : decode prog_6_method_11_code 49 = .ok (.getfield 76, 3) := by decide +kernel
theorem h_K_useLocal_52 : decode prog_6_method_11_code 52 = .ok (.aload_n 0, 1) := by decide +kernel
theorem h_K_useLocal_53 : decode prog_6_method_11_code 53 = .ok (.invokevirtual 215, 3) := by decide +kernel
theorem h_K_useLocal_56 : decode prog_6_method_11_code 56 = .ok (.invokevirtual 237, 3) := by decide +kernel
theorem h_K_useLocal_59 : decode prog_6_method_11_code 59 = .ok (.invokevirtual 147, 3) := by decide +kernel
theorem h_K_useLocal_62 : decode prog_6_method_11_code 62 = .ok (.goto 63, 3) := by decide +kernel
theorem h_K_useLocal_65 : decode prog_6_method_11_code 65 = .ok (.aload_n 0, 1) := by decide +kernel
theorem h_K_useLocal_66 : decode prog_6_method_11_code 66 = .ok (.getfield 76, 3) := by decide +kernel
theorem h_K_useLocal_69 : decode prog_6_method_11_code 69 = .ok (.aload_n 0, 1) := by decide +kernel
theorem h_K_useLocal_70 : decode prog_6_method_11_code 70 = .ok (.getfield 76, 3) := by decide +kernel
theorem h_K_useLocal_73 : decode prog_6_method_11_code 73 = .ok (.aload_n 0, 1) := by decide +kernel
theorem h_K_useLocal_74 : decode prog_6_method_11_code 74 = .ok (.invokevirtual 215, 3) := by decide +kernel
theorem h_K_useLocal_77 : decode prog_6_method_11_code 77 = .ok (.invokevirtual 237, 3) := by decide +kernel
theorem h_K_useLocal_80 : decode prog_6_method_11_code 80 = .ok (.invokevirtual 234, 3) := by decide +kernel
theorem h_K_useLocal_83 : decode prog_6_method_11_code 83 = .ok (.goto 42, 3) := by decide +kernel
theorem h_K_useLocal_86 : decode prog_6_method_11_code 86 = .ok (.aload_n 0, 1) := by decide +kernel
theorem h_K_useLocal_87 : decode prog_6_method_11_code 87 = .ok (.getfield 76, 3) := by decide +kernel
theorem h_K_useLocal_90 : decode prog_6_method_11_code 90 = .ok (.aload_n 0, 1) := by decide +kernel
theorem h_K_useLocal_91 : decode prog_6_method_11_code 91 = .ok (.invokevirtual 215, 3) := by decide +kernel
theorem h_K_useLocal_94 : decode prog_6_method_11_code 94 = .ok (.aload_n 0, 1) := by decide +kernel
theorem h_K_useLocal_95 : decode prog_6_method_11_code 95 = .ok (.getfield 76, 3) := by decide +kernel
theorem h_K_useLocal_98 : decode prog_6_method_11_code 98 = .ok (.invokevirtual 241, 3) := by decide +kernel
theorem h_K_useLocal_101 : decode prog_6_method_11_code 101 = .ok (.invokevirtual 102, 3) := by decide +kernel
theorem h_K_useLocal_104 : decode prog_6_method_11_code 104 = .ok (.goto 21, 3) := by decide +kernel
theorem h_K_useLocal_107 : decode prog_6_method_11_code 107 = .ok (.aload_n 0, 1) := by decide +kernel
theorem h_K_useLocal_108 : decode prog_6_method_11_code 108 = .ok (.getfield 76, 3) := by decide +kernel
theorem h_K_useLocal_111 : decode prog_6_method_11_code 111 = .ok (.aload_n 0, 1) := by decide +kernel
theorem h_K_useLocal_112 : decode prog_6_method_11_code 112 = .ok (.invokevirtual 215, 3) := by decide +kernel
theorem h_K_useLocal_115 : decode prog_6_method_11_code 115 = .ok (.aload_n 0, 1) := by decide +kernel
theorem h_K_useLocal_116 : decode prog_6_method_11_code 116 = .ok (.getfield 76, 3) := by decide +kernel
theorem h_K_useLocal_119 : decode prog_6_method_11_code 119 = .ok (.invokevirtual 245, 3) := by decide +kernel
theorem h_K_useLocal_122 : decode prog_6_method_11_code 122 = .ok (.invokevirtual 102, 3) := by decide +kernel
theorem h_K_useLocal_125 : decode prog_6_method_11_code 125 = .ok (.return_, 1) := by decide +kernel
def x_K_useLocal (a0 : Nat) (x1 : Int32) (σ0 : CST) (P : CST → Prop) : Prop := ((x1 = 21 → σ0.1 a0 = some (2, 0) ∧ (∀ b3 : Option Nat, b3 = (σ0.2.2.2.1 a0 5) → ∀ b4 : Option Nat, b4 = (σ0.2.2.2.1 a0 5) → x_K_operand a0 σ0 (fun r6 σ5 => (∃ r7 : Nat, b4 = some r7 ∧ (σ5.1 r7 = some (0, 0) ∧ (x_C_localAt r7 r6 σ5 (fun r10 σ9 => (∃ r11 : Nat, b3 = some r11 ∧ (σ9.1 r11 = some (0, 0) ∧ (x_C_push r11 r10 σ9 (fun σ13 => P σ13))))))))))) ∧ (¬ x1 = 21 → ((x1 = 22 → σ0.1 a0 = some (2, 0) ∧ (∀ b17 : Option Nat, b17 = (σ0.2.2.2.1 a0 5) → ∀ b18 : Option Nat, b18 = (σ0.2.2.2.1 a0 5) → x_K_operand a0 σ0 (fun r20 σ19 => (∃ r21 : Nat, b18 = some r21 ∧ (σ19.1 r21 = some (0, 0) ∧ (x_C_localAt r21 r20 σ19 (fun r24 σ23 => (∃ r25 : Nat, b17 = some r25 ∧ (σ23.1 r25 = some (0, 0) ∧ (x_C_pushLong r25 r24 σ23 (fun σ27 => P σ27))))))))))) ∧ (¬ x1 = 22 → ((x1 = 25 → σ0.1 a0 = some (2, 0) ∧ (∀ b31 : Option Nat, b31 = (σ0.2.2.2.1 a0 5) → ∀ b32 : Option Nat, b32 = (σ0.2.2.2.1 a0 5) → x_K_operand a0 σ0 (fun r34 σ33 => (∃ r35 : Nat, b32 = some r35 ∧ (σ33.1 r35 = some (0, 0) ∧ (x_C_localAt r35 r34 σ33 (fun r38 σ37 => (∃ r39 : Nat, b31 = some r39 ∧ (σ37.1 r39 = some (0, 0) ∧ (x_C_push r39 r38 σ37 (fun σ41 => P σ41))))))))))) ∧ (¬ x1 = 25 → ((x1 = 55 → σ0.1 a0 = some (2, 0) ∧ (∀ b45 : Option Nat, b45 = (σ0.2.2.2.1 a0 5) → x_K_operand a0 σ0 (fun r47 σ46 => σ46.1 a0 = some (2, 0) ∧ (∀ b49 : Option Nat, b49 = (σ46.2.2.2.1 a0 5) → (∃ r50 : Nat, b49 = some r50 ∧ (σ46.1 r50 = some (0, 0) ∧ (x_C_popLong r50 σ46 (fun r53 σ52 => (∃ r54 : Nat, b45 = some r54 ∧ (σ52.1 r54 = some (0, 0) ∧ (x_C_setLocal r54 r47 r53 σ52 (fun σ56 => P σ56)))))))))))) ∧ (¬ x1 = 55 → σ0.1 a0 = some (2, 0) ∧ (∀ b59 : Option Nat, b59 = (σ0.2.2.2.1 a0 5) → x_K_operand a0 σ0 (fun r61 σ60 => σ60.1 a0 = some (2, 0) ∧ (∀ b63 : Option Nat, b63 = (σ60.2.2.2.1 a0 5) → (∃ r64 : Nat, b63 = some r64 ∧ (σ60.1 r64 = some (0, 0) ∧ (x_C_pop r64 σ60 (fun r67 σ66 => (∃ r68 : Nat, b59 = some r68 ∧ (σ66.1 r68 = some (0, 0) ∧ (x_C_setLocal r68 r61 r67 σ66 (fun σ70 => P σ70)))))))))))))))))))
set_option maxHeartbeats 4000000 in
set_option maxRecDepth 100000 in
theorem X_K_useLocal (l : Launch) (dC : Nat → ClassId) (dI : Nat → Nat → Nat) (ca : Nat → ClassId) (H0 : Heap) (σ0 : CST) (a0 : Nat) (x1 : Int32) {P : CST → Prop} (hw : x_K_useLocal a0 x1 σ0 P) : Met l g_K_useLocal (mW g_K_useLocal prog_6_method_11_code 2 none) ({ frames := 2, cells := σ0.2.2.2.2.1, slots := σ0.2.2.2.2.2.1, locals := 44 } : Room) (va_Pc [.ref a0, .int x1] (CPre (dC, dI) ca σ0 H0)) (va_Qv P (CB (dC, dI) ca σ0 H0) (cA σ0 H0.size)) σ0.2.2.2.2.1 σ0.2.2.2.2.2.1 (cA σ0 H0.size) := by
  refine C_ofv (by decide +kernel) rfl rfl rfl (Nat.le_of_ble_eq_true rfl) ?_
  intro p e s m below meth cx Q A ls C hnm hend hH0 h hl
  subst hH0
  have C0 := C
  obtain ⟨⟨hx, hb, hml, hown, hts⟩, hsub⟩ := C0
  obtain ⟨cells, e_cells⟩ : ∃ z : Nat, z = 0 := ⟨_, rfl⟩
  obtain ⟨slots, e_slots⟩ : ∃ z : Nat, z = 0 := ⟨_, rfl⟩
  have h : CH (dC, dI) A ca ({ frames := 2, cells := σ0.2.2.2.2.1, slots := σ0.2.2.2.2.2.1, locals := 44 } : Room) σ0.2.2.2.2.2.2 σ0 s s.heap [] cells slots := by rw [e_cells, e_slots]; exact h
  show W p l e ({ frames := 2, cells := σ0.2.2.2.2.1, slots := σ0.2.2.2.2.2.1, locals := 44 } : Room) s m ([.ref a0, .int x1] : List Value).toArray below meth cx s.heap [] 0 0 Q (F0 m 0 ls [])
  rw [show W p l e ({ frames := 2, cells := σ0.2.2.2.2.1, slots := σ0.2.2.2.2.2.1, locals := 44 } : Room) s m ([.ref a0, .int x1] : List Value).toArray below meth cx s.heap [] 0 0 Q (F0 m 0 ls []) = W p l e ({ frames := 2, cells := σ0.2.2.2.2.1, slots := σ0.2.2.2.2.2.1, locals := 44 } : Room) s m ([.ref a0, .int x1] : List Value).toArray below meth cx s.heap [] cells slots Q (F0 m 0 ls []) by rw [e_cells, e_slots]]
  have hl : lv_has ls 2 [(0, .ref a0), (1, .int x1)] := hl
  unfold x_K_useLocal at hw
  refine lv_iload_n hx hb h_K_useLocal_0 rfl (lv_at hl 1 rfl) ?_
  by_cases c1 : x1 = 21
  · skip
    replace hw := hw.1 c1
    refine tp_i 21 c1 ?_
    refine lv_lookup (off := 43) (tgt := 44) hx hb h_K_useLocal_1 (by decide) (by decide) (by decide) ?_
    refine lv_aload_n hx hb h_K_useLocal_44 rfl (lv_at hl 0 rfl) ?_
    obtain ⟨g2, hw⟩ := hw
    refine C_get C h 2 5 (v := va_rf (σ0.2.2.2.1 a0 5)) g2 rfl (Cn := R_K) (T := T_K) (N := 14) rfl (by decide) rfl uw_K (by decide) u_231 (fun _ q => q) h_K_useLocal_45 ?_
    refine lv_topq (fun b3 e_b3 => ?_)
    replace hw := hw b3 e_b3
    refine lv_aload_n hx hb h_K_useLocal_48 rfl (lv_at hl 0 rfl) ?_
    refine C_get C h 2 5 (v := va_rf (σ0.2.2.2.1 a0 5)) g2 rfl (Cn := R_K) (T := T_K) (N := 14) rfl (by decide) rfl uw_K (by decide) u_231 (fun _ q => q) h_K_useLocal_49 ?_
    refine lv_topq (fun b4 e_b4 => ?_)
    replace hw := hw b4 e_b4
    refine lv_aload_n hx hb h_K_useLocal_52 rfl (lv_at hl 0 rfl) ?_
    refine C_callVi (As := []) (rest := [va_rf b4, va_rf b3]) C h (ci := 2) (Cn := R_K) (T := T_K) (N := 14) g2 rfl (by decide) (X_K_operand l dC dI ca s.heap σ0 a0 hw) (cwV 0 hts (gV hsub u_257 u_258 u_259 u_260 u_261) rfl rfl rfl (by decide +kernel) ⟨(Nat.le_of_ble_eq_true rfl), (Nat.le_of_ble_eq_true rfl)⟩) rfl hl.1 (by simp only [List.map_cons, List.map_nil, List.sum_cons, List.sum_nil, cq_cat]; exact Nat.le_of_ble_eq_true rfl) h_K_useLocal_53 (fun r6 σ5 H locs cells slots hw9 h9 => ?_)
    clear hw h; have hw := hw9; have h := h9; clear hw9 h9
    refine W.eq (g2 := F0 m 56 ls [.int r6, va_rf b4, va_rf b3]) rfl ?_
    obtain ⟨r7, e_r7, hw⟩ := hw
    subst e_r7
    have hl : lv_has ls 2 [(0, .ref a0), (1, .int x1)] := hl
    refine W.eq (g2 := F0 m 56 ls [.int r6, .ref r7, va_rf b3]) rfl ?_
    obtain ⟨g8, hw⟩ := hw
    refine C_callVl (As := [.int r6]) (rest := [va_rf b3]) C h (ci := 0) (Cn := R_C) (T := T_C) (N := 5) g8 rfl (by decide) (X_C_localAt l dC dI ca H σ5 r7 r6 hw) (cwV 1 hts (gV hsub u_262 u_263 u_264 u_12 u_265) rfl rfl rfl (by decide +kernel) ⟨(Nat.le_of_ble_eq_true rfl), (Nat.le_of_ble_eq_true rfl)⟩) rfl hl.1 (by simp only [List.map_cons, List.map_nil, List.sum_cons, List.sum_nil, cq_cat]; exact Nat.le_of_ble_eq_true rfl) h_K_useLocal_56 (fun r10 σ9 H locs cells slots hw9 h9 => ?_)
    clear hw h; have hw := hw9; have h := h9; clear hw9 h9
    refine W.eq (g2 := F0 m 59 ls [.long r10, va_rf b3]) rfl ?_
    obtain ⟨r11, e_r11, hw⟩ := hw
    subst e_r11
    have hl : lv_has ls 2 [(0, .ref a0), (1, .int x1)] := hl
    refine W.eq (g2 := F0 m 59 ls [.long r10, .ref r11]) rfl ?_
    obtain ⟨g12, hw⟩ := hw
    refine C_callVv (As := [.long r10]) (rest := []) C h (ci := 0) (Cn := R_C) (T := T_C) (N := 5) g12 rfl (by decide) (X_C_push l dC dI ca H σ9 r11 r10 hw) (cwV 1 hts (gV hsub u_232 u_10 u_11 u_12 u_13) rfl rfl rfl (by decide +kernel) ⟨(Nat.le_of_ble_eq_true rfl), (Nat.le_of_ble_eq_true rfl)⟩) rfl hl.1 (Nat.le_of_ble_eq_true rfl) h_K_useLocal_59 (fun σ13 H locs cells slots hw9 h9 => ?_)
    clear hw h; have hw := hw9; have h := h9; clear hw9 h9
    refine W.eq (g2 := F0 m 62 ls []) rfl ?_
    refine lv_goto (tgt := 125) hx hb h_K_useLocal_62 (by decide) ?_
    exact hend σ13 _ _ _ _ _ _ hw h h_K_useLocal_125
  · skip
    replace hw := hw.2 c1
    by_cases c15 : x1 = 22
    · skip
      replace hw := hw.1 c15
      refine tp_i 22 c15 ?_
      refine lv_lookup (off := 64) (tgt := 65) hx hb h_K_useLocal_1 (by decide) (by decide) (by decide) ?_
      refine lv_aload_n hx hb h_K_useLocal_65 rfl (lv_at hl 0 rfl) ?_
      obtain ⟨g16, hw⟩ := hw
      refine C_get C h 2 5 (v := va_rf (σ0.2.2.2.1 a0 5)) g16 rfl (Cn := R_K) (T := T_K) (N := 14) rfl (by decide) rfl uw_K (by decide) u_231 (fun _ q => q) h_K_useLocal_66 ?_
      refine lv_topq (fun b17 e_b17 => ?_)
      replace hw := hw b17 e_b17
      refine lv_aload_n hx hb h_K_useLocal_69 rfl (lv_at hl 0 rfl) ?_
      refine C_get C h 2 5 (v := va_rf (σ0.2.2.2.1 a0 5)) g16 rfl (Cn := R_K) (T := T_K) (N := 14) rfl (by decide) rfl uw_K (by decide) u_231 (fun _ q => q) h_K_useLocal_70 ?_
      refine lv_topq (fun b18 e_b18 => ?_)
      replace hw := hw b18 e_b18
      refine lv_aload_n hx hb h_K_useLocal_73 rfl (lv_at hl 0 rfl) ?_
      refine C_callVi (As := []) (rest := [va_rf b18, va_rf b17]) C h (ci := 2) (Cn := R_K) (T := T_K) (N := 14) g16 rfl (by decide) (X_K_operand l dC dI ca s.heap σ0 a0 hw) (cwV 0 hts (gV hsub u_257 u_258 u_259 u_260 u_261) rfl rfl rfl (by decide +kernel) ⟨(Nat.le_of_ble_eq_true rfl), (Nat.le_of_ble_eq_true rfl)⟩) rfl hl.1 (by simp only [List.map_cons, List.map_nil, List.sum_cons, List.sum_nil, cq_cat]; exact Nat.le_of_ble_eq_true rfl) h_K_useLocal_74 (fun r20 σ19 H locs cells slots hw9 h9 => ?_)
      clear hw h; have hw := hw9; have h := h9; clear hw9 h9
      refine W.eq (g2 := F0 m 77 ls [.int r20, va_rf b18, va_rf b17]) rfl ?_
      obtain ⟨r21, e_r21, hw⟩ := hw
      subst e_r21
      have hl : lv_has ls 2 [(0, .ref a0), (1, .int x1)] := hl
      refine W.eq (g2 := F0 m 77 ls [.int r20, .ref r21, va_rf b17]) rfl ?_
      obtain ⟨g22, hw⟩ := hw
      refine C_callVl (As := [.int r20]) (rest := [va_rf b17]) C h (ci := 0) (Cn := R_C) (T := T_C) (N := 5) g22 rfl (by decide) (X_C_localAt l dC dI ca H σ19 r21 r20 hw) (cwV 1 hts (gV hsub u_262 u_263 u_264 u_12 u_265) rfl rfl rfl (by decide +kernel) ⟨(Nat.le_of_ble_eq_true rfl), (Nat.le_of_ble_eq_true rfl)⟩) rfl hl.1 (by simp only [List.map_cons, List.map_nil, List.sum_cons, List.sum_nil, cq_cat]; exact Nat.le_of_ble_eq_true rfl) h_K_useLocal_77 (fun r24 σ23 H locs cells slots hw9 h9 => ?_)
      clear hw h; have hw := hw9; have h := h9; clear hw9 h9
      refine W.eq (g2 := F0 m 80 ls [.long r24, va_rf b17]) rfl ?_
      obtain ⟨r25, e_r25, hw⟩ := hw
      subst e_r25
      have hl : lv_has ls 2 [(0, .ref a0), (1, .int x1)] := hl
      refine W.eq (g2 := F0 m 80 ls [.long r24, .ref r25]) rfl ?_
      obtain ⟨g26, hw⟩ := hw
      refine C_callVv (As := [.long r24]) (rest := []) C h (ci := 0) (Cn := R_C) (T := T_C) (N := 5) g26 rfl (by decide) (X_C_pushLong l dC dI ca H σ23 r25 r24 hw) (cwV 1 hts (gV hsub u_233 u_234 u_235 u_12 u_236) rfl rfl rfl (by decide +kernel) ⟨(Nat.le_of_ble_eq_true rfl), (Nat.le_of_ble_eq_true rfl)⟩) rfl hl.1 (Nat.le_of_ble_eq_true rfl) h_K_useLocal_80 (fun σ27 H locs cells slots hw9 h9 => ?_)
      clear hw h; have hw := hw9; have h := h9; clear hw9 h9
      refine W.eq (g2 := F0 m 83 ls []) rfl ?_
      refine lv_goto (tgt := 125) hx hb h_K_useLocal_83 (by decide) ?_
      exact hend σ27 _ _ _ _ _ _ hw h h_K_useLocal_125
    · skip
      replace hw := hw.2 c15
      by_cases c29 : x1 = 25
      · skip
        replace hw := hw.1 c29
        refine tp_i 25 c29 ?_
        refine lv_lookup (off := 43) (tgt := 44) hx hb h_K_useLocal_1 (by decide) (by decide) (by decide) ?_
        refine lv_aload_n hx hb h_K_useLocal_44 rfl (lv_at hl 0 rfl) ?_
        obtain ⟨g30, hw⟩ := hw
        refine C_get C h 2 5 (v := va_rf (σ0.2.2.2.1 a0 5)) g30 rfl (Cn := R_K) (T := T_K) (N := 14) rfl (by decide) rfl uw_K (by decide) u_231 (fun _ q => q) h_K_useLocal_45 ?_
        refine lv_topq (fun b31 e_b31 => ?_)
        replace hw := hw b31 e_b31
        refine lv_aload_n hx hb h_K_useLocal_48 rfl (lv_at hl 0 rfl) ?_
        refine C_get C h 2 5 (v := va_rf (σ0.2.2.2.1 a0 5)) g30 rfl (Cn := R_K) (T := T_K) (N := 14) rfl (by decide) rfl uw_K (by decide) u_231 (fun _ q => q) h_K_useLocal_49 ?_
        refine lv_topq (fun b32 e_b32 => ?_)
        replace hw := hw b32 e_b32
        refine lv_aload_n hx hb h_K_useLocal_52 rfl (lv_at hl 0 rfl) ?_
        refine C_callVi (As := []) (rest := [va_rf b32, va_rf b31]) C h (ci := 2) (Cn := R_K) (T := T_K) (N := 14) g30 rfl (by decide) (X_K_operand l dC dI ca s.heap σ0 a0 hw) (cwV 0 hts (gV hsub u_257 u_258 u_259 u_260 u_261) rfl rfl rfl (by decide +kernel) ⟨(Nat.le_of_ble_eq_true rfl), (Nat.le_of_ble_eq_true rfl)⟩) rfl hl.1 (by simp only [List.map_cons, List.map_nil, List.sum_cons, List.sum_nil, cq_cat]; exact Nat.le_of_ble_eq_true rfl) h_K_useLocal_53 (fun r34 σ33 H locs cells slots hw9 h9 => ?_)
        clear hw h; have hw := hw9; have h := h9; clear hw9 h9
        refine W.eq (g2 := F0 m 56 ls [.int r34, va_rf b32, va_rf b31]) rfl ?_
        obtain ⟨r35, e_r35, hw⟩ := hw
        subst e_r35
        have hl : lv_has ls 2 [(0, .ref a0), (1, .int x1)] := hl
        refine W.eq (g2 := F0 m 56 ls [.int r34, .ref r35, va_rf b31]) rfl ?_
        obtain ⟨g36, hw⟩ := hw
        refine C_callVl (As := [.int r34]) (rest := [va_rf b31]) C h (ci := 0) (Cn := R_C) (T := T_C) (N := 5) g36 rfl (by decide) (X_C_localAt l dC dI ca H σ33 r35 r34 hw) (cwV 1 hts (gV hsub u_262 u_263 u_264 u_12 u_265) rfl rfl rfl (by decide +kernel) ⟨(Nat.le_of_ble_eq_true rfl), (Nat.le_of_ble_eq_true rfl)⟩) rfl hl.1 (by simp only [List.map_cons, List.map_nil, List.sum_cons, List.sum_nil, cq_cat]; exact Nat.le_of_ble_eq_true rfl) h_K_useLocal_56 (fun r38 σ37 H locs cells slots hw9 h9 => ?_)
        clear hw h; have hw := hw9; have h := h9; clear hw9 h9
        refine W.eq (g2 := F0 m 59 ls [.long r38, va_rf b31]) rfl ?_
        obtain ⟨r39, e_r39, hw⟩ := hw
        subst e_r39
        have hl : lv_has ls 2 [(0, .ref a0), (1, .int x1)] := hl
        refine W.eq (g2 := F0 m 59 ls [.long r38, .ref r39]) rfl ?_
        obtain ⟨g40, hw⟩ := hw
        refine C_callVv (As := [.long r38]) (rest := []) C h (ci := 0) (Cn := R_C) (T := T_C) (N := 5) g40 rfl (by decide) (X_C_push l dC dI ca H σ37 r39 r38 hw) (cwV 1 hts (gV hsub u_232 u_10 u_11 u_12 u_13) rfl rfl rfl (by decide +kernel) ⟨(Nat.le_of_ble_eq_true rfl), (Nat.le_of_ble_eq_true rfl)⟩) rfl hl.1 (Nat.le_of_ble_eq_true rfl) h_K_useLocal_59 (fun σ41 H locs cells slots hw9 h9 => ?_)
        clear hw h; have hw := hw9; have h := h9; clear hw9 h9
        refine W.eq (g2 := F0 m 62 ls []) rfl ?_
        refine lv_goto (tgt := 125) hx hb h_K_useLocal_62 (by decide) ?_
        exact hend σ41 _ _ _ _ _ _ hw h h_K_useLocal_125
      · skip
        replace hw := hw.2 c29
        by_cases c43 : x1 = 55
        · skip
          replace hw := hw.1 c43
          refine tp_i 55 c43 ?_
          refine lv_lookup (off := 85) (tgt := 86) hx hb h_K_useLocal_1 (by decide) (by decide) (by decide) ?_
          refine lv_aload_n hx hb h_K_useLocal_86 rfl (lv_at hl 0 rfl) ?_
          obtain ⟨g44, hw⟩ := hw
          refine C_get C h 2 5 (v := va_rf (σ0.2.2.2.1 a0 5)) g44 rfl (Cn := R_K) (T := T_K) (N := 14) rfl (by decide) rfl uw_K (by decide) u_231 (fun _ q => q) h_K_useLocal_87 ?_
          refine lv_topq (fun b45 e_b45 => ?_)
          replace hw := hw b45 e_b45
          refine lv_aload_n hx hb h_K_useLocal_90 rfl (lv_at hl 0 rfl) ?_
          refine C_callVi (As := []) (rest := [va_rf b45]) C h (ci := 2) (Cn := R_K) (T := T_K) (N := 14) g44 rfl (by decide) (X_K_operand l dC dI ca s.heap σ0 a0 hw) (cwV 0 hts (gV hsub u_257 u_258 u_259 u_260 u_261) rfl rfl rfl (by decide +kernel) ⟨(Nat.le_of_ble_eq_true rfl), (Nat.le_of_ble_eq_true rfl)⟩) rfl hl.1 (by simp only [List.map_cons, List.map_nil, List.sum_cons, List.sum_nil, cq_cat]; exact Nat.le_of_ble_eq_true rfl) h_K_useLocal_91 (fun r47 σ46 H locs cells slots hw9 h9 => ?_)
          clear hw h; have hw := hw9; have h := h9; clear hw9 h9
          refine W.eq (g2 := F0 m 94 ls [.int r47, va_rf b45]) rfl ?_
          refine lv_aload_n hx hb h_K_useLocal_94 rfl (lv_at hl 0 rfl) ?_
          obtain ⟨g48, hw⟩ := hw
          refine C_get C h 2 5 (v := va_rf (σ46.2.2.2.1 a0 5)) g48 rfl (Cn := R_K) (T := T_K) (N := 14) rfl (by decide) rfl uw_K (by decide) u_231 (fun _ q => q) h_K_useLocal_95 ?_
          refine lv_topq (fun b49 e_b49 => ?_)
          replace hw := hw b49 e_b49
          obtain ⟨r50, e_r50, hw⟩ := hw
          subst e_r50
          have hl : lv_has ls 2 [(0, .ref a0), (1, .int x1)] := hl
          refine W.eq (g2 := F0 m 98 ls [.ref r50, .int r47, va_rf b45]) rfl ?_
          obtain ⟨g51, hw⟩ := hw
          refine C_callVl (As := []) (rest := [.int r47, va_rf b45]) C h (ci := 0) (Cn := R_C) (T := T_C) (N := 5) g51 rfl (by decide) (X_C_popLong l dC dI ca H σ46 r50 hw) (cwV 0 hts (gV hsub u_266 u_267 u_268 u_12 u_269) rfl rfl rfl (by decide +kernel) ⟨(Nat.le_of_ble_eq_true rfl), (Nat.le_of_ble_eq_true rfl)⟩) rfl hl.1 (by simp only [List.map_cons, List.map_nil, List.sum_cons, List.sum_nil, cq_cat]; exact Nat.le_of_ble_eq_true rfl) h_K_useLocal_98 (fun r53 σ52 H locs cells slots hw9 h9 => ?_)
          clear hw h; have hw := hw9; have h := h9; clear hw9 h9
          refine W.eq (g2 := F0 m 101 ls [.long r53, .int r47, va_rf b45]) rfl ?_
          obtain ⟨r54, e_r54, hw⟩ := hw
          subst e_r54
          have hl : lv_has ls 2 [(0, .ref a0), (1, .int x1)] := hl
          refine W.eq (g2 := F0 m 101 ls [.long r53, .int r47, .ref r54]) rfl ?_
          obtain ⟨g55, hw⟩ := hw
          refine C_callVv (As := [.int r47, .long r53]) (rest := []) C h (ci := 0) (Cn := R_C) (T := T_C) (N := 5) g55 rfl (by decide) (X_C_setLocal l dC dI ca H σ52 r54 r47 r53 hw) (cwV 2 hts (gV hsub u_217 u_218 u_219 u_12 u_220) rfl rfl rfl (by decide +kernel) ⟨(Nat.le_of_ble_eq_true rfl), (Nat.le_of_ble_eq_true rfl)⟩) rfl hl.1 (Nat.le_of_ble_eq_true rfl) h_K_useLocal_101 (fun σ56 H locs cells slots hw9 h9 => ?_)
          clear hw h; have hw := hw9; have h := h9; clear hw9 h9
          refine W.eq (g2 := F0 m 104 ls []) rfl ?_
          refine lv_goto (tgt := 125) hx hb h_K_useLocal_104 (by decide) ?_
          exact hend σ56 _ _ _ _ _ _ hw h h_K_useLocal_125
        · skip
          replace hw := hw.2 c43
          refine lv_lookup (off := 106) (tgt := 107) hx hb h_K_useLocal_1 (by decide) ((lv_osw c1 (by decide)).trans ((lv_osw c15 (by decide)).trans ((lv_osw c29 (by decide)).trans ((lv_osw c43 (by decide)).trans rfl)))) (by decide) ?_
          refine lv_aload_n hx hb h_K_useLocal_107 rfl (lv_at hl 0 rfl) ?_
          obtain ⟨g58, hw⟩ := hw
          refine C_get C h 2 5 (v := va_rf (σ0.2.2.2.1 a0 5)) g58 rfl (Cn := R_K) (T := T_K) (N := 14) rfl (by decide) rfl uw_K (by decide) u_231 (fun _ q => q) h_K_useLocal_108 ?_
          refine lv_topq (fun b59 e_b59 => ?_)
          replace hw := hw b59 e_b59
          refine lv_aload_n hx hb h_K_useLocal_111 rfl (lv_at hl 0 rfl) ?_
          refine C_callVi (As := []) (rest := [va_rf b59]) C h (ci := 2) (Cn := R_K) (T := T_K) (N := 14) g58 rfl (by decide) (X_K_operand l dC dI ca s.heap σ0 a0 hw) (cwV 0 hts (gV hsub u_257 u_258 u_259 u_260 u_261) rfl rfl rfl (by decide +kernel) ⟨(Nat.le_of_ble_eq_true rfl), (Nat.le_of_ble_eq_true rfl)⟩) rfl hl.1 (by simp only [List.map_cons, List.map_nil, List.sum_cons, List.sum_nil, cq_cat]; exact Nat.le_of_ble_eq_true rfl) h_K_useLocal_112 (fun r61 σ60 H locs cells slots hw9 h9 => ?_)
          clear hw h; have hw := hw9; have h := h9; clear hw9 h9
          refine W.eq (g2 := F0 m 115 ls [.int r61, va_rf b59]) rfl ?_
          refine lv_aload_n hx hb h_K_useLocal_115 rfl (lv_at hl 0 rfl) ?_
          obtain ⟨g62, hw⟩ := hw
          refine C_get C h 2 5 (v := va_rf (σ60.2.2.2.1 a0 5)) g62 rfl (Cn := R_K) (T := T_K) (N := 14) rfl (by decide) rfl uw_K (by decide) u_231 (fun _ q => q) h_K_useLocal_116 ?_
          refine lv_topq (fun b63 e_b63 => ?_)
          replace hw := hw b63 e_b63
          obtain ⟨r64, e_r64, hw⟩ := hw
          subst e_r64
          have hl : lv_has ls 2 [(0, .ref a0), (1, .int x1)] := hl
          refine W.eq (g2 := F0 m 119 ls [.ref r64, .int r61, va_rf b59]) rfl ?_
          obtain ⟨g65, hw⟩ := hw
          refine C_callVl (As := []) (rest := [.int r61, va_rf b59]) C h (ci := 0) (Cn := R_C) (T := T_C) (N := 5) g65 rfl (by decide) (X_C_pop l dC dI ca H σ60 r64 hw) (cwV 0 hts (gV hsub u_270 u_15 u_16 u_12 u_17) rfl rfl rfl (by decide +kernel) ⟨(Nat.le_of_ble_eq_true rfl), (Nat.le_of_ble_eq_true rfl)⟩) rfl hl.1 (by simp only [List.map_cons, List.map_nil, List.sum_cons, List.sum_nil, cq_cat]; exact Nat.le_of_ble_eq_true rfl) h_K_useLocal_119 (fun r67 σ66 H locs cells slots hw9 h9 => ?_)
          clear hw h; have hw := hw9; have h := h9; clear hw9 h9
          refine W.eq (g2 := F0 m 122 ls [.long r67, .int r61, va_rf b59]) rfl ?_
          obtain ⟨r68, e_r68, hw⟩ := hw
          subst e_r68
          have hl : lv_has ls 2 [(0, .ref a0), (1, .int x1)] := hl
          refine W.eq (g2 := F0 m 122 ls [.long r67, .int r61, .ref r68]) rfl ?_
          obtain ⟨g69, hw⟩ := hw
          refine C_callVv (As := [.int r61, .long r67]) (rest := []) C h (ci := 0) (Cn := R_C) (T := T_C) (N := 5) g69 rfl (by decide) (X_C_setLocal l dC dI ca H σ66 r68 r61 r67 hw) (cwV 2 hts (gV hsub u_217 u_218 u_219 u_12 u_220) rfl rfl rfl (by decide +kernel) ⟨(Nat.le_of_ble_eq_true rfl), (Nat.le_of_ble_eq_true rfl)⟩) rfl hl.1 (Nat.le_of_ble_eq_true rfl) h_K_useLocal_122 (fun σ70 H locs cells slots hw9 h9 => ?_)
          clear hw h; have hw := hw9; have h := h9; clear hw9 h9
          refine W.eq (g2 := F0 m 125 ls []) rfl ?_
          exact hend σ70 _ _ _ _ _ _ hw h h_K_useLocal_125
abbrev g_W_isReference : MethodName := ⟨"MapFramer$World", "isReference", "(I)Z"⟩
theorem h_W_isReference_0 : decode prog_12_method_15_code 0 = .ok (.iload_n 0, 1) := by decide +kernel
theorem h_W_isReference_1 : decode prog_12_method_15_code 1 = .ok (.iconst 3, 1) := by decide +kernel
theorem h_W_isReference_2 : decode prog_12_method_15_code 2 = .ok (.if_icmp .lt 13, 3) := by decide +kernel
theorem h_W_isReference_5 : decode prog_12_method_15_code 5 = .ok (.iload_n 0, 1) := by decide +kernel
theorem h_W_isReference_6 : decode prog_12_method_15_code 6 = .ok (.bipush 80, 2) := by decide +kernel
theorem h_W_isReference_8 : decode prog_12_method_15_code 8 = .ok (.if_icmp .ge 7, 3) := by decide +kernel
theorem h_W_isReference_11 : decode prog_12_method_15_code 11 = .ok (.iconst 1, 1) := by decide +kernel
theorem h_W_isReference_12 : decode prog_12_method_15_code 12 = .ok (.goto 4, 3) := by decide +kernel
theorem h_W_isReference_15 : decode prog_12_method_15_code 15 = .ok (.iconst 0, 1) := by decide +kernel
theorem h_W_isReference_16 : decode prog_12_method_15_code 16 = .ok (.ireturn, 1) := by decide +kernel
def x_W_isReference (x0 : Int32) (σ0 : CST) (P : Int32 → CST → Prop) : Prop := ((x0 < 3 → P (0 : Int32) σ0) ∧ (¬ x0 < 3 → ((80 ≤ x0 → P (0 : Int32) σ0) ∧ (¬ 80 ≤ x0 → P (1 : Int32) σ0))))
set_option maxHeartbeats 4000000 in
set_option maxRecDepth 100000 in
theorem X_W_isReference (l : Launch) (dC : Nat → ClassId) (dI : Nat → Nat → Nat) (ca : Nat → ClassId) (H0 : Heap) (σ0 : CST) (x0 : Int32) {P : Int32 → CST → Prop} (hw : x_W_isReference x0 σ0 P) : Met l g_W_isReference (mW g_W_isReference prog_12_method_15_code 1 (some .boolean)) ({ frames := 0, cells := σ0.2.2.2.2.1, slots := σ0.2.2.2.2.2.1, locals := 0 } : Room) (va_Pc [.int x0] (CPre (dC, dI) ca σ0 H0)) (va_Qi P (CB (dC, dI) ca σ0 H0) (cA σ0 H0.size)) σ0.2.2.2.2.1 σ0.2.2.2.2.2.1 (cA σ0 H0.size) := by
  refine C_ofz (by decide +kernel) rfl rfl rfl (Nat.le_of_ble_eq_true rfl) ?_
  intro p e s m below meth cx Q A ls C hnm hend hH0 h hl
  subst hH0
  have C0 := C
  obtain ⟨⟨hx, hb, hml, hown, hts⟩, hsub⟩ := C0
  obtain ⟨cells, e_cells⟩ : ∃ z : Nat, z = 0 := ⟨_, rfl⟩
  obtain ⟨slots, e_slots⟩ : ∃ z : Nat, z = 0 := ⟨_, rfl⟩
  have h : CH (dC, dI) A ca ({ frames := 0, cells := σ0.2.2.2.2.1, slots := σ0.2.2.2.2.2.1, locals := 0 } : Room) σ0.2.2.2.2.2.2 σ0 s s.heap [] cells slots := by rw [e_cells, e_slots]; exact h
  show W p l e ({ frames := 0, cells := σ0.2.2.2.2.1, slots := σ0.2.2.2.2.2.1, locals := 0 } : Room) s m ([.int x0] : List Value).toArray below meth cx s.heap [] 0 0 Q (F0 m 0 ls [])
  rw [show W p l e ({ frames := 0, cells := σ0.2.2.2.2.1, slots := σ0.2.2.2.2.2.1, locals := 0 } : Room) s m ([.int x0] : List Value).toArray below meth cx s.heap [] 0 0 Q (F0 m 0 ls []) = W p l e ({ frames := 0, cells := σ0.2.2.2.2.1, slots := σ0.2.2.2.2.2.1, locals := 0 } : Room) s m ([.int x0] : List Value).toArray below meth cx s.heap [] cells slots Q (F0 m 0 ls []) by rw [e_cells, e_slots]]
  have hl : lv_has ls 1 [(0, .int x0)] := hl
  unfold x_W_isReference at hw
  refine lv_iload_n hx hb h_W_isReference_0 rfl (lv_at hl 0 rfl) ?_
  refine lv_iconst (v := 3) hx hb h_W_isReference_1 (by decide) ?_
  refine lv_icmp_lt (tgt := 15) hx hb h_W_isReference_2 (by decide) (fun c1 => ?_) (fun c1 => ?_)
  · skip
    replace hw := hw.1 c1
    refine lv_iconst (v := 0) hx hb h_W_isReference_15 (by decide) ?_
    exact hend (0 : Int32) σ0 _ _ _ _ _ _ rfl hw h h_W_isReference_16
  · skip
    replace hw := hw.2 c1
    refine lv_iload_n hx hb h_W_isReference_5 rfl (lv_at hl 0 rfl) ?_
    refine lv_bipush (v := 80) hx hb h_W_isReference_6 (by decide) ?_
    refine lv_icmp_ge (tgt := 15) hx hb h_W_isReference_8 (by decide) (fun c2 => ?_) (fun c2 => ?_)
    · skip
      replace hw := hw.1 c2
      refine lv_iconst (v := 0) hx hb h_W_isReference_15 (by decide) ?_
      exact hend (0 : Int32) σ0 _ _ _ _ _ _ rfl hw h h_W_isReference_16
    · skip
      replace hw := hw.2 c2
      refine lv_iconst (v := 1) hx hb h_W_isReference_11 (by decide) ?_
      refine lv_goto (tgt := 16) hx hb h_W_isReference_12 (by decide) ?_
      exact hend (1 : Int32) σ0 _ _ _ _ _ _ rfl hw h h_W_isReference_16
abbrev g_W_subs : MethodName := ⟨"MapFramer$World", "subs", "(II)Z"⟩
theorem u_271 : (Cond.fieldLink "MapFramer$World" 15 "MapFramer$World" "supers" "[I" : Cond) ∈ bigW := inB_1 54 (by decide +kernel) rfl
theorem h_W_subs_0 : decode prog_12_method_20_code 0 = .ok (.iload_n 1, 1) := by decide +kernel
theorem h_W_subs_1 : decode prog_12_method_20_code 1 = .ok (.ifCond .lt 27, 3) := by decide +kernel
theorem h_W_subs_4 : decode prog_12_method_20_code 4 = .ok (.iload_n 1, 1) := by decide +kernel
theorem h_W_subs_5 : decode prog_12_method_20_code 5 = .ok (.bipush 16, 2) := by decide +kernel
theorem h_W_subs_7 : decode prog_12_method_20_code 7 = .ok (.if_icmp .ge 21, 3) := by decide +kernel
theorem h_W_subs_10 : decode prog_12_method_20_code 10 = .ok (.aload_n 0, 1) := by decide +kernel
theorem h_W_subs_11 : decode prog_12_method_20_code 11 = .ok (.getfield 15, 3) := by decide +kernel
theorem h_W_subs_14 : decode prog_12_method_20_code 14 = .ok (.iload_n 1, 1) := by decide +kernel
theorem h_W_subs_15 : decode prog_12_method_20_code 15 = .ok (.iaload, 1) := by decide +kernel
theorem h_W_subs_16 : decode prog_12_method_20_code 16 = .ok (.iload_n 2, 1) := by decide +kernel
theorem h_W_subs_17 : decode prog_12_method_20_code 17 = .ok (.iushr, 1) := by decide +kernel
theorem h_W_subs_18 : decode prog_12_method_20_code 18 = .ok (.iconst 1, 1) := by decide +kernel
theorem h_W_subs_19 : decode prog_12_method_20_code 19 = .ok (.iand, 1) := by decide +kernel
theorem h_W_subs_20 : decode prog_12_method_20_code 20 = .ok (.iconst 1, 1) := by decide +kernel
theorem h_W_subs_21 : decode prog_12_method_20_code 21 = .ok (.if_icmp .ne 7, 3) := by decide +kernel
theorem h_W_subs_24 : decode prog_12_method_20_code 24 = .ok (.iconst 1, 1) := by decide +kernel
theorem h_W_subs_25 : decode prog_12_method_20_code 25 = .ok (.goto 4, 3) := by decide +kernel
theorem h_W_subs_28 : decode prog_12_method_20_code 28 = .ok (.iconst 0, 1) := by decide +kernel
theorem h_W_subs_29 : decode prog_12_method_20_code 29 = .ok (.ireturn, 1) := by decide +kernel
def x_W_subs (a0 : Nat) (x1 : Int32) (x2 : Int32) (σ0 : CST) (P : Int32 → CST → Prop) : Prop := ((x1 < 0 → P (0 : Int32) σ0) ∧ (¬ x1 < 0 → ((16 ≤ x1 → P (0 : Int32) σ0) ∧ (¬ 16 ≤ x1 → σ0.1 a0 = some (3, 0) ∧ (∀ b4 : Option Nat, b4 = (σ0.2.2.2.1 a0 1) → (∃ r5 : Nat, b4 = some r5 ∧ ((∃ n7 : Nat, σ0.1 r5 = some (20, n7) ∧ (vp_in x1 n7 ∧ (∀ b9 : Int32, b9 = (σ0.2.1 r5 (x1 : Int32).toNatClampNeg) → ∀ b10 : Int32, b10 = ((b9 : Int32).toUInt32 >>> ((x2 : Int32).toUInt32 &&& Int32.toUInt32 31)).toInt32 → ∀ b11 : Int32, b11 = (b10 &&& 1) → ((b11 = 1 → P (1 : Int32) σ0) ∧ (¬ b11 = 1 → P (0 : Int32) σ0))))))))))))
set_option maxHeartbeats 4000000 in
set_option maxRecDepth 100000 in
theorem X_W_subs (l : Launch) (dC : Nat → ClassId) (dI : Nat → Nat → Nat) (ca : Nat → ClassId) (H0 : Heap) (σ0 : CST) (a0 : Nat) (x1 : Int32) (x2 : Int32) {P : Int32 → CST → Prop} (hw : x_W_subs a0 x1 x2 σ0 P) : Met l g_W_subs (mW g_W_subs prog_12_method_20_code 3 (some .boolean)) ({ frames := 0, cells := σ0.2.2.2.2.1, slots := σ0.2.2.2.2.2.1, locals := 0 } : Room) (va_Pc [.ref a0, .int x1, .int x2] (CPre (dC, dI) ca σ0 H0)) (va_Qi P (CB (dC, dI) ca σ0 H0) (cA σ0 H0.size)) σ0.2.2.2.2.1 σ0.2.2.2.2.2.1 (cA σ0 H0.size) := by
  refine C_ofz (by decide +kernel) rfl rfl rfl (Nat.le_of_ble_eq_true rfl) ?_
  intro p e s m below meth cx Q A ls C hnm hend hH0 h hl
  subst hH0
  have C0 := C
  obtain ⟨⟨hx, hb, hml, hown, hts⟩, hsub⟩ := C0
  obtain ⟨cells, e_cells⟩ : ∃ z : Nat, z = 0 := ⟨_, rfl⟩
  obtain ⟨slots, e_slots⟩ : ∃ z : Nat, z = 0 := ⟨_, rfl⟩
  have h : CH (dC, dI) A ca ({ frames := 0, cells := σ0.2.2.2.2.1, slots := σ0.2.2.2.2.2.1, locals := 0 } : Room) σ0.2.2.2.2.2.2 σ0 s s.heap [] cells slots := by rw [e_cells, e_slots]; exact h
  show W p l e ({ frames := 0, cells := σ0.2.2.2.2.1, slots := σ0.2.2.2.2.2.1, locals := 0 } : Room) s m ([.ref a0, .int x1, .int x2] : List Value).toArray below meth cx s.heap [] 0 0 Q (F0 m 0 ls [])
  rw [show W p l e ({ frames := 0, cells := σ0.2.2.2.2.1, slots := σ0.2.2.2.2.2.1, locals := 0 } : Room) s m ([.ref a0, .int x1, .int x2] : List Value).toArray below meth cx s.heap [] 0 0 Q (F0 m 0 ls []) = W p l e ({ frames := 0, cells := σ0.2.2.2.2.1, slots := σ0.2.2.2.2.2.1, locals := 0 } : Room) s m ([.ref a0, .int x1, .int x2] : List Value).toArray below meth cx s.heap [] cells slots Q (F0 m 0 ls []) by rw [e_cells, e_slots]]
  have hl : lv_has ls 3 [(0, .ref a0), (1, .int x1), (2, .int x2)] := hl
  unfold x_W_subs at hw
  refine lv_iload_n hx hb h_W_subs_0 rfl (lv_at hl 1 rfl) ?_
  refine lv_if_lt (tgt := 28) hx hb h_W_subs_1 (by decide) (fun c1 => ?_) (fun c1 => ?_)
  · skip
    replace hw := hw.1 c1
    refine lv_iconst (v := 0) hx hb h_W_subs_28 (by decide) ?_
    exact hend (0 : Int32) σ0 _ _ _ _ _ _ rfl hw h h_W_subs_29
  · skip
    replace hw := hw.2 c1
    refine lv_iload_n hx hb h_W_subs_4 rfl (lv_at hl 1 rfl) ?_
    refine lv_bipush (v := 16) hx hb h_W_subs_5 (by decide) ?_
    refine lv_icmp_ge (tgt := 28) hx hb h_W_subs_7 (by decide) (fun c2 => ?_) (fun c2 => ?_)
    · skip
      replace hw := hw.1 c2
      refine lv_iconst (v := 0) hx hb h_W_subs_28 (by decide) ?_
      exact hend (0 : Int32) σ0 _ _ _ _ _ _ rfl hw h h_W_subs_29
    · skip
      replace hw := hw.2 c2
      refine lv_aload_n hx hb h_W_subs_10 rfl (lv_at hl 0 rfl) ?_
      obtain ⟨g3, hw⟩ := hw
      refine C_get C h 3 1 (v := va_rf (σ0.2.2.2.1 a0 1)) g3 rfl (Cn := R_W) (T := T_W) (N := 10) rfl (by decide) rfl uw_W (by decide) u_271 (fun _ q => q) h_W_subs_11 ?_
      refine lv_topq (fun b4 e_b4 => ?_)
      replace hw := hw b4 e_b4
      refine lv_iload_n hx hb h_W_subs_14 rfl (lv_at hl 1 rfl) ?_
      obtain ⟨r5, e_r5, hw⟩ := hw
      subst e_r5
      have hl : lv_has ls 3 [(0, .ref a0), (1, .int x1), (2, .int x2)] := hl
      refine W.eq (g2 := F0 m 15 ls [.int x1, .ref r5]) rfl ?_
      obtain ⟨n7, g6, hw⟩ := hw
      obtain ⟨g8, hw⟩ := hw
      refine C_iald C h g6 g8 h_W_subs_15 ?_
      refine lv_topi (fun b9 e_b9 => ?_)
      replace hw := hw b9 e_b9
      refine lv_iload_n hx hb h_W_subs_16 rfl (lv_at hl 2 rfl) ?_
      refine lv_iushr (v := ((b9 : Int32).toUInt32 >>> ((x2 : Int32).toUInt32 &&& Int32.toUInt32 31)).toInt32) hx hb h_W_subs_17 rfl ?_
      refine lv_topi (fun b10 e_b10 => ?_)
      replace hw := hw b10 e_b10
      refine lv_iconst (v := 1) hx hb h_W_subs_18 (by decide) ?_
      refine lv_iand hx hb h_W_subs_19 ?_
      refine lv_topi (fun b11 e_b11 => ?_)
      replace hw := hw b11 e_b11
      refine lv_iconst (v := 1) hx hb h_W_subs_20 (by decide) ?_
      refine lv_icmp_ne (tgt := 28) hx hb h_W_subs_21 (by decide) (fun c12 => ?_) (fun c12 => ?_)
      · skip
        replace hw := hw.2 c12
        refine lv_iconst (v := 0) hx hb h_W_subs_28 (by decide) ?_
        exact hend (0 : Int32) σ0 _ _ _ _ _ _ rfl hw h h_W_subs_29
      · skip
        replace hw := hw.1 c12
        refine lv_iconst (v := 1) hx hb h_W_subs_24 (by decide) ?_
        refine lv_goto (tgt := 29) hx hb h_W_subs_25 (by decide) ?_
        exact hend (1 : Int32) σ0 _ _ _ _ _ _ rfl hw h h_W_subs_29
abbrev g_W_assignable : MethodName := ⟨"MapFramer$World", "assignable", "(II)Z"⟩
theorem u_272 : (Cond.methodLink "MapFramer$World" 71 ⟨"MapFramer$World", "subs", "(II)Z"⟩ : Cond) ∈ bigW := inB_4 108 (by decide +kernel) rfl
theorem u_273 : (Cond.instanceMethod ⟨"MapFramer$World", "subs", "(II)Z"⟩ : Cond) ∈ bigW := inB_3 29 (by decide +kernel) rfl
theorem u_274 : (Cond.selects "MapFramer$World" ⟨"MapFramer$World", "subs", "(II)Z"⟩ ⟨"MapFramer$World", "subs", "(II)Z"⟩ : Cond) ∈ bigW := inB_3 30 (by decide +kernel) rfl
theorem u_275 : (Cond.code ⟨"MapFramer$World", "subs", "(II)Z"⟩ prog_12_method_20_code 3 (some .boolean) : Cond) ∈ bigW := inB_3 31 rfl rfl
theorem u_276 : (Cond.fieldLink "MapFramer$World" 18 "MapFramer$World" "interfaces" "[Z" : Cond) ∈ bigW := inB_1 55 (by decide +kernel) rfl
theorem u_277 : (Cond.methodLink "MapFramer$World" 68 ⟨"MapFramer$World", "isObject", "(I)Z"⟩ : Cond) ∈ bigW := inB_4 105 (by decide +kernel) rfl
theorem u_278 : (Cond.methodLink "MapFramer$World" 62 ⟨"MapFramer$World", "isReference", "(I)Z"⟩ : Cond) ∈ bigW := inB_4 99 (by decide +kernel) rfl
theorem u_279 : (Cond.static ⟨"MapFramer$World", "isReference", "(I)Z"⟩ : Cond) ∈ bigW := inB_4 100 (by decide +kernel) rfl
theorem u_280 : (Cond.code ⟨"MapFramer$World", "isReference", "(I)Z"⟩ prog_12_method_15_code 1 (some .boolean) : Cond) ∈ bigW := inB_4 101 rfl rfl
theorem u_281 : (Cond.methodLink "MapFramer$World" 65 ⟨"MapFramer$World", "isClassArray", "(I)Z"⟩ : Cond) ∈ bigW := inB_4 102 (by decide +kernel) rfl
theorem h_W_assignable_0 : decode prog_12_method_21_code 0 = .ok (.iload_n 2, 1) := by decide +kernel
theorem h_W_assignable_1 : decode prog_12_method_21_code 1 = .ok (.ifCond .eq 8, 3) := by decide +kernel
theorem h_W_assignable_4 : decode prog_12_method_21_code 4 = .ok (.iload_n 1, 1) := by decide +kernel
theorem h_W_assignable_5 : decode prog_12_method_21_code 5 = .ok (.iload_n 2, 1) := by decide +kernel
theorem h_W_assignable_6 : decode prog_12_method_21_code 6 = .ok (.if_icmp .ne 5, 3) := by decide +kernel
theorem h_W_assignable_9 : decode prog_12_method_21_code 9 = .ok (.iconst 1, 1) := by decide +kernel
theorem h_W_assignable_10 : decode prog_12_method_21_code 10 = .ok (.ireturn, 1) := by decide +kernel
theorem h_W_assignable_11 : decode prog_12_method_21_code 11 = .ok (.iload_n 1, 1) := by decide +kernel
theorem h_W_assignable_12 : decode prog_12_method_21_code 12 = .ok (.invokestatic 62, 3) := by decide +kernel
theorem h_W_assignable_15 : decode prog_12_method_21_code 15 = .ok (.ifCond .eq 10, 3) := by decide +kernel
theorem h_W_assignable_18 : decode prog_12_method_21_code 18 = .ok (.iload_n 2, 1) := by decide +kernel
theorem h_W_assignable_19 : decode prog_12_method_21_code 19 = .ok (.invokestatic 62, 3) := by decide +kernel
theorem h_W_assignable_22 : decode prog_12_method_21_code 22 = .ok (.ifCond .ne 5, 3) := by decide +kernel
theorem h_W_assignable_25 : decode prog_12_method_21_code 25 = .ok (.iconst 0, 1) := by decide +kernel
theorem h_W_assignable_26 : decode prog_12_method_21_code 26 = .ok (.ireturn, 1) := by decide +kernel
theorem h_W_assignable_27 : decode prog_12_method_21_code 27 = .ok (.iload_n 1, 1) := by decide +kernel
theorem h_W_assignable_28 : decode prog_12_method_21_code 28 = .ok (.iconst 5, 1) := by decide +kernel
theorem h_W_assignable_29 : decode prog_12_method_21_code 29 = .ok (.if_icmp .ne 5, 3) := by decide +kernel
theorem h_W_assignable_32 : decode prog_12_method_21_code 32 = .ok (.iconst 1, 1) := by decide +kernel
theorem h_W_assignable_33 : decode prog_12_method_21_code 33 = .ok (.ireturn, 1) := by decide +kernel
theorem h_W_assignable_34 : decode prog_12_method_21_code 34 = .ok (.iload_n 1, 1) := by decide +kernel
theorem h_W_assignable_35 : decode prog_12_method_21_code 35 = .ok (.invokestatic 65, 3) := by decide +kernel
theorem h_W_assignable_38 : decode prog_12_method_21_code 38 = .ok (.ifCond .eq 14, 3) := by decide +kernel
theorem h_W_assignable_41 : decode prog_12_method_21_code 41 = .ok (.iload_n 2, 1) := by decide +kernel
theorem h_W_assignable_42 : decode prog_12_method_21_code 42 = .ok (.invokestatic 65, 3) := by decide +kernel
theorem h_W_assignable_45 : decode prog_12_method_21_code 45 = .ok (.ifCond .eq 7, 3) := by decide +kernel
theorem h_W_assignable_48 : decode prog_12_method_21_code 48 = .ok (.iconst 1, 1) := by decide +kernel
theorem h_W_assignable_49 : decode prog_12_method_21_code 49 = .ok (.goto 4, 3) := by decide +kernel
theorem h_W_assignable_52 : decode prog_12_method_21_code 52 = .ok (.iconst 0, 1) := by decide +kernel
theorem h_W_assignable_53 : decode prog_12_method_21_code 53 = .ok (.istore_n 3, 1) := by decide +kernel
theorem h_W_assignable_54 : decode prog_12_method_21_code 54 = .ok (.iload_n 3, 1) := by decide +kernel
theorem h_W_assignable_55 : decode prog_12_method_21_code 55 = .ok (.ifCond .ne 12, 3) := by decide +kernel
theorem h_W_assignable_58 : decode prog_12_method_21_code 58 = .ok (.iload_n 2, 1) := by decide +kernel
theorem h_W_assignable_59 : decode prog_12_method_21_code 59 = .ok (.invokestatic 68, 3) := by decide +kernel
theorem h_W_assignable_62 : decode prog_12_method_21_code 62 = .ok (.ifCond .ne 5, 3) := by decide +kernel
theorem h_W_assignable_65 : decode prog_12_method_21_code 65 = .ok (.iconst 0, 1) := by decide +kernel
theorem h_W_assignable_66 : decode prog_12_method_21_code 66 = .ok (.ireturn, 1) := by decide +kernel
theorem h_W_assignable_67 : decode prog_12_method_21_code 67 = .ok (.iload_n 3, 1) := by decide +kernel
theorem h_W_assignable_68 : decode prog_12_method_21_code 68 = .ok (.ifCond .eq 8, 3) := by decide +kernel
theorem h_W_assignable_71 : decode prog_12_method_21_code 71 = .ok (.bipush 64, 2) := by decide +kernel
theorem h_W_assignable_73 : decode prog_12_method_21_code 73 = .ok (.goto 5, 3) := by decide +kernel
theorem h_W_assignable_76 : decode prog_12_method_21_code 76 = .ok (.bipush 32, 2) := by decide +kernel
theorem h_W_assignable_78 : decode prog_12_method_21_code 78 = .ok (.istore 4, 2) := by decide +kernel
theorem h_W_assignable_80 : decode prog_12_method_21_code 80 = .ok (.iload_n 2, 1) := by decide +kernel
theorem h_W_assignable_81 : decode prog_12_method_21_code 81 = .ok (.iload 4, 2) := by decide +kernel
theorem h_W_assignable_83 : decode prog_12_method_21_code 83 = .ok (.if_icmp .eq 15, 3) := by decide +kernel
theorem h_W_assignable_86 : decode prog_12_method_21_code 86 = .ok (.aload_n 0, 1) := by decide +kernel
theorem h_W_assignable_87 : decode prog_12_method_21_code 87 = .ok (.getfield 18, 3) := by decide +kernel
theorem h_W_assignable_90 : decode prog_12_method_21_code 90 = .ok (.iload_n 2, 1) := by decide +kernel
theorem h_W_assignable_91 : decode prog_12_method_21_code 91 = .ok (.iload 4, 2) := by decide +kernel
theorem h_W_assignable_93 : decode prog_12_method_21_code 93 = .ok (.isub, 1) := by decide +kernel
theorem h_W_assignable_94 : decode prog_12_method_21_code 94 = .ok (.baload, 1) := by decide +kernel
theorem h_W_assignable_95 : decode prog_12_method_21_code 95 = .ok (.ifCond .eq 5, 3) := by decide +kernel
theorem h_W_assignable_98 : decode prog_12_method_21_code 98 = .ok (.iconst 1, 1) := by decide +kernel
theorem h_W_assignable_99 : decode prog_12_method_21_code 99 = .ok (.ireturn, 1) := by decide +kernel
theorem h_W_assignable_100 : decode prog_12_method_21_code 100 = .ok (.iload_n 3, 1) := by decide +kernel
theorem h_W_assignable_101 : decode prog_12_method_21_code 101 = .ok (.ifCond .ne 10, 3) := by decide +kernel
theorem h_W_assignable_104 : decode prog_12_method_21_code 104 = .ok (.iload_n 1, 1) := by decide +kernel
theorem h_W_assignable_105 : decode prog_12_method_21_code 105 = .ok (.invokestatic 68, 3) := by decide +kernel
theorem h_W_assignable_108 : decode prog_12_method_21_code 108 = .ok (.ifCond .eq 22, 3) := by decide +kernel
theorem h_W_assignable_111 : decode prog_12_method_21_code 111 = .ok (.aload_n 0, 1) := by decide +kernel
theorem h_W_assignable_112 : decode prog_12_method_21_code 112 = .ok (.iload_n 1, 1) := by decide +kernel
theorem h_W_assignable_113 : decode prog_12_method_21_code 113 = .ok (.iload 4, 2) := by decide +kernel
theorem h_W_assignable_115 : decode prog_12_method_21_code 115 = .ok (.isub, 1) := by decide +kernel
theorem h_W_assignable_116 : decode prog_12_method_21_code 116 = .ok (.iload_n 2, 1) := by decide +kernel
theorem h_W_assignable_117 : decode prog_12_method_21_code 117 = .ok (.iload 4, 2) := by decide +kernel
theorem h_W_assignable_119 : decode prog_12_method_21_code 119 = .ok (.isub, 1) := by decide +kernel
theorem h_W_assignable_120 : decode prog_12_method_21_code 120 = .ok (.invokevirtual 71, 3) := by decide +kernel
theorem h_W_assignable_123 : decode prog_12_method_21_code 123 = .ok (.ifCond .eq 7, 3) := by decide +kernel
theorem h_W_assignable_126 : decode prog_12_method_21_code 126 = .ok (.iconst 1, 1) := by decide +kernel
theorem h_W_assignable_127 : decode prog_12_method_21_code 127 = .ok (.goto 4, 3) := by decide +kernel
theorem h_W_assignable_130 : decode prog_12_method_21_code 130 = .ok (.iconst 0, 1) := by decide +kernel
theorem h_W_assignable_131 : decode prog_12_method_21_code 131 = .ok (.ireturn, 1) := by decide +kernel
def x_W_assignable_111 (a0 : Nat) (P : Int32 → CST → Prop) (z1 : Int32) (z2 : Int32) (z4 : Int32) (σ : CST) : Prop := σ.1 a0 = some (3, 0) ∧ (x_W_subs a0 (z1 - z4) (z2 - z4) σ (fun r3 σ2 => ((r3 = 0 → P (0 : Int32) σ2) ∧ (¬ r3 = 0 → P (1 : Int32) σ2))))
def x_W_assignable_78 (a0 : Nat) (P : Int32 → CST → Prop) (z1 : Int32) (z2 : Int32) (z3 : Int32) (s0 : Int32) (σ : CST) : Prop := ((z2 = s0 → P (1 : Int32) σ) ∧ (¬ z2 = s0 → σ.1 a0 = some (3, 0) ∧ (∀ b7 : Option Nat, b7 = (σ.2.2.2.1 a0 2) → (∃ r8 : Nat, b7 = some r8 ∧ ((∃ n10 : Nat, σ.1 r8 = some (21, n10) ∧ (vp_in (z2 - s0) n10 ∧ (∀ b12 : Int32, b12 = (σ.2.1 r8 ((z2 - s0) : Int32).toNatClampNeg) → ((b12 = 0 → ((z3 = 0 → x_W_isObject z1 σ (fun r16 σ15 => ((r16 = 0 → P (0 : Int32) σ15) ∧ (¬ r16 = 0 → x_W_assignable_111 a0 P z1 z2 s0 σ15)))) ∧ (¬ z3 = 0 → x_W_assignable_111 a0 P z1 z2 s0 σ))) ∧ (¬ b12 = 0 → P (1 : Int32) σ))))))))))
def x_W_assignable_67 (a0 : Nat) (P : Int32 → CST → Prop) (z1 : Int32) (z2 : Int32) (z3 : Int32) (σ : CST) : Prop := ((z3 = 0 → x_W_assignable_78 a0 P z1 z2 z3 32 σ) ∧ (¬ z3 = 0 → x_W_assignable_78 a0 P z1 z2 z3 64 σ))
def x_W_assignable_53 (a0 : Nat) (P : Int32 → CST → Prop) (z1 : Int32) (z2 : Int32) (s0 : Int32) (σ : CST) : Prop := ((s0 = 0 → x_W_isObject z2 σ (fun r21 σ20 => ((r21 = 0 → P (0 : Int32) σ20) ∧ (¬ r21 = 0 → x_W_assignable_67 a0 P z1 z2 s0 σ20)))) ∧ (¬ s0 = 0 → x_W_assignable_67 a0 P z1 z2 s0 σ))
def x_W_assignable_52 (a0 : Nat) (P : Int32 → CST → Prop) (z1 : Int32) (z2 : Int32) (σ : CST) : Prop := x_W_assignable_53 a0 P z1 z2 0 σ
def x_W_assignable (a0 : Nat) (x1 : Int32) (x2 : Int32) (σ0 : CST) (P : Int32 → CST → Prop) : Prop := ((x2 = 0 → P (1 : Int32) σ0) ∧ (¬ x2 = 0 → ((x1 = x2 → P (1 : Int32) σ0) ∧ (¬ x1 = x2 → x_W_isReference x1 σ0 (fun r26 σ25 => ((r26 = 0 → P (0 : Int32) σ25) ∧ (¬ r26 = 0 → x_W_isReference x2 σ25 (fun r29 σ28 => ((r29 = 0 → P (0 : Int32) σ28) ∧ (¬ r29 = 0 → ((x1 = 5 → P (1 : Int32) σ28) ∧ (¬ x1 = 5 → x_W_isClassArray x1 σ28 (fun r33 σ32 => ((r33 = 0 → x_W_assignable_52 a0 P x1 x2 σ32) ∧ (¬ r33 = 0 → x_W_isClassArray x2 σ32 (fun r36 σ35 => ((r36 = 0 → x_W_assignable_52 a0 P x1 x2 σ35) ∧ (¬ r36 = 0 → x_W_assignable_53 a0 P x1 x2 1 σ35))))))))))))))))))
set_option maxHeartbeats 4000000 in
set_option maxRecDepth 100000 in
theorem X_W_assignable (l : Launch) (dC : Nat → ClassId) (dI : Nat → Nat → Nat) (ca : Nat → ClassId) (H0 : Heap) (σ0 : CST) (a0 : Nat) (x1 : Int32) (x2 : Int32) {P : Int32 → CST → Prop} (hw : x_W_assignable a0 x1 x2 σ0 P) : Met l g_W_assignable (mW g_W_assignable prog_12_method_21_code 5 (some .boolean)) ({ frames := 1, cells := σ0.2.2.2.2.1, slots := σ0.2.2.2.2.2.1, locals := 22 } : Room) (va_Pc [.ref a0, .int x1, .int x2] (CPre (dC, dI) ca σ0 H0)) (va_Qi P (CB (dC, dI) ca σ0 H0) (cA σ0 H0.size)) σ0.2.2.2.2.1 σ0.2.2.2.2.2.1 (cA σ0 H0.size) := by
  refine C_ofz (by decide +kernel) rfl rfl rfl (Nat.le_of_ble_eq_true rfl) ?_
  intro p e s m below meth cx Q A ls C hnm hend hH0 h hl
  subst hH0
  have C0 := C
  obtain ⟨⟨hx, hb, hml, hown, hts⟩, hsub⟩ := C0
  obtain ⟨cells, e_cells⟩ : ∃ z : Nat, z = 0 := ⟨_, rfl⟩
  obtain ⟨slots, e_slots⟩ : ∃ z : Nat, z = 0 := ⟨_, rfl⟩
  have h : CH (dC, dI) A ca ({ frames := 1, cells := σ0.2.2.2.2.1, slots := σ0.2.2.2.2.2.1, locals := 22 } : Room) σ0.2.2.2.2.2.2 σ0 s s.heap [] cells slots := by rw [e_cells, e_slots]; exact h
  show W p l e ({ frames := 1, cells := σ0.2.2.2.2.1, slots := σ0.2.2.2.2.2.1, locals := 22 } : Room) s m ([.ref a0, .int x1, .int x2] : List Value).toArray below meth cx s.heap [] 0 0 Q (F0 m 0 ls [])
  rw [show W p l e ({ frames := 1, cells := σ0.2.2.2.2.1, slots := σ0.2.2.2.2.2.1, locals := 22 } : Room) s m ([.ref a0, .int x1, .int x2] : List Value).toArray below meth cx s.heap [] 0 0 Q (F0 m 0 ls []) = W p l e ({ frames := 1, cells := σ0.2.2.2.2.1, slots := σ0.2.2.2.2.2.1, locals := 22 } : Room) s m ([.ref a0, .int x1, .int x2] : List Value).toArray below meth cx s.heap [] cells slots Q (F0 m 0 ls []) by rw [e_cells, e_slots]]
  have K_111 : ∀ (u9 : Unit), ∀ (z1 : Int32) (z2 : Int32) (z4 : Int32) (σ : CST) (H : Heap) (locs : List Loc) (cells slots : Nat) (ls : Array Slot), x_W_assignable_111 a0 P z1 z2 z4 σ → CH (dC, dI) A ca ({ frames := 1, cells := σ0.2.2.2.2.1, slots := σ0.2.2.2.2.2.1, locals := 22 } : Room) σ0.2.2.2.2.2.2 σ s H locs cells slots → lv_has ls 5 [(0, .ref a0), (1, .int z1), (2, .int z2), (4, .int z4)] → W p l e ({ frames := 1, cells := σ0.2.2.2.2.1, slots := σ0.2.2.2.2.2.1, locals := 22 } : Room) s m ([.ref a0, .int x1, .int x2] : List Value).toArray below meth cx H locs cells slots Q (F0 m 111 ls []) := by
    intro u9 z1 z2 z4 σ H locs cells slots ls hw h hl
    unfold x_W_assignable_111 at hw
    refine lv_aload_n hx hb h_W_assignable_111 rfl (lv_at hl 0 rfl) ?_
    refine lv_iload_n hx hb h_W_assignable_112 rfl (lv_at hl 1 rfl) ?_
    refine lv_iload hx hb h_W_assignable_113 (lv_at hl 3 rfl) ?_
    refine lv_isub hx hb h_W_assignable_115 ?_
    refine lv_iload_n hx hb h_W_assignable_116 rfl (lv_at hl 2 rfl) ?_
    refine lv_iload hx hb h_W_assignable_117 (lv_at hl 3 rfl) ?_
    refine lv_isub hx hb h_W_assignable_119 ?_
    obtain ⟨g1, hw⟩ := hw
    refine C_callVi (As := [.int (z1 - z4), .int (z2 - z4)]) (rest := []) C h (ci := 3) (Cn := R_W) (T := T_W) (N := 10) g1 rfl (by decide) (X_W_subs l dC dI ca H σ a0 (z1 - z4) (z2 - z4) hw) (cwV 2 hts (gV hsub u_272 u_273 u_274 u_51 u_275) rfl rfl rfl (by decide +kernel) ⟨(Nat.le_of_ble_eq_true rfl), (Nat.le_of_ble_eq_true rfl)⟩) rfl hl.1 (Nat.le_of_ble_eq_true rfl) h_W_assignable_120 (fun r3 σ2 H locs cells slots hw9 h9 => ?_)
    clear hw h; have hw := hw9; have h := h9; clear hw9 h9
    refine W.eq (g2 := F0 m 123 ls [.int r3]) rfl ?_
    refine lv_if_eq (tgt := 130) hx hb h_W_assignable_123 (by decide) (fun c4 => ?_) (fun c4 => ?_)
    · skip
      replace hw := hw.1 c4
      refine lv_iconst (v := 0) hx hb h_W_assignable_130 (by decide) ?_
      exact hend (0 : Int32) σ2 _ _ _ _ _ _ rfl hw h h_W_assignable_131
    · skip
      replace hw := hw.2 c4
      refine lv_iconst (v := 1) hx hb h_W_assignable_126 (by decide) ?_
      refine lv_goto (tgt := 131) hx hb h_W_assignable_127 (by decide) ?_
      exact hend (1 : Int32) σ2 _ _ _ _ _ _ rfl hw h h_W_assignable_131
  have K_78 : ∀ (u9 : Unit), ∀ (z1 : Int32) (z2 : Int32) (z3 : Int32) (s0 : Int32) (σ : CST) (H : Heap) (locs : List Loc) (cells slots : Nat) (ls : Array Slot), x_W_assignable_78 a0 P z1 z2 z3 s0 σ → CH (dC, dI) A ca ({ frames := 1, cells := σ0.2.2.2.2.1, slots := σ0.2.2.2.2.2.1, locals := 22 } : Room) σ0.2.2.2.2.2.2 σ s H locs cells slots → lv_has ls 5 [(0, .ref a0), (1, .int z1), (2, .int z2), (3, .int z3)] → W p l e ({ frames := 1, cells := σ0.2.2.2.2.1, slots := σ0.2.2.2.2.2.1, locals := 22 } : Room) s m ([.ref a0, .int x1, .int x2] : List Value).toArray below meth cx H locs cells slots Q (F0 m 78 ls [.int s0]) := by
    intro u9 z1 z2 z3 s0 σ H locs cells slots ls hw h hl
    unfold x_W_assignable_78 at hw
    refine lv_istore (lv' := [(4, .int s0), (0, .ref a0), (1, .int z1), (2, .int z2), (3, .int z3)]) hx hb h_W_assignable_78 hl (by decide) rfl (fun ls hl => ?_)
    refine lv_iload_n hx hb h_W_assignable_80 rfl (lv_at hl 3 rfl) ?_
    refine lv_iload hx hb h_W_assignable_81 (lv_at hl 0 rfl) ?_
    refine lv_icmp_eq (tgt := 98) hx hb h_W_assignable_83 (by decide) (fun c5 => ?_) (fun c5 => ?_)
    · skip
      replace hw := hw.1 c5
      refine lv_iconst (v := 1) hx hb h_W_assignable_98 (by decide) ?_
      exact hend (1 : Int32) σ _ _ _ _ _ _ rfl hw h h_W_assignable_99
    · skip
      replace hw := hw.2 c5
      refine lv_aload_n hx hb h_W_assignable_86 rfl (lv_at hl 1 rfl) ?_
      obtain ⟨g6, hw⟩ := hw
      refine C_get C h 3 2 (v := va_rf (σ.2.2.2.1 a0 2)) g6 rfl (Cn := R_W) (T := T_W) (N := 10) rfl (by decide) rfl uw_W (by decide) u_276 (fun _ q => q) h_W_assignable_87 ?_
      refine lv_topq (fun b7 e_b7 => ?_)
      replace hw := hw b7 e_b7
      refine lv_iload_n hx hb h_W_assignable_90 rfl (lv_at hl 3 rfl) ?_
      refine lv_iload hx hb h_W_assignable_91 (lv_at hl 0 rfl) ?_
      refine lv_isub hx hb h_W_assignable_93 ?_
      obtain ⟨r8, e_r8, hw⟩ := hw
      subst e_r8
      have hl : lv_has ls 5 [(4, .int s0), (0, .ref a0), (1, .int z1), (2, .int z2), (3, .int z3)] := hl
      refine W.eq (g2 := F0 m 94 ls [.int (z2 - s0), .ref r8]) rfl ?_
      obtain ⟨n10, g9, hw⟩ := hw
      obtain ⟨g11, hw⟩ := hw
      refine C_zald C h g9 g11 h_W_assignable_94 ?_
      refine lv_topi (fun b12 e_b12 => ?_)
      replace hw := hw b12 e_b12
      refine lv_if_eq (tgt := 100) hx hb h_W_assignable_95 (by decide) (fun c13 => ?_) (fun c13 => ?_)
      · skip
        replace hw := hw.1 c13
        refine lv_iload_n hx hb h_W_assignable_100 rfl (lv_at hl 4 rfl) ?_
        refine lv_if_ne (tgt := 111) hx hb h_W_assignable_101 (by decide) (fun c14 => ?_) (fun c14 => ?_)
        · skip
          replace hw := hw.2 c14
          exact K_111 () z1 z2 s0 σ _ _ _ _ _ hw h (lv_sub hl [1, 2, 3, 0] rfl)
        · skip
          replace hw := hw.1 c14
          refine lv_iload_n hx hb h_W_assignable_104 rfl (lv_at hl 2 rfl) ?_
          refine C_callSi (As := [.int z1]) (rest := []) C h (X_W_isObject l dC dI ca H σ z1 hw) (va_cwS 1 hts (gS hsub u_277 u_70 u_51 u_71) rfl rfl rfl (by decide +kernel) ⟨(Nat.le_of_ble_eq_true rfl), (Nat.le_of_ble_eq_true rfl)⟩) rfl hl.1 (Nat.le_of_ble_eq_true rfl) h_W_assignable_105 (fun r16 σ15 H locs cells slots hw9 h9 => ?_)
          clear hw h; have hw := hw9; have h := h9; clear hw9 h9
          refine W.eq (g2 := F0 m 108 ls [.int r16]) rfl ?_
          refine lv_if_eq (tgt := 130) hx hb h_W_assignable_108 (by decide) (fun c17 => ?_) (fun c17 => ?_)
          · skip
            replace hw := hw.1 c17
            refine lv_iconst (v := 0) hx hb h_W_assignable_130 (by decide) ?_
            exact hend (0 : Int32) σ15 _ _ _ _ _ _ rfl hw h h_W_assignable_131
          · skip
            replace hw := hw.2 c17
            exact K_111 () z1 z2 s0 σ15 _ _ _ _ _ hw h (lv_sub hl [1, 2, 3, 0] rfl)
      · skip
        replace hw := hw.2 c13
        refine lv_iconst (v := 1) hx hb h_W_assignable_98 (by decide) ?_
        exact hend (1 : Int32) σ _ _ _ _ _ _ rfl hw h h_W_assignable_99
  have K_67 : ∀ (u9 : Unit), ∀ (z1 : Int32) (z2 : Int32) (z3 : Int32) (σ : CST) (H : Heap) (locs : List Loc) (cells slots : Nat) (ls : Array Slot), x_W_assignable_67 a0 P z1 z2 z3 σ → CH (dC, dI) A ca ({ frames := 1, cells := σ0.2.2.2.2.1, slots := σ0.2.2.2.2.2.1, locals := 22 } : Room) σ0.2.2.2.2.2.2 σ s H locs cells slots → lv_has ls 5 [(0, .ref a0), (1, .int z1), (2, .int z2), (3, .int z3)] → W p l e ({ frames := 1, cells := σ0.2.2.2.2.1, slots := σ0.2.2.2.2.2.1, locals := 22 } : Room) s m ([.ref a0, .int x1, .int x2] : List Value).toArray below meth cx H locs cells slots Q (F0 m 67 ls []) := by
    intro u9 z1 z2 z3 σ H locs cells slots ls hw h hl
    unfold x_W_assignable_67 at hw
    refine lv_iload_n hx hb h_W_assignable_67 rfl (lv_at hl 3 rfl) ?_
    refine lv_if_eq (tgt := 76) hx hb h_W_assignable_68 (by decide) (fun c18 => ?_) (fun c18 => ?_)
    · skip
      replace hw := hw.1 c18
      refine lv_bipush (v := 32) hx hb h_W_assignable_76 (by decide) ?_
      exact K_78 () z1 z2 z3 32 σ _ _ _ _ _ hw h (lv_sub hl [0, 1, 2, 3] rfl)
    · skip
      replace hw := hw.2 c18
      refine lv_bipush (v := 64) hx hb h_W_assignable_71 (by decide) ?_
      refine lv_goto (tgt := 78) hx hb h_W_assignable_73 (by decide) ?_
      exact K_78 () z1 z2 z3 64 σ _ _ _ _ _ hw h (lv_sub hl [0, 1, 2, 3] rfl)
  have K_53 : ∀ (u9 : Unit), ∀ (z1 : Int32) (z2 : Int32) (s0 : Int32) (σ : CST) (H : Heap) (locs : List Loc) (cells slots : Nat) (ls : Array Slot), x_W_assignable_53 a0 P z1 z2 s0 σ → CH (dC, dI) A ca ({ frames := 1, cells := σ0.2.2.2.2.1, slots := σ0.2.2.2.2.2.1, locals := 22 } : Room) σ0.2.2.2.2.2.2 σ s H locs cells slots → lv_has ls 5 [(0, .ref a0), (1, .int z1), (2, .int z2)] → W p l e ({ frames := 1, cells := σ0.2.2.2.2.1, slots := σ0.2.2.2.2.2.1, locals := 22 } : Room) s m ([.ref a0, .int x1, .int x2] : List Value).toArray below meth cx H locs cells slots Q (F0 m 53 ls [.int s0]) := by
    intro u9 z1 z2 s0 σ H locs cells slots ls hw h hl
    unfold x_W_assignable_53 at hw
    refine lv_istore_n (i := 3) (lv' := [(3, .int s0), (0, .ref a0), (1, .int z1), (2, .int z2)]) hx hb h_W_assignable_53 rfl hl (by decide) rfl (fun ls hl => ?_)
    refine lv_iload_n hx hb h_W_assignable_54 rfl (lv_at hl 0 rfl) ?_
    refine lv_if_ne (tgt := 67) hx hb h_W_assignable_55 (by decide) (fun c19 => ?_) (fun c19 => ?_)
    · skip
      replace hw := hw.2 c19
      exact K_67 () z1 z2 s0 σ _ _ _ _ _ hw h (lv_sub hl [1, 2, 3, 0] rfl)
    · skip
      replace hw := hw.1 c19
      refine lv_iload_n hx hb h_W_assignable_58 rfl (lv_at hl 3 rfl) ?_
      refine C_callSi (As := [.int z2]) (rest := []) C h (X_W_isObject l dC dI ca H σ z2 hw) (va_cwS 1 hts (gS hsub u_277 u_70 u_51 u_71) rfl rfl rfl (by decide +kernel) ⟨(Nat.le_of_ble_eq_true rfl), (Nat.le_of_ble_eq_true rfl)⟩) rfl hl.1 (Nat.le_of_ble_eq_true rfl) h_W_assignable_59 (fun r21 σ20 H locs cells slots hw9 h9 => ?_)
      clear hw h; have hw := hw9; have h := h9; clear hw9 h9
      refine W.eq (g2 := F0 m 62 ls [.int r21]) rfl ?_
      refine lv_if_ne (tgt := 67) hx hb h_W_assignable_62 (by decide) (fun c22 => ?_) (fun c22 => ?_)
      · skip
        replace hw := hw.2 c22
        exact K_67 () z1 z2 s0 σ20 _ _ _ _ _ hw h (lv_sub hl [1, 2, 3, 0] rfl)
      · skip
        replace hw := hw.1 c22
        refine lv_iconst (v := 0) hx hb h_W_assignable_65 (by decide) ?_
        exact hend (0 : Int32) σ20 _ _ _ _ _ _ rfl hw h h_W_assignable_66
  have K_52 : ∀ (u9 : Unit), ∀ (z1 : Int32) (z2 : Int32) (σ : CST) (H : Heap) (locs : List Loc) (cells slots : Nat) (ls : Array Slot), x_W_assignable_52 a0 P z1 z2 σ → CH (dC, dI) A ca ({ frames := 1, cells := σ0.2.2.2.2.1, slots := σ0.2.2.2.2.2.1, locals := 22 } : Room) σ0.2.2.2.2.2.2 σ s H locs cells slots → lv_has ls 5 [(0, .ref a0), (1, .int z1), (2, .int z2)] → W p l e ({ frames := 1, cells := σ0.2.2.2.2.1, slots := σ0.2.2.2.2.2.1, locals := 22 } : Room) s m ([.ref a0, .int x1, .int x2] : List Value).toArray below meth cx H locs cells slots Q (F0 m 52 ls []) := by
    intro u9 z1 z2 σ H locs cells slots ls hw h hl
    unfold x_W_assignable_52 at hw
    refine lv_iconst (v := 0) hx hb h_W_assignable_52 (by decide) ?_
    exact K_53 () z1 z2 0 σ _ _ _ _ _ hw h (lv_sub hl [0, 1, 2] rfl)
  have hl : lv_has ls 5 [(0, .ref a0), (1, .int x1), (2, .int x2)] := hl
  unfold x_W_assignable at hw
  refine lv_iload_n hx hb h_W_assignable_0 rfl (lv_at hl 2 rfl) ?_
  refine lv_if_eq (tgt := 9) hx hb h_W_assignable_1 (by decide) (fun c23 => ?_) (fun c23 => ?_)
  · skip
    replace hw := hw.1 c23
    refine lv_iconst (v := 1) hx hb h_W_assignable_9 (by decide) ?_
    exact hend (1 : Int32) σ0 _ _ _ _ _ _ rfl hw h h_W_assignable_10
  · skip
    replace hw := hw.2 c23
    refine lv_iload_n hx hb h_W_assignable_4 rfl (lv_at hl 1 rfl) ?_
    refine lv_iload_n hx hb h_W_assignable_5 rfl (lv_at hl 2 rfl) ?_
    refine lv_icmp_ne (tgt := 11) hx hb h_W_assignable_6 (by decide) (fun c24 => ?_) (fun c24 => ?_)
    · skip
      replace hw := hw.2 c24
      refine lv_iload_n hx hb h_W_assignable_11 rfl (lv_at hl 1 rfl) ?_
      refine C_callSi (As := [.int x1]) (rest := []) C h (X_W_isReference l dC dI ca s.heap σ0 x1 hw) (va_cwS 1 hts (gS hsub u_278 u_279 u_51 u_280) rfl rfl rfl (by decide +kernel) ⟨(Nat.le_of_ble_eq_true rfl), (Nat.le_of_ble_eq_true rfl)⟩) rfl hl.1 (Nat.le_of_ble_eq_true rfl) h_W_assignable_12 (fun r26 σ25 H locs cells slots hw9 h9 => ?_)
      clear hw h; have hw := hw9; have h := h9; clear hw9 h9
      refine W.eq (g2 := F0 m 15 ls [.int r26]) rfl ?_
      refine lv_if_eq (tgt := 25) hx hb h_W_assignable_15 (by decide) (fun c27 => ?_) (fun c27 => ?_)
      · skip
        replace hw := hw.1 c27
        refine lv_iconst (v := 0) hx hb h_W_assignable_25 (by decide) ?_
        exact hend (0 : Int32) σ25 _ _ _ _ _ _ rfl hw h h_W_assignable_26
      · skip
        replace hw := hw.2 c27
        refine lv_iload_n hx hb h_W_assignable_18 rfl (lv_at hl 2 rfl) ?_
        refine C_callSi (As := [.int x2]) (rest := []) C h (X_W_isReference l dC dI ca H σ25 x2 hw) (va_cwS 1 hts (gS hsub u_278 u_279 u_51 u_280) rfl rfl rfl (by decide +kernel) ⟨(Nat.le_of_ble_eq_true rfl), (Nat.le_of_ble_eq_true rfl)⟩) rfl hl.1 (Nat.le_of_ble_eq_true rfl) h_W_assignable_19 (fun r29 σ28 H locs cells slots hw9 h9 => ?_)
        clear hw h; have hw := hw9; have h := h9; clear hw9 h9
        refine W.eq (g2 := F0 m 22 ls [.int r29]) rfl ?_
        refine lv_if_ne (tgt := 27) hx hb h_W_assignable_22 (by decide) (fun c30 => ?_) (fun c30 => ?_)
        · skip
          replace hw := hw.2 c30
          refine lv_iload_n hx hb h_W_assignable_27 rfl (lv_at hl 1 rfl) ?_
          refine lv_iconst (v := 5) hx hb h_W_assignable_28 (by decide) ?_
          refine lv_icmp_ne (tgt := 34) hx hb h_W_assignable_29 (by decide) (fun c31 => ?_) (fun c31 => ?_)
          · skip
            replace hw := hw.2 c31
            refine lv_iload_n hx hb h_W_assignable_34 rfl (lv_at hl 1 rfl) ?_
            refine C_callSi (As := [.int x1]) (rest := []) C h (X_W_isClassArray l dC dI ca H σ28 x1 hw) (va_cwS 1 hts (gS hsub u_281 u_67 u_51 u_68) rfl rfl rfl (by decide +kernel) ⟨(Nat.le_of_ble_eq_true rfl), (Nat.le_of_ble_eq_true rfl)⟩) rfl hl.1 (Nat.le_of_ble_eq_true rfl) h_W_assignable_35 (fun r33 σ32 H locs cells slots hw9 h9 => ?_)
            clear hw h; have hw := hw9; have h := h9; clear hw9 h9
            refine W.eq (g2 := F0 m 38 ls [.int r33]) rfl ?_
            refine lv_if_eq (tgt := 52) hx hb h_W_assignable_38 (by decide) (fun c34 => ?_) (fun c34 => ?_)
            · skip
              replace hw := hw.1 c34
              exact K_52 () x1 x2 σ32 _ _ _ _ _ hw h (lv_sub hl [0, 1, 2] rfl)
            · skip
              replace hw := hw.2 c34
              refine lv_iload_n hx hb h_W_assignable_41 rfl (lv_at hl 2 rfl) ?_
              refine C_callSi (As := [.int x2]) (rest := []) C h (X_W_isClassArray l dC dI ca H σ32 x2 hw) (va_cwS 1 hts (gS hsub u_281 u_67 u_51 u_68) rfl rfl rfl (by decide +kernel) ⟨(Nat.le_of_ble_eq_true rfl), (Nat.le_of_ble_eq_true rfl)⟩) rfl hl.1 (Nat.le_of_ble_eq_true rfl) h_W_assignable_42 (fun r36 σ35 H locs cells slots hw9 h9 => ?_)
              clear hw h; have hw := hw9; have h := h9; clear hw9 h9
              refine W.eq (g2 := F0 m 45 ls [.int r36]) rfl ?_
              refine lv_if_eq (tgt := 52) hx hb h_W_assignable_45 (by decide) (fun c37 => ?_) (fun c37 => ?_)
              · skip
                replace hw := hw.1 c37
                exact K_52 () x1 x2 σ35 _ _ _ _ _ hw h (lv_sub hl [0, 1, 2] rfl)
              · skip
                replace hw := hw.2 c37
                refine lv_iconst (v := 1) hx hb h_W_assignable_48 (by decide) ?_
                refine lv_goto (tgt := 53) hx hb h_W_assignable_49 (by decide) ?_
                exact K_53 () x1 x2 1 σ35 _ _ _ _ _ hw h (lv_sub hl [0, 1, 2] rfl)
          · skip
            replace hw := hw.1 c31
            refine lv_iconst (v := 1) hx hb h_W_assignable_32 (by decide) ?_
            exact hend (1 : Int32) σ28 _ _ _ _ _ _ rfl hw h h_W_assignable_33
        · skip
          replace hw := hw.1 c30
          refine lv_iconst (v := 0) hx hb h_W_assignable_25 (by decide) ?_
          exact hend (0 : Int32) σ28 _ _ _ _ _ _ rfl hw h h_W_assignable_26
    · skip
      replace hw := hw.1 c24
      refine lv_iconst (v := 1) hx hb h_W_assignable_9 (by decide) ?_
      exact hend (1 : Int32) σ0 _ _ _ _ _ _ rfl hw h h_W_assignable_10
abbrev g_K_isOf : MethodName := ⟨"MapFramer$Machine", "isOf", "(II)Z"⟩
theorem u_282 : (Cond.fieldLink "MapFramer$Machine" 38 "MapFramer$Machine" "world" "LMapFramer$World;" : Cond) ∈ bigW := inB_1 147 (by decide +kernel) rfl
theorem u_283 : (Cond.methodLink "MapFramer$Machine" 113 ⟨"MapFramer$Heap", "typeOf", "(I)I"⟩ : Cond) ∈ bigW := inB_7 177 (by decide +kernel) rfl
theorem u_284 : (Cond.instanceMethod ⟨"MapFramer$Heap", "typeOf", "(I)I"⟩ : Cond) ∈ bigW := inB_7 178 (by decide +kernel) rfl
theorem u_285 : (Cond.selects "MapFramer$Heap" ⟨"MapFramer$Heap", "typeOf", "(I)I"⟩ ⟨"MapFramer$Heap", "typeOf", "(I)I"⟩ : Cond) ∈ bigW := inB_7 179 (by decide +kernel) rfl
theorem u_286 : (Cond.code ⟨"MapFramer$Heap", "typeOf", "(I)I"⟩ prog_5_method_3_code 2 (some .int) : Cond) ∈ bigW := inB_7 180 rfl rfl
theorem u_287 : (Cond.methodLink "MapFramer$Machine" 265 ⟨"MapFramer$World", "assignable", "(II)Z"⟩ : Cond) ∈ bigW := inB_7 185 (by decide +kernel) rfl
theorem u_288 : (Cond.instanceMethod ⟨"MapFramer$World", "assignable", "(II)Z"⟩ : Cond) ∈ bigW := inB_4 155 (by decide +kernel) rfl
theorem u_289 : (Cond.selects "MapFramer$World" ⟨"MapFramer$World", "assignable", "(II)Z"⟩ ⟨"MapFramer$World", "assignable", "(II)Z"⟩ : Cond) ∈ bigW := inB_4 156 (by decide +kernel) rfl
theorem u_290 : (Cond.code ⟨"MapFramer$World", "assignable", "(II)Z"⟩ prog_12_method_21_code 5 (some .boolean) : Cond) ∈ bigW := inB_4 157 rfl rfl
theorem h_K_isOf_0 : decode prog_6_method_14_code 0 = .ok (.aload_n 0, 1) := by decide +kernel
theorem h_K_isOf_1 : decode prog_6_method_14_code 1 = .ok (.getfield 38, 3) := by decide +kernel
theorem h_K_isOf_4 : decode prog_6_method_14_code 4 = .ok (.aload_n 0, 1) := by decide +kernel
theorem h_K_isOf_5 : decode prog_6_method_14_code 5 = .ok (.getfield 12, 3) := by decide +kernel
theorem h_K_isOf_8 : decode prog_6_method_14_code 8 = .ok (.iload_n 1, 1) := by decide +kernel
theorem h_K_isOf_9 : decode prog_6_method_14_code 9 = .ok (.invokevirtual 113, 3) := by decide +kernel
theorem h_K_isOf_12 : decode prog_6_method_14_code 12 = .ok (.iload_n 2, 1) := by decide +kernel
theorem h_K_isOf_13 : decode prog_6_method_14_code 13 = .ok (.invokevirtual 265, 3) := by decide +kernel
theorem h_K_isOf_16 : decode prog_6_method_14_code 16 = .ok (.ireturn, 1) := by decide +kernel
def x_K_isOf (a0 : Nat) (x1 : Int32) (x2 : Int32) (σ0 : CST) (P : Int32 → CST → Prop) : Prop := σ0.1 a0 = some (2, 0) ∧ (∀ b2 : Option Nat, b2 = (σ0.2.2.2.1 a0 3) → ∀ b3 : Option Nat, b3 = (σ0.2.2.2.1 a0 0) → (∃ r4 : Nat, b3 = some r4 ∧ (σ0.1 r4 = some (1, 0) ∧ (x_H_typeOf r4 x1 σ0 (fun r7 σ6 => (∃ r8 : Nat, b2 = some r8 ∧ (σ6.1 r8 = some (3, 0) ∧ (x_W_assignable r8 r7 x2 σ6 (fun r11 σ10 => (narrow .boolean (.int r11) = .int r11 ∧ P r11 σ10))))))))))
set_option maxHeartbeats 4000000 in
set_option maxRecDepth 100000 in
theorem X_K_isOf (l : Launch) (dC : Nat → ClassId) (dI : Nat → Nat → Nat) (ca : Nat → ClassId) (H0 : Heap) (σ0 : CST) (a0 : Nat) (x1 : Int32) (x2 : Int32) {P : Int32 → CST → Prop} (hw : x_K_isOf a0 x1 x2 σ0 P) : Met l g_K_isOf (mW g_K_isOf prog_6_method_14_code 3 (some .boolean)) ({ frames := 2, cells := σ0.2.2.2.2.1, slots := σ0.2.2.2.2.2.1, locals := 46 } : Room) (va_Pc [.ref a0, .int x1, .int x2] (CPre (dC, dI) ca σ0 H0)) (va_Qi P (CB (dC, dI) ca σ0 H0) (cA σ0 H0.size)) σ0.2.2.2.2.1 σ0.2.2.2.2.2.1 (cA σ0 H0.size) := by
  refine C_ofz (by decide +kernel) rfl rfl rfl (Nat.le_of_ble_eq_true rfl) ?_
  intro p e s m below meth cx Q A ls C hnm hend hH0 h hl
  subst hH0
  have C0 := C
  obtain ⟨⟨hx, hb, hml, hown, hts⟩, hsub⟩ := C0
  obtain ⟨cells, e_cells⟩ : ∃ z : Nat, z = 0 := ⟨_, rfl⟩
  obtain ⟨slots, e_slots⟩ : ∃ z : Nat, z = 0 := ⟨_, rfl⟩
  have h : CH (dC, dI) A ca ({ frames := 2, cells := σ0.2.2.2.2.1, slots := σ0.2.2.2.2.2.1, locals := 46 } : Room) σ0.2.2.2.2.2.2 σ0 s s.heap [] cells slots := by rw [e_cells, e_slots]; exact h
  show W p l e ({ frames := 2, cells := σ0.2.2.2.2.1, slots := σ0.2.2.2.2.2.1, locals := 46 } : Room) s m ([.ref a0, .int x1, .int x2] : List Value).toArray below meth cx s.heap [] 0 0 Q (F0 m 0 ls [])
  rw [show W p l e ({ frames := 2, cells := σ0.2.2.2.2.1, slots := σ0.2.2.2.2.2.1, locals := 46 } : Room) s m ([.ref a0, .int x1, .int x2] : List Value).toArray below meth cx s.heap [] 0 0 Q (F0 m 0 ls []) = W p l e ({ frames := 2, cells := σ0.2.2.2.2.1, slots := σ0.2.2.2.2.2.1, locals := 46 } : Room) s m ([.ref a0, .int x1, .int x2] : List Value).toArray below meth cx s.heap [] cells slots Q (F0 m 0 ls []) by rw [e_cells, e_slots]]
  have hl : lv_has ls 3 [(0, .ref a0), (1, .int x1), (2, .int x2)] := hl
  unfold x_K_isOf at hw
  refine lv_aload_n hx hb h_K_isOf_0 rfl (lv_at hl 0 rfl) ?_
  obtain ⟨g1, hw⟩ := hw
  refine C_get C h 2 3 (v := va_rf (σ0.2.2.2.1 a0 3)) g1 rfl (Cn := R_K) (T := T_K) (N := 14) rfl (by decide) rfl uw_K (by decide) u_282 (fun _ q => q) h_K_isOf_1 ?_
  refine lv_topq (fun b2 e_b2 => ?_)
  replace hw := hw b2 e_b2
  refine lv_aload_n hx hb h_K_isOf_4 rfl (lv_at hl 0 rfl) ?_
  refine C_get C h 2 0 (v := va_rf (σ0.2.2.2.1 a0 0)) g1 rfl (Cn := R_K) (T := T_K) (N := 14) rfl (by decide) rfl uw_K (by decide) u_213 (fun _ q => q) h_K_isOf_5 ?_
  refine lv_topq (fun b3 e_b3 => ?_)
  replace hw := hw b3 e_b3
  refine lv_iload_n hx hb h_K_isOf_8 rfl (lv_at hl 1 rfl) ?_
  obtain ⟨r4, e_r4, hw⟩ := hw
  subst e_r4
  have hl : lv_has ls 3 [(0, .ref a0), (1, .int x1), (2, .int x2)] := hl
  refine W.eq (g2 := F0 m 9 ls [.int x1, .ref r4, va_rf b2]) rfl ?_
  obtain ⟨g5, hw⟩ := hw
  refine C_callVi (As := [.int x1]) (rest := [va_rf b2]) C h (ci := 1) (Cn := R_H) (T := T_H) (N := 4) g5 rfl (by decide) (X_H_typeOf l dC dI ca s.heap σ0 r4 x1 hw) (cwV 1 hts (gV hsub u_283 u_284 u_285 u_197 u_286) rfl rfl rfl (by decide +kernel) ⟨(Nat.le_of_ble_eq_true rfl), (Nat.le_of_ble_eq_true rfl)⟩) rfl hl.1 (by simp only [List.map_cons, List.map_nil, List.sum_cons, List.sum_nil, cq_cat]; exact Nat.le_of_ble_eq_true rfl) h_K_isOf_9 (fun r7 σ6 H locs cells slots hw9 h9 => ?_)
  clear hw h; have hw := hw9; have h := h9; clear hw9 h9
  refine W.eq (g2 := F0 m 12 ls [.int r7, va_rf b2]) rfl ?_
  refine lv_iload_n hx hb h_K_isOf_12 rfl (lv_at hl 2 rfl) ?_
  obtain ⟨r8, e_r8, hw⟩ := hw
  subst e_r8
  have hl : lv_has ls 3 [(0, .ref a0), (1, .int x1), (2, .int x2)] := hl
  refine W.eq (g2 := F0 m 13 ls [.int x2, .int r7, .ref r8]) rfl ?_
  obtain ⟨g9, hw⟩ := hw
  refine C_callVi (As := [.int r7, .int x2]) (rest := []) C h (ci := 3) (Cn := R_W) (T := T_W) (N := 10) g9 rfl (by decide) (X_W_assignable l dC dI ca H σ6 r8 r7 x2 hw) (cwV 2 hts (gV hsub u_287 u_288 u_289 u_51 u_290) rfl rfl rfl (by decide +kernel) ⟨(Nat.le_of_ble_eq_true rfl), (Nat.le_of_ble_eq_true rfl)⟩) rfl hl.1 (Nat.le_of_ble_eq_true rfl) h_K_isOf_13 (fun r11 σ10 H locs cells slots hw9 h9 => ?_)
  clear hw h; have hw := hw9; have h := h9; clear hw9 h9
  refine W.eq (g2 := F0 m 16 ls [.int r11]) rfl ?_
  exact hend r11 σ10 _ _ _ _ _ _ hw.1 hw.2 h h_K_isOf_16
abbrev g_K_putElement : MethodName := ⟨"MapFramer$Machine", "putElement", "(I)V"⟩
theorem u_291 : (Cond.methodLink "MapFramer$Machine" 261 ⟨"MapFramer$Heap", "setValue", "(IIJ)V"⟩ : Cond) ∈ bigW := inB_7 186 (by decide +kernel) rfl
theorem u_292 : (Cond.instanceMethod ⟨"MapFramer$Heap", "setValue", "(IIJ)V"⟩ : Cond) ∈ bigW := inB_7 187 (by decide +kernel) rfl
theorem u_293 : (Cond.selects "MapFramer$Heap" ⟨"MapFramer$Heap", "setValue", "(IIJ)V"⟩ ⟨"MapFramer$Heap", "setValue", "(IIJ)V"⟩ : Cond) ∈ bigW := inB_7 188 (by decide +kernel) rfl
theorem u_294 : (Cond.code ⟨"MapFramer$Heap", "setValue", "(IIJ)V"⟩ prog_5_method_7_code 5 none : Cond) ∈ bigW := inB_7 189 rfl rfl
theorem u_295 : (Cond.methodLink "MapFramer$Machine" 258 ⟨"MapFramer$Machine", "isOf", "(II)Z"⟩ : Cond) ∈ bigW := inB_7 181 (by decide +kernel) rfl
theorem u_296 : (Cond.instanceMethod ⟨"MapFramer$Machine", "isOf", "(II)Z"⟩ : Cond) ∈ bigW := inB_7 183 (by decide +kernel) rfl
theorem u_297 : (Cond.selects "MapFramer$Machine" ⟨"MapFramer$Machine", "isOf", "(II)Z"⟩ ⟨"MapFramer$Machine", "isOf", "(II)Z"⟩ : Cond) ∈ bigW := inS (y := ⟨"MapFramer$Machine", "isOf", "(II)Z"⟩) (n := 14) (List.mem_of_getElem? (i := 59) (by decide +kernel))
theorem u_298 : (Cond.code ⟨"MapFramer$Machine", "isOf", "(II)Z"⟩ prog_6_method_14_code 3 (some .boolean) : Cond) ∈ bigW := inB_7 184 rfl rfl
theorem h_K_putElement_0 : decode prog_6_method_13_code 0 = .ok (.iload_n 1, 1) := by decide +kernel
theorem h_K_putElement_1 : decode prog_6_method_13_code 1 = .ok (.bipush 80, 2) := by decide +kernel
theorem h_K_putElement_3 : decode prog_6_method_13_code 3 = .ok (.if_icmp .ne 13, 3) := by decide +kernel
theorem h_K_putElement_6 : decode prog_6_method_13_code 6 = .ok (.aload_n 0, 1) := by decide +kernel
theorem h_K_putElement_7 : decode prog_6_method_13_code 7 = .ok (.getfield 76, 3) := by decide +kernel
theorem h_K_putElement_10 : decode prog_6_method_13_code 10 = .ok (.invokevirtual 241, 3) := by decide +kernel
theorem h_K_putElement_13 : decode prog_6_method_13_code 13 = .ok (.goto 10, 3) := by decide +kernel
theorem h_K_putElement_16 : decode prog_6_method_13_code 16 = .ok (.aload_n 0, 1) := by decide +kernel
theorem h_K_putElement_17 : decode prog_6_method_13_code 17 = .ok (.getfield 76, 3) := by decide +kernel
theorem h_K_putElement_20 : decode prog_6_method_13_code 20 = .ok (.invokevirtual 245, 3) := by decide +kernel
theorem h_K_putElement_23 : decode prog_6_method_13_code 23 = .ok (.lstore_n 2, 1) := by decide +kernel
theorem h_K_putElement_24 : decode prog_6_method_13_code 24 = .ok (.aload_n 0, 1) := by decide +kernel
theorem h_K_putElement_25 : decode prog_6_method_13_code 25 = .ok (.getfield 76, 3) := by decide +kernel
theorem h_K_putElement_28 : decode prog_6_method_13_code 28 = .ok (.invokevirtual 248, 3) := by decide +kernel
theorem h_K_putElement_31 : decode prog_6_method_13_code 31 = .ok (.istore 4, 2) := by decide +kernel
theorem h_K_putElement_33 : decode prog_6_method_13_code 33 = .ok (.aload_n 0, 1) := by decide +kernel
theorem h_K_putElement_34 : decode prog_6_method_13_code 34 = .ok (.getfield 76, 3) := by decide +kernel
theorem h_K_putElement_37 : decode prog_6_method_13_code 37 = .ok (.invokevirtual 248, 3) := by decide +kernel
theorem h_K_putElement_40 : decode prog_6_method_13_code 40 = .ok (.istore 5, 2) := by decide +kernel
theorem h_K_putElement_42 : decode prog_6_method_13_code 42 = .ok (.aload_n 0, 1) := by decide +kernel
theorem h_K_putElement_43 : decode prog_6_method_13_code 43 = .ok (.getfield 12, 3) := by decide +kernel
theorem h_K_putElement_46 : decode prog_6_method_13_code 46 = .ok (.iload 5, 2) := by decide +kernel
theorem h_K_putElement_48 : decode prog_6_method_13_code 48 = .ok (.invokevirtual 113, 3) := by decide +kernel
theorem h_K_putElement_51 : decode prog_6_method_13_code 51 = .ok (.bipush 64, 2) := by decide +kernel
theorem h_K_putElement_53 : decode prog_6_method_13_code 53 = .ok (.isub, 1) := by decide +kernel
theorem h_K_putElement_54 : decode prog_6_method_13_code 54 = .ok (.bipush 32, 2) := by decide +kernel
theorem h_K_putElement_56 : decode prog_6_method_13_code 56 = .ok (.iadd, 1) := by decide +kernel
theorem h_K_putElement_57 : decode prog_6_method_13_code 57 = .ok (.istore 6, 2) := by decide +kernel
theorem h_K_putElement_59 : decode prog_6_method_13_code 59 = .ok (.aload_n 0, 1) := by decide +kernel
theorem h_K_putElement_60 : decode prog_6_method_13_code 60 = .ok (.getfield 12, 3) := by decide +kernel
theorem h_K_putElement_63 : decode prog_6_method_13_code 63 = .ok (.iload 5, 2) := by decide +kernel
theorem h_K_putElement_65 : decode prog_6_method_13_code 65 = .ok (.iload 4, 2) := by decide +kernel
theorem h_K_putElement_67 : decode prog_6_method_13_code 67 = .ok (.invokevirtual 251, 3) := by decide +kernel
theorem h_K_putElement_70 : decode prog_6_method_13_code 70 = .ok (.ifCond .eq 20, 3) := by decide +kernel
theorem h_K_putElement_73 : decode prog_6_method_13_code 73 = .ok (.iload_n 1, 1) := by decide +kernel
theorem h_K_putElement_74 : decode prog_6_method_13_code 74 = .ok (.bipush 83, 2) := by decide +kernel
theorem h_K_putElement_76 : decode prog_6_method_13_code 76 = .ok (.if_icmp .ne 22, 3) := by decide +kernel
theorem h_K_putElement_79 : decode prog_6_method_13_code 79 = .ok (.aload_n 0, 1) := by decide +kernel
theorem h_K_putElement_80 : decode prog_6_method_13_code 80 = .ok (.lload_n 2, 1) := by decide +kernel
theorem h_K_putElement_81 : decode prog_6_method_13_code 81 = .ok (.l2i, 1) := by decide +kernel
theorem h_K_putElement_82 : decode prog_6_method_13_code 82 = .ok (.iload 6, 2) := by decide +kernel
theorem h_K_putElement_84 : decode prog_6_method_13_code 84 = .ok (.invokevirtual 258, 3) := by decide +kernel
theorem h_K_putElement_87 : decode prog_6_method_13_code 87 = .ok (.ifCond .ne 11, 3) := by decide +kernel
theorem h_K_putElement_90 : decode prog_6_method_13_code 90 = .ok (.aload_n 0, 1) := by decide +kernel
theorem h_K_putElement_91 : decode prog_6_method_13_code 91 = .ok (.iconst 1, 1) := by decide +kernel
theorem h_K_putElement_92 : decode prog_6_method_13_code 92 = .ok (.putfield 123, 3) := by decide +kernel
theorem h_K_putElement_95 : decode prog_6_method_13_code 95 = .ok (.goto 15, 3) := by decide +kernel
theorem h_K_putElement_98 : decode prog_6_method_13_code 98 = .ok (.aload_n 0, 1) := by decide +kernel
theorem h_K_putElement_99 : decode prog_6_method_13_code 99 = .ok (.getfield 12, 3) := by decide +kernel
theorem h_K_putElement_102 : decode prog_6_method_13_code 102 = .ok (.iload 5, 2) := by decide +kernel
theorem h_K_putElement_104 : decode prog_6_method_13_code 104 = .ok (.iload 4, 2) := by decide +kernel
theorem h_K_putElement_106 : decode prog_6_method_13_code 106 = .ok (.lload_n 2, 1) := by decide +kernel
theorem h_K_putElement_107 : decode prog_6_method_13_code 107 = .ok (.invokevirtual 261, 3) := by decide +kernel
theorem h_K_putElement_110 : decode prog_6_method_13_code 110 = .ok (.return_, 1) := by decide +kernel
def x_K_putElement_90 (a0 : Nat) (P : CST → Prop) (σ : CST) : Prop := σ.1 a0 = some (2, 0) ∧ (∀ σ2 : CST, σ2 = sI σ a0 7 (1 : Int32) → P σ2)
def x_K_putElement_98 (a0 : Nat) (P : CST → Prop) (z2 : Int64) (z4 : Int32) (z5 : Int32) (σ : CST) : Prop := σ.1 a0 = some (2, 0) ∧ (∀ b4 : Option Nat, b4 = (σ.2.2.2.1 a0 0) → (∃ r5 : Nat, b4 = some r5 ∧ (σ.1 r5 = some (1, 0) ∧ (x_H_setValue r5 z5 z4 z2 σ (fun σ7 => P σ7)))))
def x_K_putElement_23 (a0 : Nat) (P : CST → Prop) (z1 : Int32) (s0 : Int64) (σ : CST) : Prop := σ.1 a0 = some (2, 0) ∧ (∀ b10 : Option Nat, b10 = (σ.2.2.2.1 a0 5) → (∃ r11 : Nat, b10 = some r11 ∧ (σ.1 r11 = some (0, 0) ∧ (x_C_popInt r11 σ (fun r14 σ13 => σ13.1 a0 = some (2, 0) ∧ (∀ b16 : Option Nat, b16 = (σ13.2.2.2.1 a0 5) → (∃ r17 : Nat, b16 = some r17 ∧ (σ13.1 r17 = some (0, 0) ∧ (x_C_popInt r17 σ13 (fun r20 σ19 => σ19.1 a0 = some (2, 0) ∧ (∀ b22 : Option Nat, b22 = (σ19.2.2.2.1 a0 0) → (∃ r23 : Nat, b22 = some r23 ∧ (σ19.1 r23 = some (1, 0) ∧ (x_H_typeOf r23 r20 σ19 (fun r26 σ25 => σ25.1 a0 = some (2, 0) ∧ (∀ b28 : Option Nat, b28 = (σ25.2.2.2.1 a0 0) → (∃ r29 : Nat, b28 = some r29 ∧ (σ25.1 r29 = some (1, 0) ∧ (x_H_hasValue r29 r20 r14 σ25 (fun r32 σ31 => ((r32 = 0 → x_K_putElement_90 a0 P σ31) ∧ (¬ r32 = 0 → ((z1 = 83 → σ31.1 a0 = some (2, 0) ∧ (x_K_isOf a0 ((s0 : Int64).toInt32) ((r26 - 64) + 32) σ31 (fun r37 σ36 => ((r37 = 0 → x_K_putElement_90 a0 P σ36) ∧ (¬ r37 = 0 → x_K_putElement_98 a0 P s0 r14 r20 σ36))))) ∧ (¬ z1 = 83 → x_K_putElement_98 a0 P s0 r14 r20 σ31))))))))))))))))))))))))
def x_K_putElement (a0 : Nat) (x1 : Int32) (σ0 : CST) (P : CST → Prop) : Prop := ((x1 = 80 → σ0.1 a0 = some (2, 0) ∧ (∀ b47 : Option Nat, b47 = (σ0.2.2.2.1 a0 5) → (∃ r48 : Nat, b47 = some r48 ∧ (σ0.1 r48 = some (0, 0) ∧ (x_C_popLong r48 σ0 (fun r51 σ50 => x_K_putElement_23 a0 P x1 r51 σ50)))))) ∧ (¬ x1 = 80 → σ0.1 a0 = some (2, 0) ∧ (∀ b41 : Option Nat, b41 = (σ0.2.2.2.1 a0 5) → (∃ r42 : Nat, b41 = some r42 ∧ (σ0.1 r42 = some (0, 0) ∧ (x_C_pop r42 σ0 (fun r45 σ44 => x_K_putElement_23 a0 P x1 r45 σ44)))))))
set_option maxHeartbeats 4000000 in
set_option maxRecDepth 100000 in
theorem X_K_putElement (l : Launch) (dC : Nat → ClassId) (dI : Nat → Nat → Nat) (ca : Nat → ClassId) (H0 : Heap) (σ0 : CST) (a0 : Nat) (x1 : Int32) {P : CST → Prop} (hw : x_K_putElement a0 x1 σ0 P) : Met l g_K_putElement (mW g_K_putElement prog_6_method_13_code 7 none) ({ frames := 3, cells := σ0.2.2.2.2.1, slots := σ0.2.2.2.2.2.1, locals := 68 } : Room) (va_Pc [.ref a0, .int x1] (CPre (dC, dI) ca σ0 H0)) (va_Qv P (CB (dC, dI) ca σ0 H0) (cA σ0 H0.size)) σ0.2.2.2.2.1 σ0.2.2.2.2.2.1 (cA σ0 H0.size) := by
  refine C_ofv (by decide +kernel) rfl rfl rfl (Nat.le_of_ble_eq_true rfl) ?_
  intro p e s m below meth cx Q A ls C hnm hend hH0 h hl
  subst hH0
  have C0 := C
  obtain ⟨⟨hx, hb, hml, hown, hts⟩, hsub⟩ := C0
  obtain ⟨cells, e_cells⟩ : ∃ z : Nat, z = 0 := ⟨_, rfl⟩
  obtain ⟨slots, e_slots⟩ : ∃ z : Nat, z = 0 := ⟨_, rfl⟩
  have h : CH (dC, dI) A ca ({ frames := 3, cells := σ0.2.2.2.2.1, slots := σ0.2.2.2.2.2.1, locals := 68 } : Room) σ0.2.2.2.2.2.2 σ0 s s.heap [] cells slots := by rw [e_cells, e_slots]; exact h
  show W p l e ({ frames := 3, cells := σ0.2.2.2.2.1, slots := σ0.2.2.2.2.2.1, locals := 68 } : Room) s m ([.ref a0, .int x1] : List Value).toArray below meth cx s.heap [] 0 0 Q (F0 m 0 ls [])
  rw [show W p l e ({ frames := 3, cells := σ0.2.2.2.2.1, slots := σ0.2.2.2.2.2.1, locals := 68 } : Room) s m ([.ref a0, .int x1] : List Value).toArray below meth cx s.heap [] 0 0 Q (F0 m 0 ls []) = W p l e ({ frames := 3, cells := σ0.2.2.2.2.1, slots := σ0.2.2.2.2.2.1, locals := 68 } : Room) s m ([.ref a0, .int x1] : List Value).toArray below meth cx s.heap [] cells slots Q (F0 m 0 ls []) by rw [e_cells, e_slots]]
  have K_90 : ∀ (u9 : Unit), ∀ (σ : CST) (H : Heap) (locs : List Loc) (cells slots : Nat) (ls : Array Slot), x_K_putElement_90 a0 P σ → CH (dC, dI) A ca ({ frames := 3, cells := σ0.2.2.2.2.1, slots := σ0.2.2.2.2.2.1, locals := 68 } : Room) σ0.2.2.2.2.2.2 σ s H locs cells slots → lv_has ls 7 [(0, .ref a0)] → W p l e ({ frames := 3, cells := σ0.2.2.2.2.1, slots := σ0.2.2.2.2.2.1, locals := 68 } : Room) s m ([.ref a0, .int x1] : List Value).toArray below meth cx H locs cells slots Q (F0 m 90 ls []) := by
    intro u9  σ H locs cells slots ls hw h hl
    unfold x_K_putElement_90 at hw
    refine lv_aload_n hx hb h_K_putElement_90 rfl (lv_at hl 0 rfl) ?_
    refine lv_iconst (v := 1) hx hb h_K_putElement_91 (by decide) ?_
    obtain ⟨g1, hw⟩ := hw
    refine C_putz C h 2 7 g1 (Cn := R_K) (T := T_K) (N := 14) rfl (by decide) rfl uw_K tok_K nm_K (by decide) rfl u_255 (fun _ q => q) (Or.inl rfl) (by decide +kernel) (by decide) h_K_putElement_92 (fun H locs h => ?_)
    obtain ⟨σ2, e_σ2⟩ : ∃ z : CST, z = sI σ a0 7 (1 : Int32) := ⟨_, rfl⟩
    rw [← e_σ2] at h
    replace hw := hw σ2 e_σ2
    refine lv_goto (tgt := 110) hx hb h_K_putElement_95 (by decide) ?_
    exact hend σ2 _ _ _ _ _ _ hw h h_K_putElement_110
  have K_98 : ∀ (u9 : Unit), ∀ (z2 : Int64) (z4 : Int32) (z5 : Int32) (σ : CST) (H : Heap) (locs : List Loc) (cells slots : Nat) (ls : Array Slot), x_K_putElement_98 a0 P z2 z4 z5 σ → CH (dC, dI) A ca ({ frames := 3, cells := σ0.2.2.2.2.1, slots := σ0.2.2.2.2.2.1, locals := 68 } : Room) σ0.2.2.2.2.2.2 σ s H locs cells slots → lv_has ls 7 [(0, .ref a0), (2, .long z2), (4, .int z4), (5, .int z5)] → W p l e ({ frames := 3, cells := σ0.2.2.2.2.1, slots := σ0.2.2.2.2.2.1, locals := 68 } : Room) s m ([.ref a0, .int x1] : List Value).toArray below meth cx H locs cells slots Q (F0 m 98 ls []) := by
    intro u9 z2 z4 z5 σ H locs cells slots ls hw h hl
    unfold x_K_putElement_98 at hw
    refine lv_aload_n hx hb h_K_putElement_98 rfl (lv_at hl 0 rfl) ?_
    obtain ⟨g3, hw⟩ := hw
    refine C_get C h 2 0 (v := va_rf (σ.2.2.2.1 a0 0)) g3 rfl (Cn := R_K) (T := T_K) (N := 14) rfl (by decide) rfl uw_K (by decide) u_213 (fun _ q => q) h_K_putElement_99 ?_
    refine lv_topq (fun b4 e_b4 => ?_)
    replace hw := hw b4 e_b4
    refine lv_iload hx hb h_K_putElement_102 (lv_at hl 3 rfl) ?_
    refine lv_iload hx hb h_K_putElement_104 (lv_at hl 2 rfl) ?_
    refine lv_lload_n hx hb h_K_putElement_106 rfl (lv_at hl 1 rfl) ?_
    obtain ⟨r5, e_r5, hw⟩ := hw
    subst e_r5
    have hl : lv_has ls 7 [(0, .ref a0), (2, .long z2), (4, .int z4), (5, .int z5)] := hl
    refine W.eq (g2 := F0 m 107 ls [.long z2, .int z4, .int z5, .ref r5]) rfl ?_
    obtain ⟨g6, hw⟩ := hw
    refine C_callVv (As := [.int z5, .int z4, .long z2]) (rest := []) C h (ci := 1) (Cn := R_H) (T := T_H) (N := 4) g6 rfl (by decide) (X_H_setValue l dC dI ca H σ r5 z5 z4 z2 hw) (cwV 3 hts (gV hsub u_291 u_292 u_293 u_197 u_294) rfl rfl rfl (by decide +kernel) ⟨(Nat.le_of_ble_eq_true rfl), (Nat.le_of_ble_eq_true rfl)⟩) rfl hl.1 (Nat.le_of_ble_eq_true rfl) h_K_putElement_107 (fun σ7 H locs cells slots hw9 h9 => ?_)
    clear hw h; have hw := hw9; have h := h9; clear hw9 h9
    refine W.eq (g2 := F0 m 110 ls []) rfl ?_
    exact hend σ7 _ _ _ _ _ _ hw h h_K_putElement_110
  have K_23 : ∀ (u9 : Unit), ∀ (z1 : Int32) (s0 : Int64) (σ : CST) (H : Heap) (locs : List Loc) (cells slots : Nat) (ls : Array Slot), x_K_putElement_23 a0 P z1 s0 σ → CH (dC, dI) A ca ({ frames := 3, cells := σ0.2.2.2.2.1, slots := σ0.2.2.2.2.2.1, locals := 68 } : Room) σ0.2.2.2.2.2.2 σ s H locs cells slots → lv_has ls 7 [(0, .ref a0), (1, .int z1)] → W p l e ({ frames := 3, cells := σ0.2.2.2.2.1, slots := σ0.2.2.2.2.2.1, locals := 68 } : Room) s m ([.ref a0, .int x1] : List Value).toArray below meth cx H locs cells slots Q (F0 m 23 ls [.long s0]) := by
    intro u9 z1 s0 σ H locs cells slots ls hw h hl
    unfold x_K_putElement_23 at hw
    refine lv_lstore_n (i := 2) (lv' := [(2, .long s0), (0, .ref a0), (1, .int z1)]) hx hb h_K_putElement_23 rfl hl (by decide) rfl (fun ls hl => ?_)
    refine lv_aload_n hx hb h_K_putElement_24 rfl (lv_at hl 1 rfl) ?_
    obtain ⟨g9, hw⟩ := hw
    refine C_get C h 2 5 (v := va_rf (σ.2.2.2.1 a0 5)) g9 rfl (Cn := R_K) (T := T_K) (N := 14) rfl (by decide) rfl uw_K (by decide) u_231 (fun _ q => q) h_K_putElement_25 ?_
    refine lv_topq (fun b10 e_b10 => ?_)
    replace hw := hw b10 e_b10
    obtain ⟨r11, e_r11, hw⟩ := hw
    subst e_r11
    have hl : lv_has ls 7 [(2, .long s0), (0, .ref a0), (1, .int z1)] := hl
    refine W.eq (g2 := F0 m 28 ls [.ref r11]) rfl ?_
    obtain ⟨g12, hw⟩ := hw
    refine C_callVi (As := []) (rest := []) C h (ci := 0) (Cn := R_C) (T := T_C) (N := 5) g12 rfl (by decide) (X_C_popInt l dC dI ca H σ r11 hw) (cwV 0 hts (gV hsub u_246 u_247 u_248 u_12 u_249) rfl rfl rfl (by decide +kernel) ⟨(Nat.le_of_ble_eq_true rfl), (Nat.le_of_ble_eq_true rfl)⟩) rfl hl.1 (Nat.le_of_ble_eq_true rfl) h_K_putElement_28 (fun r14 σ13 H locs cells slots hw9 h9 => ?_)
    clear hw h; have hw := hw9; have h := h9; clear hw9 h9
    refine W.eq (g2 := F0 m 31 ls [.int r14]) rfl ?_
    refine lv_istore (lv' := [(4, .int r14), (2, .long s0), (0, .ref a0), (1, .int z1)]) hx hb h_K_putElement_31 hl (by decide) rfl (fun ls hl => ?_)
    refine lv_aload_n hx hb h_K_putElement_33 rfl (lv_at hl 2 rfl) ?_
    obtain ⟨g15, hw⟩ := hw
    refine C_get C h 2 5 (v := va_rf (σ13.2.2.2.1 a0 5)) g15 rfl (Cn := R_K) (T := T_K) (N := 14) rfl (by decide) rfl uw_K (by decide) u_231 (fun _ q => q) h_K_putElement_34 ?_
    refine lv_topq (fun b16 e_b16 => ?_)
    replace hw := hw b16 e_b16
    obtain ⟨r17, e_r17, hw⟩ := hw
    subst e_r17
    have hl : lv_has ls 7 [(4, .int r14), (2, .long s0), (0, .ref a0), (1, .int z1)] := hl
    refine W.eq (g2 := F0 m 37 ls [.ref r17]) rfl ?_
    obtain ⟨g18, hw⟩ := hw
    refine C_callVi (As := []) (rest := []) C h (ci := 0) (Cn := R_C) (T := T_C) (N := 5) g18 rfl (by decide) (X_C_popInt l dC dI ca H σ13 r17 hw) (cwV 0 hts (gV hsub u_246 u_247 u_248 u_12 u_249) rfl rfl rfl (by decide +kernel) ⟨(Nat.le_of_ble_eq_true rfl), (Nat.le_of_ble_eq_true rfl)⟩) rfl hl.1 (Nat.le_of_ble_eq_true rfl) h_K_putElement_37 (fun r20 σ19 H locs cells slots hw9 h9 => ?_)
    clear hw h; have hw := hw9; have h := h9; clear hw9 h9
    refine W.eq (g2 := F0 m 40 ls [.int r20]) rfl ?_
    refine lv_istore (lv' := [(5, .int r20), (4, .int r14), (2, .long s0), (0, .ref a0), (1, .int z1)]) hx hb h_K_putElement_40 hl (by decide) rfl (fun ls hl => ?_)
    refine lv_aload_n hx hb h_K_putElement_42 rfl (lv_at hl 3 rfl) ?_
    obtain ⟨g21, hw⟩ := hw
    refine C_get C h 2 0 (v := va_rf (σ19.2.2.2.1 a0 0)) g21 rfl (Cn := R_K) (T := T_K) (N := 14) rfl (by decide) rfl uw_K (by decide) u_213 (fun _ q => q) h_K_putElement_43 ?_
    refine lv_topq (fun b22 e_b22 => ?_)
    replace hw := hw b22 e_b22
    refine lv_iload hx hb h_K_putElement_46 (lv_at hl 0 rfl) ?_
    obtain ⟨r23, e_r23, hw⟩ := hw
    subst e_r23
    have hl : lv_has ls 7 [(5, .int r20), (4, .int r14), (2, .long s0), (0, .ref a0), (1, .int z1)] := hl
    refine W.eq (g2 := F0 m 48 ls [.int r20, .ref r23]) rfl ?_
    obtain ⟨g24, hw⟩ := hw
    refine C_callVi (As := [.int r20]) (rest := []) C h (ci := 1) (Cn := R_H) (T := T_H) (N := 4) g24 rfl (by decide) (X_H_typeOf l dC dI ca H σ19 r23 r20 hw) (cwV 1 hts (gV hsub u_283 u_284 u_285 u_197 u_286) rfl rfl rfl (by decide +kernel) ⟨(Nat.le_of_ble_eq_true rfl), (Nat.le_of_ble_eq_true rfl)⟩) rfl hl.1 (Nat.le_of_ble_eq_true rfl) h_K_putElement_48 (fun r26 σ25 H locs cells slots hw9 h9 => ?_)
    clear hw h; have hw := hw9; have h := h9; clear hw9 h9
    refine W.eq (g2 := F0 m 51 ls [.int r26]) rfl ?_
    refine lv_bipush (v := 64) hx hb h_K_putElement_51 (by decide) ?_
    refine lv_isub hx hb h_K_putElement_53 ?_
    refine lv_bipush (v := 32) hx hb h_K_putElement_54 (by decide) ?_
    refine lv_iadd hx hb h_K_putElement_56 ?_
    refine lv_istore (lv' := [(6, .int ((r26 - 64) + 32)), (5, .int r20), (4, .int r14), (2, .long s0), (0, .ref a0), (1, .int z1)]) hx hb h_K_putElement_57 hl (by decide) rfl (fun ls hl => ?_)
    refine lv_aload_n hx hb h_K_putElement_59 rfl (lv_at hl 4 rfl) ?_
    obtain ⟨g27, hw⟩ := hw
    refine C_get C h 2 0 (v := va_rf (σ25.2.2.2.1 a0 0)) g27 rfl (Cn := R_K) (T := T_K) (N := 14) rfl (by decide) rfl uw_K (by decide) u_213 (fun _ q => q) h_K_putElement_60 ?_
    refine lv_topq (fun b28 e_b28 => ?_)
    replace hw := hw b28 e_b28
    refine lv_iload hx hb h_K_putElement_63 (lv_at hl 1 rfl) ?_
    refine lv_iload hx hb h_K_putElement_65 (lv_at hl 2 rfl) ?_
    obtain ⟨r29, e_r29, hw⟩ := hw
    subst e_r29
    have hl : lv_has ls 7 [(6, .int ((r26 - 64) + 32)), (5, .int r20), (4, .int r14), (2, .long s0), (0, .ref a0), (1, .int z1)] := hl
    refine W.eq (g2 := F0 m 67 ls [.int r14, .int r20, .ref r29]) rfl ?_
    obtain ⟨g30, hw⟩ := hw
    refine C_callVi (As := [.int r20, .int r14]) (rest := []) C h (ci := 1) (Cn := R_H) (T := T_H) (N := 4) g30 rfl (by decide) (X_H_hasValue l dC dI ca H σ25 r29 r20 r14 hw) (cwV 2 hts (gV hsub u_250 u_200 u_201 u_197 u_202) rfl rfl rfl (by decide +kernel) ⟨(Nat.le_of_ble_eq_true rfl), (Nat.le_of_ble_eq_true rfl)⟩) rfl hl.1 (Nat.le_of_ble_eq_true rfl) h_K_putElement_67 (fun r32 σ31 H locs cells slots hw9 h9 => ?_)
    clear hw h; have hw := hw9; have h := h9; clear hw9 h9
    refine W.eq (g2 := F0 m 70 ls [.int r32]) rfl ?_
    refine lv_if_eq (tgt := 90) hx hb h_K_putElement_70 (by decide) (fun c33 => ?_) (fun c33 => ?_)
    · skip
      replace hw := hw.1 c33
      exact K_90 () σ31 _ _ _ _ _ hw h (lv_sub hl [4] rfl)
    · skip
      replace hw := hw.2 c33
      refine lv_iload_n hx hb h_K_putElement_73 rfl (lv_at hl 5 rfl) ?_
      refine lv_bipush (v := 83) hx hb h_K_putElement_74 (by decide) ?_
      refine lv_icmp_ne (tgt := 98) hx hb h_K_putElement_76 (by decide) (fun c34 => ?_) (fun c34 => ?_)
      · skip
        replace hw := hw.2 c34
        exact K_98 () s0 r14 r20 σ31 _ _ _ _ _ hw h (lv_sub hl [4, 3, 2, 1] rfl)
      · skip
        replace hw := hw.1 c34
        refine lv_aload_n hx hb h_K_putElement_79 rfl (lv_at hl 4 rfl) ?_
        refine lv_lload_n hx hb h_K_putElement_80 rfl (lv_at hl 3 rfl) ?_
        refine lv_l2i (v := (s0 : Int64).toInt32) hx hb h_K_putElement_81 rfl ?_
        refine lv_iload hx hb h_K_putElement_82 (lv_at hl 0 rfl) ?_
        obtain ⟨g35, hw⟩ := hw
        refine C_callVi (As := [.int ((s0 : Int64).toInt32), .int ((r26 - 64) + 32)]) (rest := []) C h (ci := 2) (Cn := R_K) (T := T_K) (N := 14) g35 rfl (by decide) (X_K_isOf l dC dI ca H σ31 a0 ((s0 : Int64).toInt32) ((r26 - 64) + 32) hw) (cwV 2 hts (gV hsub u_295 u_296 u_297 u_260 u_298) rfl rfl rfl (by decide +kernel) ⟨(Nat.le_of_ble_eq_true rfl), (Nat.le_of_ble_eq_true rfl)⟩) rfl hl.1 (Nat.le_of_ble_eq_true rfl) h_K_putElement_84 (fun r37 σ36 H locs cells slots hw9 h9 => ?_)
        clear hw h; have hw := hw9; have h := h9; clear hw9 h9
        refine W.eq (g2 := F0 m 87 ls [.int r37]) rfl ?_
        refine lv_if_ne (tgt := 98) hx hb h_K_putElement_87 (by decide) (fun c38 => ?_) (fun c38 => ?_)
        · skip
          replace hw := hw.2 c38
          exact K_98 () s0 r14 r20 σ36 _ _ _ _ _ hw h (lv_sub hl [4, 3, 2, 1] rfl)
        · skip
          replace hw := hw.1 c38
          exact K_90 () σ36 _ _ _ _ _ hw h (lv_sub hl [4] rfl)
  have hl : lv_has ls 7 [(0, .ref a0), (1, .int x1)] := hl
  unfold x_K_putElement at hw
  refine lv_iload_n hx hb h_K_putElement_0 rfl (lv_at hl 1 rfl) ?_
  refine lv_bipush (v := 80) hx hb h_K_putElement_1 (by decide) ?_
  refine lv_icmp_ne (tgt := 16) hx hb h_K_putElement_3 (by decide) (fun c39 => ?_) (fun c39 => ?_)
  · skip
    replace hw := hw.2 c39
    refine lv_aload_n hx hb h_K_putElement_16 rfl (lv_at hl 0 rfl) ?_
    obtain ⟨g40, hw⟩ := hw
    refine C_get C h 2 5 (v := va_rf (σ0.2.2.2.1 a0 5)) g40 rfl (Cn := R_K) (T := T_K) (N := 14) rfl (by decide) rfl uw_K (by decide) u_231 (fun _ q => q) h_K_putElement_17 ?_
    refine lv_topq (fun b41 e_b41 => ?_)
    replace hw := hw b41 e_b41
    obtain ⟨r42, e_r42, hw⟩ := hw
    subst e_r42
    have hl : lv_has ls 7 [(0, .ref a0), (1, .int x1)] := hl
    refine W.eq (g2 := F0 m 20 ls [.ref r42]) rfl ?_
    obtain ⟨g43, hw⟩ := hw
    refine C_callVl (As := []) (rest := []) C h (ci := 0) (Cn := R_C) (T := T_C) (N := 5) g43 rfl (by decide) (X_C_pop l dC dI ca s.heap σ0 r42 hw) (cwV 0 hts (gV hsub u_270 u_15 u_16 u_12 u_17) rfl rfl rfl (by decide +kernel) ⟨(Nat.le_of_ble_eq_true rfl), (Nat.le_of_ble_eq_true rfl)⟩) rfl hl.1 (Nat.le_of_ble_eq_true rfl) h_K_putElement_20 (fun r45 σ44 H locs cells slots hw9 h9 => ?_)
    clear hw h; have hw := hw9; have h := h9; clear hw9 h9
    refine W.eq (g2 := F0 m 23 ls [.long r45]) rfl ?_
    exact K_23 () x1 r45 σ44 _ _ _ _ _ hw h (lv_sub hl [0, 1] rfl)
  · skip
    replace hw := hw.1 c39
    refine lv_aload_n hx hb h_K_putElement_6 rfl (lv_at hl 0 rfl) ?_
    obtain ⟨g46, hw⟩ := hw
    refine C_get C h 2 5 (v := va_rf (σ0.2.2.2.1 a0 5)) g46 rfl (Cn := R_K) (T := T_K) (N := 14) rfl (by decide) rfl uw_K (by decide) u_231 (fun _ q => q) h_K_putElement_7 ?_
    refine lv_topq (fun b47 e_b47 => ?_)
    replace hw := hw b47 e_b47
    obtain ⟨r48, e_r48, hw⟩ := hw
    subst e_r48
    have hl : lv_has ls 7 [(0, .ref a0), (1, .int x1)] := hl
    refine W.eq (g2 := F0 m 10 ls [.ref r48]) rfl ?_
    obtain ⟨g49, hw⟩ := hw
    refine C_callVl (As := []) (rest := []) C h (ci := 0) (Cn := R_C) (T := T_C) (N := 5) g49 rfl (by decide) (X_C_popLong l dC dI ca s.heap σ0 r48 hw) (cwV 0 hts (gV hsub u_266 u_267 u_268 u_12 u_269) rfl rfl rfl (by decide +kernel) ⟨(Nat.le_of_ble_eq_true rfl), (Nat.le_of_ble_eq_true rfl)⟩) rfl hl.1 (Nat.le_of_ble_eq_true rfl) h_K_putElement_10 (fun r51 σ50 H locs cells slots hw9 h9 => ?_)
    clear hw h; have hw := hw9; have h := h9; clear hw9 h9
    refine W.eq (g2 := F0 m 13 ls [.long r51]) rfl ?_
    refine lv_goto (tgt := 23) hx hb h_K_putElement_13 (by decide) ?_
    exact K_23 () x1 r51 σ50 _ _ _ _ _ hw h (lv_sub hl [0, 1] rfl)
