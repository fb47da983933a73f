abbrev g_E_hasCode : MethodName := ⟨"MapFramer$Method", "hasCode", "()Z"⟩
theorem h_E_hasCode_0 : decode prog_7_method_2_code 0 = .ok (.aload_n 0, 1) := by decide +kernel
theorem h_E_hasCode_1 : decode prog_7_method_2_code 1 = .ok (.getfield 9, 3) := by decide +kernel
theorem h_E_hasCode_4 : decode prog_7_method_2_code 4 = .ok (.arraylength, 1) := by decide +kernel
theorem h_E_hasCode_5 : decode prog_7_method_2_code 5 = .ok (.ifCond .le 7, 3) := by decide +kernel
theorem h_E_hasCode_8 : decode prog_7_method_2_code 8 = .ok (.iconst 1, 1) := by decide +kernel
theorem h_E_hasCode_9 : decode prog_7_method_2_code 9 = .ok (.goto 4, 3) := by decide +kernel
theorem h_E_hasCode_12 : decode prog_7_method_2_code 12 = .ok (.iconst 0, 1) := by decide +kernel
theorem h_E_hasCode_13 : decode prog_7_method_2_code 13 = .ok (.ireturn, 1) := by decide +kernel
def x_E_hasCode (a0 : Nat) (σ0 : CST) (P : Int32 → CST → Prop) : Prop := σ0.1 a0 = some (5, 0) ∧ (∀ b2 : Option Nat, b2 = (σ0.2.2.2.1 a0 2) → (∃ r3 : Nat, b2 = some r3 ∧ ((∃ n5 : Nat, σ0.1 r3 = some (20, n5) ∧ ((((Int32.ofNat n5) ≤ 0 → P (0 : Int32) σ0) ∧ (¬ (Int32.ofNat n5) ≤ 0 → P (1 : Int32) σ0)))))))
set_option maxHeartbeats 4000000 in
set_option maxRecDepth 100000 in
theorem X_E_hasCode (l : Launch) (dC : Nat → ClassId) (dI : Nat → Nat → Nat) (ca : Nat → ClassId) (H0 : Heap) (σ0 : CST) (a0 : Nat) {P : Int32 → CST → Prop} (hw : x_E_hasCode a0 σ0 P) : Met l g_E_hasCode (mW g_E_hasCode prog_7_method_2_code 1 (some .boolean)) ({ frames := 0, cells := σ0.2.2.2.2.1, slots := σ0.2.2.2.2.2.1, locals := 0 } : Room) (va_Pc [.ref a0] (CPre (dC, dI) ca σ0 H0)) (va_Qi P (CB (dC, dI) ca σ0 H0) (cA σ0 H0.size)) σ0.2.2.2.2.1 σ0.2.2.2.2.2.1 (cA σ0 H0.size) := by
  refine C_ofz (by decide +kernel) rfl rfl rfl (Nat.le_of_ble_eq_true rfl) ?_
  intro p e s m below meth cx Q A ls C hnm hend hH0 h hl
  subst hH0
  have C0 := C
  obtain ⟨⟨hx, hb, hml, hown, hts⟩, hsub⟩ := C0
  obtain ⟨cells, e_cells⟩ : ∃ z : Nat, z = 0 := ⟨_, rfl⟩
  obtain ⟨slots, e_slots⟩ : ∃ z : Nat, z = 0 := ⟨_, rfl⟩
  have h : CH (dC, dI) A ca ({ frames := 0, cells := σ0.2.2.2.2.1, slots := σ0.2.2.2.2.2.1, locals := 0 } : Room) σ0.2.2.2.2.2.2 σ0 s s.heap [] cells slots := by rw [e_cells, e_slots]; exact h
  show W p l e ({ frames := 0, cells := σ0.2.2.2.2.1, slots := σ0.2.2.2.2.2.1, locals := 0 } : Room) s m ([.ref a0] : List Value).toArray below meth cx s.heap [] 0 0 Q (F0 m 0 ls [])
  rw [show W p l e ({ frames := 0, cells := σ0.2.2.2.2.1, slots := σ0.2.2.2.2.2.1, locals := 0 } : Room) s m ([.ref a0] : List Value).toArray below meth cx s.heap [] 0 0 Q (F0 m 0 ls []) = W p l e ({ frames := 0, cells := σ0.2.2.2.2.1, slots := σ0.2.2.2.2.2.1, locals := 0 } : Room) s m ([.ref a0] : List Value).toArray below meth cx s.heap [] cells slots Q (F0 m 0 ls []) by rw [e_cells, e_slots]]
  have hl : lv_has ls 1 [(0, .ref a0)] := hl
  unfold x_E_hasCode at hw
  refine lv_aload_n hx hb h_E_hasCode_0 rfl (lv_at hl 0 rfl) ?_
  obtain ⟨g1, hw⟩ := hw
  refine C_get C h 5 2 (v := va_rf (σ0.2.2.2.1 a0 2)) g1 rfl (Cn := R_E) (T := T_E) (N := 13) rfl (by decide) rfl uw_E (by decide) u_224 (fun _ q => q) h_E_hasCode_1 ?_
  refine lv_topq (fun b2 e_b2 => ?_)
  replace hw := hw b2 e_b2
  obtain ⟨r3, e_r3, hw⟩ := hw
  subst e_r3
  have hl : lv_has ls 1 [(0, .ref a0)] := hl
  refine W.eq (g2 := F0 m 4 ls [.ref r3]) rfl ?_
  obtain ⟨n5, g4, hw⟩ := hw
  refine C_alen C h 20 0 rfl (by decide) g4 h_E_hasCode_4 ?_
  refine lv_if_le (tgt := 12) hx hb h_E_hasCode_5 (by decide) (fun c6 => ?_) (fun c6 => ?_)
  · skip
    replace hw := hw.1 c6
    refine lv_iconst (v := 0) hx hb h_E_hasCode_12 (by decide) ?_
    exact hend (0 : Int32) σ0 _ _ _ _ _ _ rfl hw h h_E_hasCode_13
  · skip
    replace hw := hw.2 c6
    refine lv_iconst (v := 1) hx hb h_E_hasCode_8 (by decide) ?_
    refine lv_goto (tgt := 13) hx hb h_E_hasCode_9 (by decide) ?_
    exact hend (1 : Int32) σ0 _ _ _ _ _ _ rfl hw h h_E_hasCode_13
abbrev g_E_isSound : MethodName := ⟨"MapFramer$Method", "isSound", "()Z"⟩
theorem u_491 : (Cond.fieldLink "MapFramer$Method" 41 "MapFramer$Method" "verified" "Z" : Cond) ∈ bigW := inB_2 176 (by decide +kernel) rfl
theorem u_492 : (Cond.fieldLink "MapFramer$Method" 45 "MapFramer$Method" "fault" "I" : Cond) ∈ bigW := inB_2 179 (by decide +kernel) rfl
theorem h_E_isSound_0 : decode prog_7_method_3_code 0 = .ok (.aload_n 0, 1) := by decide +kernel
theorem h_E_isSound_1 : decode prog_7_method_3_code 1 = .ok (.getfield 41, 3) := by decide +kernel
theorem h_E_isSound_4 : decode prog_7_method_3_code 4 = .ok (.ifCond .eq 14, 3) := by decide +kernel
theorem h_E_isSound_7 : decode prog_7_method_3_code 7 = .ok (.aload_n 0, 1) := by decide +kernel
theorem h_E_isSound_8 : decode prog_7_method_3_code 8 = .ok (.getfield 45, 3) := by decide +kernel
theorem h_E_isSound_11 : decode prog_7_method_3_code 11 = .ok (.ifCond .ne 7, 3) := by decide +kernel
theorem h_E_isSound_14 : decode prog_7_method_3_code 14 = .ok (.iconst 1, 1) := by decide +kernel
theorem h_E_isSound_15 : decode prog_7_method_3_code 15 = .ok (.goto 4, 3) := by decide +kernel
theorem h_E_isSound_18 : decode prog_7_method_3_code 18 = .ok (.iconst 0, 1) := by decide +kernel
theorem h_E_isSound_19 : decode prog_7_method_3_code 19 = .ok (.ireturn, 1) := by decide +kernel
def x_E_isSound (a0 : Nat) (σ0 : CST) (P : Int32 → CST → Prop) : Prop := σ0.1 a0 = some (5, 0) ∧ ((((σ0.2.1 a0 6) = 0 → P (0 : Int32) σ0) ∧ (¬ (σ0.2.1 a0 6) = 0 → (((σ0.2.1 a0 7) = 0 → P (1 : Int32) σ0) ∧ (¬ (σ0.2.1 a0 7) = 0 → P (0 : Int32) σ0)))))
set_option maxHeartbeats 4000000 in
set_option maxRecDepth 100000 in
theorem X_E_isSound (l : Launch) (dC : Nat → ClassId) (dI : Nat → Nat → Nat) (ca : Nat → ClassId) (H0 : Heap) (σ0 : CST) (a0 : Nat) {P : Int32 → CST → Prop} (hw : x_E_isSound a0 σ0 P) : Met l g_E_isSound (mW g_E_isSound prog_7_method_3_code 1 (some .boolean)) ({ frames := 0, cells := σ0.2.2.2.2.1, slots := σ0.2.2.2.2.2.1, locals := 0 } : Room) (va_Pc [.ref a0] (CPre (dC, dI) ca σ0 H0)) (va_Qi P (CB (dC, dI) ca σ0 H0) (cA σ0 H0.size)) σ0.2.2.2.2.1 σ0.2.2.2.2.2.1 (cA σ0 H0.size) := by
  refine C_ofz (by decide +kernel) rfl rfl rfl (Nat.le_of_ble_eq_true rfl) ?_
  intro p e s m below meth cx Q A ls C hnm hend hH0 h hl
  subst hH0
  have C0 := C
  obtain ⟨⟨hx, hb, hml, hown, hts⟩, hsub⟩ := C0
  obtain ⟨cells, e_cells⟩ : ∃ z : Nat, z = 0 := ⟨_, rfl⟩
  obtain ⟨slots, e_slots⟩ : ∃ z : Nat, z = 0 := ⟨_, rfl⟩
  have h : CH (dC, dI) A ca ({ frames := 0, cells := σ0.2.2.2.2.1, slots := σ0.2.2.2.2.2.1, locals := 0 } : Room) σ0.2.2.2.2.2.2 σ0 s s.heap [] cells slots := by rw [e_cells, e_slots]; exact h
  show W p l e ({ frames := 0, cells := σ0.2.2.2.2.1, slots := σ0.2.2.2.2.2.1, locals := 0 } : Room) s m ([.ref a0] : List Value).toArray below meth cx s.heap [] 0 0 Q (F0 m 0 ls [])
  rw [show W p l e ({ frames := 0, cells := σ0.2.2.2.2.1, slots := σ0.2.2.2.2.2.1, locals := 0 } : Room) s m ([.ref a0] : List Value).toArray below meth cx s.heap [] 0 0 Q (F0 m 0 ls []) = W p l e ({ frames := 0, cells := σ0.2.2.2.2.1, slots := σ0.2.2.2.2.2.1, locals := 0 } : Room) s m ([.ref a0] : List Value).toArray below meth cx s.heap [] cells slots Q (F0 m 0 ls []) by rw [e_cells, e_slots]]
  have hl : lv_has ls 1 [(0, .ref a0)] := hl
  unfold x_E_isSound at hw
  refine lv_aload_n hx hb h_E_isSound_0 rfl (lv_at hl 0 rfl) ?_
  obtain ⟨g1, hw⟩ := hw
  refine C_get C h 5 6 (v := .int (σ0.2.1 a0 6)) g1 rfl (Cn := R_E) (T := T_E) (N := 13) rfl (by decide) rfl uw_E (by decide) u_491 (fun _ q => q) h_E_isSound_1 ?_
  refine lv_if_eq (tgt := 18) hx hb h_E_isSound_4 (by decide) (fun c2 => ?_) (fun c2 => ?_)
  · skip
    replace hw := hw.1 c2
    refine lv_iconst (v := 0) hx hb h_E_isSound_18 (by decide) ?_
    exact hend (0 : Int32) σ0 _ _ _ _ _ _ rfl hw h h_E_isSound_19
  · skip
    replace hw := hw.2 c2
    refine lv_aload_n hx hb h_E_isSound_7 rfl (lv_at hl 0 rfl) ?_
    refine C_get C h 5 7 (v := .int (σ0.2.1 a0 7)) g1 rfl (Cn := R_E) (T := T_E) (N := 13) rfl (by decide) rfl uw_E (by decide) u_492 (fun _ q => q) h_E_isSound_8 ?_
    refine lv_if_ne (tgt := 18) hx hb h_E_isSound_11 (by decide) (fun c3 => ?_) (fun c3 => ?_)
    · skip
      replace hw := hw.2 c3
      refine lv_iconst (v := 0) hx hb h_E_isSound_18 (by decide) ?_
      exact hend (0 : Int32) σ0 _ _ _ _ _ _ rfl hw h h_E_isSound_19
    · skip
      replace hw := hw.1 c3
      refine lv_iconst (v := 1) hx hb h_E_isSound_14 (by decide) ?_
      refine lv_goto (tgt := 19) hx hb h_E_isSound_15 (by decide) ?_
      exact hend (1 : Int32) σ0 _ _ _ _ _ _ rfl hw h h_E_isSound_19
abbrev g_E_takesReferences : MethodName := ⟨"MapFramer$Method", "takesReferences", "()Z"⟩
theorem u_493 : (Cond.methodLink "MapFramer$Method" 54 ⟨"MapFramer$World", "isReference", "(I)Z"⟩ : Cond) ∈ bigW := inB_7 79 (by decide +kernel) rfl
theorem h_E_takesReferences_0 : decode prog_7_method_5_code 0 = .ok (.aload_n 0, 1) := by decide +kernel
theorem h_E_takesReferences_1 : decode prog_7_method_5_code 1 = .ok (.getfield 35, 3) := by decide +kernel
theorem h_E_takesReferences_4 : decode prog_7_method_5_code 4 = .ok (.astore_n 1, 1) := by decide +kernel
theorem h_E_takesReferences_5 : decode prog_7_method_5_code 5 = .ok (.aload_n 1, 1) := by decide +kernel
theorem h_E_takesReferences_6 : decode prog_7_method_5_code 6 = .ok (.arraylength, 1) := by decide +kernel
theorem h_E_takesReferences_7 : decode prog_7_method_5_code 7 = .ok (.istore_n 2, 1) := by decide +kernel
theorem h_E_takesReferences_8 : decode prog_7_method_5_code 8 = .ok (.iconst 0, 1) := by decide +kernel
theorem h_E_takesReferences_9 : decode prog_7_method_5_code 9 = .ok (.istore_n 3, 1) := by decide +kernel
theorem h_E_takesReferences_10 : decode prog_7_method_5_code 10 = .ok (.iload_n 3, 1) := by decide +kernel
theorem h_E_takesReferences_11 : decode prog_7_method_5_code 11 = .ok (.iload_n 2, 1) := by decide +kernel
theorem h_E_takesReferences_12 : decode prog_7_method_5_code 12 = .ok (.if_icmp .ge 24, 3) := by decide +kernel
theorem h_E_takesReferences_15 : decode prog_7_method_5_code 15 = .ok (.aload_n 1, 1) := by decide +kernel
theorem h_E_takesReferences_16 : decode prog_7_method_5_code 16 = .ok (.iload_n 3, 1) := by decide +kernel
theorem h_E_takesReferences_17 : decode prog_7_method_5_code 17 = .ok (.iaload, 1) := by decide +kernel
theorem h_E_takesReferences_18 : decode prog_7_method_5_code 18 = .ok (.istore 4, 2) := by decide +kernel
theorem h_E_takesReferences_20 : decode prog_7_method_5_code 20 = .ok (.iload 4, 2) := by decide +kernel
theorem h_E_takesReferences_22 : decode prog_7_method_5_code 22 = .ok (.invokestatic 54, 3) := by decide +kernel
theorem h_E_takesReferences_25 : decode prog_7_method_5_code 25 = .ok (.ifCond .eq 5, 3) := by decide +kernel
theorem h_E_takesReferences_28 : decode prog_7_method_5_code 28 = .ok (.iconst 1, 1) := by decide +kernel
theorem h_E_takesReferences_29 : decode prog_7_method_5_code 29 = .ok (.ireturn, 1) := by decide +kernel
theorem h_E_takesReferences_30 : decode prog_7_method_5_code 30 = .ok (.iinc 3 1, 3) := by decide +kernel
theorem h_E_takesReferences_33 : decode prog_7_method_5_code 33 = .ok (.goto (-23), 3) := by decide +kernel
theorem h_E_takesReferences_36 : decode prog_7_method_5_code 36 = .ok (.iconst 0, 1) := by decide +kernel
theorem h_E_takesReferences_37 : decode prog_7_method_5_code 37 = .ok (.ireturn, 1) := by decide +kernel
def x_E_takesReferences_10 (a0 : Nat) (P : Int32 → CST → Prop) : Nat → Option Nat → Int32 → Int32 → CST → Prop
  | 0, _, _, _, _ => False
  | n + 1, z1, z2, z3, σ => ((z2 ≤ z3 → P (0 : Int32) σ) ∧ (¬ z2 ≤ z3 → (∃ r2 : Nat, z1 = some r2 ∧ ((∃ n4 : Nat, σ.1 r2 = some (20, n4) ∧ (vp_in z3 n4 ∧ (∀ b6 : Int32, b6 = (σ.2.1 r2 (z3 : Int32).toNatClampNeg) → x_W_isReference b6 σ (fun r8 σ7 => ((r8 = 0 → x_E_takesReferences_10 a0 P n (some r2) z2 (z3 + 1) σ7) ∧ (¬ r8 = 0 → P (1 : Int32) σ7))))))))))
def x_E_takesReferences (a0 : Nat) (σ0 : CST) (P : Int32 → CST → Prop) : Prop := σ0.1 a0 = some (5, 0) ∧ (∀ b11 : Option Nat, b11 = (σ0.2.2.2.1 a0 0) → (∃ r12 : Nat, b11 = some r12 ∧ ((∃ n14 : Nat, σ0.1 r12 = some (20, n14) ∧ ((∃ n9 : Nat, x_E_takesReferences_10 a0 P n9 (some r12) (Int32.ofNat n14) 0 σ0))))))
set_option maxHeartbeats 4000000 in
set_option maxRecDepth 100000 in
theorem X_E_takesReferences (l : Launch) (dC : Nat → ClassId) (dI : Nat → Nat → Nat) (ca : Nat → ClassId) (H0 : Heap) (σ0 : CST) (a0 : Nat) {P : Int32 → CST → Prop} (hw : x_E_takesReferences a0 σ0 P) : Met l g_E_takesReferences (mW g_E_takesReferences prog_7_method_5_code 5 (some .boolean)) ({ frames := 1, cells := σ0.2.2.2.2.1, slots := σ0.2.2.2.2.2.1, locals := 20 } : Room) (va_Pc [.ref a0] (CPre (dC, dI) ca σ0 H0)) (va_Qi P (CB (dC, dI) ca σ0 H0) (cA σ0 H0.size)) σ0.2.2.2.2.1 σ0.2.2.2.2.2.1 (cA σ0 H0.size) := by
  refine C_ofz (by decide +kernel) rfl rfl rfl (Nat.le_of_ble_eq_true rfl) ?_
  intro p e s m below meth cx Q A ls C hnm hend hH0 h hl
  subst hH0
  have C0 := C
  obtain ⟨⟨hx, hb, hml, hown, hts⟩, hsub⟩ := C0
  obtain ⟨cells, e_cells⟩ : ∃ z : Nat, z = 0 := ⟨_, rfl⟩
  obtain ⟨slots, e_slots⟩ : ∃ z : Nat, z = 0 := ⟨_, rfl⟩
  have h : CH (dC, dI) A ca ({ frames := 1, cells := σ0.2.2.2.2.1, slots := σ0.2.2.2.2.2.1, locals := 20 } : Room) σ0.2.2.2.2.2.2 σ0 s s.heap [] cells slots := by rw [e_cells, e_slots]; exact h
  show W p l e ({ frames := 1, cells := σ0.2.2.2.2.1, slots := σ0.2.2.2.2.2.1, locals := 20 } : Room) s m ([.ref a0] : List Value).toArray below meth cx s.heap [] 0 0 Q (F0 m 0 ls [])
  rw [show W p l e ({ frames := 1, cells := σ0.2.2.2.2.1, slots := σ0.2.2.2.2.2.1, locals := 20 } : Room) s m ([.ref a0] : List Value).toArray below meth cx s.heap [] 0 0 Q (F0 m 0 ls []) = W p l e ({ frames := 1, cells := σ0.2.2.2.2.1, slots := σ0.2.2.2.2.2.1, locals := 20 } : Room) s m ([.ref a0] : List Value).toArray below meth cx s.heap [] cells slots Q (F0 m 0 ls []) by rw [e_cells, e_slots]]
  have K_10 : ∀ (n : Nat), ∀ (z1 : Option Nat) (z2 : Int32) (z3 : Int32) (σ : CST) (H : Heap) (locs : List Loc) (cells slots : Nat) (ls : Array Slot), x_E_takesReferences_10 a0 P n z1 z2 z3 σ → CH (dC, dI) A ca ({ frames := 1, cells := σ0.2.2.2.2.1, slots := σ0.2.2.2.2.2.1, locals := 20 } : Room) σ0.2.2.2.2.2.2 σ s H locs cells slots → lv_has ls 5 [(1, va_rf z1), (2, .int z2), (3, .int z3)] → W p l e ({ frames := 1, cells := σ0.2.2.2.2.1, slots := σ0.2.2.2.2.2.1, locals := 20 } : Room) s m ([.ref a0] : List Value).toArray below meth cx H locs cells slots Q (F0 m 10 ls []) := by
    intro  n
    induction n with
    | zero => intro z1 z2 z3 σ H locs cells slots ls hw h hl; unfold x_E_takesReferences_10 at hw; exact hw.elim
    | succ n ih =>
      intro z1 z2 z3 σ H locs cells slots ls hw h hl
      unfold x_E_takesReferences_10 at hw
      refine lv_iload_n hx hb h_E_takesReferences_10 rfl (lv_at hl 2 rfl) ?_
      refine lv_iload_n hx hb h_E_takesReferences_11 rfl (lv_at hl 1 rfl) ?_
      refine lv_icmp_ge (tgt := 36) hx hb h_E_takesReferences_12 (by decide) (fun c1 => ?_) (fun c1 => ?_)
      · skip
        replace hw := hw.1 c1
        refine lv_iconst (v := 0) hx hb h_E_takesReferences_36 (by decide) ?_
        exact hend (0 : Int32) σ _ _ _ _ _ _ rfl hw h h_E_takesReferences_37
      · skip
        replace hw := hw.2 c1
        refine cq_aload_n hx hb h_E_takesReferences_15 rfl (lv_at hl 0 rfl) ?_
        refine lv_iload_n hx hb h_E_takesReferences_16 rfl (lv_at hl 2 rfl) ?_
        obtain ⟨r2, e_r2, hw⟩ := hw
        subst e_r2
        have hl : lv_has ls 5 [(1, .ref r2), (2, .int z2), (3, .int z3)] := hl
        refine W.eq (g2 := F0 m 17 ls [.int z3, .ref r2]) rfl ?_
        obtain ⟨n4, g3, hw⟩ := hw
        obtain ⟨g5, hw⟩ := hw
        refine C_iald C h g3 g5 h_E_takesReferences_17 ?_
        refine lv_topi (fun b6 e_b6 => ?_)
        replace hw := hw b6 e_b6
        refine lv_istore (lv' := [(4, .int b6), (1, .ref r2), (2, .int z2), (3, .int z3)]) hx hb h_E_takesReferences_18 hl (by decide) rfl (fun ls hl => ?_)
        refine lv_iload hx hb h_E_takesReferences_20 (lv_at hl 0 rfl) ?_
        refine C_callSi (As := [.int b6]) (rest := []) C h (X_W_isReference l dC dI ca H σ b6 hw) (va_cwS 1 hts (gS hsub u_493 u_279 u_51 u_280) rfl rfl rfl (by decide +kernel) ⟨(Nat.le_of_ble_eq_true rfl), (Nat.le_of_ble_eq_true rfl)⟩) rfl hl.1 (Nat.le_of_ble_eq_true rfl) h_E_takesReferences_22 (fun r8 σ7 H locs cells slots hw9 h9 => ?_)
        clear hw h; have hw := hw9; have h := h9; clear hw9 h9
        refine W.eq (g2 := F0 m 25 ls [.int r8]) rfl ?_
        refine lv_if_eq (tgt := 30) hx hb h_E_takesReferences_25 (by decide) (fun c9 => ?_) (fun c9 => ?_)
        · skip
          replace hw := hw.1 c9
          refine lv_iinc (v := (z3 + 1)) (lv' := [(3, .int (z3 + 1)), (4, .int b6), (1, .ref r2), (2, .int z2)]) hx hb h_E_takesReferences_30 hl (k := 3) rfl (rfl) (by decide) rfl (fun ls hl => ?_)
          refine lv_goto (tgt := 10) hx hb h_E_takesReferences_33 (by decide) ?_
          exact ih (some r2) z2 (z3 + 1) σ7 _ _ _ _ _ hw h (lv_sub hl [2, 3, 0] rfl)
        · skip
          replace hw := hw.2 c9
          refine lv_iconst (v := 1) hx hb h_E_takesReferences_28 (by decide) ?_
          exact hend (1 : Int32) σ7 _ _ _ _ _ _ rfl hw h h_E_takesReferences_29
  have hl : lv_has ls 5 [(0, .ref a0)] := hl
  unfold x_E_takesReferences at hw
  refine lv_aload_n hx hb h_E_takesReferences_0 rfl (lv_at hl 0 rfl) ?_
  obtain ⟨g10, hw⟩ := hw
  refine C_get C h 5 0 (v := va_rf (σ0.2.2.2.1 a0 0)) g10 rfl (Cn := R_E) (T := T_E) (N := 13) rfl (by decide) rfl uw_E (by decide) u_340 (fun _ q => q) h_E_takesReferences_1 ?_
  refine lv_topq (fun b11 e_b11 => ?_)
  replace hw := hw b11 e_b11
  refine cq_astore_n (i := 1) (lv' := [(1, va_rf b11), (0, .ref a0)]) hx hb h_E_takesReferences_4 rfl hl (by decide) rfl (fun ls hl => ?_)
  refine cq_aload_n hx hb h_E_takesReferences_5 rfl (lv_at hl 0 rfl) ?_
  obtain ⟨r12, e_r12, hw⟩ := hw
  subst e_r12
  have hl : lv_has ls 5 [(1, .ref r12), (0, .ref a0)] := hl
  refine W.eq (g2 := F0 m 6 ls [.ref r12]) rfl ?_
  obtain ⟨n14, g13, hw⟩ := hw
  refine C_alen C h 20 0 rfl (by decide) g13 h_E_takesReferences_6 ?_
  refine lv_istore_n (i := 2) (lv' := [(2, .int (Int32.ofNat n14)), (1, .ref r12), (0, .ref a0)]) hx hb h_E_takesReferences_7 rfl hl (by decide) rfl (fun ls hl => ?_)
  refine lv_iconst (v := 0) hx hb h_E_takesReferences_8 (by decide) ?_
  refine lv_istore_n (i := 3) (lv' := [(3, .int 0), (2, .int (Int32.ofNat n14)), (1, .ref r12), (0, .ref a0)]) hx hb h_E_takesReferences_9 rfl hl (by decide) rfl (fun ls hl => ?_)
  obtain ⟨n9, hw⟩ := hw
  exact K_10 n9 (some r12) (Int32.ofNat n14) 0 σ0 _ _ _ _ _ hw h (lv_sub hl [2, 1, 0] rfl)
abbrev g_E_stateAt : MethodName := ⟨"MapFramer$Method", "stateAt", "(I)LMapFramer$State;"⟩
theorem h_E_stateAt_0 : decode prog_7_method_6_code 0 = .ok (.iload_n 1, 1) := by decide +kernel
theorem h_E_stateAt_1 : decode prog_7_method_6_code 1 = .ok (.ifCond .lt 21, 3) := by decide +kernel
theorem h_E_stateAt_4 : decode prog_7_method_6_code 4 = .ok (.iload_n 1, 1) := by decide +kernel
theorem h_E_stateAt_5 : decode prog_7_method_6_code 5 = .ok (.aload_n 0, 1) := by decide +kernel
theorem h_E_stateAt_6 : decode prog_7_method_6_code 6 = .ok (.getfield 28, 3) := by decide +kernel
theorem h_E_stateAt_9 : decode prog_7_method_6_code 9 = .ok (.arraylength, 1) := by decide +kernel
theorem h_E_stateAt_10 : decode prog_7_method_6_code 10 = .ok (.if_icmp .ge 12, 3) := by decide +kernel
theorem h_E_stateAt_13 : decode prog_7_method_6_code 13 = .ok (.aload_n 0, 1) := by decide +kernel
theorem h_E_stateAt_14 : decode prog_7_method_6_code 14 = .ok (.getfield 28, 3) := by decide +kernel
theorem h_E_stateAt_17 : decode prog_7_method_6_code 17 = .ok (.iload_n 1, 1) := by decide +kernel
theorem h_E_stateAt_18 : decode prog_7_method_6_code 18 = .ok (.aaload, 1) := by decide +kernel
theorem h_E_stateAt_19 : decode prog_7_method_6_code 19 = .ok (.goto 4, 3) := by decide +kernel
theorem h_E_stateAt_22 : decode prog_7_method_6_code 22 = .ok (.aconst_null, 1) := by decide +kernel
theorem h_E_stateAt_23 : decode prog_7_method_6_code 23 = .ok (.areturn, 1) := by decide +kernel
def x_E_stateAt_23 (a0 : Nat) (P : Option Nat → CST → Prop) (s0 : Option Nat) (σ : CST) : Prop := P s0 σ
def x_E_stateAt_22 (a0 : Nat) (P : Option Nat → CST → Prop) (σ : CST) : Prop := x_E_stateAt_23 a0 P none σ
def x_E_stateAt (a0 : Nat) (x1 : Int32) (σ0 : CST) (P : Option Nat → CST → Prop) : Prop := ((x1 < 0 → x_E_stateAt_22 a0 P σ0) ∧ (¬ x1 < 0 → σ0.1 a0 = some (5, 0) ∧ (∀ b3 : Option Nat, b3 = (σ0.2.2.2.1 a0 9) → (∃ r4 : Nat, b3 = some r4 ∧ ((∃ n6 : Nat, σ0.1 r4 = some (25, n6) ∧ ((((Int32.ofNat n6) ≤ x1 → x_E_stateAt_22 a0 P σ0) ∧ (¬ (Int32.ofNat n6) ≤ x1 → ∀ b8 : Option Nat, b8 = (σ0.2.2.2.1 a0 9) → (∃ r9 : Nat, b8 = some r9 ∧ ((∃ n11 : Nat, σ0.1 r9 = some (25, n11) ∧ (vp_in x1 n11 ∧ (∀ b13 : Option Nat, b13 = (σ0.2.2.2.1 r9 (x1 : Int32).toNatClampNeg) → x_E_stateAt_23 a0 P b13 σ0))))))))))))))
set_option maxHeartbeats 4000000 in
set_option maxRecDepth 100000 in
theorem X_E_stateAt (l : Launch) (dC : Nat → ClassId) (dI : Nat → Nat → Nat) (ca : Nat → ClassId) (H0 : Heap) (σ0 : CST) (a0 : Nat) (x1 : Int32) {P : Option Nat → CST → Prop} (hw : x_E_stateAt a0 x1 σ0 P) : Met l g_E_stateAt (mW g_E_stateAt prog_7_method_6_code 2 (some (.object "MapFramer$State"))) ({ frames := 0, cells := σ0.2.2.2.2.1, slots := σ0.2.2.2.2.2.1, locals := 0 } : Room) (va_Pc [.ref a0, .int x1] (CPre (dC, dI) ca σ0 H0)) (va_Qq P (CB (dC, dI) ca σ0 H0) (cA σ0 H0.size)) σ0.2.2.2.2.1 σ0.2.2.2.2.2.1 (cA σ0 H0.size) := by
  refine C_ofq (Or.inl ⟨_, rfl⟩) (by decide +kernel) rfl rfl rfl (Nat.le_of_ble_eq_true rfl) ?_
  intro p e s m below meth cx Q A ls C hnm hend hH0 h hl
  subst hH0
  have C0 := C
  obtain ⟨⟨hx, hb, hml, hown, hts⟩, hsub⟩ := C0
  obtain ⟨cells, e_cells⟩ : ∃ z : Nat, z = 0 := ⟨_, rfl⟩
  obtain ⟨slots, e_slots⟩ : ∃ z : Nat, z = 0 := ⟨_, rfl⟩
  have h : CH (dC, dI) A ca ({ frames := 0, cells := σ0.2.2.2.2.1, slots := σ0.2.2.2.2.2.1, locals := 0 } : Room) σ0.2.2.2.2.2.2 σ0 s s.heap [] cells slots := by rw [e_cells, e_slots]; exact h
  show W p l e ({ frames := 0, cells := σ0.2.2.2.2.1, slots := σ0.2.2.2.2.2.1, locals := 0 } : Room) s m ([.ref a0, .int x1] : List Value).toArray below meth cx s.heap [] 0 0 Q (F0 m 0 ls [])
  rw [show W p l e ({ frames := 0, cells := σ0.2.2.2.2.1, slots := σ0.2.2.2.2.2.1, locals := 0 } : Room) s m ([.ref a0, .int x1] : List Value).toArray below meth cx s.heap [] 0 0 Q (F0 m 0 ls []) = W p l e ({ frames := 0, cells := σ0.2.2.2.2.1, slots := σ0.2.2.2.2.2.1, locals := 0 } : Room) s m ([.ref a0, .int x1] : List Value).toArray below meth cx s.heap [] cells slots Q (F0 m 0 ls []) by rw [e_cells, e_slots]]
  have K_23 : ∀ (u9 : Unit), ∀ (s0 : Option Nat) (σ : CST) (H : Heap) (locs : List Loc) (cells slots : Nat) (ls : Array Slot), x_E_stateAt_23 a0 P s0 σ → CH (dC, dI) A ca ({ frames := 0, cells := σ0.2.2.2.2.1, slots := σ0.2.2.2.2.2.1, locals := 0 } : Room) σ0.2.2.2.2.2.2 σ s H locs cells slots → lv_has ls 2 [] → W p l e ({ frames := 0, cells := σ0.2.2.2.2.1, slots := σ0.2.2.2.2.2.1, locals := 0 } : Room) s m ([.ref a0, .int x1] : List Value).toArray below meth cx H locs cells slots Q (F0 m 23 ls [va_rf s0]) := by
    intro u9 s0 σ H locs cells slots ls hw h hl
    unfold x_E_stateAt_23 at hw
    exact hend s0 σ _ _ _ _ _ _ hw h h_E_stateAt_23
  have K_22 : ∀ (u9 : Unit), ∀ (σ : CST) (H : Heap) (locs : List Loc) (cells slots : Nat) (ls : Array Slot), x_E_stateAt_22 a0 P σ → CH (dC, dI) A ca ({ frames := 0, cells := σ0.2.2.2.2.1, slots := σ0.2.2.2.2.2.1, locals := 0 } : Room) σ0.2.2.2.2.2.2 σ s H locs cells slots → lv_has ls 2 [] → W p l e ({ frames := 0, cells := σ0.2.2.2.2.1, slots := σ0.2.2.2.2.2.1, locals := 0 } : Room) s m ([.ref a0, .int x1] : List Value).toArray below meth cx H locs cells slots Q (F0 m 22 ls []) := by
    intro u9  σ H locs cells slots ls hw h hl
    unfold x_E_stateAt_22 at hw
    refine lv_null hx hb h_E_stateAt_22 ?_
    exact K_23 () none σ _ _ _ _ _ hw h (lv_sub hl [] rfl)
  have hl : lv_has ls 2 [(0, .ref a0), (1, .int x1)] := hl
  unfold x_E_stateAt at hw
  refine lv_iload_n hx hb h_E_stateAt_0 rfl (lv_at hl 1 rfl) ?_
  refine lv_if_lt (tgt := 22) hx hb h_E_stateAt_1 (by decide) (fun c1 => ?_) (fun c1 => ?_)
  · skip
    replace hw := hw.1 c1
    exact K_22 () σ0 _ _ _ _ _ hw h (lv_sub hl [] rfl)
  · skip
    replace hw := hw.2 c1
    refine lv_iload_n hx hb h_E_stateAt_4 rfl (lv_at hl 1 rfl) ?_
    refine lv_aload_n hx hb h_E_stateAt_5 rfl (lv_at hl 0 rfl) ?_
    obtain ⟨g2, hw⟩ := hw
    refine C_get C h 5 9 (v := va_rf (σ0.2.2.2.1 a0 9)) g2 rfl (Cn := R_E) (T := T_E) (N := 13) rfl (by decide) rfl uw_E (by decide) u_488 (fun _ q => q) h_E_stateAt_6 ?_
    refine lv_topq (fun b3 e_b3 => ?_)
    replace hw := hw b3 e_b3
    obtain ⟨r4, e_r4, hw⟩ := hw
    subst e_r4
    have hl : lv_has ls 2 [(0, .ref a0), (1, .int x1)] := hl
    refine W.eq (g2 := F0 m 9 ls [.ref r4, .int x1]) rfl ?_
    obtain ⟨n6, g5, hw⟩ := hw
    refine C_alen C h 25 4 rfl (by decide) g5 h_E_stateAt_9 ?_
    refine lv_icmp_ge (tgt := 22) hx hb h_E_stateAt_10 (by decide) (fun c7 => ?_) (fun c7 => ?_)
    · skip
      replace hw := hw.1 c7
      exact K_22 () σ0 _ _ _ _ _ hw h (lv_sub hl [] rfl)
    · skip
      replace hw := hw.2 c7
      refine lv_aload_n hx hb h_E_stateAt_13 rfl (lv_at hl 0 rfl) ?_
      refine C_get C h 5 9 (v := va_rf (σ0.2.2.2.1 a0 9)) g2 rfl (Cn := R_E) (T := T_E) (N := 13) rfl (by decide) rfl uw_E (by decide) u_488 (fun _ q => q) h_E_stateAt_14 ?_
      refine lv_topq (fun b8 e_b8 => ?_)
      replace hw := hw b8 e_b8
      refine lv_iload_n hx hb h_E_stateAt_17 rfl (lv_at hl 1 rfl) ?_
      obtain ⟨r9, e_r9, hw⟩ := hw
      subst e_r9
      have hl : lv_has ls 2 [(0, .ref a0), (1, .int x1)] := hl
      refine W.eq (g2 := F0 m 18 ls [.int x1, .ref r9]) rfl ?_
      obtain ⟨n11, g10, hw⟩ := hw
      obtain ⟨g12, hw⟩ := hw
      refine C_aald C h 25 4 rfl (by decide) g10 g12 h_E_stateAt_18 ?_
      refine lv_topq (fun b13 e_b13 => ?_)
      replace hw := hw b13 e_b13
      refine lv_goto (tgt := 23) hx hb h_E_stateAt_19 (by decide) ?_
      exact K_23 () b13 σ0 _ _ _ _ _ hw h (lv_sub hl [] rfl)
abbrev g_E_fail : MethodName := ⟨"MapFramer$Method", "fail", "(II)V"⟩
theorem h_E_fail_0 : decode prog_7_method_11_code 0 = .ok (.aload_n 0, 1) := by decide +kernel
theorem h_E_fail_1 : decode prog_7_method_11_code 1 = .ok (.getfield 45, 3) := by decide +kernel
theorem h_E_fail_4 : decode prog_7_method_11_code 4 = .ok (.ifCond .ne 13, 3) := by decide +kernel
theorem h_E_fail_7 : decode prog_7_method_11_code 7 = .ok (.aload_n 0, 1) := by decide +kernel
theorem h_E_fail_8 : decode prog_7_method_11_code 8 = .ok (.iload_n 1, 1) := by decide +kernel
theorem h_E_fail_9 : decode prog_7_method_11_code 9 = .ok (.putfield 45, 3) := by decide +kernel
theorem h_E_fail_12 : decode prog_7_method_11_code 12 = .ok (.aload_n 0, 1) := by decide +kernel
theorem h_E_fail_13 : decode prog_7_method_11_code 13 = .ok (.iload_n 2, 1) := by decide +kernel
theorem h_E_fail_14 : decode prog_7_method_11_code 14 = .ok (.putfield 22, 3) := by decide +kernel
theorem h_E_fail_17 : decode prog_7_method_11_code 17 = .ok (.return_, 1) := by decide +kernel
def x_E_fail (a0 : Nat) (x1 : Int32) (x2 : Int32) (σ0 : CST) (P : CST → Prop) : Prop := σ0.1 a0 = some (5, 0) ∧ ((((σ0.2.1 a0 7) = 0 → ∀ σ3 : CST, σ3 = sI σ0 a0 7 x1 → σ3.1 a0 = some (5, 0) ∧ (∀ σ5 : CST, σ5 = sI σ3 a0 8 x2 → P σ5)) ∧ (¬ (σ0.2.1 a0 7) = 0 → P σ0)))
set_option maxHeartbeats 4000000 in
set_option maxRecDepth 100000 in
theorem X_E_fail (l : Launch) (dC : Nat → ClassId) (dI : Nat → Nat → Nat) (ca : Nat → ClassId) (H0 : Heap) (σ0 : CST) (a0 : Nat) (x1 : Int32) (x2 : Int32) {P : CST → Prop} (hw : x_E_fail a0 x1 x2 σ0 P) : Met l g_E_fail (mW g_E_fail prog_7_method_11_code 3 none) ({ frames := 0, cells := σ0.2.2.2.2.1, slots := σ0.2.2.2.2.2.1, locals := 0 } : Room) (va_Pc [.ref a0, .int x1, .int x2] (CPre (dC, dI) ca σ0 H0)) (va_Qv P (CB (dC, dI) ca σ0 H0) (cA σ0 H0.size)) σ0.2.2.2.2.1 σ0.2.2.2.2.2.1 (cA σ0 H0.size) := by
  refine C_ofv (by decide +kernel) rfl rfl rfl (Nat.le_of_ble_eq_true rfl) ?_
  intro p e s m below meth cx Q A ls C hnm hend hH0 h hl
  subst hH0
  have C0 := C
  obtain ⟨⟨hx, hb, hml, hown, hts⟩, hsub⟩ := C0
  obtain ⟨cells, e_cells⟩ : ∃ z : Nat, z = 0 := ⟨_, rfl⟩
  obtain ⟨slots, e_slots⟩ : ∃ z : Nat, z = 0 := ⟨_, rfl⟩
  have h : CH (dC, dI) A ca ({ frames := 0, cells := σ0.2.2.2.2.1, slots := σ0.2.2.2.2.2.1, locals := 0 } : Room) σ0.2.2.2.2.2.2 σ0 s s.heap [] cells slots := by rw [e_cells, e_slots]; exact h
  show W p l e ({ frames := 0, cells := σ0.2.2.2.2.1, slots := σ0.2.2.2.2.2.1, locals := 0 } : Room) s m ([.ref a0, .int x1, .int x2] : List Value).toArray below meth cx s.heap [] 0 0 Q (F0 m 0 ls [])
  rw [show W p l e ({ frames := 0, cells := σ0.2.2.2.2.1, slots := σ0.2.2.2.2.2.1, locals := 0 } : Room) s m ([.ref a0, .int x1, .int x2] : List Value).toArray below meth cx s.heap [] 0 0 Q (F0 m 0 ls []) = W p l e ({ frames := 0, cells := σ0.2.2.2.2.1, slots := σ0.2.2.2.2.2.1, locals := 0 } : Room) s m ([.ref a0, .int x1, .int x2] : List Value).toArray below meth cx s.heap [] cells slots Q (F0 m 0 ls []) by rw [e_cells, e_slots]]
  have hl : lv_has ls 3 [(0, .ref a0), (1, .int x1), (2, .int x2)] := hl
  unfold x_E_fail at hw
  refine lv_aload_n hx hb h_E_fail_0 rfl (lv_at hl 0 rfl) ?_
  obtain ⟨g1, hw⟩ := hw
  refine C_get C h 5 7 (v := .int (σ0.2.1 a0 7)) g1 rfl (Cn := R_E) (T := T_E) (N := 13) rfl (by decide) rfl uw_E (by decide) u_492 (fun _ q => q) h_E_fail_1 ?_
  refine lv_if_ne (tgt := 17) hx hb h_E_fail_4 (by decide) (fun c2 => ?_) (fun c2 => ?_)
  · skip
    replace hw := hw.2 c2
    exact hend σ0 _ _ _ _ _ _ hw h h_E_fail_17
  · skip
    replace hw := hw.1 c2
    refine lv_aload_n hx hb h_E_fail_7 rfl (lv_at hl 0 rfl) ?_
    refine lv_iload_n hx hb h_E_fail_8 rfl (lv_at hl 1 rfl) ?_
    refine C_puti C h 5 7 g1 (Cn := R_E) (T := T_E) (N := 13) rfl (by decide) rfl uw_E tok_E nm_E (by decide) rfl u_492 (fun _ q => q) (Or.inl rfl) (by decide +kernel) h_E_fail_9 (fun H locs h => ?_)
    obtain ⟨σ3, e_σ3⟩ : ∃ z : CST, z = sI σ0 a0 7 x1 := ⟨_, rfl⟩
    rw [← e_σ3] at h
    replace hw := hw σ3 e_σ3
    refine lv_aload_n hx hb h_E_fail_12 rfl (lv_at hl 0 rfl) ?_
    refine lv_iload_n hx hb h_E_fail_13 rfl (lv_at hl 2 rfl) ?_
    obtain ⟨g4, hw⟩ := hw
    refine C_puti C h 5 8 g4 (Cn := R_E) (T := T_E) (N := 13) rfl (by decide) rfl uw_E tok_E nm_E (by decide) rfl u_486 (fun _ q => q) (Or.inl rfl) (by decide +kernel) h_E_fail_14 (fun H locs h => ?_)
    obtain ⟨σ5, e_σ5⟩ : ∃ z : CST, z = sI σ3 a0 8 x2 := ⟨_, rfl⟩
    rw [← e_σ5] at h
    replace hw := hw σ5 e_σ5
    exact hend σ5 _ _ _ _ _ _ hw h h_E_fail_17
abbrev g_Op_endsFlow : MethodName := ⟨"MapFramer$Op", "endsFlow", "(I)Z"⟩
theorem h_Op_endsFlow_0 : decode prog_8_method_4_code 0 = .ok (.iload_n 0, 1) := by decide +kernel
theorem h_Op_endsFlow_1 : decode prog_8_method_4_code 1 = .ok (.sipush 167, 3) := by decide +kernel
theorem h_Op_endsFlow_4 : decode prog_8_method_4_code 4 = .ok (.if_icmp .lt 10, 3) := by decide +kernel
theorem h_Op_endsFlow_7 : decode prog_8_method_4_code 7 = .ok (.iload_n 0, 1) := by decide +kernel
theorem h_Op_endsFlow_8 : decode prog_8_method_4_code 8 = .ok (.sipush 177, 3) := by decide +kernel
theorem h_Op_endsFlow_11 : decode prog_8_method_4_code 11 = .ok (.if_icmp .le 10, 3) := by decide +kernel
theorem h_Op_endsFlow_14 : decode prog_8_method_4_code 14 = .ok (.iload_n 0, 1) := by decide +kernel
theorem h_Op_endsFlow_15 : decode prog_8_method_4_code 15 = .ok (.sipush 191, 3) := by decide +kernel
theorem h_Op_endsFlow_18 : decode prog_8_method_4_code 18 = .ok (.if_icmp .ne 7, 3) := by decide +kernel
theorem h_Op_endsFlow_21 : decode prog_8_method_4_code 21 = .ok (.iconst 1, 1) := by decide +kernel
theorem h_Op_endsFlow_22 : decode prog_8_method_4_code 22 = .ok (.goto 4, 3) := by decide +kernel
theorem h_Op_endsFlow_25 : decode prog_8_method_4_code 25 = .ok (.iconst 0, 1) := by decide +kernel
theorem h_Op_endsFlow_26 : decode prog_8_method_4_code 26 = .ok (.ireturn, 1) := by decide +kernel
def x_Op_endsFlow_21 (P : Int32 → CST → Prop) (σ : CST) : Prop := P (1 : Int32) σ
def x_Op_endsFlow_14 (P : Int32 → CST → Prop) (z0 : Int32) (σ : CST) : Prop := ((z0 = 191 → x_Op_endsFlow_21 P σ) ∧ (¬ z0 = 191 → P (0 : Int32) σ))
def x_Op_endsFlow (x0 : Int32) (σ0 : CST) (P : Int32 → CST → Prop) : Prop := ((x0 < 167 → x_Op_endsFlow_14 P x0 σ0) ∧ (¬ x0 < 167 → ((x0 ≤ 177 → x_Op_endsFlow_21 P σ0) ∧ (¬ x0 ≤ 177 → x_Op_endsFlow_14 P x0 σ0))))
set_option maxHeartbeats 4000000 in
set_option maxRecDepth 100000 in
theorem X_Op_endsFlow (l : Launch) (dC : Nat → ClassId) (dI : Nat → Nat → Nat) (ca : Nat → ClassId) (H0 : Heap) (σ0 : CST) (x0 : Int32) {P : Int32 → CST → Prop} (hw : x_Op_endsFlow x0 σ0 P) : Met l g_Op_endsFlow (mW g_Op_endsFlow prog_8_method_4_code 1 (some .boolean)) ({ frames := 0, cells := σ0.2.2.2.2.1, slots := σ0.2.2.2.2.2.1, locals := 0 } : Room) (va_Pc [.int x0] (CPre (dC, dI) ca σ0 H0)) (va_Qi P (CB (dC, dI) ca σ0 H0) (cA σ0 H0.size)) σ0.2.2.2.2.1 σ0.2.2.2.2.2.1 (cA σ0 H0.size) := by
  refine C_ofz (by decide +kernel) rfl rfl rfl (Nat.le_of_ble_eq_true rfl) ?_
  intro p e s m below meth cx Q A ls C hnm hend hH0 h hl
  subst hH0
  have C0 := C
  obtain ⟨⟨hx, hb, hml, hown, hts⟩, hsub⟩ := C0
  obtain ⟨cells, e_cells⟩ : ∃ z : Nat, z = 0 := ⟨_, rfl⟩
  obtain ⟨slots, e_slots⟩ : ∃ z : Nat, z = 0 := ⟨_, rfl⟩
  have h : CH (dC, dI) A ca ({ frames := 0, cells := σ0.2.2.2.2.1, slots := σ0.2.2.2.2.2.1, locals := 0 } : Room) σ0.2.2.2.2.2.2 σ0 s s.heap [] cells slots := by rw [e_cells, e_slots]; exact h
  show W p l e ({ frames := 0, cells := σ0.2.2.2.2.1, slots := σ0.2.2.2.2.2.1, locals := 0 } : Room) s m ([.int x0] : List Value).toArray below meth cx s.heap [] 0 0 Q (F0 m 0 ls [])
  rw [show W p l e ({ frames := 0, cells := σ0.2.2.2.2.1, slots := σ0.2.2.2.2.2.1, locals := 0 } : Room) s m ([.int x0] : List Value).toArray below meth cx s.heap [] 0 0 Q (F0 m 0 ls []) = W p l e ({ frames := 0, cells := σ0.2.2.2.2.1, slots := σ0.2.2.2.2.2.1, locals := 0 } : Room) s m ([.int x0] : List Value).toArray below meth cx s.heap [] cells slots Q (F0 m 0 ls []) by rw [e_cells, e_slots]]
  have K_21 : ∀ (u9 : Unit), ∀ (σ : CST) (H : Heap) (locs : List Loc) (cells slots : Nat) (ls : Array Slot), x_Op_endsFlow_21 P σ → CH (dC, dI) A ca ({ frames := 0, cells := σ0.2.2.2.2.1, slots := σ0.2.2.2.2.2.1, locals := 0 } : Room) σ0.2.2.2.2.2.2 σ s H locs cells slots → lv_has ls 1 [] → W p l e ({ frames := 0, cells := σ0.2.2.2.2.1, slots := σ0.2.2.2.2.2.1, locals := 0 } : Room) s m ([.int x0] : List Value).toArray below meth cx H locs cells slots Q (F0 m 21 ls []) := by
    intro u9  σ H locs cells slots ls hw h hl
    unfold x_Op_endsFlow_21 at hw
    refine lv_iconst (v := 1) hx hb h_Op_endsFlow_21 (by decide) ?_
    refine lv_goto (tgt := 26) hx hb h_Op_endsFlow_22 (by decide) ?_
    exact hend (1 : Int32) σ _ _ _ _ _ _ rfl hw h h_Op_endsFlow_26
  have K_14 : ∀ (u9 : Unit), ∀ (z0 : Int32) (σ : CST) (H : Heap) (locs : List Loc) (cells slots : Nat) (ls : Array Slot), x_Op_endsFlow_14 P z0 σ → CH (dC, dI) A ca ({ frames := 0, cells := σ0.2.2.2.2.1, slots := σ0.2.2.2.2.2.1, locals := 0 } : Room) σ0.2.2.2.2.2.2 σ s H locs cells slots → lv_has ls 1 [(0, .int z0)] → W p l e ({ frames := 0, cells := σ0.2.2.2.2.1, slots := σ0.2.2.2.2.2.1, locals := 0 } : Room) s m ([.int x0] : List Value).toArray below meth cx H locs cells slots Q (F0 m 14 ls []) := by
    intro u9 z0 σ H locs cells slots ls hw h hl
    unfold x_Op_endsFlow_14 at hw
    refine lv_iload_n hx hb h_Op_endsFlow_14 rfl (lv_at hl 0 rfl) ?_
    refine lv_sipush (v := 191) hx hb h_Op_endsFlow_15 (by decide) ?_
    refine lv_icmp_ne (tgt := 25) hx hb h_Op_endsFlow_18 (by decide) (fun c1 => ?_) (fun c1 => ?_)
    · skip
      replace hw := hw.2 c1
      refine lv_iconst (v := 0) hx hb h_Op_endsFlow_25 (by decide) ?_
      exact hend (0 : Int32) σ _ _ _ _ _ _ rfl hw h h_Op_endsFlow_26
    · skip
      replace hw := hw.1 c1
      exact K_21 () σ _ _ _ _ _ hw h (lv_sub hl [] rfl)
  have hl : lv_has ls 1 [(0, .int x0)] := hl
  unfold x_Op_endsFlow at hw
  refine lv_iload_n hx hb h_Op_endsFlow_0 rfl (lv_at hl 0 rfl) ?_
  refine lv_sipush (v := 167) hx hb h_Op_endsFlow_1 (by decide) ?_
  refine lv_icmp_lt (tgt := 14) hx hb h_Op_endsFlow_4 (by decide) (fun c2 => ?_) (fun c2 => ?_)
  · skip
    replace hw := hw.1 c2
    exact K_14 () x0 σ0 _ _ _ _ _ hw h (lv_sub hl [0] rfl)
  · skip
    replace hw := hw.2 c2
    refine lv_iload_n hx hb h_Op_endsFlow_7 rfl (lv_at hl 0 rfl) ?_
    refine lv_sipush (v := 177) hx hb h_Op_endsFlow_8 (by decide) ?_
    refine lv_icmp_le (tgt := 21) hx hb h_Op_endsFlow_11 (by decide) (fun c3 => ?_) (fun c3 => ?_)
    · skip
      replace hw := hw.1 c3
      exact K_21 () σ0 _ _ _ _ _ hw h (lv_sub hl [] rfl)
    · skip
      replace hw := hw.2 c3
      exact K_14 () x0 σ0 _ _ _ _ _ hw h (lv_sub hl [0] rfl)
abbrev g_Op_isStore : MethodName := ⟨"MapFramer$Op", "isStore", "(I)Z"⟩
theorem h_Op_isStore_0 : decode prog_8_method_6_code 0 = .ok (.iload_n 0, 1) := by decide +kernel
theorem h_Op_isStore_1 : decode prog_8_method_6_code 1 = .ok (.bipush 54, 2) := by decide +kernel
theorem h_Op_isStore_3 : decode prog_8_method_6_code 3 = .ok (.if_icmp .eq 15, 3) := by decide +kernel
theorem h_Op_isStore_6 : decode prog_8_method_6_code 6 = .ok (.iload_n 0, 1) := by decide +kernel
theorem h_Op_isStore_7 : decode prog_8_method_6_code 7 = .ok (.bipush 55, 2) := by decide +kernel
theorem h_Op_isStore_9 : decode prog_8_method_6_code 9 = .ok (.if_icmp .eq 9, 3) := by decide +kernel
theorem h_Op_isStore_12 : decode prog_8_method_6_code 12 = .ok (.iload_n 0, 1) := by decide +kernel
theorem h_Op_isStore_13 : decode prog_8_method_6_code 13 = .ok (.bipush 58, 2) := by decide +kernel
theorem h_Op_isStore_15 : decode prog_8_method_6_code 15 = .ok (.if_icmp .ne 7, 3) := by decide +kernel
theorem h_Op_isStore_18 : decode prog_8_method_6_code 18 = .ok (.iconst 1, 1) := by decide +kernel
theorem h_Op_isStore_19 : decode prog_8_method_6_code 19 = .ok (.goto 4, 3) := by decide +kernel
theorem h_Op_isStore_22 : decode prog_8_method_6_code 22 = .ok (.iconst 0, 1) := by decide +kernel
theorem h_Op_isStore_23 : decode prog_8_method_6_code 23 = .ok (.ireturn, 1) := by decide +kernel
def x_Op_isStore_18 (P : Int32 → CST → Prop) (σ : CST) : Prop := P (1 : Int32) σ
def x_Op_isStore (x0 : Int32) (σ0 : CST) (P : Int32 → CST → Prop) : Prop := ((x0 = 54 → x_Op_isStore_18 P σ0) ∧ (¬ x0 = 54 → ((x0 = 55 → x_Op_isStore_18 P σ0) ∧ (¬ x0 = 55 → ((x0 = 58 → x_Op_isStore_18 P σ0) ∧ (¬ x0 = 58 → P (0 : Int32) σ0))))))
set_option maxHeartbeats 4000000 in
set_option maxRecDepth 100000 in
theorem X_Op_isStore (l : Launch) (dC : Nat → ClassId) (dI : Nat → Nat → Nat) (ca : Nat → ClassId) (H0 : Heap) (σ0 : CST) (x0 : Int32) {P : Int32 → CST → Prop} (hw : x_Op_isStore x0 σ0 P) : Met l g_Op_isStore (mW g_Op_isStore prog_8_method_6_code 1 (some .boolean)) ({ frames := 0, cells := σ0.2.2.2.2.1, slots := σ0.2.2.2.2.2.1, locals := 0 } : Room) (va_Pc [.int x0] (CPre (dC, dI) ca σ0 H0)) (va_Qi P (CB (dC, dI) ca σ0 H0) (cA σ0 H0.size)) σ0.2.2.2.2.1 σ0.2.2.2.2.2.1 (cA σ0 H0.size) := by
  refine C_ofz (by decide +kernel) rfl rfl rfl (Nat.le_of_ble_eq_true rfl) ?_
  intro p e s m below meth cx Q A ls C hnm hend hH0 h hl
  subst hH0
  have C0 := C
  obtain ⟨⟨hx, hb, hml, hown, hts⟩, hsub⟩ := C0
  obtain ⟨cells, e_cells⟩ : ∃ z : Nat, z = 0 := ⟨_, rfl⟩
  obtain ⟨slots, e_slots⟩ : ∃ z : Nat, z = 0 := ⟨_, rfl⟩
  have h : CH (dC, dI) A ca ({ frames := 0, cells := σ0.2.2.2.2.1, slots := σ0.2.2.2.2.2.1, locals := 0 } : Room) σ0.2.2.2.2.2.2 σ0 s s.heap [] cells slots := by rw [e_cells, e_slots]; exact h
  show W p l e ({ frames := 0, cells := σ0.2.2.2.2.1, slots := σ0.2.2.2.2.2.1, locals := 0 } : Room) s m ([.int x0] : List Value).toArray below meth cx s.heap [] 0 0 Q (F0 m 0 ls [])
  rw [show W p l e ({ frames := 0, cells := σ0.2.2.2.2.1, slots := σ0.2.2.2.2.2.1, locals := 0 } : Room) s m ([.int x0] : List Value).toArray below meth cx s.heap [] 0 0 Q (F0 m 0 ls []) = W p l e ({ frames := 0, cells := σ0.2.2.2.2.1, slots := σ0.2.2.2.2.2.1, locals := 0 } : Room) s m ([.int x0] : List Value).toArray below meth cx s.heap [] cells slots Q (F0 m 0 ls []) by rw [e_cells, e_slots]]
  have K_18 : ∀ (u9 : Unit), ∀ (σ : CST) (H : Heap) (locs : List Loc) (cells slots : Nat) (ls : Array Slot), x_Op_isStore_18 P σ → CH (dC, dI) A ca ({ frames := 0, cells := σ0.2.2.2.2.1, slots := σ0.2.2.2.2.2.1, locals := 0 } : Room) σ0.2.2.2.2.2.2 σ s H locs cells slots → lv_has ls 1 [] → W p l e ({ frames := 0, cells := σ0.2.2.2.2.1, slots := σ0.2.2.2.2.2.1, locals := 0 } : Room) s m ([.int x0] : List Value).toArray below meth cx H locs cells slots Q (F0 m 18 ls []) := by
    intro u9  σ H locs cells slots ls hw h hl
    unfold x_Op_isStore_18 at hw
    refine lv_iconst (v := 1) hx hb h_Op_isStore_18 (by decide) ?_
    refine lv_goto (tgt := 23) hx hb h_Op_isStore_19 (by decide) ?_
    exact hend (1 : Int32) σ _ _ _ _ _ _ rfl hw h h_Op_isStore_23
  have hl : lv_has ls 1 [(0, .int x0)] := hl
  unfold x_Op_isStore at hw
  refine lv_iload_n hx hb h_Op_isStore_0 rfl (lv_at hl 0 rfl) ?_
  refine lv_bipush (v := 54) hx hb h_Op_isStore_1 (by decide) ?_
  refine lv_icmp_eq (tgt := 18) hx hb h_Op_isStore_3 (by decide) (fun c1 => ?_) (fun c1 => ?_)
  · skip
    replace hw := hw.1 c1
    exact K_18 () σ0 _ _ _ _ _ hw h (lv_sub hl [] rfl)
  · skip
    replace hw := hw.2 c1
    refine lv_iload_n hx hb h_Op_isStore_6 rfl (lv_at hl 0 rfl) ?_
    refine lv_bipush (v := 55) hx hb h_Op_isStore_7 (by decide) ?_
    refine lv_icmp_eq (tgt := 18) hx hb h_Op_isStore_9 (by decide) (fun c2 => ?_) (fun c2 => ?_)
    · skip
      replace hw := hw.1 c2
      exact K_18 () σ0 _ _ _ _ _ hw h (lv_sub hl [] rfl)
    · skip
      replace hw := hw.2 c2
      refine lv_iload_n hx hb h_Op_isStore_12 rfl (lv_at hl 0 rfl) ?_
      refine lv_bipush (v := 58) hx hb h_Op_isStore_13 (by decide) ?_
      refine lv_icmp_ne (tgt := 22) hx hb h_Op_isStore_15 (by decide) (fun c3 => ?_) (fun c3 => ?_)
      · skip
        replace hw := hw.2 c3
        refine lv_iconst (v := 0) hx hb h_Op_isStore_22 (by decide) ?_
        exact hend (0 : Int32) σ0 _ _ _ _ _ _ rfl hw h h_Op_isStore_23
      · skip
        replace hw := hw.1 c3
        exact K_18 () σ0 _ _ _ _ _ hw h (lv_sub hl [] rfl)
abbrev g_St_init : MethodName := ⟨"MapFramer$State", "<init>", "(II)V"⟩
theorem u_494 : (Cond.methodLink "MapFramer$State" 1 ⟨"java/lang/Object", "<init>", "()V"⟩ : Cond) ∈ bigW := inB_3 175 (by decide +kernel) rfl
theorem u_495 : (Cond.fieldLink "MapFramer$State" 7 "MapFramer$State" "locals" "[I" : Cond) ∈ bigW := inB_3 176 (by decide +kernel) rfl
theorem u_496 : (Cond.fieldLink "MapFramer$State" 13 "MapFramer$State" "stack" "[I" : Cond) ∈ bigW := inB_3 179 (by decide +kernel) rfl
theorem h_St_init_0 : decode prog_9_method_1_code 0 = .ok (.aload_n 0, 1) := by decide +kernel
theorem h_St_init_1 : decode prog_9_method_1_code 1 = .ok (.invokespecial 1, 3) := by decide +kernel
theorem h_St_init_4 : decode prog_9_method_1_code 4 = .ok (.aload_n 0, 1) := by decide +kernel
theorem h_St_init_5 : decode prog_9_method_1_code 5 = .ok (.iload_n 1, 1) := by decide +kernel
theorem h_St_init_6 : decode prog_9_method_1_code 6 = .ok (.newarray .int, 2) := by decide +kernel
theorem h_St_init_8 : decode prog_9_method_1_code 8 = .ok (.putfield 7, 3) := by decide +kernel
theorem h_St_init_11 : decode prog_9_method_1_code 11 = .ok (.aload_n 0, 1) := by decide +kernel
theorem h_St_init_12 : decode prog_9_method_1_code 12 = .ok (.iload_n 2, 1) := by decide +kernel
theorem h_St_init_13 : decode prog_9_method_1_code 13 = .ok (.newarray .int, 2) := by decide +kernel
theorem h_St_init_15 : decode prog_9_method_1_code 15 = .ok (.putfield 13, 3) := by decide +kernel
theorem h_St_init_18 : decode prog_9_method_1_code 18 = .ok (.return_, 1) := by decide +kernel
def x_St_init (a0 : Nat) (x1 : Int32) (x2 : Int32) (σ0 : CST) (P : CST → Prop) : Prop := (¬ (x1 : Int32) < 0 ∧ (x1 : Int32).toNatClampNeg ≤ 60000000 ∧ 1 ≤ σ0.2.2.2.2.1 ∧ (x1 : Int32).toNatClampNeg ≤ σ0.2.2.2.2.2.1 ∧ ∀ q1 : Nat, σ0.1 q1 = none → q1 ≠ σ0.2.2.2.2.2.2.1 → ∀ σ7 : CST, σ7 = nw σ0 q1 20 (x1 : Int32).toNatClampNeg (x1 : Int32).toNatClampNeg → σ7.1 a0 = some (8, 0) ∧ (∀ σ9 : CST, σ9 = sR σ7 a0 0 (some q1) → (¬ (x2 : Int32) < 0 ∧ (x2 : Int32).toNatClampNeg ≤ 60000000 ∧ 1 ≤ σ9.2.2.2.2.1 ∧ (x2 : Int32).toNatClampNeg ≤ σ9.2.2.2.2.2.1 ∧ ∀ q10 : Nat, σ9.1 q10 = none → q10 ≠ σ9.2.2.2.2.2.2.1 → ∀ σ16 : CST, σ16 = nw σ9 q10 20 (x2 : Int32).toNatClampNeg (x2 : Int32).toNatClampNeg → σ16.1 a0 = some (8, 0) ∧ (∀ σ18 : CST, σ18 = sR σ16 a0 1 (some q10) → P σ18))))
set_option maxHeartbeats 4000000 in
set_option maxRecDepth 100000 in
theorem X_St_init (l : Launch) (dC : Nat → ClassId) (dI : Nat → Nat → Nat) (ca : Nat → ClassId) (H0 : Heap) (σ0 : CST) (a0 : Nat) (x1 : Int32) (x2 : Int32) {P : CST → Prop} (hw : x_St_init a0 x1 x2 σ0 P) : Met l g_St_init (mW g_St_init prog_9_method_1_code 3 none) ({ frames := 1, cells := σ0.2.2.2.2.1, slots := σ0.2.2.2.2.2.1, locals := 12 } : Room) (va_Pc [.ref a0, .int x1, .int x2] (CPre (dC, dI) ca σ0 H0)) (va_Qv P (CB (dC, dI) ca σ0 H0) (cA σ0 H0.size)) σ0.2.2.2.2.1 σ0.2.2.2.2.2.1 (cA σ0 H0.size) := by
  refine C_ofv (by decide +kernel) rfl rfl rfl (Nat.le_of_ble_eq_true rfl) ?_
  intro p e s m below meth cx Q A ls C hnm hend hH0 h hl
  subst hH0
  have C0 := C
  obtain ⟨⟨hx, hb, hml, hown, hts⟩, hsub⟩ := C0
  obtain ⟨cells, e_cells⟩ : ∃ z : Nat, z = 0 := ⟨_, rfl⟩
  obtain ⟨slots, e_slots⟩ : ∃ z : Nat, z = 0 := ⟨_, rfl⟩
  have h : CH (dC, dI) A ca ({ frames := 1, cells := σ0.2.2.2.2.1, slots := σ0.2.2.2.2.2.1, locals := 12 } : Room) σ0.2.2.2.2.2.2 σ0 s s.heap [] cells slots := by rw [e_cells, e_slots]; exact h
  show W p l e ({ frames := 1, cells := σ0.2.2.2.2.1, slots := σ0.2.2.2.2.2.1, locals := 12 } : Room) s m ([.ref a0, .int x1, .int x2] : List Value).toArray below meth cx s.heap [] 0 0 Q (F0 m 0 ls [])
  rw [show W p l e ({ frames := 1, cells := σ0.2.2.2.2.1, slots := σ0.2.2.2.2.2.1, locals := 12 } : Room) s m ([.ref a0, .int x1, .int x2] : List Value).toArray below meth cx s.heap [] 0 0 Q (F0 m 0 ls []) = W p l e ({ frames := 1, cells := σ0.2.2.2.2.1, slots := σ0.2.2.2.2.2.1, locals := 12 } : Room) s m ([.ref a0, .int x1, .int x2] : List Value).toArray below meth cx s.heap [] cells slots Q (F0 m 0 ls []) by rw [e_cells, e_slots]]
  have hl : lv_has ls 3 [(0, .ref a0), (1, .int x1), (2, .int x2)] := hl
  unfold x_St_init at hw
  refine lv_aload_n hx hb h_St_init_0 rfl (lv_at hl 0 rfl) ?_
  refine W.objInit hx hb hown (hts _ (hsub _ u_494)) (hts _ (hsub _ u_1)) (hts _ (hsub _ u_2)) rfl (by rw [hml]; exact hl.1) rfl h_St_init_1 (Nat.le_of_ble_eq_true rfl) (Nat.le_of_ble_eq_true rfl) ?_
  refine W.eq (g2 := F0 m 4 ls []) rfl ?_
  refine lv_aload_n hx hb h_St_init_4 rfl (lv_at hl 0 rfl) ?_
  refine lv_iload_n hx hb h_St_init_5 rfl (lv_at hl 1 rfl) ?_
  obtain ⟨g5, g6, g2, g3, hw⟩ := hw
  refine C_newai C h u_19 g5 rfl g6 g2 g3 h_St_init_6 (fun q1 H g4 hz9 h => ?_)
  replace hw := hw q1 g4 hz9
  obtain ⟨σ7, e_σ7⟩ : ∃ z : CST, z = nw σ0 q1 20 (x1 : Int32).toNatClampNeg (x1 : Int32).toNatClampNeg := ⟨_, rfl⟩
  rw [← e_σ7] at h
  replace hw := hw σ7 e_σ7
  generalize cells + 1 = cells at h ⊢
  generalize slots + (x1 : Int32).toNatClampNeg = slots at h ⊢
  obtain ⟨g8, hw⟩ := hw
  refine C_putr C h 8 0 (v := (some q1)) (ty := (.array .int)) g8 (Cn := R_St) (T := T_St) (N := 4) rfl (by decide) rfl uw_St tok_St nm_St (by decide) rfl u_495 (fun _ q => q) (Or.inr ⟨rfl, hnm, rfl⟩) (by decide +kernel) ck_a h_St_init_8 (fun H locs h => ?_)
  obtain ⟨σ9, e_σ9⟩ : ∃ z : CST, z = sR σ7 a0 0 (some q1) := ⟨_, rfl⟩
  rw [← e_σ9] at h
  replace hw := hw σ9 e_σ9
  refine lv_aload_n hx hb h_St_init_11 rfl (lv_at hl 0 rfl) ?_
  refine lv_iload_n hx hb h_St_init_12 rfl (lv_at hl 2 rfl) ?_
  obtain ⟨g14, g15, g11, g12, hw⟩ := hw
  refine C_newai C h u_19 g14 rfl g15 g11 g12 h_St_init_13 (fun q10 H g13 hz9 h => ?_)
  replace hw := hw q10 g13 hz9
  obtain ⟨σ16, e_σ16⟩ : ∃ z : CST, z = nw σ9 q10 20 (x2 : Int32).toNatClampNeg (x2 : Int32).toNatClampNeg := ⟨_, rfl⟩
  rw [← e_σ16] at h
  replace hw := hw σ16 e_σ16
  generalize cells + 1 = cells at h ⊢
  generalize slots + (x2 : Int32).toNatClampNeg = slots at h ⊢
  obtain ⟨g17, hw⟩ := hw
  refine C_putr C h 8 1 (v := (some q10)) (ty := (.array .int)) g17 (Cn := R_St) (T := T_St) (N := 4) rfl (by decide) rfl uw_St tok_St nm_St (by decide) rfl u_496 (fun _ q => q) (Or.inr ⟨rfl, hnm, rfl⟩) (by decide +kernel) ck_a h_St_init_15 (fun H locs h => ?_)
  obtain ⟨σ18, e_σ18⟩ : ∃ z : CST, z = sR σ16 a0 1 (some q10) := ⟨_, rfl⟩
  rw [← e_σ18] at h
  replace hw := hw σ18 e_σ18
  exact hend σ18 _ _ _ _ _ _ hw h h_St_init_18
abbrev g_St_copyLocals : MethodName := ⟨"MapFramer$State", "copyLocals", "(LMapFramer$State;)V"⟩
theorem u_497 : (Cond.methodLink "MapFramer$State" 20 ⟨"java/lang/Math", "min", "(II)I"⟩ : Cond) ∈ bigW := inB_4 84 (by decide +kernel) rfl
theorem u_498 : (Cond.methodLink "MapFramer$State" 26 ⟨"java/lang/System", "arraycopy", "(Ljava/lang/Object;ILjava/lang/Object;II)V"⟩ : Cond) ∈ bigW := inB_4 85 (by decide +kernel) rfl
theorem h_St_copyLocals_0 : decode prog_9_method_3_code 0 = .ok (.aload_n 1, 1) := by decide +kernel
theorem h_St_copyLocals_1 : decode prog_9_method_3_code 1 = .ok (.getfield 7, 3) := by decide +kernel
theorem h_St_copyLocals_4 : decode prog_9_method_3_code 4 = .ok (.iconst 0, 1) := by decide +kernel
theorem h_St_copyLocals_5 : decode prog_9_method_3_code 5 = .ok (.aload_n 0, 1) := by decide +kernel
theorem h_St_copyLocals_6 : decode prog_9_method_3_code 6 = .ok (.getfield 7, 3) := by decide +kernel
theorem h_St_copyLocals_9 : decode prog_9_method_3_code 9 = .ok (.iconst 0, 1) := by decide +kernel
theorem h_St_copyLocals_10 : decode prog_9_method_3_code 10 = .ok (.aload_n 1, 1) := by decide +kernel
theorem h_St_copyLocals_11 : decode prog_9_method_3_code 11 = .ok (.getfield 7, 3) := by decide +kernel
theorem h_St_copyLocals_14 : decode prog_9_method_3_code 14 = .ok (.arraylength, 1) := by decide +kernel
theorem h_St_copyLocals_15 : decode prog_9_method_3_code 15 = .ok (.aload_n 0, 1) := by decide +kernel
theorem h_St_copyLocals_16 : decode prog_9_method_3_code 16 = .ok (.getfield 7, 3) := by decide +kernel
theorem h_St_copyLocals_19 : decode prog_9_method_3_code 19 = .ok (.arraylength, 1) := by decide +kernel
theorem h_St_copyLocals_20 : decode prog_9_method_3_code 20 = .ok (.invokestatic 20, 3) := by decide +kernel
theorem h_St_copyLocals_23 : decode prog_9_method_3_code 23 = .ok (.invokestatic 26, 3) := by decide +kernel
theorem h_St_copyLocals_26 : decode prog_9_method_3_code 26 = .ok (.return_, 1) := by decide +kernel
def x_St_copyLocals (a0 : Nat) (a1 : Nat) (σ0 : CST) (P : CST → Prop) : Prop := σ0.1 a1 = some (8, 0) ∧ (∀ b2 : Option Nat, b2 = (σ0.2.2.2.1 a1 0) → σ0.1 a0 = some (8, 0) ∧ (∀ b4 : Option Nat, b4 = (σ0.2.2.2.1 a0 0) → ∀ b5 : Option Nat, b5 = (σ0.2.2.2.1 a1 0) → (∃ r6 : Nat, b5 = some r6 ∧ ((∃ n8 : Nat, σ0.1 r6 = some (20, n8) ∧ (∀ b9 : Option Nat, b9 = (σ0.2.2.2.1 a0 0) → (∃ r10 : Nat, b9 = some r10 ∧ ((∃ n12 : Nat, σ0.1 r10 = some (20, n12) ∧ (x_BMath_min (Int32.ofNat n8) (Int32.ofNat n12) σ0 (fun r14 σ13 => (∃ r15 : Nat, b2 = some r15 ∧ ((∃ r16 : Nat, b4 = some r16 ∧ ((∃ n18 : Nat, σ13.1 r15 = some (20, n18) ∧ ((∃ n20 : Nat, σ13.1 r16 = some (20, n20) ∧ ((¬ (0 : Int32) < 0 ∧ ¬ (0 : Int32) < 0 ∧ ¬ (r14 : Int32) < 0 ∧ (0 : Int32).toNatClampNeg + (r14 : Int32).toNatClampNeg ≤ n18 ∧ (0 : Int32).toNatClampNeg + (r14 : Int32).toNatClampNeg ≤ n20 ∧ ∀ σ26 : CST, σ26 = sA σ13 r16 (va_cpy (σ13.2.1 r15) (σ13.2.1 r16) (0 : Int32).toNatClampNeg (0 : Int32).toNatClampNeg (r14 : Int32).toNatClampNeg) → P σ26))))))))))))))))))))
set_option maxHeartbeats 4000000 in
set_option maxRecDepth 100000 in
theorem X_St_copyLocals (l : Launch) (dC : Nat → ClassId) (dI : Nat → Nat → Nat) (ca : Nat → ClassId) (H0 : Heap) (σ0 : CST) (a0 : Nat) (a1 : Nat) {P : CST → Prop} (hw : x_St_copyLocals a0 a1 σ0 P) : Met l g_St_copyLocals (mW g_St_copyLocals prog_9_method_3_code 2 none) ({ frames := 1, cells := σ0.2.2.2.2.1, slots := σ0.2.2.2.2.2.1, locals := 100 } : Room) (va_Pc [.ref a0, .ref a1] (CPre (dC, dI) ca σ0 H0)) (va_Qv P (CB (dC, dI) ca σ0 H0) (cA σ0 H0.size)) σ0.2.2.2.2.1 σ0.2.2.2.2.2.1 (cA σ0 H0.size) := by
  refine C_ofv (by decide +kernel) rfl rfl rfl (Nat.le_of_ble_eq_true rfl) ?_
  intro p e s m below meth cx Q A ls C hnm hend hH0 h hl
  subst hH0
  have C0 := C
  obtain ⟨⟨hx, hb, hml, hown, hts⟩, hsub⟩ := C0
  obtain ⟨cells, e_cells⟩ : ∃ z : Nat, z = 0 := ⟨_, rfl⟩
  obtain ⟨slots, e_slots⟩ : ∃ z : Nat, z = 0 := ⟨_, rfl⟩
  have h : CH (dC, dI) A ca ({ frames := 1, cells := σ0.2.2.2.2.1, slots := σ0.2.2.2.2.2.1, locals := 100 } : Room) σ0.2.2.2.2.2.2 σ0 s s.heap [] cells slots := by rw [e_cells, e_slots]; exact h
  show W p l e ({ frames := 1, cells := σ0.2.2.2.2.1, slots := σ0.2.2.2.2.2.1, locals := 100 } : Room) s m ([.ref a0, .ref a1] : List Value).toArray below meth cx s.heap [] 0 0 Q (F0 m 0 ls [])
  rw [show W p l e ({ frames := 1, cells := σ0.2.2.2.2.1, slots := σ0.2.2.2.2.2.1, locals := 100 } : Room) s m ([.ref a0, .ref a1] : List Value).toArray below meth cx s.heap [] 0 0 Q (F0 m 0 ls []) = W p l e ({ frames := 1, cells := σ0.2.2.2.2.1, slots := σ0.2.2.2.2.2.1, locals := 100 } : Room) s m ([.ref a0, .ref a1] : List Value).toArray below meth cx s.heap [] cells slots Q (F0 m 0 ls []) by rw [e_cells, e_slots]]
  have hl : lv_has ls 2 [(0, .ref a0), (1, .ref a1)] := hl
  unfold x_St_copyLocals at hw
  refine lv_aload_n hx hb h_St_copyLocals_0 rfl (lv_at hl 1 rfl) ?_
  obtain ⟨g1, hw⟩ := hw
  refine C_get C h 8 0 (v := va_rf (σ0.2.2.2.1 a1 0)) g1 rfl (Cn := R_St) (T := T_St) (N := 4) rfl (by decide) rfl uw_St (by decide) u_495 (fun _ q => q) h_St_copyLocals_1 ?_
  refine lv_topq (fun b2 e_b2 => ?_)
  replace hw := hw b2 e_b2
  refine lv_iconst (v := 0) hx hb h_St_copyLocals_4 (by decide) ?_
  refine lv_aload_n hx hb h_St_copyLocals_5 rfl (lv_at hl 0 rfl) ?_
  obtain ⟨g3, hw⟩ := hw
  refine C_get C h 8 0 (v := va_rf (σ0.2.2.2.1 a0 0)) g3 rfl (Cn := R_St) (T := T_St) (N := 4) rfl (by decide) rfl uw_St (by decide) u_495 (fun _ q => q) h_St_copyLocals_6 ?_
  refine lv_topq (fun b4 e_b4 => ?_)
  replace hw := hw b4 e_b4
  refine lv_iconst (v := 0) hx hb h_St_copyLocals_9 (by decide) ?_
  refine lv_aload_n hx hb h_St_copyLocals_10 rfl (lv_at hl 1 rfl) ?_
  refine C_get C h 8 0 (v := va_rf (σ0.2.2.2.1 a1 0)) g1 rfl (Cn := R_St) (T := T_St) (N := 4) rfl (by decide) rfl uw_St (by decide) u_495 (fun _ q => q) h_St_copyLocals_11 ?_
  refine lv_topq (fun b5 e_b5 => ?_)
  replace hw := hw b5 e_b5
  obtain ⟨r6, e_r6, hw⟩ := hw
  subst e_r6
  have hl : lv_has ls 2 [(0, .ref a0), (1, .ref a1)] := hl
  refine W.eq (g2 := F0 m 14 ls [.ref r6, .int 0, va_rf b4, .int 0, va_rf b2]) rfl ?_
  obtain ⟨n8, g7, hw⟩ := hw
  refine C_alen C h 20 0 rfl (by decide) g7 h_St_copyLocals_14 ?_
  refine lv_aload_n hx hb h_St_copyLocals_15 rfl (lv_at hl 0 rfl) ?_
  refine C_get C h 8 0 (v := va_rf (σ0.2.2.2.1 a0 0)) g3 rfl (Cn := R_St) (T := T_St) (N := 4) rfl (by decide) rfl uw_St (by decide) u_495 (fun _ q => q) h_St_copyLocals_16 ?_
  refine lv_topq (fun b9 e_b9 => ?_)
  replace hw := hw b9 e_b9
  obtain ⟨r10, e_r10, hw⟩ := hw
  subst e_r10
  have hl : lv_has ls 2 [(0, .ref a0), (1, .ref a1)] := hl
  refine W.eq (g2 := F0 m 19 ls [.ref r10, .int (Int32.ofNat n8), .int 0, va_rf b4, .int 0, va_rf b2]) rfl ?_
  obtain ⟨n12, g11, hw⟩ := hw
  refine C_alen C h 20 0 rfl (by decide) g11 h_St_copyLocals_19 ?_
  refine C_callSi (As := [.int (Int32.ofNat n8), .int (Int32.ofNat n12)]) (rest := [.int 0, va_rf b4, .int 0, va_rf b2]) C h (X_BMath_min l dC dI ca s.heap σ0 (Int32.ofNat n8) (Int32.ofNat n12) hw) (va_cwS 2 hts (gS hsub u_497 u_27 u_28 u_29) rfl rfl rfl (by decide +kernel) ⟨(Nat.le_of_ble_eq_true rfl), (Nat.le_of_ble_eq_true rfl)⟩) rfl hl.1 (by simp only [List.map_cons, List.map_nil, List.sum_cons, List.sum_nil, cq_cat]; exact Nat.le_of_ble_eq_true rfl) h_St_copyLocals_20 (fun r14 σ13 H locs cells slots hw9 h9 => ?_)
  clear hw h; have hw := hw9; have h := h9; clear hw9 h9
  refine W.eq (g2 := F0 m 23 ls [.int r14, .int 0, va_rf b4, .int 0, va_rf b2]) rfl ?_
  obtain ⟨r15, e_r15, hw⟩ := hw
  subst e_r15
  have hl : lv_has ls 2 [(0, .ref a0), (1, .ref a1)] := hl
  refine W.eq (g2 := F0 m 23 ls [.int r14, .int 0, va_rf b4, .int 0, .ref r15]) rfl ?_
  obtain ⟨r16, e_r16, hw⟩ := hw
  subst e_r16
  have hl : lv_has ls 2 [(0, .ref a0), (1, .ref a1)] := hl
  refine W.eq (g2 := F0 m 23 ls [.int r14, .int 0, .ref r16, .int 0, .ref r15]) rfl ?_
  obtain ⟨n18, g17, hw⟩ := hw
  obtain ⟨n20, g19, hw⟩ := hw
  obtain ⟨g21, g22, g23, g24, g25, hw⟩ := hw
  refine C_copyi C h hl.1 u_498 u_32 u_33 u_34 g17 g19 g21 g22 g23 g24 g25 (Nat.le_of_ble_eq_true rfl) (Nat.le_of_ble_eq_true rfl) h_St_copyLocals_23 (fun H locs h => ?_)
  obtain ⟨σ26, e_σ26⟩ : ∃ z : CST, z = sA σ13 r16 (va_cpy (σ13.2.1 r15) (σ13.2.1 r16) (0 : Int32).toNatClampNeg (0 : Int32).toNatClampNeg (r14 : Int32).toNatClampNeg) := ⟨_, rfl⟩
  rw [← e_σ26] at h
  replace hw := hw σ26 e_σ26
  exact hend σ26 _ _ _ _ _ _ hw h h_St_copyLocals_26
abbrev g_St_copy : MethodName := ⟨"MapFramer$State", "copy", "(LMapFramer$State;)V"⟩
theorem u_499 : (Cond.methodLink "MapFramer$State" 16 ⟨"MapFramer$State", "copyLocals", "(LMapFramer$State;)V"⟩ : Cond) ∈ bigW := inB_4 80 (by decide +kernel) rfl
theorem u_500 : (Cond.instanceMethod ⟨"MapFramer$State", "copyLocals", "(LMapFramer$State;)V"⟩ : Cond) ∈ bigW := inB_4 81 (by decide +kernel) rfl
theorem u_501 : (Cond.selects "MapFramer$State" ⟨"MapFramer$State", "copyLocals", "(LMapFramer$State;)V"⟩ ⟨"MapFramer$State", "copyLocals", "(LMapFramer$State;)V"⟩ : Cond) ∈ bigW := inB_4 82 (by decide +kernel) rfl
theorem u_502 : (Cond.initialized "MapFramer$State" : Cond) ∈ bigW := inB_1 23 (by decide +kernel) rfl
theorem u_503 : (Cond.code ⟨"MapFramer$State", "copyLocals", "(LMapFramer$State;)V"⟩ prog_9_method_3_code 2 none : Cond) ∈ bigW := inB_4 83 rfl rfl
theorem u_504 : (Cond.fieldLink "MapFramer$State" 32 "MapFramer$State" "size" "I" : Cond) ∈ bigW := inB_3 182 (by decide +kernel) rfl
theorem u_505 : (Cond.fieldLink "MapFramer$State" 36 "MapFramer$State" "words" "I" : Cond) ∈ bigW := inB_3 185 (by decide +kernel) rfl
theorem h_St_copy_0 : decode prog_9_method_2_code 0 = .ok (.aload_n 0, 1) := by decide +kernel
theorem h_St_copy_1 : decode prog_9_method_2_code 1 = .ok (.aload_n 1, 1) := by decide +kernel
theorem h_St_copy_2 : decode prog_9_method_2_code 2 = .ok (.invokevirtual 16, 3) := by decide +kernel
theorem h_St_copy_5 : decode prog_9_method_2_code 5 = .ok (.aload_n 1, 1) := by decide +kernel
theorem h_St_copy_6 : decode prog_9_method_2_code 6 = .ok (.getfield 13, 3) := by decide +kernel
theorem h_St_copy_9 : decode prog_9_method_2_code 9 = .ok (.iconst 0, 1) := by decide +kernel
theorem h_St_copy_10 : decode prog_9_method_2_code 10 = .ok (.aload_n 0, 1) := by decide +kernel
theorem h_St_copy_11 : decode prog_9_method_2_code 11 = .ok (.getfield 13, 3) := by decide +kernel
theorem h_St_copy_14 : decode prog_9_method_2_code 14 = .ok (.iconst 0, 1) := by decide +kernel
theorem h_St_copy_15 : decode prog_9_method_2_code 15 = .ok (.aload_n 1, 1) := by decide +kernel
theorem h_St_copy_16 : decode prog_9_method_2_code 16 = .ok (.getfield 13, 3) := by decide +kernel
theorem h_St_copy_19 : decode prog_9_method_2_code 19 = .ok (.arraylength, 1) := by decide +kernel
theorem h_St_copy_20 : decode prog_9_method_2_code 20 = .ok (.aload_n 0, 1) := by decide +kernel
theorem h_St_copy_21 : decode prog_9_method_2_code 21 = .ok (.getfield 13, 3) := by decide +kernel
theorem h_St_copy_24 : decode prog_9_method_2_code 24 = .ok (.arraylength, 1) := by decide +kernel
theorem h_St_copy_25 : decode prog_9_method_2_code 25 = .ok (.invokestatic 20, 3) := by decide +kernel
theorem h_St_copy_28 : decode prog_9_method_2_code 28 = .ok (.invokestatic 26, 3) := by decide +kernel
theorem h_St_copy_31 : decode prog_9_method_2_code 31 = .ok (.aload_n 0, 1) := by decide +kernel
theorem h_St_copy_32 : decode prog_9_method_2_code 32 = .ok (.aload_n 1, 1) := by decide +kernel
theorem h_St_copy_33 : decode prog_9_method_2_code 33 = .ok (.getfield 32, 3) := by decide +kernel
theorem h_St_copy_36 : decode prog_9_method_2_code 36 = .ok (.putfield 32, 3) := by decide +kernel
theorem h_St_copy_39 : decode prog_9_method_2_code 39 = .ok (.aload_n 0, 1) := by decide +kernel
theorem h_St_copy_40 : decode prog_9_method_2_code 40 = .ok (.aload_n 1, 1) := by decide +kernel
theorem h_St_copy_41 : decode prog_9_method_2_code 41 = .ok (.getfield 36, 3) := by decide +kernel
theorem h_St_copy_44 : decode prog_9_method_2_code 44 = .ok (.putfield 36, 3) := by decide +kernel
theorem h_St_copy_47 : decode prog_9_method_2_code 47 = .ok (.return_, 1) := by decide +kernel
def x_St_copy (a0 : Nat) (a1 : Nat) (σ0 : CST) (P : CST → Prop) : Prop := σ0.1 a0 = some (8, 0) ∧ (x_St_copyLocals a0 a1 σ0 (fun σ2 => σ2.1 a1 = some (8, 0) ∧ (∀ b5 : Option Nat, b5 = (σ2.2.2.2.1 a1 1) → σ2.1 a0 = some (8, 0) ∧ (∀ b7 : Option Nat, b7 = (σ2.2.2.2.1 a0 1) → ∀ b8 : Option Nat, b8 = (σ2.2.2.2.1 a1 1) → (∃ r9 : Nat, b8 = some r9 ∧ ((∃ n11 : Nat, σ2.1 r9 = some (20, n11) ∧ (∀ b12 : Option Nat, b12 = (σ2.2.2.2.1 a0 1) → (∃ r13 : Nat, b12 = some r13 ∧ ((∃ n15 : Nat, σ2.1 r13 = some (20, n15) ∧ (x_BMath_min (Int32.ofNat n11) (Int32.ofNat n15) σ2 (fun r17 σ16 => (∃ r18 : Nat, b5 = some r18 ∧ ((∃ r19 : Nat, b7 = some r19 ∧ ((∃ n21 : Nat, σ16.1 r18 = some (20, n21) ∧ ((∃ n23 : Nat, σ16.1 r19 = some (20, n23) ∧ ((¬ (0 : Int32) < 0 ∧ ¬ (0 : Int32) < 0 ∧ ¬ (r17 : Int32) < 0 ∧ (0 : Int32).toNatClampNeg + (r17 : Int32).toNatClampNeg ≤ n21 ∧ (0 : Int32).toNatClampNeg + (r17 : Int32).toNatClampNeg ≤ n23 ∧ ∀ σ29 : CST, σ29 = sA σ16 r19 (va_cpy (σ16.2.1 r18) (σ16.2.1 r19) (0 : Int32).toNatClampNeg (0 : Int32).toNatClampNeg (r17 : Int32).toNatClampNeg) → σ29.1 a1 = some (8, 0) ∧ (σ29.1 a0 = some (8, 0) ∧ (∀ σ32 : CST, σ32 = sI σ29 a0 2 (σ29.2.1 a1 2) → σ32.1 a1 = some (8, 0) ∧ (σ32.1 a0 = some (8, 0) ∧ (∀ σ35 : CST, σ35 = sI σ32 a0 3 (σ32.2.1 a1 3) → P σ35))))))))))))))))))))))))))
set_option maxHeartbeats 4000000 in
set_option maxRecDepth 100000 in
theorem X_St_copy (l : Launch) (dC : Nat → ClassId) (dI : Nat → Nat → Nat) (ca : Nat → ClassId) (H0 : Heap) (σ0 : CST) (a0 : Nat) (a1 : Nat) {P : CST → Prop} (hw : x_St_copy a0 a1 σ0 P) : Met l g_St_copy (mW g_St_copy prog_9_method_2_code 2 none) ({ frames := 2, cells := σ0.2.2.2.2.1, slots := σ0.2.2.2.2.2.1, locals := 121 } : Room) (va_Pc [.ref a0, .ref a1] (CPre (dC, dI) ca σ0 H0)) (va_Qv P (CB (dC, dI) ca σ0 H0) (cA σ0 H0.size)) σ0.2.2.2.2.1 σ0.2.2.2.2.2.1 (cA σ0 H0.size) := by
  refine C_ofv (by decide +kernel) rfl rfl rfl (Nat.le_of_ble_eq_true rfl) ?_
  intro p e s m below meth cx Q A ls C hnm hend hH0 h hl
  subst hH0
  have C0 := C
  obtain ⟨⟨hx, hb, hml, hown, hts⟩, hsub⟩ := C0
  obtain ⟨cells, e_cells⟩ : ∃ z : Nat, z = 0 := ⟨_, rfl⟩
  obtain ⟨slots, e_slots⟩ : ∃ z : Nat, z = 0 := ⟨_, rfl⟩
  have h : CH (dC, dI) A ca ({ frames := 2, cells := σ0.2.2.2.2.1, slots := σ0.2.2.2.2.2.1, locals := 121 } : Room) σ0.2.2.2.2.2.2 σ0 s s.heap [] cells slots := by rw [e_cells, e_slots]; exact h
  show W p l e ({ frames := 2, cells := σ0.2.2.2.2.1, slots := σ0.2.2.2.2.2.1, locals := 121 } : Room) s m ([.ref a0, .ref a1] : List Value).toArray below meth cx s.heap [] 0 0 Q (F0 m 0 ls [])
  rw [show W p l e ({ frames := 2, cells := σ0.2.2.2.2.1, slots := σ0.2.2.2.2.2.1, locals := 121 } : Room) s m ([.ref a0, .ref a1] : List Value).toArray below meth cx s.heap [] 0 0 Q (F0 m 0 ls []) = W p l e ({ frames := 2, cells := σ0.2.2.2.2.1, slots := σ0.2.2.2.2.2.1, locals := 121 } : Room) s m ([.ref a0, .ref a1] : List Value).toArray below meth cx s.heap [] cells slots Q (F0 m 0 ls []) by rw [e_cells, e_slots]]
  have hl : lv_has ls 2 [(0, .ref a0), (1, .ref a1)] := hl
  unfold x_St_copy at hw
  refine lv_aload_n hx hb h_St_copy_0 rfl (lv_at hl 0 rfl) ?_
  refine lv_aload_n hx hb h_St_copy_1 rfl (lv_at hl 1 rfl) ?_
  obtain ⟨g1, hw⟩ := hw
  refine C_callVv (As := [.ref a1]) (rest := []) C h (ci := 8) (Cn := R_St) (T := T_St) (N := 4) g1 rfl (by decide) (X_St_copyLocals l dC dI ca s.heap σ0 a0 a1 hw) (cwV 1 hts (gV hsub u_499 u_500 u_501 u_502 u_503) rfl rfl rfl (by decide +kernel) ⟨(Nat.le_of_ble_eq_true rfl), (Nat.le_of_ble_eq_true rfl)⟩) rfl hl.1 (Nat.le_of_ble_eq_true rfl) h_St_copy_2 (fun σ2 H locs cells slots hw9 h9 => ?_)
  clear hw h; have hw := hw9; have h := h9; clear hw9 h9
  refine W.eq (g2 := F0 m 5 ls []) rfl ?_
  refine lv_aload_n hx hb h_St_copy_5 rfl (lv_at hl 1 rfl) ?_
  obtain ⟨g4, hw⟩ := hw
  refine C_get C h 8 1 (v := va_rf (σ2.2.2.2.1 a1 1)) g4 rfl (Cn := R_St) (T := T_St) (N := 4) rfl (by decide) rfl uw_St (by decide) u_496 (fun _ q => q) h_St_copy_6 ?_
  refine lv_topq (fun b5 e_b5 => ?_)
  replace hw := hw b5 e_b5
  refine lv_iconst (v := 0) hx hb h_St_copy_9 (by decide) ?_
  refine lv_aload_n hx hb h_St_copy_10 rfl (lv_at hl 0 rfl) ?_
  obtain ⟨g6, hw⟩ := hw
  refine C_get C h 8 1 (v := va_rf (σ2.2.2.2.1 a0 1)) g6 rfl (Cn := R_St) (T := T_St) (N := 4) rfl (by decide) rfl uw_St (by decide) u_496 (fun _ q => q) h_St_copy_11 ?_
  refine lv_topq (fun b7 e_b7 => ?_)
  replace hw := hw b7 e_b7
  refine lv_iconst (v := 0) hx hb h_St_copy_14 (by decide) ?_
  refine lv_aload_n hx hb h_St_copy_15 rfl (lv_at hl 1 rfl) ?_
  refine C_get C h 8 1 (v := va_rf (σ2.2.2.2.1 a1 1)) g4 rfl (Cn := R_St) (T := T_St) (N := 4) rfl (by decide) rfl uw_St (by decide) u_496 (fun _ q => q) h_St_copy_16 ?_
  refine lv_topq (fun b8 e_b8 => ?_)
  replace hw := hw b8 e_b8
  obtain ⟨r9, e_r9, hw⟩ := hw
  subst e_r9
  have hl : lv_has ls 2 [(0, .ref a0), (1, .ref a1)] := hl
  refine W.eq (g2 := F0 m 19 ls [.ref r9, .int 0, va_rf b7, .int 0, va_rf b5]) rfl ?_
  obtain ⟨n11, g10, hw⟩ := hw
  refine C_alen C h 20 0 rfl (by decide) g10 h_St_copy_19 ?_
  refine lv_aload_n hx hb h_St_copy_20 rfl (lv_at hl 0 rfl) ?_
  refine C_get C h 8 1 (v := va_rf (σ2.2.2.2.1 a0 1)) g6 rfl (Cn := R_St) (T := T_St) (N := 4) rfl (by decide) rfl uw_St (by decide) u_496 (fun _ q => q) h_St_copy_21 ?_
  refine lv_topq (fun b12 e_b12 => ?_)
  replace hw := hw b12 e_b12
  obtain ⟨r13, e_r13, hw⟩ := hw
  subst e_r13
  have hl : lv_has ls 2 [(0, .ref a0), (1, .ref a1)] := hl
  refine W.eq (g2 := F0 m 24 ls [.ref r13, .int (Int32.ofNat n11), .int 0, va_rf b7, .int 0, va_rf b5]) rfl ?_
  obtain ⟨n15, g14, hw⟩ := hw
  refine C_alen C h 20 0 rfl (by decide) g14 h_St_copy_24 ?_
  refine C_callSi (As := [.int (Int32.ofNat n11), .int (Int32.ofNat n15)]) (rest := [.int 0, va_rf b7, .int 0, va_rf b5]) C h (X_BMath_min l dC dI ca H σ2 (Int32.ofNat n11) (Int32.ofNat n15) hw) (va_cwS 2 hts (gS hsub u_497 u_27 u_28 u_29) rfl rfl rfl (by decide +kernel) ⟨(Nat.le_of_ble_eq_true rfl), (Nat.le_of_ble_eq_true rfl)⟩) rfl hl.1 (by simp only [List.map_cons, List.map_nil, List.sum_cons, List.sum_nil, cq_cat]; exact Nat.le_of_ble_eq_true rfl) h_St_copy_25 (fun r17 σ16 H locs cells slots hw9 h9 => ?_)
  clear hw h; have hw := hw9; have h := h9; clear hw9 h9
  refine W.eq (g2 := F0 m 28 ls [.int r17, .int 0, va_rf b7, .int 0, va_rf b5]) rfl ?_
  obtain ⟨r18, e_r18, hw⟩ := hw
  subst e_r18
  have hl : lv_has ls 2 [(0, .ref a0), (1, .ref a1)] := hl
  refine W.eq (g2 := F0 m 28 ls [.int r17, .int 0, va_rf b7, .int 0, .ref r18]) rfl ?_
  obtain ⟨r19, e_r19, hw⟩ := hw
  subst e_r19
  have hl : lv_has ls 2 [(0, .ref a0), (1, .ref a1)] := hl
  refine W.eq (g2 := F0 m 28 ls [.int r17, .int 0, .ref r19, .int 0, .ref r18]) rfl ?_
  obtain ⟨n21, g20, hw⟩ := hw
  obtain ⟨n23, g22, hw⟩ := hw
  obtain ⟨g24, g25, g26, g27, g28, hw⟩ := hw
  refine C_copyi C h hl.1 u_498 u_32 u_33 u_34 g20 g22 g24 g25 g26 g27 g28 (Nat.le_of_ble_eq_true rfl) (Nat.le_of_ble_eq_true rfl) h_St_copy_28 (fun H locs h => ?_)
  obtain ⟨σ29, e_σ29⟩ : ∃ z : CST, z = sA σ16 r19 (va_cpy (σ16.2.1 r18) (σ16.2.1 r19) (0 : Int32).toNatClampNeg (0 : Int32).toNatClampNeg (r17 : Int32).toNatClampNeg) := ⟨_, rfl⟩
  rw [← e_σ29] at h
  replace hw := hw σ29 e_σ29
  refine lv_aload_n hx hb h_St_copy_31 rfl (lv_at hl 0 rfl) ?_
  refine lv_aload_n hx hb h_St_copy_32 rfl (lv_at hl 1 rfl) ?_
  obtain ⟨g30, hw⟩ := hw
  refine C_get C h 8 2 (v := .int (σ29.2.1 a1 2)) g30 rfl (Cn := R_St) (T := T_St) (N := 4) rfl (by decide) rfl uw_St (by decide) u_504 (fun _ q => q) h_St_copy_33 ?_
  obtain ⟨g31, hw⟩ := hw
  refine C_puti C h 8 2 g31 (Cn := R_St) (T := T_St) (N := 4) rfl (by decide) rfl uw_St tok_St nm_St (by decide) rfl u_504 (fun _ q => q) (Or.inl rfl) (by decide +kernel) h_St_copy_36 (fun H locs h => ?_)
  obtain ⟨σ32, e_σ32⟩ : ∃ z : CST, z = sI σ29 a0 2 (σ29.2.1 a1 2) := ⟨_, rfl⟩
  rw [← e_σ32] at h
  replace hw := hw σ32 e_σ32
  refine lv_aload_n hx hb h_St_copy_39 rfl (lv_at hl 0 rfl) ?_
  refine lv_aload_n hx hb h_St_copy_40 rfl (lv_at hl 1 rfl) ?_
  obtain ⟨g33, hw⟩ := hw
  refine C_get C h 8 3 (v := .int (σ32.2.1 a1 3)) g33 rfl (Cn := R_St) (T := T_St) (N := 4) rfl (by decide) rfl uw_St (by decide) u_505 (fun _ q => q) h_St_copy_41 ?_
  obtain ⟨g34, hw⟩ := hw
  refine C_puti C h 8 3 g34 (Cn := R_St) (T := T_St) (N := 4) rfl (by decide) rfl uw_St tok_St nm_St (by decide) rfl u_505 (fun _ q => q) (Or.inl rfl) (by decide +kernel) h_St_copy_44 (fun H locs h => ?_)
  obtain ⟨σ35, e_σ35⟩ : ∃ z : CST, z = sI σ32 a0 3 (σ32.2.1 a1 3) := ⟨_, rfl⟩
  rw [← e_σ35] at h
  replace hw := hw σ35 e_σ35
  exact hend σ35 _ _ _ _ _ _ hw h h_St_copy_47
abbrev g_St_empty : MethodName := ⟨"MapFramer$State", "empty", "()V"⟩
theorem h_St_empty_0 : decode prog_9_method_4_code 0 = .ok (.aload_n 0, 1) := by decide +kernel
theorem h_St_empty_1 : decode prog_9_method_4_code 1 = .ok (.iconst 0, 1) := by decide +kernel
theorem h_St_empty_2 : decode prog_9_method_4_code 2 = .ok (.putfield 32, 3) := by decide +kernel
theorem h_St_empty_5 : decode prog_9_method_4_code 5 = .ok (.aload_n 0, 1) := by decide +kernel
theorem h_St_empty_6 : decode prog_9_method_4_code 6 = .ok (.iconst 0, 1) := by decide +kernel
theorem h_St_empty_7 : decode prog_9_method_4_code 7 = .ok (.putfield 36, 3) := by decide +kernel
theorem h_St_empty_10 : decode prog_9_method_4_code 10 = .ok (.return_, 1) := by decide +kernel
def x_St_empty (a0 : Nat) (σ0 : CST) (P : CST → Prop) : Prop := σ0.1 a0 = some (8, 0) ∧ (∀ σ2 : CST, σ2 = sI σ0 a0 2 (0 : Int32) → σ2.1 a0 = some (8, 0) ∧ (∀ σ4 : CST, σ4 = sI σ2 a0 3 (0 : Int32) → P σ4))
set_option maxHeartbeats 4000000 in
set_option maxRecDepth 100000 in
theorem X_St_empty (l : Launch) (dC : Nat → ClassId) (dI : Nat → Nat → Nat) (ca : Nat → ClassId) (H0 : Heap) (σ0 : CST) (a0 : Nat) {P : CST → Prop} (hw : x_St_empty a0 σ0 P) : Met l g_St_empty (mW g_St_empty prog_9_method_4_code 1 none) ({ frames := 0, cells := σ0.2.2.2.2.1, slots := σ0.2.2.2.2.2.1, locals := 0 } : Room) (va_Pc [.ref a0] (CPre (dC, dI) ca σ0 H0)) (va_Qv P (CB (dC, dI) ca σ0 H0) (cA σ0 H0.size)) σ0.2.2.2.2.1 σ0.2.2.2.2.2.1 (cA σ0 H0.size) := by
  refine C_ofv (by decide +kernel) rfl rfl rfl (Nat.le_of_ble_eq_true rfl) ?_
  intro p e s m below meth cx Q A ls C hnm hend hH0 h hl
  subst hH0
  have C0 := C
  obtain ⟨⟨hx, hb, hml, hown, hts⟩, hsub⟩ := C0
  obtain ⟨cells, e_cells⟩ : ∃ z : Nat, z = 0 := ⟨_, rfl⟩
  obtain ⟨slots, e_slots⟩ : ∃ z : Nat, z = 0 := ⟨_, rfl⟩
  have h : CH (dC, dI) A ca ({ frames := 0, cells := σ0.2.2.2.2.1, slots := σ0.2.2.2.2.2.1, locals := 0 } : Room) σ0.2.2.2.2.2.2 σ0 s s.heap [] cells slots := by rw [e_cells, e_slots]; exact h
  show W p l e ({ frames := 0, cells := σ0.2.2.2.2.1, slots := σ0.2.2.2.2.2.1, locals := 0 } : Room) s m ([.ref a0] : List Value).toArray below meth cx s.heap [] 0 0 Q (F0 m 0 ls [])
  rw [show W p l e ({ frames := 0, cells := σ0.2.2.2.2.1, slots := σ0.2.2.2.2.2.1, locals := 0 } : Room) s m ([.ref a0] : List Value).toArray below meth cx s.heap [] 0 0 Q (F0 m 0 ls []) = W p l e ({ frames := 0, cells := σ0.2.2.2.2.1, slots := σ0.2.2.2.2.2.1, locals := 0 } : Room) s m ([.ref a0] : List Value).toArray below meth cx s.heap [] cells slots Q (F0 m 0 ls []) by rw [e_cells, e_slots]]
  have hl : lv_has ls 1 [(0, .ref a0)] := hl
  unfold x_St_empty at hw
  refine lv_aload_n hx hb h_St_empty_0 rfl (lv_at hl 0 rfl) ?_
  refine lv_iconst (v := 0) hx hb h_St_empty_1 (by decide) ?_
  obtain ⟨g1, hw⟩ := hw
  refine C_puti C h 8 2 g1 (Cn := R_St) (T := T_St) (N := 4) rfl (by decide) rfl uw_St tok_St nm_St (by decide) rfl u_504 (fun _ q => q) (Or.inl rfl) (by decide +kernel) h_St_empty_2 (fun H locs h => ?_)
  obtain ⟨σ2, e_σ2⟩ : ∃ z : CST, z = sI σ0 a0 2 (0 : Int32) := ⟨_, rfl⟩
  rw [← e_σ2] at h
  replace hw := hw σ2 e_σ2
  refine lv_aload_n hx hb h_St_empty_5 rfl (lv_at hl 0 rfl) ?_
  refine lv_iconst (v := 0) hx hb h_St_empty_6 (by decide) ?_
  obtain ⟨g3, hw⟩ := hw
  refine C_puti C h 8 3 g3 (Cn := R_St) (T := T_St) (N := 4) rfl (by decide) rfl uw_St tok_St nm_St (by decide) rfl u_505 (fun _ q => q) (Or.inl rfl) (by decide +kernel) h_St_empty_7 (fun H locs h => ?_)
  obtain ⟨σ4, e_σ4⟩ : ∃ z : CST, z = sI σ2 a0 3 (0 : Int32) := ⟨_, rfl⟩
  rw [← e_σ4] at h
  replace hw := hw σ4 e_σ4
  exact hend σ4 _ _ _ _ _ _ hw h h_St_empty_10
abbrev g_St_push : MethodName := ⟨"MapFramer$State", "push", "(I)Z"⟩
theorem h_St_push_0 : decode prog_9_method_5_code 0 = .ok (.iload_n 1, 1) := by decide +kernel
theorem h_St_push_1 : decode prog_9_method_5_code 1 = .ok (.iconst 2, 1) := by decide +kernel
theorem h_St_push_2 : decode prog_9_method_5_code 2 = .ok (.if_icmp .ne 7, 3) := by decide +kernel
theorem h_St_push_5 : decode prog_9_method_5_code 5 = .ok (.iconst 2, 1) := by decide +kernel
theorem h_St_push_6 : decode prog_9_method_5_code 6 = .ok (.goto 4, 3) := by decide +kernel
theorem h_St_push_9 : decode prog_9_method_5_code 9 = .ok (.iconst 1, 1) := by decide +kernel
theorem h_St_push_10 : decode prog_9_method_5_code 10 = .ok (.istore_n 2, 1) := by decide +kernel
theorem h_St_push_11 : decode prog_9_method_5_code 11 = .ok (.aload_n 0, 1) := by decide +kernel
theorem h_St_push_12 : decode prog_9_method_5_code 12 = .ok (.getfield 36, 3) := by decide +kernel
theorem h_St_push_15 : decode prog_9_method_5_code 15 = .ok (.iload_n 2, 1) := by decide +kernel
theorem h_St_push_16 : decode prog_9_method_5_code 16 = .ok (.iadd, 1) := by decide +kernel
theorem h_St_push_17 : decode prog_9_method_5_code 17 = .ok (.aload_n 0, 1) := by decide +kernel
theorem h_St_push_18 : decode prog_9_method_5_code 18 = .ok (.getfield 13, 3) := by decide +kernel
theorem h_St_push_21 : decode prog_9_method_5_code 21 = .ok (.arraylength, 1) := by decide +kernel
theorem h_St_push_22 : decode prog_9_method_5_code 22 = .ok (.if_icmp .le 5, 3) := by decide +kernel
theorem h_St_push_25 : decode prog_9_method_5_code 25 = .ok (.iconst 0, 1) := by decide +kernel
theorem h_St_push_26 : decode prog_9_method_5_code 26 = .ok (.ireturn, 1) := by decide +kernel
theorem h_St_push_27 : decode prog_9_method_5_code 27 = .ok (.aload_n 0, 1) := by decide +kernel
theorem h_St_push_28 : decode prog_9_method_5_code 28 = .ok (.getfield 13, 3) := by decide +kernel
theorem h_St_push_31 : decode prog_9_method_5_code 31 = .ok (.aload_n 0, 1) := by decide +kernel
theorem h_St_push_32 : decode prog_9_method_5_code 32 = .ok (.getfield 32, 3) := by decide +kernel
theorem h_St_push_35 : decode prog_9_method_5_code 35 = .ok (.iload_n 1, 1) := by decide +kernel
theorem h_St_push_36 : decode prog_9_method_5_code 36 = .ok (.iastore, 1) := by decide +kernel
theorem h_St_push_37 : decode prog_9_method_5_code 37 = .ok (.aload_n 0, 1) := by decide +kernel
theorem h_St_push_38 : decode prog_9_method_5_code 38 = .ok (.dup, 1) := by decide +kernel
theorem h_St_push_39 : decode prog_9_method_5_code 39 = .ok (.getfield 32, 3) := by decide +kernel
theorem h_St_push_42 : decode prog_9_method_5_code 42 = .ok (.iconst 1, 1) := by decide +kernel
theorem h_St_push_43 : decode prog_9_method_5_code 43 = .ok (.iadd, 1) := by decide +kernel
theorem h_St_push_44 : decode prog_9_method_5_code 44 = .ok (.putfield 32, 3) := by decide +kernel
theorem h_St_push_47 : decode prog_9_method_5_code 47 = .ok (.aload_n 0, 1) := by decide +kernel
theorem h_St_push_48 : decode prog_9_method_5_code 48 = .ok (.dup, 1) := by decide +kernel
theorem h_St_push_49 : decode prog_9_method_5_code 49 = .ok (.getfield 36, 3) := by decide +kernel
theorem h_St_push_52 : decode prog_9_method_5_code 52 = .ok (.iload_n 2, 1) := by decide +kernel
theorem h_St_push_53 : decode prog_9_method_5_code 53 = .ok (.iadd, 1) := by decide +kernel
theorem h_St_push_54 : decode prog_9_method_5_code 54 = .ok (.putfield 36, 3) := by decide +kernel
theorem h_St_push_57 : decode prog_9_method_5_code 57 = .ok (.iconst 1, 1) := by decide +kernel
theorem h_St_push_58 : decode prog_9_method_5_code 58 = .ok (.ireturn, 1) := by decide +kernel
def x_St_push_10 (a0 : Nat) (P : Int32 → CST → Prop) (z1 : Int32) (s0 : Int32) (σ : CST) : Prop := σ.1 a0 = some (8, 0) ∧ (∀ b2 : Option Nat, b2 = (σ.2.2.2.1 a0 1) → (∃ r3 : Nat, b2 = some r3 ∧ ((∃ n5 : Nat, σ.1 r3 = some (20, n5) ∧ (((((σ.2.1 a0 3) + s0) ≤ (Int32.ofNat n5) → ∀ b7 : Option Nat, b7 = (σ.2.2.2.1 a0 1) → (∃ r8 : Nat, b7 = some r8 ∧ ((∃ n10 : Nat, σ.1 r8 = some (20, n10) ∧ (vp_in (σ.2.1 a0 2) n10 ∧ (∀ σ12 : CST, σ12 = sI σ r8 ((σ.2.1 a0 2) : Int32).toNatClampNeg z1 → σ12.1 a0 = some (8, 0) ∧ (∀ σ14 : CST, σ14 = sI σ12 a0 2 ((σ12.2.1 a0 2) + 1) → σ14.1 a0 = some (8, 0) ∧ (∀ σ16 : CST, σ16 = sI σ14 a0 3 ((σ14.2.1 a0 3) + s0) → P (1 : Int32) σ16)))))))) ∧ (¬ ((σ.2.1 a0 3) + s0) ≤ (Int32.ofNat n5) → P (0 : Int32) σ)))))))
def x_St_push (a0 : Nat) (x1 : Int32) (σ0 : CST) (P : Int32 → CST → Prop) : Prop := ((x1 = 2 → x_St_push_10 a0 P x1 2 σ0) ∧ (¬ x1 = 2 → x_St_push_10 a0 P x1 1 σ0))
set_option maxHeartbeats 4000000 in
set_option maxRecDepth 100000 in
theorem X_St_push (l : Launch) (dC : Nat → ClassId) (dI : Nat → Nat → Nat) (ca : Nat → ClassId) (H0 : Heap) (σ0 : CST) (a0 : Nat) (x1 : Int32) {P : Int32 → CST → Prop} (hw : x_St_push a0 x1 σ0 P) : Met l g_St_push (mW g_St_push prog_9_method_5_code 3 (some .boolean)) ({ frames := 0, cells := σ0.2.2.2.2.1, slots := σ0.2.2.2.2.2.1, locals := 0 } : Room) (va_Pc [.ref a0, .int x1] (CPre (dC, dI) ca σ0 H0)) (va_Qi P (CB (dC, dI) ca σ0 H0) (cA σ0 H0.size)) σ0.2.2.2.2.1 σ0.2.2.2.2.2.1 (cA σ0 H0.size) := by
  refine C_ofz (by decide +kernel) rfl rfl rfl (Nat.le_of_ble_eq_true rfl) ?_
  intro p e s m below meth cx Q A ls C hnm hend hH0 h hl
  subst hH0
  have C0 := C
  obtain ⟨⟨hx, hb, hml, hown, hts⟩, hsub⟩ := C0
  obtain ⟨cells, e_cells⟩ : ∃ z : Nat, z = 0 := ⟨_, rfl⟩
  obtain ⟨slots, e_slots⟩ : ∃ z : Nat, z = 0 := ⟨_, rfl⟩
  have h : CH (dC, dI) A ca ({ frames := 0, cells := σ0.2.2.2.2.1, slots := σ0.2.2.2.2.2.1, locals := 0 } : Room) σ0.2.2.2.2.2.2 σ0 s s.heap [] cells slots := by rw [e_cells, e_slots]; exact h
  show W p l e ({ frames := 0, cells := σ0.2.2.2.2.1, slots := σ0.2.2.2.2.2.1, locals := 0 } : Room) s m ([.ref a0, .int x1] : List Value).toArray below meth cx s.heap [] 0 0 Q (F0 m 0 ls [])
  rw [show W p l e ({ frames := 0, cells := σ0.2.2.2.2.1, slots := σ0.2.2.2.2.2.1, locals := 0 } : Room) s m ([.ref a0, .int x1] : List Value).toArray below meth cx s.heap [] 0 0 Q (F0 m 0 ls []) = W p l e ({ frames := 0, cells := σ0.2.2.2.2.1, slots := σ0.2.2.2.2.2.1, locals := 0 } : Room) s m ([.ref a0, .int x1] : List Value).toArray below meth cx s.heap [] cells slots Q (F0 m 0 ls []) by rw [e_cells, e_slots]]
  have K_10 : ∀ (u9 : Unit), ∀ (z1 : Int32) (s0 : Int32) (σ : CST) (H : Heap) (locs : List Loc) (cells slots : Nat) (ls : Array Slot), x_St_push_10 a0 P z1 s0 σ → CH (dC, dI) A ca ({ frames := 0, cells := σ0.2.2.2.2.1, slots := σ0.2.2.2.2.2.1, locals := 0 } : Room) σ0.2.2.2.2.2.2 σ s H locs cells slots → lv_has ls 3 [(0, .ref a0), (1, .int z1)] → W p l e ({ frames := 0, cells := σ0.2.2.2.2.1, slots := σ0.2.2.2.2.2.1, locals := 0 } : Room) s m ([.ref a0, .int x1] : List Value).toArray below meth cx H locs cells slots Q (F0 m 10 ls [.int s0]) := by
    intro u9 z1 s0 σ H locs cells slots ls hw h hl
    unfold x_St_push_10 at hw
    refine lv_istore_n (i := 2) (lv' := [(2, .int s0), (0, .ref a0), (1, .int z1)]) hx hb h_St_push_10 rfl hl (by decide) rfl (fun ls hl => ?_)
    refine lv_aload_n hx hb h_St_push_11 rfl (lv_at hl 1 rfl) ?_
    obtain ⟨g1, hw⟩ := hw
    refine C_get C h 8 3 (v := .int (σ.2.1 a0 3)) g1 rfl (Cn := R_St) (T := T_St) (N := 4) rfl (by decide) rfl uw_St (by decide) u_505 (fun _ q => q) h_St_push_12 ?_
    refine lv_iload_n hx hb h_St_push_15 rfl (lv_at hl 0 rfl) ?_
    refine lv_iadd hx hb h_St_push_16 ?_
    refine lv_aload_n hx hb h_St_push_17 rfl (lv_at hl 1 rfl) ?_
    refine C_get C h 8 1 (v := va_rf (σ.2.2.2.1 a0 1)) g1 rfl (Cn := R_St) (T := T_St) (N := 4) rfl (by decide) rfl uw_St (by decide) u_496 (fun _ q => q) h_St_push_18 ?_
    refine lv_topq (fun b2 e_b2 => ?_)
    replace hw := hw b2 e_b2
    obtain ⟨r3, e_r3, hw⟩ := hw
    subst e_r3
    have hl : lv_has ls 3 [(2, .int s0), (0, .ref a0), (1, .int z1)] := hl
    refine W.eq (g2 := F0 m 21 ls [.ref r3, .int ((σ.2.1 a0 3) + s0)]) rfl ?_
    obtain ⟨n5, g4, hw⟩ := hw
    refine C_alen C h 20 0 rfl (by decide) g4 h_St_push_21 ?_
    refine lv_icmp_le (tgt := 27) hx hb h_St_push_22 (by decide) (fun c6 => ?_) (fun c6 => ?_)
    · skip
      replace hw := hw.1 c6
      refine lv_aload_n hx hb h_St_push_27 rfl (lv_at hl 1 rfl) ?_
      refine C_get C h 8 1 (v := va_rf (σ.2.2.2.1 a0 1)) g1 rfl (Cn := R_St) (T := T_St) (N := 4) rfl (by decide) rfl uw_St (by decide) u_496 (fun _ q => q) h_St_push_28 ?_
      refine lv_topq (fun b7 e_b7 => ?_)
      replace hw := hw b7 e_b7
      refine lv_aload_n hx hb h_St_push_31 rfl (lv_at hl 1 rfl) ?_
      refine C_get C h 8 2 (v := .int (σ.2.1 a0 2)) g1 rfl (Cn := R_St) (T := T_St) (N := 4) rfl (by decide) rfl uw_St (by decide) u_504 (fun _ q => q) h_St_push_32 ?_
      refine lv_iload_n hx hb h_St_push_35 rfl (lv_at hl 2 rfl) ?_
      obtain ⟨r8, e_r8, hw⟩ := hw
      subst e_r8
      have hl : lv_has ls 3 [(2, .int s0), (0, .ref a0), (1, .int z1)] := hl
      refine W.eq (g2 := F0 m 36 ls [.int z1, .int (σ.2.1 a0 2), .ref r8]) rfl ?_
      obtain ⟨n10, g9, hw⟩ := hw
      obtain ⟨g11, hw⟩ := hw
      refine C_iast C h g9 g11 h_St_push_36 (fun H locs h => ?_)
      obtain ⟨σ12, e_σ12⟩ : ∃ z : CST, z = sI σ r8 ((σ.2.1 a0 2) : Int32).toNatClampNeg z1 := ⟨_, rfl⟩
      rw [← e_σ12] at h
      replace hw := hw σ12 e_σ12
      refine lv_aload_n hx hb h_St_push_37 rfl (lv_at hl 1 rfl) ?_
      refine lv_dup hx hb h_St_push_38 rfl ?_
      obtain ⟨g13, hw⟩ := hw
      refine C_get C h 8 2 (v := .int (σ12.2.1 a0 2)) g13 rfl (Cn := R_St) (T := T_St) (N := 4) rfl (by decide) rfl uw_St (by decide) u_504 (fun _ q => q) h_St_push_39 ?_
      refine lv_iconst (v := 1) hx hb h_St_push_42 (by decide) ?_
      refine lv_iadd hx hb h_St_push_43 ?_
      refine C_puti C h 8 2 g13 (Cn := R_St) (T := T_St) (N := 4) rfl (by decide) rfl uw_St tok_St nm_St (by decide) rfl u_504 (fun _ q => q) (Or.inl rfl) (by decide +kernel) h_St_push_44 (fun H locs h => ?_)
      obtain ⟨σ14, e_σ14⟩ : ∃ z : CST, z = sI σ12 a0 2 ((σ12.2.1 a0 2) + 1) := ⟨_, rfl⟩
      rw [← e_σ14] at h
      replace hw := hw σ14 e_σ14
      refine lv_aload_n hx hb h_St_push_47 rfl (lv_at hl 1 rfl) ?_
      refine lv_dup hx hb h_St_push_48 rfl ?_
      obtain ⟨g15, hw⟩ := hw
      refine C_get C h 8 3 (v := .int (σ14.2.1 a0 3)) g15 rfl (Cn := R_St) (T := T_St) (N := 4) rfl (by decide) rfl uw_St (by decide) u_505 (fun _ q => q) h_St_push_49 ?_
      refine lv_iload_n hx hb h_St_push_52 rfl (lv_at hl 0 rfl) ?_
      refine lv_iadd hx hb h_St_push_53 ?_
      refine C_puti C h 8 3 g15 (Cn := R_St) (T := T_St) (N := 4) rfl (by decide) rfl uw_St tok_St nm_St (by decide) rfl u_505 (fun _ q => q) (Or.inl rfl) (by decide +kernel) h_St_push_54 (fun H locs h => ?_)
      obtain ⟨σ16, e_σ16⟩ : ∃ z : CST, z = sI σ14 a0 3 ((σ14.2.1 a0 3) + s0) := ⟨_, rfl⟩
      rw [← e_σ16] at h
      replace hw := hw σ16 e_σ16
      refine lv_iconst (v := 1) hx hb h_St_push_57 (by decide) ?_
      exact hend (1 : Int32) σ16 _ _ _ _ _ _ rfl hw h h_St_push_58
    · skip
      replace hw := hw.2 c6
      refine lv_iconst (v := 0) hx hb h_St_push_25 (by decide) ?_
      exact hend (0 : Int32) σ _ _ _ _ _ _ rfl hw h h_St_push_26
  have hl : lv_has ls 3 [(0, .ref a0), (1, .int x1)] := hl
  unfold x_St_push at hw
  refine lv_iload_n hx hb h_St_push_0 rfl (lv_at hl 1 rfl) ?_
  refine lv_iconst (v := 2) hx hb h_St_push_1 (by decide) ?_
  refine lv_icmp_ne (tgt := 9) hx hb h_St_push_2 (by decide) (fun c17 => ?_) (fun c17 => ?_)
  · skip
    replace hw := hw.2 c17
    refine lv_iconst (v := 1) hx hb h_St_push_9 (by decide) ?_
    exact K_10 () x1 1 σ0 _ _ _ _ _ hw h (lv_sub hl [0, 1] rfl)
  · skip
    replace hw := hw.1 c17
    refine lv_iconst (v := 2) hx hb h_St_push_5 (by decide) ?_
    refine lv_goto (tgt := 10) hx hb h_St_push_6 (by decide) ?_
    exact K_10 () x1 2 σ0 _ _ _ _ _ hw h (lv_sub hl [0, 1] rfl)
abbrev g_St_pop : MethodName := ⟨"MapFramer$State", "pop", "()I"⟩
theorem h_St_pop_0 : decode prog_9_method_6_code 0 = .ok (.aload_n 0, 1) := by decide +kernel
theorem h_St_pop_1 : decode prog_9_method_6_code 1 = .ok (.getfield 32, 3) := by decide +kernel
theorem h_St_pop_4 : decode prog_9_method_6_code 4 = .ok (.ifCond .ne 5, 3) := by decide +kernel
theorem h_St_pop_7 : decode prog_9_method_6_code 7 = .ok (.iconst 0, 1) := by decide +kernel
theorem h_St_pop_8 : decode prog_9_method_6_code 8 = .ok (.ireturn, 1) := by decide +kernel
theorem h_St_pop_9 : decode prog_9_method_6_code 9 = .ok (.aload_n 0, 1) := by decide +kernel
theorem h_St_pop_10 : decode prog_9_method_6_code 10 = .ok (.dup, 1) := by decide +kernel
theorem h_St_pop_11 : decode prog_9_method_6_code 11 = .ok (.getfield 32, 3) := by decide +kernel
theorem h_St_pop_14 : decode prog_9_method_6_code 14 = .ok (.iconst 1, 1) := by decide +kernel
theorem h_St_pop_15 : decode prog_9_method_6_code 15 = .ok (.isub, 1) := by decide +kernel
theorem h_St_pop_16 : decode prog_9_method_6_code 16 = .ok (.putfield 32, 3) := by decide +kernel
theorem h_St_pop_19 : decode prog_9_method_6_code 19 = .ok (.aload_n 0, 1) := by decide +kernel
theorem h_St_pop_20 : decode prog_9_method_6_code 20 = .ok (.dup, 1) := by decide +kernel
theorem h_St_pop_21 : decode prog_9_method_6_code 21 = .ok (.getfield 36, 3) := by decide +kernel
theorem h_St_pop_24 : decode prog_9_method_6_code 24 = .ok (.aload_n 0, 1) := by decide +kernel
theorem h_St_pop_25 : decode prog_9_method_6_code 25 = .ok (.getfield 13, 3) := by decide +kernel
theorem h_St_pop_28 : decode prog_9_method_6_code 28 = .ok (.aload_n 0, 1) := by decide +kernel
theorem h_St_pop_29 : decode prog_9_method_6_code 29 = .ok (.getfield 32, 3) := by decide +kernel
theorem h_St_pop_32 : decode prog_9_method_6_code 32 = .ok (.iaload, 1) := by decide +kernel
theorem h_St_pop_33 : decode prog_9_method_6_code 33 = .ok (.iconst 2, 1) := by decide +kernel
theorem h_St_pop_34 : decode prog_9_method_6_code 34 = .ok (.if_icmp .ne 7, 3) := by decide +kernel
theorem h_St_pop_37 : decode prog_9_method_6_code 37 = .ok (.iconst 2, 1) := by decide +kernel
theorem h_St_pop_38 : decode prog_9_method_6_code 38 = .ok (.goto 4, 3) := by decide +kernel
theorem h_St_pop_41 : decode prog_9_method_6_code 41 = .ok (.iconst 1, 1) := by decide +kernel
theorem h_St_pop_42 : decode prog_9_method_6_code 42 = .ok (.isub, 1) := by decide +kernel
theorem h_St_pop_43 : decode prog_9_method_6_code 43 = .ok (.putfield 36, 3) := by decide +kernel
theorem h_St_pop_46 : decode prog_9_method_6_code 46 = .ok (.aload_n 0, 1) := by decide +kernel
theorem h_St_pop_47 : decode prog_9_method_6_code 47 = .ok (.getfield 13, 3) := by decide +kernel
theorem h_St_pop_50 : decode prog_9_method_6_code 50 = .ok (.aload_n 0, 1) := by decide +kernel
theorem h_St_pop_51 : decode prog_9_method_6_code 51 = .ok (.getfield 32, 3) := by decide +kernel
theorem h_St_pop_54 : decode prog_9_method_6_code 54 = .ok (.iaload, 1) := by decide +kernel
theorem h_St_pop_55 : decode prog_9_method_6_code 55 = .ok (.ireturn, 1) := by decide +kernel
def x_St_pop_42 (a0 : Nat) (P : Int32 → CST → Prop) (s0 : Int32) (s1 : Int32) (σ : CST) : Prop := σ.1 a0 = some (8, 0) ∧ (∀ σ2 : CST, σ2 = sI σ a0 3 (s1 - s0) → σ2.1 a0 = some (8, 0) ∧ (∀ b4 : Option Nat, b4 = (σ2.2.2.2.1 a0 1) → (∃ r5 : Nat, b4 = some r5 ∧ ((∃ n7 : Nat, σ2.1 r5 = some (20, n7) ∧ (vp_in (σ2.2.1 a0 2) n7 ∧ (∀ b9 : Int32, b9 = (σ2.2.1 r5 ((σ2.2.1 a0 2) : Int32).toNatClampNeg) → P b9 σ2)))))))
def x_St_pop (a0 : Nat) (σ0 : CST) (P : Int32 → CST → Prop) : Prop := σ0.1 a0 = some (8, 0) ∧ ((((σ0.2.1 a0 2) = 0 → P (0 : Int32) σ0) ∧ (¬ (σ0.2.1 a0 2) = 0 → ∀ σ12 : CST, σ12 = sI σ0 a0 2 ((σ0.2.1 a0 2) - 1) → σ12.1 a0 = some (8, 0) ∧ (∀ b14 : Option Nat, b14 = (σ12.2.2.2.1 a0 1) → (∃ r15 : Nat, b14 = some r15 ∧ ((∃ n17 : Nat, σ12.1 r15 = some (20, n17) ∧ (vp_in (σ12.2.1 a0 2) n17 ∧ (∀ b19 : Int32, b19 = (σ12.2.1 r15 ((σ12.2.1 a0 2) : Int32).toNatClampNeg) → ((b19 = 2 → x_St_pop_42 a0 P 2 (σ12.2.1 a0 3) σ12) ∧ (¬ b19 = 2 → x_St_pop_42 a0 P 1 (σ12.2.1 a0 3) σ12)))))))))))
set_option maxHeartbeats 4000000 in
set_option maxRecDepth 100000 in
theorem X_St_pop (l : Launch) (dC : Nat → ClassId) (dI : Nat → Nat → Nat) (ca : Nat → ClassId) (H0 : Heap) (σ0 : CST) (a0 : Nat) {P : Int32 → CST → Prop} (hw : x_St_pop a0 σ0 P) : Met l g_St_pop (mW g_St_pop prog_9_method_6_code 1 (some .int)) ({ frames := 0, cells := σ0.2.2.2.2.1, slots := σ0.2.2.2.2.2.1, locals := 0 } : Room) (va_Pc [.ref a0] (CPre (dC, dI) ca σ0 H0)) (va_Qi P (CB (dC, dI) ca σ0 H0) (cA σ0 H0.size)) σ0.2.2.2.2.1 σ0.2.2.2.2.2.1 (cA σ0 H0.size) := by
  refine C_ofi (by decide +kernel) rfl rfl rfl (Nat.le_of_ble_eq_true rfl) ?_
  intro p e s m below meth cx Q A ls C hnm hend hH0 h hl
  subst hH0
  have C0 := C
  obtain ⟨⟨hx, hb, hml, hown, hts⟩, hsub⟩ := C0
  obtain ⟨cells, e_cells⟩ : ∃ z : Nat, z = 0 := ⟨_, rfl⟩
  obtain ⟨slots, e_slots⟩ : ∃ z : Nat, z = 0 := ⟨_, rfl⟩
  have h : CH (dC, dI) A ca ({ frames := 0, cells := σ0.2.2.2.2.1, slots := σ0.2.2.2.2.2.1, locals := 0 } : Room) σ0.2.2.2.2.2.2 σ0 s s.heap [] cells slots := by rw [e_cells, e_slots]; exact h
  show W p l e ({ frames := 0, cells := σ0.2.2.2.2.1, slots := σ0.2.2.2.2.2.1, locals := 0 } : Room) s m ([.ref a0] : List Value).toArray below meth cx s.heap [] 0 0 Q (F0 m 0 ls [])
  rw [show W p l e ({ frames := 0, cells := σ0.2.2.2.2.1, slots := σ0.2.2.2.2.2.1, locals := 0 } : Room) s m ([.ref a0] : List Value).toArray below meth cx s.heap [] 0 0 Q (F0 m 0 ls []) = W p l e ({ frames := 0, cells := σ0.2.2.2.2.1, slots := σ0.2.2.2.2.2.1, locals := 0 } : Room) s m ([.ref a0] : List Value).toArray below meth cx s.heap [] cells slots Q (F0 m 0 ls []) by rw [e_cells, e_slots]]
  have K_42 : ∀ (u9 : Unit), ∀ (s0 : Int32) (s1 : Int32) (σ : CST) (H : Heap) (locs : List Loc) (cells slots : Nat) (ls : Array Slot), x_St_pop_42 a0 P s0 s1 σ → CH (dC, dI) A ca ({ frames := 0, cells := σ0.2.2.2.2.1, slots := σ0.2.2.2.2.2.1, locals := 0 } : Room) σ0.2.2.2.2.2.2 σ s H locs cells slots → lv_has ls 1 [(0, .ref a0)] → W p l e ({ frames := 0, cells := σ0.2.2.2.2.1, slots := σ0.2.2.2.2.2.1, locals := 0 } : Room) s m ([.ref a0] : List Value).toArray below meth cx H locs cells slots Q (F0 m 42 ls [.int s0, .int s1, .ref a0]) := by
    intro u9 s0 s1 σ H locs cells slots ls hw h hl
    unfold x_St_pop_42 at hw
    refine lv_isub hx hb h_St_pop_42 ?_
    obtain ⟨g1, hw⟩ := hw
    refine C_puti C h 8 3 g1 (Cn := R_St) (T := T_St) (N := 4) rfl (by decide) rfl uw_St tok_St nm_St (by decide) rfl u_505 (fun _ q => q) (Or.inl rfl) (by decide +kernel) h_St_pop_43 (fun H locs h => ?_)
    obtain ⟨σ2, e_σ2⟩ : ∃ z : CST, z = sI σ a0 3 (s1 - s0) := ⟨_, rfl⟩
    rw [← e_σ2] at h
    replace hw := hw σ2 e_σ2
    refine lv_aload_n hx hb h_St_pop_46 rfl (lv_at hl 0 rfl) ?_
    obtain ⟨g3, hw⟩ := hw
    refine C_get C h 8 1 (v := va_rf (σ2.2.2.2.1 a0 1)) g3 rfl (Cn := R_St) (T := T_St) (N := 4) rfl (by decide) rfl uw_St (by decide) u_496 (fun _ q => q) h_St_pop_47 ?_
    refine lv_topq (fun b4 e_b4 => ?_)
    replace hw := hw b4 e_b4
    refine lv_aload_n hx hb h_St_pop_50 rfl (lv_at hl 0 rfl) ?_
    refine C_get C h 8 2 (v := .int (σ2.2.1 a0 2)) g3 rfl (Cn := R_St) (T := T_St) (N := 4) rfl (by decide) rfl uw_St (by decide) u_504 (fun _ q => q) h_St_pop_51 ?_
    obtain ⟨r5, e_r5, hw⟩ := hw
    subst e_r5
    have hl : lv_has ls 1 [(0, .ref a0)] := hl
    refine W.eq (g2 := F0 m 54 ls [.int (σ2.2.1 a0 2), .ref r5]) rfl ?_
    obtain ⟨n7, g6, hw⟩ := hw
    obtain ⟨g8, hw⟩ := hw
    refine C_iald C h g6 g8 h_St_pop_54 ?_
    refine lv_topi (fun b9 e_b9 => ?_)
    replace hw := hw b9 e_b9
    exact hend b9 σ2 _ _ _ _ _ _ hw h h_St_pop_55
  have hl : lv_has ls 1 [(0, .ref a0)] := hl
  unfold x_St_pop at hw
  refine lv_aload_n hx hb h_St_pop_0 rfl (lv_at hl 0 rfl) ?_
  obtain ⟨g10, hw⟩ := hw
  refine C_get C h 8 2 (v := .int (σ0.2.1 a0 2)) g10 rfl (Cn := R_St) (T := T_St) (N := 4) rfl (by decide) rfl uw_St (by decide) u_504 (fun _ q => q) h_St_pop_1 ?_
  refine lv_if_ne (tgt := 9) hx hb h_St_pop_4 (by decide) (fun c11 => ?_) (fun c11 => ?_)
  · skip
    replace hw := hw.2 c11
    refine lv_aload_n hx hb h_St_pop_9 rfl (lv_at hl 0 rfl) ?_
    refine lv_dup hx hb h_St_pop_10 rfl ?_
    refine C_get C h 8 2 (v := .int (σ0.2.1 a0 2)) g10 rfl (Cn := R_St) (T := T_St) (N := 4) rfl (by decide) rfl uw_St (by decide) u_504 (fun _ q => q) h_St_pop_11 ?_
    refine lv_iconst (v := 1) hx hb h_St_pop_14 (by decide) ?_
    refine lv_isub hx hb h_St_pop_15 ?_
    refine C_puti C h 8 2 g10 (Cn := R_St) (T := T_St) (N := 4) rfl (by decide) rfl uw_St tok_St nm_St (by decide) rfl u_504 (fun _ q => q) (Or.inl rfl) (by decide +kernel) h_St_pop_16 (fun H locs h => ?_)
    obtain ⟨σ12, e_σ12⟩ : ∃ z : CST, z = sI σ0 a0 2 ((σ0.2.1 a0 2) - 1) := ⟨_, rfl⟩
    rw [← e_σ12] at h
    replace hw := hw σ12 e_σ12
    refine lv_aload_n hx hb h_St_pop_19 rfl (lv_at hl 0 rfl) ?_
    refine lv_dup hx hb h_St_pop_20 rfl ?_
    obtain ⟨g13, hw⟩ := hw
    refine C_get C h 8 3 (v := .int (σ12.2.1 a0 3)) g13 rfl (Cn := R_St) (T := T_St) (N := 4) rfl (by decide) rfl uw_St (by decide) u_505 (fun _ q => q) h_St_pop_21 ?_
    refine lv_aload_n hx hb h_St_pop_24 rfl (lv_at hl 0 rfl) ?_
    refine C_get C h 8 1 (v := va_rf (σ12.2.2.2.1 a0 1)) g13 rfl (Cn := R_St) (T := T_St) (N := 4) rfl (by decide) rfl uw_St (by decide) u_496 (fun _ q => q) h_St_pop_25 ?_
    refine lv_topq (fun b14 e_b14 => ?_)
    replace hw := hw b14 e_b14
    refine lv_aload_n hx hb h_St_pop_28 rfl (lv_at hl 0 rfl) ?_
    refine C_get C h 8 2 (v := .int (σ12.2.1 a0 2)) g13 rfl (Cn := R_St) (T := T_St) (N := 4) rfl (by decide) rfl uw_St (by decide) u_504 (fun _ q => q) h_St_pop_29 ?_
    obtain ⟨r15, e_r15, hw⟩ := hw
    subst e_r15
    have hl : lv_has ls 1 [(0, .ref a0)] := hl
    refine W.eq (g2 := F0 m 32 ls [.int (σ12.2.1 a0 2), .ref r15, .int (σ12.2.1 a0 3), .ref a0]) rfl ?_
    obtain ⟨n17, g16, hw⟩ := hw
    obtain ⟨g18, hw⟩ := hw
    refine C_iald C h g16 g18 h_St_pop_32 ?_
    refine lv_topi (fun b19 e_b19 => ?_)
    replace hw := hw b19 e_b19
    refine lv_iconst (v := 2) hx hb h_St_pop_33 (by decide) ?_
    refine lv_icmp_ne (tgt := 41) hx hb h_St_pop_34 (by decide) (fun c20 => ?_) (fun c20 => ?_)
    · skip
      replace hw := hw.2 c20
      refine lv_iconst (v := 1) hx hb h_St_pop_41 (by decide) ?_
      exact K_42 () 1 (σ12.2.1 a0 3) σ12 _ _ _ _ _ hw h (lv_sub hl [0] rfl)
    · skip
      replace hw := hw.1 c20
      refine lv_iconst (v := 2) hx hb h_St_pop_37 (by decide) ?_
      refine lv_goto (tgt := 42) hx hb h_St_pop_38 (by decide) ?_
      exact K_42 () 2 (σ12.2.1 a0 3) σ12 _ _ _ _ _ hw h (lv_sub hl [0] rfl)
  · skip
    replace hw := hw.1 c11
    refine lv_iconst (v := 0) hx hb h_St_pop_7 (by decide) ?_
    exact hend (0 : Int32) σ0 _ _ _ _ _ _ hw h h_St_pop_8
abbrev g_St_localAt : MethodName := ⟨"MapFramer$State", "localAt", "(I)I"⟩
theorem h_St_localAt_0 : decode prog_9_method_7_code 0 = .ok (.iload_n 1, 1) := by decide +kernel
theorem h_St_localAt_1 : decode prog_9_method_7_code 1 = .ok (.ifCond .lt 21, 3) := by decide +kernel
theorem h_St_localAt_4 : decode prog_9_method_7_code 4 = .ok (.iload_n 1, 1) := by decide +kernel
theorem h_St_localAt_5 : decode prog_9_method_7_code 5 = .ok (.aload_n 0, 1) := by decide +kernel
theorem h_St_localAt_6 : decode prog_9_method_7_code 6 = .ok (.getfield 7, 3) := by decide +kernel
theorem h_St_localAt_9 : decode prog_9_method_7_code 9 = .ok (.arraylength, 1) := by decide +kernel
theorem h_St_localAt_10 : decode prog_9_method_7_code 10 = .ok (.if_icmp .ge 12, 3) := by decide +kernel
theorem h_St_localAt_13 : decode prog_9_method_7_code 13 = .ok (.aload_n 0, 1) := by decide +kernel
theorem h_St_localAt_14 : decode prog_9_method_7_code 14 = .ok (.getfield 7, 3) := by decide +kernel
theorem h_St_localAt_17 : decode prog_9_method_7_code 17 = .ok (.iload_n 1, 1) := by decide +kernel
theorem h_St_localAt_18 : decode prog_9_method_7_code 18 = .ok (.iaload, 1) := by decide +kernel
theorem h_St_localAt_19 : decode prog_9_method_7_code 19 = .ok (.goto 4, 3) := by decide +kernel
theorem h_St_localAt_22 : decode prog_9_method_7_code 22 = .ok (.iconst 0, 1) := by decide +kernel
theorem h_St_localAt_23 : decode prog_9_method_7_code 23 = .ok (.ireturn, 1) := by decide +kernel
def x_St_localAt (a0 : Nat) (x1 : Int32) (σ0 : CST) (P : Int32 → CST → Prop) : Prop := ((x1 < 0 → P (0 : Int32) σ0) ∧ (¬ x1 < 0 → σ0.1 a0 = some (8, 0) ∧ (∀ b3 : Option Nat, b3 = (σ0.2.2.2.1 a0 0) → (∃ r4 : Nat, b3 = some r4 ∧ ((∃ n6 : Nat, σ0.1 r4 = some (20, n6) ∧ ((((Int32.ofNat n6) ≤ x1 → P (0 : Int32) σ0) ∧ (¬ (Int32.ofNat n6) ≤ x1 → ∀ b8 : Option Nat, b8 = (σ0.2.2.2.1 a0 0) → (∃ r9 : Nat, b8 = some r9 ∧ ((∃ n11 : Nat, σ0.1 r9 = some (20, n11) ∧ (vp_in x1 n11 ∧ (∀ b13 : Int32, b13 = (σ0.2.1 r9 (x1 : Int32).toNatClampNeg) → P b13 σ0))))))))))))))
set_option maxHeartbeats 4000000 in
set_option maxRecDepth 100000 in
theorem X_St_localAt (l : Launch) (dC : Nat → ClassId) (dI : Nat → Nat → Nat) (ca : Nat → ClassId) (H0 : Heap) (σ0 : CST) (a0 : Nat) (x1 : Int32) {P : Int32 → CST → Prop} (hw : x_St_localAt a0 x1 σ0 P) : Met l g_St_localAt (mW g_St_localAt prog_9_method_7_code 2 (some .int)) ({ frames := 0, cells := σ0.2.2.2.2.1, slots := σ0.2.2.2.2.2.1, locals := 0 } : Room) (va_Pc [.ref a0, .int x1] (CPre (dC, dI) ca σ0 H0)) (va_Qi P (CB (dC, dI) ca σ0 H0) (cA σ0 H0.size)) σ0.2.2.2.2.1 σ0.2.2.2.2.2.1 (cA σ0 H0.size) := by
  refine C_ofi (by decide +kernel) rfl rfl rfl (Nat.le_of_ble_eq_true rfl) ?_
  intro p e s m below meth cx Q A ls C hnm hend hH0 h hl
  subst hH0
  have C0 := C
  obtain ⟨⟨hx, hb, hml, hown, hts⟩, hsub⟩ := C0
  obtain ⟨cells, e_cells⟩ : ∃ z : Nat, z = 0 := ⟨_, rfl⟩
  obtain ⟨slots, e_slots⟩ : ∃ z : Nat, z = 0 := ⟨_, rfl⟩
  have h : CH (dC, dI) A ca ({ frames := 0, cells := σ0.2.2.2.2.1, slots := σ0.2.2.2.2.2.1, locals := 0 } : Room) σ0.2.2.2.2.2.2 σ0 s s.heap [] cells slots := by rw [e_cells, e_slots]; exact h
  show W p l e ({ frames := 0, cells := σ0.2.2.2.2.1, slots := σ0.2.2.2.2.2.1, locals := 0 } : Room) s m ([.ref a0, .int x1] : List Value).toArray below meth cx s.heap [] 0 0 Q (F0 m 0 ls [])
  rw [show W p l e ({ frames := 0, cells := σ0.2.2.2.2.1, slots := σ0.2.2.2.2.2.1, locals := 0 } : Room) s m ([.ref a0, .int x1] : List Value).toArray below meth cx s.heap [] 0 0 Q (F0 m 0 ls []) = W p l e ({ frames := 0, cells := σ0.2.2.2.2.1, slots := σ0.2.2.2.2.2.1, locals := 0 } : Room) s m ([.ref a0, .int x1] : List Value).toArray below meth cx s.heap [] cells slots Q (F0 m 0 ls []) by rw [e_cells, e_slots]]
  have hl : lv_has ls 2 [(0, .ref a0), (1, .int x1)] := hl
  unfold x_St_localAt at hw
  refine lv_iload_n hx hb h_St_localAt_0 rfl (lv_at hl 1 rfl) ?_
  refine lv_if_lt (tgt := 22) hx hb h_St_localAt_1 (by decide) (fun c1 => ?_) (fun c1 => ?_)
  · skip
    replace hw := hw.1 c1
    refine lv_iconst (v := 0) hx hb h_St_localAt_22 (by decide) ?_
    exact hend (0 : Int32) σ0 _ _ _ _ _ _ hw h h_St_localAt_23
  · skip
    replace hw := hw.2 c1
    refine lv_iload_n hx hb h_St_localAt_4 rfl (lv_at hl 1 rfl) ?_
    refine lv_aload_n hx hb h_St_localAt_5 rfl (lv_at hl 0 rfl) ?_
    obtain ⟨g2, hw⟩ := hw
    refine C_get C h 8 0 (v := va_rf (σ0.2.2.2.1 a0 0)) g2 rfl (Cn := R_St) (T := T_St) (N := 4) rfl (by decide) rfl uw_St (by decide) u_495 (fun _ q => q) h_St_localAt_6 ?_
    refine lv_topq (fun b3 e_b3 => ?_)
    replace hw := hw b3 e_b3
    obtain ⟨r4, e_r4, hw⟩ := hw
    subst e_r4
    have hl : lv_has ls 2 [(0, .ref a0), (1, .int x1)] := hl
    refine W.eq (g2 := F0 m 9 ls [.ref r4, .int x1]) rfl ?_
    obtain ⟨n6, g5, hw⟩ := hw
    refine C_alen C h 20 0 rfl (by decide) g5 h_St_localAt_9 ?_
    refine lv_icmp_ge (tgt := 22) hx hb h_St_localAt_10 (by decide) (fun c7 => ?_) (fun c7 => ?_)
    · skip
      replace hw := hw.1 c7
      refine lv_iconst (v := 0) hx hb h_St_localAt_22 (by decide) ?_
      exact hend (0 : Int32) σ0 _ _ _ _ _ _ hw h h_St_localAt_23
    · skip
      replace hw := hw.2 c7
      refine lv_aload_n hx hb h_St_localAt_13 rfl (lv_at hl 0 rfl) ?_
      refine C_get C h 8 0 (v := va_rf (σ0.2.2.2.1 a0 0)) g2 rfl (Cn := R_St) (T := T_St) (N := 4) rfl (by decide) rfl uw_St (by decide) u_495 (fun _ q => q) h_St_localAt_14 ?_
      refine lv_topq (fun b8 e_b8 => ?_)
      replace hw := hw b8 e_b8
      refine lv_iload_n hx hb h_St_localAt_17 rfl (lv_at hl 1 rfl) ?_
      obtain ⟨r9, e_r9, hw⟩ := hw
      subst e_r9
      have hl : lv_has ls 2 [(0, .ref a0), (1, .int x1)] := hl
      refine W.eq (g2 := F0 m 18 ls [.int x1, .ref r9]) rfl ?_
      obtain ⟨n11, g10, hw⟩ := hw
      obtain ⟨g12, hw⟩ := hw
      refine C_iald C h g10 g12 h_St_localAt_18 ?_
      refine lv_topi (fun b13 e_b13 => ?_)
      replace hw := hw b13 e_b13
      refine lv_goto (tgt := 23) hx hb h_St_localAt_19 (by decide) ?_
      exact hend b13 σ0 _ _ _ _ _ _ hw h h_St_localAt_23
abbrev g_St_setLocal : MethodName := ⟨"MapFramer$State", "setLocal", "(II)V"⟩
theorem u_506 : (Cond.methodLink "MapFramer$State" 41 ⟨"MapFramer$World", "width", "(I)I"⟩ : Cond) ∈ bigW := inB_4 70 (by decide +kernel) rfl
theorem h_St_setLocal_0 : decode prog_9_method_8_code 0 = .ok (.iload_n 1, 1) := by decide +kernel
theorem h_St_setLocal_1 : decode prog_9_method_8_code 1 = .ok (.ifCond .lt 17, 3) := by decide +kernel
theorem h_St_setLocal_4 : decode prog_9_method_8_code 4 = .ok (.iload_n 1, 1) := by decide +kernel
theorem h_St_setLocal_5 : decode prog_9_method_8_code 5 = .ok (.iload_n 2, 1) := by decide +kernel
theorem h_St_setLocal_6 : decode prog_9_method_8_code 6 = .ok (.invokestatic 41, 3) := by decide +kernel
theorem h_St_setLocal_9 : decode prog_9_method_8_code 9 = .ok (.iadd, 1) := by decide +kernel
theorem h_St_setLocal_10 : decode prog_9_method_8_code 10 = .ok (.aload_n 0, 1) := by decide +kernel
theorem h_St_setLocal_11 : decode prog_9_method_8_code 11 = .ok (.getfield 7, 3) := by decide +kernel
theorem h_St_setLocal_14 : decode prog_9_method_8_code 14 = .ok (.arraylength, 1) := by decide +kernel
theorem h_St_setLocal_15 : decode prog_9_method_8_code 15 = .ok (.if_icmp .le 4, 3) := by decide +kernel
theorem h_St_setLocal_18 : decode prog_9_method_8_code 18 = .ok (.return_, 1) := by decide +kernel
theorem h_St_setLocal_19 : decode prog_9_method_8_code 19 = .ok (.iload_n 1, 1) := by decide +kernel
theorem h_St_setLocal_20 : decode prog_9_method_8_code 20 = .ok (.ifCond .le 24, 3) := by decide +kernel
theorem h_St_setLocal_23 : decode prog_9_method_8_code 23 = .ok (.aload_n 0, 1) := by decide +kernel
theorem h_St_setLocal_24 : decode prog_9_method_8_code 24 = .ok (.getfield 7, 3) := by decide +kernel
theorem h_St_setLocal_27 : decode prog_9_method_8_code 27 = .ok (.iload_n 1, 1) := by decide +kernel
theorem h_St_setLocal_28 : decode prog_9_method_8_code 28 = .ok (.iconst 1, 1) := by decide +kernel
theorem h_St_setLocal_29 : decode prog_9_method_8_code 29 = .ok (.isub, 1) := by decide +kernel
theorem h_St_setLocal_30 : decode prog_9_method_8_code 30 = .ok (.iaload, 1) := by decide +kernel
theorem h_St_setLocal_31 : decode prog_9_method_8_code 31 = .ok (.iconst 2, 1) := by decide +kernel
theorem h_St_setLocal_32 : decode prog_9_method_8_code 32 = .ok (.if_icmp .ne 12, 3) := by decide +kernel
theorem h_St_setLocal_35 : decode prog_9_method_8_code 35 = .ok (.aload_n 0, 1) := by decide +kernel
theorem h_St_setLocal_36 : decode prog_9_method_8_code 36 = .ok (.getfield 7, 3) := by decide +kernel
theorem h_St_setLocal_39 : decode prog_9_method_8_code 39 = .ok (.iload_n 1, 1) := by decide +kernel
theorem h_St_setLocal_40 : decode prog_9_method_8_code 40 = .ok (.iconst 1, 1) := by decide +kernel
theorem h_St_setLocal_41 : decode prog_9_method_8_code 41 = .ok (.isub, 1) := by decide +kernel
theorem h_St_setLocal_42 : decode prog_9_method_8_code 42 = .ok (.iconst 0, 1) := by decide +kernel
theorem h_St_setLocal_43 : decode prog_9_method_8_code 43 = .ok (.iastore, 1) := by decide +kernel
theorem h_St_setLocal_44 : decode prog_9_method_8_code 44 = .ok (.aload_n 0, 1) := by decide +kernel
theorem h_St_setLocal_45 : decode prog_9_method_8_code 45 = .ok (.getfield 7, 3) := by decide +kernel
theorem h_St_setLocal_48 : decode prog_9_method_8_code 48 = .ok (.iload_n 1, 1) := by decide +kernel
theorem h_St_setLocal_49 : decode prog_9_method_8_code 49 = .ok (.iload_n 2, 1) := by decide +kernel
theorem h_St_setLocal_50 : decode prog_9_method_8_code 50 = .ok (.iastore, 1) := by decide +kernel
theorem h_St_setLocal_51 : decode prog_9_method_8_code 51 = .ok (.iload_n 2, 1) := by decide +kernel
theorem h_St_setLocal_52 : decode prog_9_method_8_code 52 = .ok (.iconst 2, 1) := by decide +kernel
theorem h_St_setLocal_53 : decode prog_9_method_8_code 53 = .ok (.if_icmp .ne 12, 3) := by decide +kernel
theorem h_St_setLocal_56 : decode prog_9_method_8_code 56 = .ok (.aload_n 0, 1) := by decide +kernel
theorem h_St_setLocal_57 : decode prog_9_method_8_code 57 = .ok (.getfield 7, 3) := by decide +kernel
theorem h_St_setLocal_60 : decode prog_9_method_8_code 60 = .ok (.iload_n 1, 1) := by decide +kernel
theorem h_St_setLocal_61 : decode prog_9_method_8_code 61 = .ok (.iconst 1, 1) := by decide +kernel
theorem h_St_setLocal_62 : decode prog_9_method_8_code 62 = .ok (.iadd, 1) := by decide +kernel
theorem h_St_setLocal_63 : decode prog_9_method_8_code 63 = .ok (.iconst 0, 1) := by decide +kernel
theorem h_St_setLocal_64 : decode prog_9_method_8_code 64 = .ok (.iastore, 1) := by decide +kernel
theorem h_St_setLocal_65 : decode prog_9_method_8_code 65 = .ok (.return_, 1) := by decide +kernel
def x_St_setLocal_44 (a0 : Nat) (P : CST → Prop) (z1 : Int32) (z2 : Int32) (σ : CST) : Prop := σ.1 a0 = some (8, 0) ∧ (∀ b2 : Option Nat, b2 = (σ.2.2.2.1 a0 0) → (∃ r3 : Nat, b2 = some r3 ∧ ((∃ n5 : Nat, σ.1 r3 = some (20, n5) ∧ (vp_in z1 n5 ∧ (∀ σ7 : CST, σ7 = sI σ r3 (z1 : Int32).toNatClampNeg z2 → ((z2 = 2 → σ7.1 a0 = some (8, 0) ∧ (∀ b10 : Option Nat, b10 = (σ7.2.2.2.1 a0 0) → (∃ r11 : Nat, b10 = some r11 ∧ ((∃ n13 : Nat, σ7.1 r11 = some (20, n13) ∧ (vp_in (z1 + 1) n13 ∧ (∀ σ15 : CST, σ15 = sI σ7 r11 ((z1 + 1) : Int32).toNatClampNeg (0 : Int32) → P σ15))))))) ∧ (¬ z2 = 2 → P σ7))))))))
def x_St_setLocal (a0 : Nat) (x1 : Int32) (x2 : Int32) (σ0 : CST) (P : CST → Prop) : Prop := ((x1 < 0 → P σ0) ∧ (¬ x1 < 0 → x_W_width x2 σ0 (fun r18 σ17 => σ17.1 a0 = some (8, 0) ∧ (∀ b20 : Option Nat, b20 = (σ17.2.2.2.1 a0 0) → (∃ r21 : Nat, b20 = some r21 ∧ ((∃ n23 : Nat, σ17.1 r21 = some (20, n23) ∧ ((((x1 + r18) ≤ (Int32.ofNat n23) → ((x1 ≤ 0 → x_St_setLocal_44 a0 P x1 x2 σ17) ∧ (¬ x1 ≤ 0 → ∀ b26 : Option Nat, b26 = (σ17.2.2.2.1 a0 0) → (∃ r27 : Nat, b26 = some r27 ∧ ((∃ n29 : Nat, σ17.1 r27 = some (20, n29) ∧ (vp_in (x1 - 1) n29 ∧ (∀ b31 : Int32, b31 = (σ17.2.1 r27 ((x1 - 1) : Int32).toNatClampNeg) → ((b31 = 2 → ∀ b33 : Option Nat, b33 = (σ17.2.2.2.1 a0 0) → (∃ r34 : Nat, b33 = some r34 ∧ ((∃ n36 : Nat, σ17.1 r34 = some (20, n36) ∧ (vp_in (x1 - 1) n36 ∧ (∀ σ38 : CST, σ38 = sI σ17 r34 ((x1 - 1) : Int32).toNatClampNeg (0 : Int32) → x_St_setLocal_44 a0 P x1 x2 σ38)))))) ∧ (¬ b31 = 2 → x_St_setLocal_44 a0 P x1 x2 σ17)))))))))) ∧ (¬ (x1 + r18) ≤ (Int32.ofNat n23) → P σ17))))))))))
set_option maxHeartbeats 4000000 in
set_option maxRecDepth 100000 in
theorem X_St_setLocal (l : Launch) (dC : Nat → ClassId) (dI : Nat → Nat → Nat) (ca : Nat → ClassId) (H0 : Heap) (σ0 : CST) (a0 : Nat) (x1 : Int32) (x2 : Int32) {P : CST → Prop} (hw : x_St_setLocal a0 x1 x2 σ0 P) : Met l g_St_setLocal (mW g_St_setLocal prog_9_method_8_code 3 none) ({ frames := 1, cells := σ0.2.2.2.2.1, slots := σ0.2.2.2.2.2.1, locals := 20 } : Room) (va_Pc [.ref a0, .int x1, .int x2] (CPre (dC, dI) ca σ0 H0)) (va_Qv P (CB (dC, dI) ca σ0 H0) (cA σ0 H0.size)) σ0.2.2.2.2.1 σ0.2.2.2.2.2.1 (cA σ0 H0.size) := by
  refine C_ofv (by decide +kernel) rfl rfl rfl (Nat.le_of_ble_eq_true rfl) ?_
  intro p e s m below meth cx Q A ls C hnm hend hH0 h hl
  subst hH0
  have C0 := C
  obtain ⟨⟨hx, hb, hml, hown, hts⟩, hsub⟩ := C0
  obtain ⟨cells, e_cells⟩ : ∃ z : Nat, z = 0 := ⟨_, rfl⟩
  obtain ⟨slots, e_slots⟩ : ∃ z : Nat, z = 0 := ⟨_, rfl⟩
  have h : CH (dC, dI) A ca ({ frames := 1, cells := σ0.2.2.2.2.1, slots := σ0.2.2.2.2.2.1, locals := 20 } : Room) σ0.2.2.2.2.2.2 σ0 s s.heap [] cells slots := by rw [e_cells, e_slots]; exact h
  show W p l e ({ frames := 1, cells := σ0.2.2.2.2.1, slots := σ0.2.2.2.2.2.1, locals := 20 } : Room) s m ([.ref a0, .int x1, .int x2] : List Value).toArray below meth cx s.heap [] 0 0 Q (F0 m 0 ls [])
  rw [show W p l e ({ frames := 1, cells := σ0.2.2.2.2.1, slots := σ0.2.2.2.2.2.1, locals := 20 } : Room) s m ([.ref a0, .int x1, .int x2] : List Value).toArray below meth cx s.heap [] 0 0 Q (F0 m 0 ls []) = W p l e ({ frames := 1, cells := σ0.2.2.2.2.1, slots := σ0.2.2.2.2.2.1, locals := 20 } : Room) s m ([.ref a0, .int x1, .int x2] : List Value).toArray below meth cx s.heap [] cells slots Q (F0 m 0 ls []) by rw [e_cells, e_slots]]
  have K_44 : ∀ (u9 : Unit), ∀ (z1 : Int32) (z2 : Int32) (σ : CST) (H : Heap) (locs : List Loc) (cells slots : Nat) (ls : Array Slot), x_St_setLocal_44 a0 P z1 z2 σ → CH (dC, dI) A ca ({ frames := 1, cells := σ0.2.2.2.2.1, slots := σ0.2.2.2.2.2.1, locals := 20 } : Room) σ0.2.2.2.2.2.2 σ s H locs cells slots → lv_has ls 3 [(0, .ref a0), (1, .int z1), (2, .int z2)] → W p l e ({ frames := 1, cells := σ0.2.2.2.2.1, slots := σ0.2.2.2.2.2.1, locals := 20 } : Room) s m ([.ref a0, .int x1, .int x2] : List Value).toArray below meth cx H locs cells slots Q (F0 m 44 ls []) := by
    intro u9 z1 z2 σ H locs cells slots ls hw h hl
    unfold x_St_setLocal_44 at hw
    refine lv_aload_n hx hb h_St_setLocal_44 rfl (lv_at hl 0 rfl) ?_
    obtain ⟨g1, hw⟩ := hw
    refine C_get C h 8 0 (v := va_rf (σ.2.2.2.1 a0 0)) g1 rfl (Cn := R_St) (T := T_St) (N := 4) rfl (by decide) rfl uw_St (by decide) u_495 (fun _ q => q) h_St_setLocal_45 ?_
    refine lv_topq (fun b2 e_b2 => ?_)
    replace hw := hw b2 e_b2
    refine lv_iload_n hx hb h_St_setLocal_48 rfl (lv_at hl 1 rfl) ?_
    refine lv_iload_n hx hb h_St_setLocal_49 rfl (lv_at hl 2 rfl) ?_
    obtain ⟨r3, e_r3, hw⟩ := hw
    subst e_r3
    have hl : lv_has ls 3 [(0, .ref a0), (1, .int z1), (2, .int z2)] := hl
    refine W.eq (g2 := F0 m 50 ls [.int z2, .int z1, .ref r3]) rfl ?_
    obtain ⟨n5, g4, hw⟩ := hw
    obtain ⟨g6, hw⟩ := hw
    refine C_iast C h g4 g6 h_St_setLocal_50 (fun H locs h => ?_)
    obtain ⟨σ7, e_σ7⟩ : ∃ z : CST, z = sI σ r3 (z1 : Int32).toNatClampNeg z2 := ⟨_, rfl⟩
    rw [← e_σ7] at h
    replace hw := hw σ7 e_σ7
    refine lv_iload_n hx hb h_St_setLocal_51 rfl (lv_at hl 2 rfl) ?_
    refine lv_iconst (v := 2) hx hb h_St_setLocal_52 (by decide) ?_
    refine lv_icmp_ne (tgt := 65) hx hb h_St_setLocal_53 (by decide) (fun c8 => ?_) (fun c8 => ?_)
    · skip
      replace hw := hw.2 c8
      exact hend σ7 _ _ _ _ _ _ hw h h_St_setLocal_65
    · skip
      replace hw := hw.1 c8
      refine lv_aload_n hx hb h_St_setLocal_56 rfl (lv_at hl 0 rfl) ?_
      obtain ⟨g9, hw⟩ := hw
      refine C_get C h 8 0 (v := va_rf (σ7.2.2.2.1 a0 0)) g9 rfl (Cn := R_St) (T := T_St) (N := 4) rfl (by decide) rfl uw_St (by decide) u_495 (fun _ q => q) h_St_setLocal_57 ?_
      refine lv_topq (fun b10 e_b10 => ?_)
      replace hw := hw b10 e_b10
      refine lv_iload_n hx hb h_St_setLocal_60 rfl (lv_at hl 1 rfl) ?_
      refine lv_iconst (v := 1) hx hb h_St_setLocal_61 (by decide) ?_
      refine lv_iadd hx hb h_St_setLocal_62 ?_
      refine lv_iconst (v := 0) hx hb h_St_setLocal_63 (by decide) ?_
      obtain ⟨r11, e_r11, hw⟩ := hw
      subst e_r11
      have hl : lv_has ls 3 [(0, .ref a0), (1, .int z1), (2, .int z2)] := hl
      refine W.eq (g2 := F0 m 64 ls [.int 0, .int (z1 + 1), .ref r11]) rfl ?_
      obtain ⟨n13, g12, hw⟩ := hw
      obtain ⟨g14, hw⟩ := hw
      refine C_iast C h g12 g14 h_St_setLocal_64 (fun H locs h => ?_)
      obtain ⟨σ15, e_σ15⟩ : ∃ z : CST, z = sI σ7 r11 ((z1 + 1) : Int32).toNatClampNeg (0 : Int32) := ⟨_, rfl⟩
      rw [← e_σ15] at h
      replace hw := hw σ15 e_σ15
      exact hend σ15 _ _ _ _ _ _ hw h h_St_setLocal_65
  have hl : lv_has ls 3 [(0, .ref a0), (1, .int x1), (2, .int x2)] := hl
  unfold x_St_setLocal at hw
  refine lv_iload_n hx hb h_St_setLocal_0 rfl (lv_at hl 1 rfl) ?_
  refine lv_if_lt (tgt := 18) hx hb h_St_setLocal_1 (by decide) (fun c16 => ?_) (fun c16 => ?_)
  · skip
    replace hw := hw.1 c16
    exact hend σ0 _ _ _ _ _ _ hw h h_St_setLocal_18
  · skip
    replace hw := hw.2 c16
    refine lv_iload_n hx hb h_St_setLocal_4 rfl (lv_at hl 1 rfl) ?_
    refine lv_iload_n hx hb h_St_setLocal_5 rfl (lv_at hl 2 rfl) ?_
    refine C_callSi (As := [.int x2]) (rest := [.int x1]) C h (X_W_width l dC dI ca s.heap σ0 x2 hw) (va_cwS 1 hts (gS hsub u_506 u_50 u_51 u_52) rfl rfl rfl (by decide +kernel) ⟨(Nat.le_of_ble_eq_true rfl), (Nat.le_of_ble_eq_true rfl)⟩) rfl hl.1 (Nat.le_of_ble_eq_true rfl) h_St_setLocal_6 (fun r18 σ17 H locs cells slots hw9 h9 => ?_)
    clear hw h; have hw := hw9; have h := h9; clear hw9 h9
    refine W.eq (g2 := F0 m 9 ls [.int r18, .int x1]) rfl ?_
    refine lv_iadd hx hb h_St_setLocal_9 ?_
    refine lv_aload_n hx hb h_St_setLocal_10 rfl (lv_at hl 0 rfl) ?_
    obtain ⟨g19, hw⟩ := hw
    refine C_get C h 8 0 (v := va_rf (σ17.2.2.2.1 a0 0)) g19 rfl (Cn := R_St) (T := T_St) (N := 4) rfl (by decide) rfl uw_St (by decide) u_495 (fun _ q => q) h_St_setLocal_11 ?_
    refine lv_topq (fun b20 e_b20 => ?_)
    replace hw := hw b20 e_b20
    obtain ⟨r21, e_r21, hw⟩ := hw
    subst e_r21
    have hl : lv_has ls 3 [(0, .ref a0), (1, .int x1), (2, .int x2)] := hl
    refine W.eq (g2 := F0 m 14 ls [.ref r21, .int (x1 + r18)]) rfl ?_
    obtain ⟨n23, g22, hw⟩ := hw
    refine C_alen C h 20 0 rfl (by decide) g22 h_St_setLocal_14 ?_
    refine lv_icmp_le (tgt := 19) hx hb h_St_setLocal_15 (by decide) (fun c24 => ?_) (fun c24 => ?_)
    · skip
      replace hw := hw.1 c24
      refine lv_iload_n hx hb h_St_setLocal_19 rfl (lv_at hl 1 rfl) ?_
      refine lv_if_le (tgt := 44) hx hb h_St_setLocal_20 (by decide) (fun c25 => ?_) (fun c25 => ?_)
      · skip
        replace hw := hw.1 c25
        exact K_44 () x1 x2 σ17 _ _ _ _ _ hw h (lv_sub hl [0, 1, 2] rfl)
      · skip
        replace hw := hw.2 c25
        refine lv_aload_n hx hb h_St_setLocal_23 rfl (lv_at hl 0 rfl) ?_
        refine C_get C h 8 0 (v := va_rf (σ17.2.2.2.1 a0 0)) g19 rfl (Cn := R_St) (T := T_St) (N := 4) rfl (by decide) rfl uw_St (by decide) u_495 (fun _ q => q) h_St_setLocal_24 ?_
        refine lv_topq (fun b26 e_b26 => ?_)
        replace hw := hw b26 e_b26
        refine lv_iload_n hx hb h_St_setLocal_27 rfl (lv_at hl 1 rfl) ?_
        refine lv_iconst (v := 1) hx hb h_St_setLocal_28 (by decide) ?_
        refine lv_isub hx hb h_St_setLocal_29 ?_
        obtain ⟨r27, e_r27, hw⟩ := hw
        subst e_r27
        have hl : lv_has ls 3 [(0, .ref a0), (1, .int x1), (2, .int x2)] := hl
        refine W.eq (g2 := F0 m 30 ls [.int (x1 - 1), .ref r27]) rfl ?_
        obtain ⟨n29, g28, hw⟩ := hw
        obtain ⟨g30, hw⟩ := hw
        refine C_iald C h g28 g30 h_St_setLocal_30 ?_
        refine lv_topi (fun b31 e_b31 => ?_)
        replace hw := hw b31 e_b31
        refine lv_iconst (v := 2) hx hb h_St_setLocal_31 (by decide) ?_
        refine lv_icmp_ne (tgt := 44) hx hb h_St_setLocal_32 (by decide) (fun c32 => ?_) (fun c32 => ?_)
        · skip
          replace hw := hw.2 c32
          exact K_44 () x1 x2 σ17 _ _ _ _ _ hw h (lv_sub hl [0, 1, 2] rfl)
        · skip
          replace hw := hw.1 c32
          refine lv_aload_n hx hb h_St_setLocal_35 rfl (lv_at hl 0 rfl) ?_
          refine C_get C h 8 0 (v := va_rf (σ17.2.2.2.1 a0 0)) g19 rfl (Cn := R_St) (T := T_St) (N := 4) rfl (by decide) rfl uw_St (by decide) u_495 (fun _ q => q) h_St_setLocal_36 ?_
          refine lv_topq (fun b33 e_b33 => ?_)
          replace hw := hw b33 e_b33
          refine lv_iload_n hx hb h_St_setLocal_39 rfl (lv_at hl 1 rfl) ?_
          refine lv_iconst (v := 1) hx hb h_St_setLocal_40 (by decide) ?_
          refine lv_isub hx hb h_St_setLocal_41 ?_
          refine lv_iconst (v := 0) hx hb h_St_setLocal_42 (by decide) ?_
          obtain ⟨r34, e_r34, hw⟩ := hw
          subst e_r34
          have hl : lv_has ls 3 [(0, .ref a0), (1, .int x1), (2, .int x2)] := hl
          refine W.eq (g2 := F0 m 43 ls [.int 0, .int (x1 - 1), .ref r34]) rfl ?_
          obtain ⟨n36, g35, hw⟩ := hw
          obtain ⟨g37, hw⟩ := hw
          refine C_iast C h g35 g37 h_St_setLocal_43 (fun H locs h => ?_)
          obtain ⟨σ38, e_σ38⟩ : ∃ z : CST, z = sI σ17 r34 ((x1 - 1) : Int32).toNatClampNeg (0 : Int32) := ⟨_, rfl⟩
          rw [← e_σ38] at h
          replace hw := hw σ38 e_σ38
          exact K_44 () x1 x2 σ38 _ _ _ _ _ hw h (lv_sub hl [0, 1, 2] rfl)
    · skip
      replace hw := hw.2 c24
      exact hend σ17 _ _ _ _ _ _ hw h h_St_setLocal_18
abbrev g_St_replaceLocals : MethodName := ⟨"MapFramer$State", "replaceLocals", "(II)V"⟩
theorem h_St_replaceLocals_0 : decode prog_9_method_9_code 0 = .ok (.iconst 0, 1) := by decide +kernel
theorem h_St_replaceLocals_1 : decode prog_9_method_9_code 1 = .ok (.istore_n 3, 1) := by decide +kernel
theorem h_St_replaceLocals_2 : decode prog_9_method_9_code 2 = .ok (.iload_n 3, 1) := by decide +kernel
theorem h_St_replaceLocals_3 : decode prog_9_method_9_code 3 = .ok (.aload_n 0, 1) := by decide +kernel
theorem h_St_replaceLocals_4 : decode prog_9_method_9_code 4 = .ok (.getfield 7, 3) := by decide +kernel
theorem h_St_replaceLocals_7 : decode prog_9_method_9_code 7 = .ok (.arraylength, 1) := by decide +kernel
theorem h_St_replaceLocals_8 : decode prog_9_method_9_code 8 = .ok (.if_icmp .ge 26, 3) := by decide +kernel
theorem h_St_replaceLocals_11 : decode prog_9_method_9_code 11 = .ok (.aload_n 0, 1) := by decide +kernel
theorem h_St_replaceLocals_12 : decode prog_9_method_9_code 12 = .ok (.getfield 7, 3) := by decide +kernel
theorem h_St_replaceLocals_15 : decode prog_9_method_9_code 15 = .ok (.iload_n 3, 1) := by decide +kernel
theorem h_St_replaceLocals_16 : decode prog_9_method_9_code 16 = .ok (.iaload, 1) := by decide +kernel
theorem h_St_replaceLocals_17 : decode prog_9_method_9_code 17 = .ok (.iload_n 1, 1) := by decide +kernel
theorem h_St_replaceLocals_18 : decode prog_9_method_9_code 18 = .ok (.if_icmp .ne 10, 3) := by decide +kernel
theorem h_St_replaceLocals_21 : decode prog_9_method_9_code 21 = .ok (.aload_n 0, 1) := by decide +kernel
theorem h_St_replaceLocals_22 : decode prog_9_method_9_code 22 = .ok (.getfield 7, 3) := by decide +kernel
theorem h_St_replaceLocals_25 : decode prog_9_method_9_code 25 = .ok (.iload_n 3, 1) := by decide +kernel
theorem h_St_replaceLocals_26 : decode prog_9_method_9_code 26 = .ok (.iload_n 2, 1) := by decide +kernel
theorem h_St_replaceLocals_27 : decode prog_9_method_9_code 27 = .ok (.iastore, 1) := by decide +kernel
theorem h_St_replaceLocals_28 : decode prog_9_method_9_code 28 = .ok (.iinc 3 1, 3) := by decide +kernel
theorem h_St_replaceLocals_31 : decode prog_9_method_9_code 31 = .ok (.goto (-29), 3) := by decide +kernel
theorem h_St_replaceLocals_34 : decode prog_9_method_9_code 34 = .ok (.return_, 1) := by decide +kernel
def x_St_replaceLocals_28 (a0 : Nat) (K2 : Int32 → Int32 → Int32 → CST → Prop) (P : CST → Prop) (z1 : Int32) (z2 : Int32) (z3 : Int32) (σ : CST) : Prop := K2 z1 z2 (z3 + 1) σ
def x_St_replaceLocals_2 (a0 : Nat) (P : CST → Prop) : Nat → Int32 → Int32 → Int32 → CST → Prop
  | 0, _, _, _, _ => False
  | n + 1, z1, z2, z3, σ => σ.1 a0 = some (8, 0) ∧ (∀ b2 : Option Nat, b2 = (σ.2.2.2.1 a0 0) → (∃ r3 : Nat, b2 = some r3 ∧ ((∃ n5 : Nat, σ.1 r3 = some (20, n5) ∧ ((((Int32.ofNat n5) ≤ z3 → P σ) ∧ (¬ (Int32.ofNat n5) ≤ z3 → ∀ b7 : Option Nat, b7 = (σ.2.2.2.1 a0 0) → (∃ r8 : Nat, b7 = some r8 ∧ ((∃ n10 : Nat, σ.1 r8 = some (20, n10) ∧ (vp_in z3 n10 ∧ (∀ b12 : Int32, b12 = (σ.2.1 r8 (z3 : Int32).toNatClampNeg) → ((b12 = z1 → ∀ b14 : Option Nat, b14 = (σ.2.2.2.1 a0 0) → (∃ r15 : Nat, b14 = some r15 ∧ ((∃ n17 : Nat, σ.1 r15 = some (20, n17) ∧ (vp_in z3 n17 ∧ (∀ σ19 : CST, σ19 = sI σ r15 (z3 : Int32).toNatClampNeg z2 → x_St_replaceLocals_28 a0 (x_St_replaceLocals_2 a0 P n) P z1 z2 z3 σ19)))))) ∧ (¬ b12 = z1 → x_St_replaceLocals_28 a0 (x_St_replaceLocals_2 a0 P n) P z1 z2 z3 σ))))))))))))))
def x_St_replaceLocals (a0 : Nat) (x1 : Int32) (x2 : Int32) (σ0 : CST) (P : CST → Prop) : Prop := (∃ n9 : Nat, x_St_replaceLocals_2 a0 P n9 x1 x2 0 σ0)
set_option maxHeartbeats 4000000 in
set_option maxRecDepth 100000 in
theorem X_St_replaceLocals (l : Launch) (dC : Nat → ClassId) (dI : Nat → Nat → Nat) (ca : Nat → ClassId) (H0 : Heap) (σ0 : CST) (a0 : Nat) (x1 : Int32) (x2 : Int32) {P : CST → Prop} (hw : x_St_replaceLocals a0 x1 x2 σ0 P) : Met l g_St_replaceLocals (mW g_St_replaceLocals prog_9_method_9_code 4 none) ({ frames := 0, cells := σ0.2.2.2.2.1, slots := σ0.2.2.2.2.2.1, locals := 0 } : Room) (va_Pc [.ref a0, .int x1, .int x2] (CPre (dC, dI) ca σ0 H0)) (va_Qv P (CB (dC, dI) ca σ0 H0) (cA σ0 H0.size)) σ0.2.2.2.2.1 σ0.2.2.2.2.2.1 (cA σ0 H0.size) := by
  refine C_ofv (by decide +kernel) rfl rfl rfl (Nat.le_of_ble_eq_true rfl) ?_
  intro p e s m below meth cx Q A ls C hnm hend hH0 h hl
  subst hH0
  have C0 := C
  obtain ⟨⟨hx, hb, hml, hown, hts⟩, hsub⟩ := C0
  obtain ⟨cells, e_cells⟩ : ∃ z : Nat, z = 0 := ⟨_, rfl⟩
  obtain ⟨slots, e_slots⟩ : ∃ z : Nat, z = 0 := ⟨_, rfl⟩
  have h : CH (dC, dI) A ca ({ frames := 0, cells := σ0.2.2.2.2.1, slots := σ0.2.2.2.2.2.1, locals := 0 } : Room) σ0.2.2.2.2.2.2 σ0 s s.heap [] cells slots := by rw [e_cells, e_slots]; exact h
  show W p l e ({ frames := 0, cells := σ0.2.2.2.2.1, slots := σ0.2.2.2.2.2.1, locals := 0 } : Room) s m ([.ref a0, .int x1, .int x2] : List Value).toArray below meth cx s.heap [] 0 0 Q (F0 m 0 ls [])
  rw [show W p l e ({ frames := 0, cells := σ0.2.2.2.2.1, slots := σ0.2.2.2.2.2.1, locals := 0 } : Room) s m ([.ref a0, .int x1, .int x2] : List Value).toArray below meth cx s.heap [] 0 0 Q (F0 m 0 ls []) = W p l e ({ frames := 0, cells := σ0.2.2.2.2.1, slots := σ0.2.2.2.2.2.1, locals := 0 } : Room) s m ([.ref a0, .int x1, .int x2] : List Value).toArray below meth cx s.heap [] cells slots Q (F0 m 0 ls []) by rw [e_cells, e_slots]]
  have K_28 : ∀ (K2 : Int32 → Int32 → Int32 → CST → Prop) (hK2 : ∀ (z1 : Int32) (z2 : Int32) (z3 : Int32) (σ : CST) (H : Heap) (locs : List Loc) (cells slots : Nat) (ls : Array Slot), K2 z1 z2 z3 σ → CH (dC, dI) A ca ({ frames := 0, cells := σ0.2.2.2.2.1, slots := σ0.2.2.2.2.2.1, locals := 0 } : Room) σ0.2.2.2.2.2.2 σ s H locs cells slots → lv_has ls 4 [(0, .ref a0), (1, .int z1), (2, .int z2), (3, .int z3)] → W p l e ({ frames := 0, cells := σ0.2.2.2.2.1, slots := σ0.2.2.2.2.2.1, locals := 0 } : Room) s m ([.ref a0, .int x1, .int x2] : List Value).toArray below meth cx H locs cells slots Q (F0 m 2 ls [])), ∀ (z1 : Int32) (z2 : Int32) (z3 : Int32) (σ : CST) (H : Heap) (locs : List Loc) (cells slots : Nat) (ls : Array Slot), x_St_replaceLocals_28 a0 K2 P z1 z2 z3 σ → CH (dC, dI) A ca ({ frames := 0, cells := σ0.2.2.2.2.1, slots := σ0.2.2.2.2.2.1, locals := 0 } : Room) σ0.2.2.2.2.2.2 σ s H locs cells slots → lv_has ls 4 [(0, .ref a0), (1, .int z1), (2, .int z2), (3, .int z3)] → W p l e ({ frames := 0, cells := σ0.2.2.2.2.1, slots := σ0.2.2.2.2.2.1, locals := 0 } : Room) s m ([.ref a0, .int x1, .int x2] : List Value).toArray below meth cx H locs cells slots Q (F0 m 28 ls []) := by
    intro K2 hK2 z1 z2 z3 σ H locs cells slots ls hw h hl
    unfold x_St_replaceLocals_28 at hw
    refine lv_iinc (v := (z3 + 1)) (lv' := [(3, .int (z3 + 1)), (0, .ref a0), (1, .int z1), (2, .int z2)]) hx hb h_St_replaceLocals_28 hl (k := 3) rfl (rfl) (by decide) rfl (fun ls hl => ?_)
    refine lv_goto (tgt := 2) hx hb h_St_replaceLocals_31 (by decide) ?_
    exact hK2 z1 z2 (z3 + 1) σ _ _ _ _ _ hw h (lv_sub hl [1, 2, 3, 0] rfl)
  have K_2 : ∀ (n : Nat), ∀ (z1 : Int32) (z2 : Int32) (z3 : Int32) (σ : CST) (H : Heap) (locs : List Loc) (cells slots : Nat) (ls : Array Slot), x_St_replaceLocals_2 a0 P n z1 z2 z3 σ → CH (dC, dI) A ca ({ frames := 0, cells := σ0.2.2.2.2.1, slots := σ0.2.2.2.2.2.1, locals := 0 } : Room) σ0.2.2.2.2.2.2 σ s H locs cells slots → lv_has ls 4 [(0, .ref a0), (1, .int z1), (2, .int z2), (3, .int z3)] → W p l e ({ frames := 0, cells := σ0.2.2.2.2.1, slots := σ0.2.2.2.2.2.1, locals := 0 } : Room) s m ([.ref a0, .int x1, .int x2] : List Value).toArray below meth cx H locs cells slots Q (F0 m 2 ls []) := by
    intro  n
    induction n with
    | zero => intro z1 z2 z3 σ H locs cells slots ls hw h hl; unfold x_St_replaceLocals_2 at hw; exact hw.elim
    | succ n ih =>
      intro z1 z2 z3 σ H locs cells slots ls hw h hl
      unfold x_St_replaceLocals_2 at hw
      refine lv_iload_n hx hb h_St_replaceLocals_2 rfl (lv_at hl 3 rfl) ?_
      refine lv_aload_n hx hb h_St_replaceLocals_3 rfl (lv_at hl 0 rfl) ?_
      obtain ⟨g1, hw⟩ := hw
      refine C_get C h 8 0 (v := va_rf (σ.2.2.2.1 a0 0)) g1 rfl (Cn := R_St) (T := T_St) (N := 4) rfl (by decide) rfl uw_St (by decide) u_495 (fun _ q => q) h_St_replaceLocals_4 ?_
      refine lv_topq (fun b2 e_b2 => ?_)
      replace hw := hw b2 e_b2
      obtain ⟨r3, e_r3, hw⟩ := hw
      subst e_r3
      have hl : lv_has ls 4 [(0, .ref a0), (1, .int z1), (2, .int z2), (3, .int z3)] := hl
      refine W.eq (g2 := F0 m 7 ls [.ref r3, .int z3]) rfl ?_
      obtain ⟨n5, g4, hw⟩ := hw
      refine C_alen C h 20 0 rfl (by decide) g4 h_St_replaceLocals_7 ?_
      refine lv_icmp_ge (tgt := 34) hx hb h_St_replaceLocals_8 (by decide) (fun c6 => ?_) (fun c6 => ?_)
      · skip
        replace hw := hw.1 c6
        exact hend σ _ _ _ _ _ _ hw h h_St_replaceLocals_34
      · skip
        replace hw := hw.2 c6
        refine lv_aload_n hx hb h_St_replaceLocals_11 rfl (lv_at hl 0 rfl) ?_
        refine C_get C h 8 0 (v := va_rf (σ.2.2.2.1 a0 0)) g1 rfl (Cn := R_St) (T := T_St) (N := 4) rfl (by decide) rfl uw_St (by decide) u_495 (fun _ q => q) h_St_replaceLocals_12 ?_
        refine lv_topq (fun b7 e_b7 => ?_)
        replace hw := hw b7 e_b7
        refine lv_iload_n hx hb h_St_replaceLocals_15 rfl (lv_at hl 3 rfl) ?_
        obtain ⟨r8, e_r8, hw⟩ := hw
        subst e_r8
        have hl : lv_has ls 4 [(0, .ref a0), (1, .int z1), (2, .int z2), (3, .int z3)] := hl
        refine W.eq (g2 := F0 m 16 ls [.int z3, .ref r8]) rfl ?_
        obtain ⟨n10, g9, hw⟩ := hw
        obtain ⟨g11, hw⟩ := hw
        refine C_iald C h g9 g11 h_St_replaceLocals_16 ?_
        refine lv_topi (fun b12 e_b12 => ?_)
        replace hw := hw b12 e_b12
        refine lv_iload_n hx hb h_St_replaceLocals_17 rfl (lv_at hl 1 rfl) ?_
        refine lv_icmp_ne (tgt := 28) hx hb h_St_replaceLocals_18 (by decide) (fun c13 => ?_) (fun c13 => ?_)
        · skip
          replace hw := hw.2 c13
          exact K_28 _ ih z1 z2 z3 σ _ _ _ _ _ hw h (lv_sub hl [0, 1, 2, 3] rfl)
        · skip
          replace hw := hw.1 c13
          refine lv_aload_n hx hb h_St_replaceLocals_21 rfl (lv_at hl 0 rfl) ?_
          refine C_get C h 8 0 (v := va_rf (σ.2.2.2.1 a0 0)) g1 rfl (Cn := R_St) (T := T_St) (N := 4) rfl (by decide) rfl uw_St (by decide) u_495 (fun _ q => q) h_St_replaceLocals_22 ?_
          refine lv_topq (fun b14 e_b14 => ?_)
          replace hw := hw b14 e_b14
          refine lv_iload_n hx hb h_St_replaceLocals_25 rfl (lv_at hl 3 rfl) ?_
          refine lv_iload_n hx hb h_St_replaceLocals_26 rfl (lv_at hl 2 rfl) ?_
          obtain ⟨r15, e_r15, hw⟩ := hw
          subst e_r15
          have hl : lv_has ls 4 [(0, .ref a0), (1, .int z1), (2, .int z2), (3, .int z3)] := hl
          refine W.eq (g2 := F0 m 27 ls [.int z2, .int z3, .ref r15]) rfl ?_
          obtain ⟨n17, g16, hw⟩ := hw
          obtain ⟨g18, hw⟩ := hw
          refine C_iast C h g16 g18 h_St_replaceLocals_27 (fun H locs h => ?_)
          obtain ⟨σ19, e_σ19⟩ : ∃ z : CST, z = sI σ r15 (z3 : Int32).toNatClampNeg z2 := ⟨_, rfl⟩
          rw [← e_σ19] at h
          replace hw := hw σ19 e_σ19
          exact K_28 _ ih z1 z2 z3 σ19 _ _ _ _ _ hw h (lv_sub hl [0, 1, 2, 3] rfl)
  have hl : lv_has ls 4 [(0, .ref a0), (1, .int x1), (2, .int x2)] := hl
  unfold x_St_replaceLocals at hw
  refine lv_iconst (v := 0) hx hb h_St_replaceLocals_0 (by decide) ?_
  refine lv_istore_n (i := 3) (lv' := [(3, .int 0), (0, .ref a0), (1, .int x1), (2, .int x2)]) hx hb h_St_replaceLocals_1 rfl hl (by decide) rfl (fun ls hl => ?_)
  obtain ⟨n9, hw⟩ := hw
  exact K_2 n9 x1 x2 0 σ0 _ _ _ _ _ hw h (lv_sub hl [1, 2, 3, 0] rfl)
abbrev g_St_replaceStack : MethodName := ⟨"MapFramer$State", "replaceStack", "(II)V"⟩
theorem h_St_replaceStack_0 : decode prog_9_method_10_code 0 = .ok (.iconst 0, 1) := by decide +kernel
theorem h_St_replaceStack_1 : decode prog_9_method_10_code 1 = .ok (.istore_n 3, 1) := by decide +kernel
theorem h_St_replaceStack_2 : decode prog_9_method_10_code 2 = .ok (.iload_n 3, 1) := by decide +kernel
theorem h_St_replaceStack_3 : decode prog_9_method_10_code 3 = .ok (.aload_n 0, 1) := by decide +kernel
theorem h_St_replaceStack_4 : decode prog_9_method_10_code 4 = .ok (.getfield 32, 3) := by decide +kernel
theorem h_St_replaceStack_7 : decode prog_9_method_10_code 7 = .ok (.if_icmp .ge 26, 3) := by decide +kernel
theorem h_St_replaceStack_10 : decode prog_9_method_10_code 10 = .ok (.aload_n 0, 1) := by decide +kernel
theorem h_St_replaceStack_11 : decode prog_9_method_10_code 11 = .ok (.getfield 13, 3) := by decide +kernel
theorem h_St_replaceStack_14 : decode prog_9_method_10_code 14 = .ok (.iload_n 3, 1) := by decide +kernel
theorem h_St_replaceStack_15 : decode prog_9_method_10_code 15 = .ok (.iaload, 1) := by decide +kernel
theorem h_St_replaceStack_16 : decode prog_9_method_10_code 16 = .ok (.iload_n 1, 1) := by decide +kernel
theorem h_St_replaceStack_17 : decode prog_9_method_10_code 17 = .ok (.if_icmp .ne 10, 3) := by decide +kernel
theorem h_St_replaceStack_20 : decode prog_9_method_10_code 20 = .ok (.aload_n 0, 1) := by decide +kernel
theorem h_St_replaceStack_21 : decode prog_9_method_10_code 21 = .ok (.getfield 13, 3) := by decide +kernel
theorem h_St_replaceStack_24 : decode prog_9_method_10_code 24 = .ok (.iload_n 3, 1) := by decide +kernel
theorem h_St_replaceStack_25 : decode prog_9_method_10_code 25 = .ok (.iload_n 2, 1) := by decide +kernel
theorem h_St_replaceStack_26 : decode prog_9_method_10_code 26 = .ok (.iastore, 1) := by decide +kernel
theorem h_St_replaceStack_27 : decode prog_9_method_10_code 27 = .ok (.iinc 3 1, 3) := by decide +kernel
theorem h_St_replaceStack_30 : decode prog_9_method_10_code 30 = .ok (.goto (-28), 3) := by decide +kernel
theorem h_St_replaceStack_33 : decode prog_9_method_10_code 33 = .ok (.return_, 1) := by decide +kernel
def x_St_replaceStack_27 (a0 : Nat) (K2 : Int32 → Int32 → Int32 → CST → Prop) (P : CST → Prop) (z1 : Int32) (z2 : Int32) (z3 : Int32) (σ : CST) : Prop := K2 z1 z2 (z3 + 1) σ
def x_St_replaceStack_2 (a0 : Nat) (P : CST → Prop) : Nat → Int32 → Int32 → Int32 → CST → Prop
  | 0, _, _, _, _ => False
  | n + 1, z1, z2, z3, σ => σ.1 a0 = some (8, 0) ∧ ((((σ.2.1 a0 2) ≤ z3 → P σ) ∧ (¬ (σ.2.1 a0 2) ≤ z3 → ∀ b3 : Option Nat, b3 = (σ.2.2.2.1 a0 1) → (∃ r4 : Nat, b3 = some r4 ∧ ((∃ n6 : Nat, σ.1 r4 = some (20, n6) ∧ (vp_in z3 n6 ∧ (∀ b8 : Int32, b8 = (σ.2.1 r4 (z3 : Int32).toNatClampNeg) → ((b8 = z1 → ∀ b10 : Option Nat, b10 = (σ.2.2.2.1 a0 1) → (∃ r11 : Nat, b10 = some r11 ∧ ((∃ n13 : Nat, σ.1 r11 = some (20, n13) ∧ (vp_in z3 n13 ∧ (∀ σ15 : CST, σ15 = sI σ r11 (z3 : Int32).toNatClampNeg z2 → x_St_replaceStack_27 a0 (x_St_replaceStack_2 a0 P n) P z1 z2 z3 σ15)))))) ∧ (¬ b8 = z1 → x_St_replaceStack_27 a0 (x_St_replaceStack_2 a0 P n) P z1 z2 z3 σ))))))))))
def x_St_replaceStack (a0 : Nat) (x1 : Int32) (x2 : Int32) (σ0 : CST) (P : CST → Prop) : Prop := (∃ n9 : Nat, x_St_replaceStack_2 a0 P n9 x1 x2 0 σ0)
set_option maxHeartbeats 4000000 in
set_option maxRecDepth 100000 in
theorem X_St_replaceStack (l : Launch) (dC : Nat → ClassId) (dI : Nat → Nat → Nat) (ca : Nat → ClassId) (H0 : Heap) (σ0 : CST) (a0 : Nat) (x1 : Int32) (x2 : Int32) {P : CST → Prop} (hw : x_St_replaceStack a0 x1 x2 σ0 P) : Met l g_St_replaceStack (mW g_St_replaceStack prog_9_method_10_code 4 none) ({ frames := 0, cells := σ0.2.2.2.2.1, slots := σ0.2.2.2.2.2.1, locals := 0 } : Room) (va_Pc [.ref a0, .int x1, .int x2] (CPre (dC, dI) ca σ0 H0)) (va_Qv P (CB (dC, dI) ca σ0 H0) (cA σ0 H0.size)) σ0.2.2.2.2.1 σ0.2.2.2.2.2.1 (cA σ0 H0.size) := by
  refine C_ofv (by decide +kernel) rfl rfl rfl (Nat.le_of_ble_eq_true rfl) ?_
  intro p e s m below meth cx Q A ls C hnm hend hH0 h hl
  subst hH0
  have C0 := C
  obtain ⟨⟨hx, hb, hml, hown, hts⟩, hsub⟩ := C0
  obtain ⟨cells, e_cells⟩ : ∃ z : Nat, z = 0 := ⟨_, rfl⟩
  obtain ⟨slots, e_slots⟩ : ∃ z : Nat, z = 0 := ⟨_, rfl⟩
  have h : CH (dC, dI) A ca ({ frames := 0, cells := σ0.2.2.2.2.1, slots := σ0.2.2.2.2.2.1, locals := 0 } : Room) σ0.2.2.2.2.2.2 σ0 s s.heap [] cells slots := by rw [e_cells, e_slots]; exact h
  show W p l e ({ frames := 0, cells := σ0.2.2.2.2.1, slots := σ0.2.2.2.2.2.1, locals := 0 } : Room) s m ([.ref a0, .int x1, .int x2] : List Value).toArray below meth cx s.heap [] 0 0 Q (F0 m 0 ls [])
  rw [show W p l e ({ frames := 0, cells := σ0.2.2.2.2.1, slots := σ0.2.2.2.2.2.1, locals := 0 } : Room) s m ([.ref a0, .int x1, .int x2] : List Value).toArray below meth cx s.heap [] 0 0 Q (F0 m 0 ls []) = W p l e ({ frames := 0, cells := σ0.2.2.2.2.1, slots := σ0.2.2.2.2.2.1, locals := 0 } : Room) s m ([.ref a0, .int x1, .int x2] : List Value).toArray below meth cx s.heap [] cells slots Q (F0 m 0 ls []) by rw [e_cells, e_slots]]
  have K_27 : ∀ (K2 : Int32 → Int32 → Int32 → CST → Prop) (hK2 : ∀ (z1 : Int32) (z2 : Int32) (z3 : Int32) (σ : CST) (H : Heap) (locs : List Loc) (cells slots : Nat) (ls : Array Slot), K2 z1 z2 z3 σ → CH (dC, dI) A ca ({ frames := 0, cells := σ0.2.2.2.2.1, slots := σ0.2.2.2.2.2.1, locals := 0 } : Room) σ0.2.2.2.2.2.2 σ s H locs cells slots → lv_has ls 4 [(0, .ref a0), (1, .int z1), (2, .int z2), (3, .int z3)] → W p l e ({ frames := 0, cells := σ0.2.2.2.2.1, slots := σ0.2.2.2.2.2.1, locals := 0 } : Room) s m ([.ref a0, .int x1, .int x2] : List Value).toArray below meth cx H locs cells slots Q (F0 m 2 ls [])), ∀ (z1 : Int32) (z2 : Int32) (z3 : Int32) (σ : CST) (H : Heap) (locs : List Loc) (cells slots : Nat) (ls : Array Slot), x_St_replaceStack_27 a0 K2 P z1 z2 z3 σ → CH (dC, dI) A ca ({ frames := 0, cells := σ0.2.2.2.2.1, slots := σ0.2.2.2.2.2.1, locals := 0 } : Room) σ0.2.2.2.2.2.2 σ s H locs cells slots → lv_has ls 4 [(0, .ref a0), (1, .int z1), (2, .int z2), (3, .int z3)] → W p l e ({ frames := 0, cells := σ0.2.2.2.2.1, slots := σ0.2.2.2.2.2.1, locals := 0 } : Room) s m ([.ref a0, .int x1, .int x2] : List Value).toArray below meth cx H locs cells slots Q (F0 m 27 ls []) := by
    intro K2 hK2 z1 z2 z3 σ H locs cells slots ls hw h hl
    unfold x_St_replaceStack_27 at hw
    refine lv_iinc (v := (z3 + 1)) (lv' := [(3, .int (z3 + 1)), (0, .ref a0), (1, .int z1), (2, .int z2)]) hx hb h_St_replaceStack_27 hl (k := 3) rfl (rfl) (by decide) rfl (fun ls hl => ?_)
    refine lv_goto (tgt := 2) hx hb h_St_replaceStack_30 (by decide) ?_
    exact hK2 z1 z2 (z3 + 1) σ _ _ _ _ _ hw h (lv_sub hl [1, 2, 3, 0] rfl)
  have K_2 : ∀ (n : Nat), ∀ (z1 : Int32) (z2 : Int32) (z3 : Int32) (σ : CST) (H : Heap) (locs : List Loc) (cells slots : Nat) (ls : Array Slot), x_St_replaceStack_2 a0 P n z1 z2 z3 σ → CH (dC, dI) A ca ({ frames := 0, cells := σ0.2.2.2.2.1, slots := σ0.2.2.2.2.2.1, locals := 0 } : Room) σ0.2.2.2.2.2.2 σ s H locs cells slots → lv_has ls 4 [(0, .ref a0), (1, .int z1), (2, .int z2), (3, .int z3)] → W p l e ({ frames := 0, cells := σ0.2.2.2.2.1, slots := σ0.2.2.2.2.2.1, locals := 0 } : Room) s m ([.ref a0, .int x1, .int x2] : List Value).toArray below meth cx H locs cells slots Q (F0 m 2 ls []) := by
    intro  n
    induction n with
    | zero => intro z1 z2 z3 σ H locs cells slots ls hw h hl; unfold x_St_replaceStack_2 at hw; exact hw.elim
    | succ n ih =>
      intro z1 z2 z3 σ H locs cells slots ls hw h hl
      unfold x_St_replaceStack_2 at hw
      refine lv_iload_n hx hb h_St_replaceStack_2 rfl (lv_at hl 3 rfl) ?_
      refine lv_aload_n hx hb h_St_replaceStack_3 rfl (lv_at hl 0 rfl) ?_
      obtain ⟨g1, hw⟩ := hw
      refine C_get C h 8 2 (v := .int (σ.2.1 a0 2)) g1 rfl (Cn := R_St) (T := T_St) (N := 4) rfl (by decide) rfl uw_St (by decide) u_504 (fun _ q => q) h_St_replaceStack_4 ?_
      refine lv_icmp_ge (tgt := 33) hx hb h_St_replaceStack_7 (by decide) (fun c2 => ?_) (fun c2 => ?_)
      · skip
        replace hw := hw.1 c2
        exact hend σ _ _ _ _ _ _ hw h h_St_replaceStack_33
      · skip
        replace hw := hw.2 c2
        refine lv_aload_n hx hb h_St_replaceStack_10 rfl (lv_at hl 0 rfl) ?_
        refine C_get C h 8 1 (v := va_rf (σ.2.2.2.1 a0 1)) g1 rfl (Cn := R_St) (T := T_St) (N := 4) rfl (by decide) rfl uw_St (by decide) u_496 (fun _ q => q) h_St_replaceStack_11 ?_
        refine lv_topq (fun b3 e_b3 => ?_)
        replace hw := hw b3 e_b3
        refine lv_iload_n hx hb h_St_replaceStack_14 rfl (lv_at hl 3 rfl) ?_
        obtain ⟨r4, e_r4, hw⟩ := hw
        subst e_r4
        have hl : lv_has ls 4 [(0, .ref a0), (1, .int z1), (2, .int z2), (3, .int z3)] := hl
        refine W.eq (g2 := F0 m 15 ls [.int z3, .ref r4]) rfl ?_
        obtain ⟨n6, g5, hw⟩ := hw
        obtain ⟨g7, hw⟩ := hw
        refine C_iald C h g5 g7 h_St_replaceStack_15 ?_
        refine lv_topi (fun b8 e_b8 => ?_)
        replace hw := hw b8 e_b8
        refine lv_iload_n hx hb h_St_replaceStack_16 rfl (lv_at hl 1 rfl) ?_
        refine lv_icmp_ne (tgt := 27) hx hb h_St_replaceStack_17 (by decide) (fun c9 => ?_) (fun c9 => ?_)
        · skip
          replace hw := hw.2 c9
          exact K_27 _ ih z1 z2 z3 σ _ _ _ _ _ hw h (lv_sub hl [0, 1, 2, 3] rfl)
        · skip
          replace hw := hw.1 c9
          refine lv_aload_n hx hb h_St_replaceStack_20 rfl (lv_at hl 0 rfl) ?_
          refine C_get C h 8 1 (v := va_rf (σ.2.2.2.1 a0 1)) g1 rfl (Cn := R_St) (T := T_St) (N := 4) rfl (by decide) rfl uw_St (by decide) u_496 (fun _ q => q) h_St_replaceStack_21 ?_
          refine lv_topq (fun b10 e_b10 => ?_)
          replace hw := hw b10 e_b10
          refine lv_iload_n hx hb h_St_replaceStack_24 rfl (lv_at hl 3 rfl) ?_
          refine lv_iload_n hx hb h_St_replaceStack_25 rfl (lv_at hl 2 rfl) ?_
          obtain ⟨r11, e_r11, hw⟩ := hw
          subst e_r11
          have hl : lv_has ls 4 [(0, .ref a0), (1, .int z1), (2, .int z2), (3, .int z3)] := hl
          refine W.eq (g2 := F0 m 26 ls [.int z2, .int z3, .ref r11]) rfl ?_
          obtain ⟨n13, g12, hw⟩ := hw
          obtain ⟨g14, hw⟩ := hw
          refine C_iast C h g12 g14 h_St_replaceStack_26 (fun H locs h => ?_)
          obtain ⟨σ15, e_σ15⟩ : ∃ z : CST, z = sI σ r11 (z3 : Int32).toNatClampNeg z2 := ⟨_, rfl⟩
          rw [← e_σ15] at h
          replace hw := hw σ15 e_σ15
          exact K_27 _ ih z1 z2 z3 σ15 _ _ _ _ _ hw h (lv_sub hl [0, 1, 2, 3] rfl)
  have hl : lv_has ls 4 [(0, .ref a0), (1, .int x1), (2, .int x2)] := hl
  unfold x_St_replaceStack at hw
  refine lv_iconst (v := 0) hx hb h_St_replaceStack_0 (by decide) ?_
  refine lv_istore_n (i := 3) (lv' := [(3, .int 0), (0, .ref a0), (1, .int x1), (2, .int x2)]) hx hb h_St_replaceStack_1 rfl hl (by decide) rfl (fun ls hl => ?_)
  obtain ⟨n9, hw⟩ := hw
  exact K_2 n9 x1 x2 0 σ0 _ _ _ _ _ hw h (lv_sub hl [1, 2, 3, 0] rfl)
abbrev g_St_hasOnStack : MethodName := ⟨"MapFramer$State", "hasOnStack", "(I)Z"⟩
theorem h_St_hasOnStack_0 : decode prog_9_method_11_code 0 = .ok (.iconst 0, 1) := by decide +kernel
theorem h_St_hasOnStack_1 : decode prog_9_method_11_code 1 = .ok (.istore_n 2, 1) := by decide +kernel
theorem h_St_hasOnStack_2 : decode prog_9_method_11_code 2 = .ok (.iload_n 2, 1) := by decide +kernel
theorem h_St_hasOnStack_3 : decode prog_9_method_11_code 3 = .ok (.aload_n 0, 1) := by decide +kernel
theorem h_St_hasOnStack_4 : decode prog_9_method_11_code 4 = .ok (.getfield 32, 3) := by decide +kernel
theorem h_St_hasOnStack_7 : decode prog_9_method_11_code 7 = .ok (.if_icmp .ge 21, 3) := by decide +kernel
theorem h_St_hasOnStack_10 : decode prog_9_method_11_code 10 = .ok (.aload_n 0, 1) := by decide +kernel
theorem h_St_hasOnStack_11 : decode prog_9_method_11_code 11 = .ok (.getfield 13, 3) := by decide +kernel
theorem h_St_hasOnStack_14 : decode prog_9_method_11_code 14 = .ok (.iload_n 2, 1) := by decide +kernel
theorem h_St_hasOnStack_15 : decode prog_9_method_11_code 15 = .ok (.iaload, 1) := by decide +kernel
theorem h_St_hasOnStack_16 : decode prog_9_method_11_code 16 = .ok (.iload_n 1, 1) := by decide +kernel
theorem h_St_hasOnStack_17 : decode prog_9_method_11_code 17 = .ok (.if_icmp .ne 5, 3) := by decide +kernel
theorem h_St_hasOnStack_20 : decode prog_9_method_11_code 20 = .ok (.iconst 1, 1) := by decide +kernel
theorem h_St_hasOnStack_21 : decode prog_9_method_11_code 21 = .ok (.ireturn, 1) := by decide +kernel
theorem h_St_hasOnStack_22 : decode prog_9_method_11_code 22 = .ok (.iinc 2 1, 3) := by decide +kernel
theorem h_St_hasOnStack_25 : decode prog_9_method_11_code 25 = .ok (.goto (-23), 3) := by decide +kernel
theorem h_St_hasOnStack_28 : decode prog_9_method_11_code 28 = .ok (.iconst 0, 1) := by decide +kernel
theorem h_St_hasOnStack_29 : decode prog_9_method_11_code 29 = .ok (.ireturn, 1) := by decide +kernel
def x_St_hasOnStack_2 (a0 : Nat) (P : Int32 → CST → Prop) : Nat → Int32 → Int32 → CST → Prop
  | 0, _, _, _ => False
  | n + 1, z1, z2, σ => σ.1 a0 = some (8, 0) ∧ ((((σ.2.1 a0 2) ≤ z2 → P (0 : Int32) σ) ∧ (¬ (σ.2.1 a0 2) ≤ z2 → ∀ b3 : Option Nat, b3 = (σ.2.2.2.1 a0 1) → (∃ r4 : Nat, b3 = some r4 ∧ ((∃ n6 : Nat, σ.1 r4 = some (20, n6) ∧ (vp_in z2 n6 ∧ (∀ b8 : Int32, b8 = (σ.2.1 r4 (z2 : Int32).toNatClampNeg) → ((b8 = z1 → P (1 : Int32) σ) ∧ (¬ b8 = z1 → x_St_hasOnStack_2 a0 P n z1 (z2 + 1) σ))))))))))
def x_St_hasOnStack (a0 : Nat) (x1 : Int32) (σ0 : CST) (P : Int32 → CST → Prop) : Prop := (∃ n9 : Nat, x_St_hasOnStack_2 a0 P n9 x1 0 σ0)
set_option maxHeartbeats 4000000 in
set_option maxRecDepth 100000 in
theorem X_St_hasOnStack (l : Launch) (dC : Nat → ClassId) (dI : Nat → Nat → Nat) (ca : Nat → ClassId) (H0 : Heap) (σ0 : CST) (a0 : Nat) (x1 : Int32) {P : Int32 → CST → Prop} (hw : x_St_hasOnStack a0 x1 σ0 P) : Met l g_St_hasOnStack (mW g_St_hasOnStack prog_9_method_11_code 3 (some .boolean)) ({ frames := 0, cells := σ0.2.2.2.2.1, slots := σ0.2.2.2.2.2.1, locals := 0 } : Room) (va_Pc [.ref a0, .int x1] (CPre (dC, dI) ca σ0 H0)) (va_Qi P (CB (dC, dI) ca σ0 H0) (cA σ0 H0.size)) σ0.2.2.2.2.1 σ0.2.2.2.2.2.1 (cA σ0 H0.size) := by
  refine C_ofz (by decide +kernel) rfl rfl rfl (Nat.le_of_ble_eq_true rfl) ?_
  intro p e s m below meth cx Q A ls C hnm hend hH0 h hl
  subst hH0
  have C0 := C
  obtain ⟨⟨hx, hb, hml, hown, hts⟩, hsub⟩ := C0
  obtain ⟨cells, e_cells⟩ : ∃ z : Nat, z = 0 := ⟨_, rfl⟩
  obtain ⟨slots, e_slots⟩ : ∃ z : Nat, z = 0 := ⟨_, rfl⟩
  have h : CH (dC, dI) A ca ({ frames := 0, cells := σ0.2.2.2.2.1, slots := σ0.2.2.2.2.2.1, locals := 0 } : Room) σ0.2.2.2.2.2.2 σ0 s s.heap [] cells slots := by rw [e_cells, e_slots]; exact h
  show W p l e ({ frames := 0, cells := σ0.2.2.2.2.1, slots := σ0.2.2.2.2.2.1, locals := 0 } : Room) s m ([.ref a0, .int x1] : List Value).toArray below meth cx s.heap [] 0 0 Q (F0 m 0 ls [])
  rw [show W p l e ({ frames := 0, cells := σ0.2.2.2.2.1, slots := σ0.2.2.2.2.2.1, locals := 0 } : Room) s m ([.ref a0, .int x1] : List Value).toArray below meth cx s.heap [] 0 0 Q (F0 m 0 ls []) = W p l e ({ frames := 0, cells := σ0.2.2.2.2.1, slots := σ0.2.2.2.2.2.1, locals := 0 } : Room) s m ([.ref a0, .int x1] : List Value).toArray below meth cx s.heap [] cells slots Q (F0 m 0 ls []) by rw [e_cells, e_slots]]
  have K_2 : ∀ (n : Nat), ∀ (z1 : Int32) (z2 : Int32) (σ : CST) (H : Heap) (locs : List Loc) (cells slots : Nat) (ls : Array Slot), x_St_hasOnStack_2 a0 P n z1 z2 σ → CH (dC, dI) A ca ({ frames := 0, cells := σ0.2.2.2.2.1, slots := σ0.2.2.2.2.2.1, locals := 0 } : Room) σ0.2.2.2.2.2.2 σ s H locs cells slots → lv_has ls 3 [(0, .ref a0), (1, .int z1), (2, .int z2)] → W p l e ({ frames := 0, cells := σ0.2.2.2.2.1, slots := σ0.2.2.2.2.2.1, locals := 0 } : Room) s m ([.ref a0, .int x1] : List Value).toArray below meth cx H locs cells slots Q (F0 m 2 ls []) := by
    intro  n
    induction n with
    | zero => intro z1 z2 σ H locs cells slots ls hw h hl; unfold x_St_hasOnStack_2 at hw; exact hw.elim
    | succ n ih =>
      intro z1 z2 σ H locs cells slots ls hw h hl
      unfold x_St_hasOnStack_2 at hw
      refine lv_iload_n hx hb h_St_hasOnStack_2 rfl (lv_at hl 2 rfl) ?_
      refine lv_aload_n hx hb h_St_hasOnStack_3 rfl (lv_at hl 0 rfl) ?_
      obtain ⟨g1, hw⟩ := hw
      refine C_get C h 8 2 (v := .int (σ.2.1 a0 2)) g1 rfl (Cn := R_St) (T := T_St) (N := 4) rfl (by decide) rfl uw_St (by decide) u_504 (fun _ q => q) h_St_hasOnStack_4 ?_
      refine lv_icmp_ge (tgt := 28) hx hb h_St_hasOnStack_7 (by decide) (fun c2 => ?_) (fun c2 => ?_)
      · skip
        replace hw := hw.1 c2
        refine lv_iconst (v := 0) hx hb h_St_hasOnStack_28 (by decide) ?_
        exact hend (0 : Int32) σ _ _ _ _ _ _ rfl hw h h_St_hasOnStack_29
      · skip
        replace hw := hw.2 c2
        refine lv_aload_n hx hb h_St_hasOnStack_10 rfl (lv_at hl 0 rfl) ?_
        refine C_get C h 8 1 (v := va_rf (σ.2.2.2.1 a0 1)) g1 rfl (Cn := R_St) (T := T_St) (N := 4) rfl (by decide) rfl uw_St (by decide) u_496 (fun _ q => q) h_St_hasOnStack_11 ?_
        refine lv_topq (fun b3 e_b3 => ?_)
        replace hw := hw b3 e_b3
        refine lv_iload_n hx hb h_St_hasOnStack_14 rfl (lv_at hl 2 rfl) ?_
        obtain ⟨r4, e_r4, hw⟩ := hw
        subst e_r4
        have hl : lv_has ls 3 [(0, .ref a0), (1, .int z1), (2, .int z2)] := hl
        refine W.eq (g2 := F0 m 15 ls [.int z2, .ref r4]) rfl ?_
        obtain ⟨n6, g5, hw⟩ := hw
        obtain ⟨g7, hw⟩ := hw
        refine C_iald C h g5 g7 h_St_hasOnStack_15 ?_
        refine lv_topi (fun b8 e_b8 => ?_)
        replace hw := hw b8 e_b8
        refine lv_iload_n hx hb h_St_hasOnStack_16 rfl (lv_at hl 1 rfl) ?_
        refine lv_icmp_ne (tgt := 22) hx hb h_St_hasOnStack_17 (by decide) (fun c9 => ?_) (fun c9 => ?_)
        · skip
          replace hw := hw.2 c9
          refine lv_iinc (v := (z2 + 1)) (lv' := [(2, .int (z2 + 1)), (0, .ref a0), (1, .int z1)]) hx hb h_St_hasOnStack_22 hl (k := 2) rfl (rfl) (by decide) rfl (fun ls hl => ?_)
          refine lv_goto (tgt := 2) hx hb h_St_hasOnStack_25 (by decide) ?_
          exact ih z1 (z2 + 1) σ _ _ _ _ _ hw h (lv_sub hl [1, 2, 0] rfl)
        · skip
          replace hw := hw.1 c9
          refine lv_iconst (v := 1) hx hb h_St_hasOnStack_20 (by decide) ?_
          exact hend (1 : Int32) σ _ _ _ _ _ _ rfl hw h h_St_hasOnStack_21
  have hl : lv_has ls 3 [(0, .ref a0), (1, .int x1)] := hl
  unfold x_St_hasOnStack at hw
  refine lv_iconst (v := 0) hx hb h_St_hasOnStack_0 (by decide) ?_
  refine lv_istore_n (i := 2) (lv' := [(2, .int 0), (0, .ref a0), (1, .int x1)]) hx hb h_St_hasOnStack_1 rfl hl (by decide) rfl (fun ls hl => ?_)
  obtain ⟨n9, hw⟩ := hw
  exact K_2 n9 x1 0 σ0 _ _ _ _ _ hw h (lv_sub hl [1, 2, 0] rfl)
abbrev g_W_merge : MethodName := ⟨"MapFramer$World", "merge", "(II)I"⟩
theorem u_507 : (Cond.fieldLink "MapFramer$World" 11 "MapFramer$World" "parents" "[I" : Cond) ∈ bigW := inB_1 53 (by decide +kernel) rfl
theorem h_W_merge_0 : decode prog_12_method_22_code 0 = .ok (.iload_n 1, 1) := by decide +kernel
theorem h_W_merge_1 : decode prog_12_method_22_code 1 = .ok (.iload_n 2, 1) := by decide +kernel
theorem h_W_merge_2 : decode prog_12_method_22_code 2 = .ok (.if_icmp .ne 5, 3) := by decide +kernel
theorem h_W_merge_5 : decode prog_12_method_22_code 5 = .ok (.iload_n 1, 1) := by decide +kernel
theorem h_W_merge_6 : decode prog_12_method_22_code 6 = .ok (.ireturn, 1) := by decide +kernel
theorem h_W_merge_7 : decode prog_12_method_22_code 7 = .ok (.iload_n 1, 1) := by decide +kernel
theorem h_W_merge_8 : decode prog_12_method_22_code 8 = .ok (.invokestatic 62, 3) := by decide +kernel
theorem h_W_merge_11 : decode prog_12_method_22_code 11 = .ok (.ifCond .eq 10, 3) := by decide +kernel
theorem h_W_merge_14 : decode prog_12_method_22_code 14 = .ok (.iload_n 2, 1) := by decide +kernel
theorem h_W_merge_15 : decode prog_12_method_22_code 15 = .ok (.invokestatic 62, 3) := by decide +kernel
theorem h_W_merge_18 : decode prog_12_method_22_code 18 = .ok (.ifCond .ne 5, 3) := by decide +kernel
theorem h_W_merge_21 : decode prog_12_method_22_code 21 = .ok (.iconst 0, 1) := by decide +kernel
theorem h_W_merge_22 : decode prog_12_method_22_code 22 = .ok (.ireturn, 1) := by decide +kernel
theorem h_W_merge_23 : decode prog_12_method_22_code 23 = .ok (.iload_n 1, 1) := by decide +kernel
theorem h_W_merge_24 : decode prog_12_method_22_code 24 = .ok (.iconst 5, 1) := by decide +kernel
theorem h_W_merge_25 : decode prog_12_method_22_code 25 = .ok (.if_icmp .eq 8, 3) := by decide +kernel
theorem h_W_merge_28 : decode prog_12_method_22_code 28 = .ok (.iload_n 2, 1) := by decide +kernel
theorem h_W_merge_29 : decode prog_12_method_22_code 29 = .ok (.iconst 5, 1) := by decide +kernel
theorem h_W_merge_30 : decode prog_12_method_22_code 30 = .ok (.if_icmp .ne 14, 3) := by decide +kernel
theorem h_W_merge_33 : decode prog_12_method_22_code 33 = .ok (.iload_n 1, 1) := by decide +kernel
theorem h_W_merge_34 : decode prog_12_method_22_code 34 = .ok (.iconst 5, 1) := by decide +kernel
theorem h_W_merge_35 : decode prog_12_method_22_code 35 = .ok (.if_icmp .ne 7, 3) := by decide +kernel
theorem h_W_merge_38 : decode prog_12_method_22_code 38 = .ok (.iload_n 2, 1) := by decide +kernel
theorem h_W_merge_39 : decode prog_12_method_22_code 39 = .ok (.goto 4, 3) := by decide +kernel
theorem h_W_merge_42 : decode prog_12_method_22_code 42 = .ok (.iload_n 1, 1) := by decide +kernel
theorem h_W_merge_43 : decode prog_12_method_22_code 43 = .ok (.ireturn, 1) := by decide +kernel
theorem h_W_merge_44 : decode prog_12_method_22_code 44 = .ok (.iload_n 1, 1) := by decide +kernel
theorem h_W_merge_45 : decode prog_12_method_22_code 45 = .ok (.invokestatic 65, 3) := by decide +kernel
theorem h_W_merge_48 : decode prog_12_method_22_code 48 = .ok (.ifCond .eq 14, 3) := by decide +kernel
theorem h_W_merge_51 : decode prog_12_method_22_code 51 = .ok (.iload_n 2, 1) := by decide +kernel
theorem h_W_merge_52 : decode prog_12_method_22_code 52 = .ok (.invokestatic 65, 3) := by decide +kernel
theorem h_W_merge_55 : decode prog_12_method_22_code 55 = .ok (.ifCond .eq 7, 3) := by decide +kernel
theorem h_W_merge_58 : decode prog_12_method_22_code 58 = .ok (.iconst 1, 1) := by decide +kernel
theorem h_W_merge_59 : decode prog_12_method_22_code 59 = .ok (.goto 4, 3) := by decide +kernel
theorem h_W_merge_62 : decode prog_12_method_22_code 62 = .ok (.iconst 0, 1) := by decide +kernel
theorem h_W_merge_63 : decode prog_12_method_22_code 63 = .ok (.istore_n 3, 1) := by decide +kernel
theorem h_W_merge_64 : decode prog_12_method_22_code 64 = .ok (.iload_n 3, 1) := by decide +kernel
theorem h_W_merge_65 : decode prog_12_method_22_code 65 = .ok (.ifCond .ne 20, 3) := by decide +kernel
theorem h_W_merge_68 : decode prog_12_method_22_code 68 = .ok (.iload_n 1, 1) := by decide +kernel
theorem h_W_merge_69 : decode prog_12_method_22_code 69 = .ok (.invokestatic 68, 3) := by decide +kernel
theorem h_W_merge_72 : decode prog_12_method_22_code 72 = .ok (.ifCond .eq 10, 3) := by decide +kernel
theorem h_W_merge_75 : decode prog_12_method_22_code 75 = .ok (.iload_n 2, 1) := by decide +kernel
theorem h_W_merge_76 : decode prog_12_method_22_code 76 = .ok (.invokestatic 68, 3) := by decide +kernel
theorem h_W_merge_79 : decode prog_12_method_22_code 79 = .ok (.ifCond .ne 6, 3) := by decide +kernel
theorem h_W_merge_82 : decode prog_12_method_22_code 82 = .ok (.bipush 32, 2) := by decide +kernel
theorem h_W_merge_84 : decode prog_12_method_22_code 84 = .ok (.ireturn, 1) := by decide +kernel
theorem h_W_merge_85 : decode prog_12_method_22_code 85 = .ok (.iload_n 3, 1) := by decide +kernel
theorem h_W_merge_86 : decode prog_12_method_22_code 86 = .ok (.ifCond .eq 8, 3) := by decide +kernel
theorem h_W_merge_89 : decode prog_12_method_22_code 89 = .ok (.bipush 64, 2) := by decide +kernel
theorem h_W_merge_91 : decode prog_12_method_22_code 91 = .ok (.goto 5, 3) := by decide +kernel
theorem h_W_merge_94 : decode prog_12_method_22_code 94 = .ok (.bipush 32, 2) := by decide +kernel
theorem h_W_merge_96 : decode prog_12_method_22_code 96 = .ok (.istore 4, 2) := by decide +kernel
theorem h_W_merge_98 : decode prog_12_method_22_code 98 = .ok (.iload_n 1, 1) := by decide +kernel
theorem h_W_merge_99 : decode prog_12_method_22_code 99 = .ok (.iload 4, 2) := by decide +kernel
theorem h_W_merge_101 : decode prog_12_method_22_code 101 = .ok (.isub, 1) := by decide +kernel
theorem h_W_merge_102 : decode prog_12_method_22_code 102 = .ok (.istore 5, 2) := by decide +kernel
theorem h_W_merge_104 : decode prog_12_method_22_code 104 = .ok (.iconst 0, 1) := by decide +kernel
theorem h_W_merge_105 : decode prog_12_method_22_code 105 = .ok (.istore 6, 2) := by decide +kernel
theorem h_W_merge_107 : decode prog_12_method_22_code 107 = .ok (.iload 6, 2) := by decide +kernel
theorem h_W_merge_109 : decode prog_12_method_22_code 109 = .ok (.bipush 16, 2) := by decide +kernel
theorem h_W_merge_111 : decode prog_12_method_22_code 111 = .ok (.if_icmp .ge 36, 3) := by decide +kernel
theorem h_W_merge_114 : decode prog_12_method_22_code 114 = .ok (.iload 5, 2) := by decide +kernel
theorem h_W_merge_116 : decode prog_12_method_22_code 116 = .ok (.ifCond .le 31, 3) := by decide +kernel
theorem h_W_merge_119 : decode prog_12_method_22_code 119 = .ok (.aload_n 0, 1) := by decide +kernel
theorem h_W_merge_120 : decode prog_12_method_22_code 120 = .ok (.iload_n 2, 1) := by decide +kernel
theorem h_W_merge_121 : decode prog_12_method_22_code 121 = .ok (.iload 4, 2) := by decide +kernel
theorem h_W_merge_123 : decode prog_12_method_22_code 123 = .ok (.isub, 1) := by decide +kernel
theorem h_W_merge_124 : decode prog_12_method_22_code 124 = .ok (.iload 5, 2) := by decide +kernel
theorem h_W_merge_126 : decode prog_12_method_22_code 126 = .ok (.invokevirtual 71, 3) := by decide +kernel
theorem h_W_merge_129 : decode prog_12_method_22_code 129 = .ok (.ifCond .ne 18, 3) := by decide +kernel
theorem h_W_merge_132 : decode prog_12_method_22_code 132 = .ok (.aload_n 0, 1) := by decide +kernel
theorem h_W_merge_133 : decode prog_12_method_22_code 133 = .ok (.getfield 11, 3) := by decide +kernel
theorem h_W_merge_136 : decode prog_12_method_22_code 136 = .ok (.iload 5, 2) := by decide +kernel
theorem h_W_merge_138 : decode prog_12_method_22_code 138 = .ok (.iaload, 1) := by decide +kernel
theorem h_W_merge_139 : decode prog_12_method_22_code 139 = .ok (.istore 5, 2) := by decide +kernel
theorem h_W_merge_141 : decode prog_12_method_22_code 141 = .ok (.iinc 6 1, 3) := by decide +kernel
theorem h_W_merge_144 : decode prog_12_method_22_code 144 = .ok (.goto (-37), 3) := by decide +kernel
theorem h_W_merge_147 : decode prog_12_method_22_code 147 = .ok (.iload 4, 2) := by decide +kernel
theorem h_W_merge_149 : decode prog_12_method_22_code 149 = .ok (.iload 5, 2) := by decide +kernel
theorem h_W_merge_151 : decode prog_12_method_22_code 151 = .ok (.iadd, 1) := by decide +kernel
theorem h_W_merge_152 : decode prog_12_method_22_code 152 = .ok (.ireturn, 1) := by decide +kernel
def x_W_merge_33 (a0 : Nat) (P : Int32 → CST → Prop) (z1 : Int32) (z2 : Int32) (σ : CST) : Prop := ((z1 = 5 → P z2 σ) ∧ (¬ z1 = 5 → P z1 σ))
def x_W_merge_147 (a0 : Nat) (P : Int32 → CST → Prop) (z4 : Int32) (z5 : Int32) (σ : CST) : Prop := P (z4 + z5) σ
def x_W_merge_107 (a0 : Nat) (P : Int32 → CST → Prop) : Nat → Int32 → Int32 → Int32 → Int32 → CST → Prop
  | 0, _, _, _, _, _ => False
  | n + 1, z2, z4, z5, z6, σ => ((16 ≤ z6 → x_W_merge_147 a0 P z4 z5 σ) ∧ (¬ 16 ≤ z6 → ((z5 ≤ 0 → x_W_merge_147 a0 P z4 z5 σ) ∧ (¬ z5 ≤ 0 → σ.1 a0 = some (3, 0) ∧ (x_W_subs a0 (z2 - z4) z5 σ (fun r6 σ5 => ((r6 = 0 → σ5.1 a0 = some (3, 0) ∧ (∀ b9 : Option Nat, b9 = (σ5.2.2.2.1 a0 0) → (∃ r10 : Nat, b9 = some r10 ∧ ((∃ n12 : Nat, σ5.1 r10 = some (20, n12) ∧ (vp_in z5 n12 ∧ (∀ b14 : Int32, b14 = (σ5.2.1 r10 (z5 : Int32).toNatClampNeg) → x_W_merge_107 a0 P n z2 z4 b14 (z6 + 1) σ5))))))) ∧ (¬ r6 = 0 → x_W_merge_147 a0 P z4 z5 σ5))))))))
def x_W_merge_96 (a0 : Nat) (P : Int32 → CST → Prop) (z1 : Int32) (z2 : Int32) (s0 : Int32) (σ : CST) : Prop := (∃ n9 : Nat, x_W_merge_107 a0 P n9 z2 s0 (z1 - s0) 0 σ)
def x_W_merge_85 (a0 : Nat) (P : Int32 → CST → Prop) (z1 : Int32) (z2 : Int32) (z3 : Int32) (σ : CST) : Prop := ((z3 = 0 → x_W_merge_96 a0 P z1 z2 32 σ) ∧ (¬ z3 = 0 → x_W_merge_96 a0 P z1 z2 64 σ))
def x_W_merge_63 (a0 : Nat) (P : Int32 → CST → Prop) (z1 : Int32) (z2 : Int32) (s0 : Int32) (σ : CST) : Prop := ((s0 = 0 → x_W_isObject z1 σ (fun r18 σ17 => ((r18 = 0 → P (32 : Int32) σ17) ∧ (¬ r18 = 0 → x_W_isObject z2 σ17 (fun r21 σ20 => ((r21 = 0 → P (32 : Int32) σ20) ∧ (¬ r21 = 0 → x_W_merge_85 a0 P z1 z2 s0 σ20))))))) ∧ (¬ s0 = 0 → x_W_merge_85 a0 P z1 z2 s0 σ))
def x_W_merge_62 (a0 : Nat) (P : Int32 → CST → Prop) (z1 : Int32) (z2 : Int32) (σ : CST) : Prop := x_W_merge_63 a0 P z1 z2 0 σ
def x_W_merge (a0 : Nat) (x1 : Int32) (x2 : Int32) (σ0 : CST) (P : Int32 → CST → Prop) : Prop := ((x1 = x2 → P x1 σ0) ∧ (¬ x1 = x2 → x_W_isReference x1 σ0 (fun r25 σ24 => ((r25 = 0 → P (0 : Int32) σ24) ∧ (¬ r25 = 0 → x_W_isReference x2 σ24 (fun r28 σ27 => ((r28 = 0 → P (0 : Int32) σ27) ∧ (¬ r28 = 0 → ((x1 = 5 → x_W_merge_33 a0 P x1 x2 σ27) ∧ (¬ x1 = 5 → ((x2 = 5 → x_W_merge_33 a0 P x1 x2 σ27) ∧ (¬ x2 = 5 → x_W_isClassArray x1 σ27 (fun r33 σ32 => ((r33 = 0 → x_W_merge_62 a0 P x1 x2 σ32) ∧ (¬ r33 = 0 → x_W_isClassArray x2 σ32 (fun r36 σ35 => ((r36 = 0 → x_W_merge_62 a0 P x1 x2 σ35) ∧ (¬ r36 = 0 → x_W_merge_63 a0 P x1 x2 1 σ35))))))))))))))))))
set_option maxHeartbeats 4000000 in
set_option maxRecDepth 100000 in
theorem X_W_merge (l : Launch) (dC : Nat → ClassId) (dI : Nat → Nat → Nat) (ca : Nat → ClassId) (H0 : Heap) (σ0 : CST) (a0 : Nat) (x1 : Int32) (x2 : Int32) {P : Int32 → CST → Prop} (hw : x_W_merge a0 x1 x2 σ0 P) : Met l g_W_merge (mW g_W_merge prog_12_method_22_code 7 (some .int)) ({ frames := 1, cells := σ0.2.2.2.2.1, slots := σ0.2.2.2.2.2.1, locals := 22 } : Room) (va_Pc [.ref a0, .int x1, .int x2] (CPre (dC, dI) ca σ0 H0)) (va_Qi P (CB (dC, dI) ca σ0 H0) (cA σ0 H0.size)) σ0.2.2.2.2.1 σ0.2.2.2.2.2.1 (cA σ0 H0.size) := by
  refine C_ofi (by decide +kernel) rfl rfl rfl (Nat.le_of_ble_eq_true rfl) ?_
  intro p e s m below meth cx Q A ls C hnm hend hH0 h hl
  subst hH0
  have C0 := C
  obtain ⟨⟨hx, hb, hml, hown, hts⟩, hsub⟩ := C0
  obtain ⟨cells, e_cells⟩ : ∃ z : Nat, z = 0 := ⟨_, rfl⟩
  obtain ⟨slots, e_slots⟩ : ∃ z : Nat, z = 0 := ⟨_, rfl⟩
  have h : CH (dC, dI) A ca ({ frames := 1, cells := σ0.2.2.2.2.1, slots := σ0.2.2.2.2.2.1, locals := 22 } : Room) σ0.2.2.2.2.2.2 σ0 s s.heap [] cells slots := by rw [e_cells, e_slots]; exact h
  show W p l e ({ frames := 1, cells := σ0.2.2.2.2.1, slots := σ0.2.2.2.2.2.1, locals := 22 } : Room) s m ([.ref a0, .int x1, .int x2] : List Value).toArray below meth cx s.heap [] 0 0 Q (F0 m 0 ls [])
  rw [show W p l e ({ frames := 1, cells := σ0.2.2.2.2.1, slots := σ0.2.2.2.2.2.1, locals := 22 } : Room) s m ([.ref a0, .int x1, .int x2] : List Value).toArray below meth cx s.heap [] 0 0 Q (F0 m 0 ls []) = W p l e ({ frames := 1, cells := σ0.2.2.2.2.1, slots := σ0.2.2.2.2.2.1, locals := 22 } : Room) s m ([.ref a0, .int x1, .int x2] : List Value).toArray below meth cx s.heap [] cells slots Q (F0 m 0 ls []) by rw [e_cells, e_slots]]
  have K_33 : ∀ (u9 : Unit), ∀ (z1 : Int32) (z2 : Int32) (σ : CST) (H : Heap) (locs : List Loc) (cells slots : Nat) (ls : Array Slot), x_W_merge_33 a0 P z1 z2 σ → CH (dC, dI) A ca ({ frames := 1, cells := σ0.2.2.2.2.1, slots := σ0.2.2.2.2.2.1, locals := 22 } : Room) σ0.2.2.2.2.2.2 σ s H locs cells slots → lv_has ls 7 [(1, .int z1), (2, .int z2)] → W p l e ({ frames := 1, cells := σ0.2.2.2.2.1, slots := σ0.2.2.2.2.2.1, locals := 22 } : Room) s m ([.ref a0, .int x1, .int x2] : List Value).toArray below meth cx H locs cells slots Q (F0 m 33 ls []) := by
    intro u9 z1 z2 σ H locs cells slots ls hw h hl
    unfold x_W_merge_33 at hw
    refine lv_iload_n hx hb h_W_merge_33 rfl (lv_at hl 0 rfl) ?_
    refine lv_iconst (v := 5) hx hb h_W_merge_34 (by decide) ?_
    refine lv_icmp_ne (tgt := 42) hx hb h_W_merge_35 (by decide) (fun c1 => ?_) (fun c1 => ?_)
    · skip
      replace hw := hw.2 c1
      refine lv_iload_n hx hb h_W_merge_42 rfl (lv_at hl 0 rfl) ?_
      exact hend z1 σ _ _ _ _ _ _ hw h h_W_merge_43
    · skip
      replace hw := hw.1 c1
      refine lv_iload_n hx hb h_W_merge_38 rfl (lv_at hl 1 rfl) ?_
      refine lv_goto (tgt := 43) hx hb h_W_merge_39 (by decide) ?_
      exact hend z2 σ _ _ _ _ _ _ hw h h_W_merge_43
  have K_147 : ∀ (u9 : Unit), ∀ (z4 : Int32) (z5 : Int32) (σ : CST) (H : Heap) (locs : List Loc) (cells slots : Nat) (ls : Array Slot), x_W_merge_147 a0 P z4 z5 σ → CH (dC, dI) A ca ({ frames := 1, cells := σ0.2.2.2.2.1, slots := σ0.2.2.2.2.2.1, locals := 22 } : Room) σ0.2.2.2.2.2.2 σ s H locs cells slots → lv_has ls 7 [(4, .int z4), (5, .int z5)] → W p l e ({ frames := 1, cells := σ0.2.2.2.2.1, slots := σ0.2.2.2.2.2.1, locals := 22 } : Room) s m ([.ref a0, .int x1, .int x2] : List Value).toArray below meth cx H locs cells slots Q (F0 m 147 ls []) := by
    intro u9 z4 z5 σ H locs cells slots ls hw h hl
    unfold x_W_merge_147 at hw
    refine lv_iload hx hb h_W_merge_147 (lv_at hl 0 rfl) ?_
    refine lv_iload hx hb h_W_merge_149 (lv_at hl 1 rfl) ?_
    refine lv_iadd hx hb h_W_merge_151 ?_
    exact hend (z4 + z5) σ _ _ _ _ _ _ hw h h_W_merge_152
  have K_107 : ∀ (n : Nat), ∀ (z2 : Int32) (z4 : Int32) (z5 : Int32) (z6 : Int32) (σ : CST) (H : Heap) (locs : List Loc) (cells slots : Nat) (ls : Array Slot), x_W_merge_107 a0 P n z2 z4 z5 z6 σ → CH (dC, dI) A ca ({ frames := 1, cells := σ0.2.2.2.2.1, slots := σ0.2.2.2.2.2.1, locals := 22 } : Room) σ0.2.2.2.2.2.2 σ s H locs cells slots → lv_has ls 7 [(0, .ref a0), (2, .int z2), (4, .int z4), (5, .int z5), (6, .int z6)] → W p l e ({ frames := 1, cells := σ0.2.2.2.2.1, slots := σ0.2.2.2.2.2.1, locals := 22 } : Room) s m ([.ref a0, .int x1, .int x2] : List Value).toArray below meth cx H locs cells slots Q (F0 m 107 ls []) := by
    intro  n
    induction n with
    | zero => intro z2 z4 z5 z6 σ H locs cells slots ls hw h hl; unfold x_W_merge_107 at hw; exact hw.elim
    | succ n ih =>
      intro z2 z4 z5 z6 σ H locs cells slots ls hw h hl
      unfold x_W_merge_107 at hw
      refine lv_iload hx hb h_W_merge_107 (lv_at hl 4 rfl) ?_
      refine lv_bipush (v := 16) hx hb h_W_merge_109 (by decide) ?_
      refine lv_icmp_ge (tgt := 147) hx hb h_W_merge_111 (by decide) (fun c2 => ?_) (fun c2 => ?_)
      · skip
        replace hw := hw.1 c2
        exact K_147 () z4 z5 σ _ _ _ _ _ hw h (lv_sub hl [2, 3] rfl)
      · skip
        replace hw := hw.2 c2
        refine lv_iload hx hb h_W_merge_114 (lv_at hl 3 rfl) ?_
        refine lv_if_le (tgt := 147) hx hb h_W_merge_116 (by decide) (fun c3 => ?_) (fun c3 => ?_)
        · skip
          replace hw := hw.1 c3
          exact K_147 () z4 z5 σ _ _ _ _ _ hw h (lv_sub hl [2, 3] rfl)
        · skip
          replace hw := hw.2 c3
          refine lv_aload_n hx hb h_W_merge_119 rfl (lv_at hl 0 rfl) ?_
          refine lv_iload_n hx hb h_W_merge_120 rfl (lv_at hl 1 rfl) ?_
          refine lv_iload hx hb h_W_merge_121 (lv_at hl 2 rfl) ?_
          refine lv_isub hx hb h_W_merge_123 ?_
          refine lv_iload hx hb h_W_merge_124 (lv_at hl 3 rfl) ?_
          obtain ⟨g4, hw⟩ := hw
          refine C_callVi (As := [.int (z2 - z4), .int z5]) (rest := []) C h (ci := 3) (Cn := R_W) (T := T_W) (N := 10) g4 rfl (by decide) (X_W_subs l dC dI ca H σ a0 (z2 - z4) z5 hw) (cwV 2 hts (gV hsub u_272 u_273 u_274 u_51 u_275) rfl rfl rfl (by decide +kernel) ⟨(Nat.le_of_ble_eq_true rfl), (Nat.le_of_ble_eq_true rfl)⟩) rfl hl.1 (Nat.le_of_ble_eq_true rfl) h_W_merge_126 (fun r6 σ5 H locs cells slots hw9 h9 => ?_)
          clear hw h; have hw := hw9; have h := h9; clear hw9 h9
          refine W.eq (g2 := F0 m 129 ls [.int r6]) rfl ?_
          refine lv_if_ne (tgt := 147) hx hb h_W_merge_129 (by decide) (fun c7 => ?_) (fun c7 => ?_)
          · skip
            replace hw := hw.2 c7
            exact K_147 () z4 z5 σ5 _ _ _ _ _ hw h (lv_sub hl [2, 3] rfl)
          · skip
            replace hw := hw.1 c7
            refine lv_aload_n hx hb h_W_merge_132 rfl (lv_at hl 0 rfl) ?_
            obtain ⟨g8, hw⟩ := hw
            refine C_get C h 3 0 (v := va_rf (σ5.2.2.2.1 a0 0)) g8 rfl (Cn := R_W) (T := T_W) (N := 10) rfl (by decide) rfl uw_W (by decide) u_507 (fun _ q => q) h_W_merge_133 ?_
            refine lv_topq (fun b9 e_b9 => ?_)
            replace hw := hw b9 e_b9
            refine lv_iload hx hb h_W_merge_136 (lv_at hl 3 rfl) ?_
            obtain ⟨r10, e_r10, hw⟩ := hw
            subst e_r10
            have hl : lv_has ls 7 [(0, .ref a0), (2, .int z2), (4, .int z4), (5, .int z5), (6, .int z6)] := hl
            refine W.eq (g2 := F0 m 138 ls [.int z5, .ref r10]) rfl ?_
            obtain ⟨n12, g11, hw⟩ := hw
            obtain ⟨g13, hw⟩ := hw
            refine C_iald C h g11 g13 h_W_merge_138 ?_
            refine lv_topi (fun b14 e_b14 => ?_)
            replace hw := hw b14 e_b14
            refine lv_istore (lv' := [(5, .int b14), (0, .ref a0), (2, .int z2), (4, .int z4), (6, .int z6)]) hx hb h_W_merge_139 hl (by decide) rfl (fun ls hl => ?_)
            refine lv_iinc (v := (z6 + 1)) (lv' := [(6, .int (z6 + 1)), (5, .int b14), (0, .ref a0), (2, .int z2), (4, .int z4)]) hx hb h_W_merge_141 hl (k := 4) rfl (rfl) (by decide) rfl (fun ls hl => ?_)
            refine lv_goto (tgt := 107) hx hb h_W_merge_144 (by decide) ?_
            exact ih z2 z4 b14 (z6 + 1) σ5 _ _ _ _ _ hw h (lv_sub hl [2, 3, 4, 1, 0] rfl)
  have K_96 : ∀ (u9 : Unit), ∀ (z1 : Int32) (z2 : Int32) (s0 : Int32) (σ : CST) (H : Heap) (locs : List Loc) (cells slots : Nat) (ls : Array Slot), x_W_merge_96 a0 P z1 z2 s0 σ → CH (dC, dI) A ca ({ frames := 1, cells := σ0.2.2.2.2.1, slots := σ0.2.2.2.2.2.1, locals := 22 } : Room) σ0.2.2.2.2.2.2 σ s H locs cells slots → lv_has ls 7 [(0, .ref a0), (1, .int z1), (2, .int z2)] → W p l e ({ frames := 1, cells := σ0.2.2.2.2.1, slots := σ0.2.2.2.2.2.1, locals := 22 } : Room) s m ([.ref a0, .int x1, .int x2] : List Value).toArray below meth cx H locs cells slots Q (F0 m 96 ls [.int s0]) := by
    intro u9 z1 z2 s0 σ H locs cells slots ls hw h hl
    unfold x_W_merge_96 at hw
    refine lv_istore (lv' := [(4, .int s0), (0, .ref a0), (1, .int z1), (2, .int z2)]) hx hb h_W_merge_96 hl (by decide) rfl (fun ls hl => ?_)
    refine lv_iload_n hx hb h_W_merge_98 rfl (lv_at hl 2 rfl) ?_
    refine lv_iload hx hb h_W_merge_99 (lv_at hl 0 rfl) ?_
    refine lv_isub hx hb h_W_merge_101 ?_
    refine lv_istore (lv' := [(5, .int (z1 - s0)), (4, .int s0), (0, .ref a0), (1, .int z1), (2, .int z2)]) hx hb h_W_merge_102 hl (by decide) rfl (fun ls hl => ?_)
    refine lv_iconst (v := 0) hx hb h_W_merge_104 (by decide) ?_
    refine lv_istore (lv' := [(6, .int 0), (5, .int (z1 - s0)), (4, .int s0), (0, .ref a0), (1, .int z1), (2, .int z2)]) hx hb h_W_merge_105 hl (by decide) rfl (fun ls hl => ?_)
    obtain ⟨n9, hw⟩ := hw
    exact K_107 n9 z2 s0 (z1 - s0) 0 σ _ _ _ _ _ hw h (lv_sub hl [3, 5, 2, 1, 0] rfl)
  have K_85 : ∀ (u9 : Unit), ∀ (z1 : Int32) (z2 : Int32) (z3 : Int32) (σ : CST) (H : Heap) (locs : List Loc) (cells slots : Nat) (ls : Array Slot), x_W_merge_85 a0 P z1 z2 z3 σ → CH (dC, dI) A ca ({ frames := 1, cells := σ0.2.2.2.2.1, slots := σ0.2.2.2.2.2.1, locals := 22 } : Room) σ0.2.2.2.2.2.2 σ s H locs cells slots → lv_has ls 7 [(0, .ref a0), (1, .int z1), (2, .int z2), (3, .int z3)] → W p l e ({ frames := 1, cells := σ0.2.2.2.2.1, slots := σ0.2.2.2.2.2.1, locals := 22 } : Room) s m ([.ref a0, .int x1, .int x2] : List Value).toArray below meth cx H locs cells slots Q (F0 m 85 ls []) := by
    intro u9 z1 z2 z3 σ H locs cells slots ls hw h hl
    unfold x_W_merge_85 at hw
    refine lv_iload_n hx hb h_W_merge_85 rfl (lv_at hl 3 rfl) ?_
    refine lv_if_eq (tgt := 94) hx hb h_W_merge_86 (by decide) (fun c15 => ?_) (fun c15 => ?_)
    · skip
      replace hw := hw.1 c15
      refine lv_bipush (v := 32) hx hb h_W_merge_94 (by decide) ?_
      exact K_96 () z1 z2 32 σ _ _ _ _ _ hw h (lv_sub hl [0, 1, 2] rfl)
    · skip
      replace hw := hw.2 c15
      refine lv_bipush (v := 64) hx hb h_W_merge_89 (by decide) ?_
      refine lv_goto (tgt := 96) hx hb h_W_merge_91 (by decide) ?_
      exact K_96 () z1 z2 64 σ _ _ _ _ _ hw h (lv_sub hl [0, 1, 2] rfl)
  have K_63 : ∀ (u9 : Unit), ∀ (z1 : Int32) (z2 : Int32) (s0 : Int32) (σ : CST) (H : Heap) (locs : List Loc) (cells slots : Nat) (ls : Array Slot), x_W_merge_63 a0 P z1 z2 s0 σ → CH (dC, dI) A ca ({ frames := 1, cells := σ0.2.2.2.2.1, slots := σ0.2.2.2.2.2.1, locals := 22 } : Room) σ0.2.2.2.2.2.2 σ s H locs cells slots → lv_has ls 7 [(0, .ref a0), (1, .int z1), (2, .int z2)] → W p l e ({ frames := 1, cells := σ0.2.2.2.2.1, slots := σ0.2.2.2.2.2.1, locals := 22 } : Room) s m ([.ref a0, .int x1, .int x2] : List Value).toArray below meth cx H locs cells slots Q (F0 m 63 ls [.int s0]) := by
    intro u9 z1 z2 s0 σ H locs cells slots ls hw h hl
    unfold x_W_merge_63 at hw
    refine lv_istore_n (i := 3) (lv' := [(3, .int s0), (0, .ref a0), (1, .int z1), (2, .int z2)]) hx hb h_W_merge_63 rfl hl (by decide) rfl (fun ls hl => ?_)
    refine lv_iload_n hx hb h_W_merge_64 rfl (lv_at hl 0 rfl) ?_
    refine lv_if_ne (tgt := 85) hx hb h_W_merge_65 (by decide) (fun c16 => ?_) (fun c16 => ?_)
    · skip
      replace hw := hw.2 c16
      exact K_85 () z1 z2 s0 σ _ _ _ _ _ hw h (lv_sub hl [1, 2, 3, 0] rfl)
    · skip
      replace hw := hw.1 c16
      refine lv_iload_n hx hb h_W_merge_68 rfl (lv_at hl 2 rfl) ?_
      refine C_callSi (As := [.int z1]) (rest := []) C h (X_W_isObject l dC dI ca H σ z1 hw) (va_cwS 1 hts (gS hsub u_277 u_70 u_51 u_71) rfl rfl rfl (by decide +kernel) ⟨(Nat.le_of_ble_eq_true rfl), (Nat.le_of_ble_eq_true rfl)⟩) rfl hl.1 (Nat.le_of_ble_eq_true rfl) h_W_merge_69 (fun r18 σ17 H locs cells slots hw9 h9 => ?_)
      clear hw h; have hw := hw9; have h := h9; clear hw9 h9
      refine W.eq (g2 := F0 m 72 ls [.int r18]) rfl ?_
      refine lv_if_eq (tgt := 82) hx hb h_W_merge_72 (by decide) (fun c19 => ?_) (fun c19 => ?_)
      · skip
        replace hw := hw.1 c19
        refine lv_bipush (v := 32) hx hb h_W_merge_82 (by decide) ?_
        exact hend (32 : Int32) σ17 _ _ _ _ _ _ hw h h_W_merge_84
      · skip
        replace hw := hw.2 c19
        refine lv_iload_n hx hb h_W_merge_75 rfl (lv_at hl 3 rfl) ?_
        refine C_callSi (As := [.int z2]) (rest := []) C h (X_W_isObject l dC dI ca H σ17 z2 hw) (va_cwS 1 hts (gS hsub u_277 u_70 u_51 u_71) rfl rfl rfl (by decide +kernel) ⟨(Nat.le_of_ble_eq_true rfl), (Nat.le_of_ble_eq_true rfl)⟩) rfl hl.1 (Nat.le_of_ble_eq_true rfl) h_W_merge_76 (fun r21 σ20 H locs cells slots hw9 h9 => ?_)
        clear hw h; have hw := hw9; have h := h9; clear hw9 h9
        refine W.eq (g2 := F0 m 79 ls [.int r21]) rfl ?_
        refine lv_if_ne (tgt := 85) hx hb h_W_merge_79 (by decide) (fun c22 => ?_) (fun c22 => ?_)
        · skip
          replace hw := hw.2 c22
          exact K_85 () z1 z2 s0 σ20 _ _ _ _ _ hw h (lv_sub hl [1, 2, 3, 0] rfl)
        · skip
          replace hw := hw.1 c22
          refine lv_bipush (v := 32) hx hb h_W_merge_82 (by decide) ?_
          exact hend (32 : Int32) σ20 _ _ _ _ _ _ hw h h_W_merge_84
  have K_62 : ∀ (u9 : Unit), ∀ (z1 : Int32) (z2 : Int32) (σ : CST) (H : Heap) (locs : List Loc) (cells slots : Nat) (ls : Array Slot), x_W_merge_62 a0 P z1 z2 σ → CH (dC, dI) A ca ({ frames := 1, cells := σ0.2.2.2.2.1, slots := σ0.2.2.2.2.2.1, locals := 22 } : Room) σ0.2.2.2.2.2.2 σ s H locs cells slots → lv_has ls 7 [(0, .ref a0), (1, .int z1), (2, .int z2)] → W p l e ({ frames := 1, cells := σ0.2.2.2.2.1, slots := σ0.2.2.2.2.2.1, locals := 22 } : Room) s m ([.ref a0, .int x1, .int x2] : List Value).toArray below meth cx H locs cells slots Q (F0 m 62 ls []) := by
    intro u9 z1 z2 σ H locs cells slots ls hw h hl
    unfold x_W_merge_62 at hw
    refine lv_iconst (v := 0) hx hb h_W_merge_62 (by decide) ?_
    exact K_63 () z1 z2 0 σ _ _ _ _ _ hw h (lv_sub hl [0, 1, 2] rfl)
  have hl : lv_has ls 7 [(0, .ref a0), (1, .int x1), (2, .int x2)] := hl
  unfold x_W_merge at hw
  refine lv_iload_n hx hb h_W_merge_0 rfl (lv_at hl 1 rfl) ?_
  refine lv_iload_n hx hb h_W_merge_1 rfl (lv_at hl 2 rfl) ?_
  refine lv_icmp_ne (tgt := 7) hx hb h_W_merge_2 (by decide) (fun c23 => ?_) (fun c23 => ?_)
  · skip
    replace hw := hw.2 c23
    refine lv_iload_n hx hb h_W_merge_7 rfl (lv_at hl 1 rfl) ?_
    refine C_callSi (As := [.int x1]) (rest := []) C h (X_W_isReference l dC dI ca s.heap σ0 x1 hw) (va_cwS 1 hts (gS hsub u_278 u_279 u_51 u_280) rfl rfl rfl (by decide +kernel) ⟨(Nat.le_of_ble_eq_true rfl), (Nat.le_of_ble_eq_true rfl)⟩) rfl hl.1 (Nat.le_of_ble_eq_true rfl) h_W_merge_8 (fun r25 σ24 H locs cells slots hw9 h9 => ?_)
    clear hw h; have hw := hw9; have h := h9; clear hw9 h9
    refine W.eq (g2 := F0 m 11 ls [.int r25]) rfl ?_
    refine lv_if_eq (tgt := 21) hx hb h_W_merge_11 (by decide) (fun c26 => ?_) (fun c26 => ?_)
    · skip
      replace hw := hw.1 c26
      refine lv_iconst (v := 0) hx hb h_W_merge_21 (by decide) ?_
      exact hend (0 : Int32) σ24 _ _ _ _ _ _ hw h h_W_merge_22
    · skip
      replace hw := hw.2 c26
      refine lv_iload_n hx hb h_W_merge_14 rfl (lv_at hl 2 rfl) ?_
      refine C_callSi (As := [.int x2]) (rest := []) C h (X_W_isReference l dC dI ca H σ24 x2 hw) (va_cwS 1 hts (gS hsub u_278 u_279 u_51 u_280) rfl rfl rfl (by decide +kernel) ⟨(Nat.le_of_ble_eq_true rfl), (Nat.le_of_ble_eq_true rfl)⟩) rfl hl.1 (Nat.le_of_ble_eq_true rfl) h_W_merge_15 (fun r28 σ27 H locs cells slots hw9 h9 => ?_)
      clear hw h; have hw := hw9; have h := h9; clear hw9 h9
      refine W.eq (g2 := F0 m 18 ls [.int r28]) rfl ?_
      refine lv_if_ne (tgt := 23) hx hb h_W_merge_18 (by decide) (fun c29 => ?_) (fun c29 => ?_)
      · skip
        replace hw := hw.2 c29
        refine lv_iload_n hx hb h_W_merge_23 rfl (lv_at hl 1 rfl) ?_
        refine lv_iconst (v := 5) hx hb h_W_merge_24 (by decide) ?_
        refine lv_icmp_eq (tgt := 33) hx hb h_W_merge_25 (by decide) (fun c30 => ?_) (fun c30 => ?_)
        · skip
          replace hw := hw.1 c30
          exact K_33 () x1 x2 σ27 _ _ _ _ _ hw h (lv_sub hl [1, 2] rfl)
        · skip
          replace hw := hw.2 c30
          refine lv_iload_n hx hb h_W_merge_28 rfl (lv_at hl 2 rfl) ?_
          refine lv_iconst (v := 5) hx hb h_W_merge_29 (by decide) ?_
          refine lv_icmp_ne (tgt := 44) hx hb h_W_merge_30 (by decide) (fun c31 => ?_) (fun c31 => ?_)
          · skip
            replace hw := hw.2 c31
            refine lv_iload_n hx hb h_W_merge_44 rfl (lv_at hl 1 rfl) ?_
            refine C_callSi (As := [.int x1]) (rest := []) C h (X_W_isClassArray l dC dI ca H σ27 x1 hw) (va_cwS 1 hts (gS hsub u_281 u_67 u_51 u_68) rfl rfl rfl (by decide +kernel) ⟨(Nat.le_of_ble_eq_true rfl), (Nat.le_of_ble_eq_true rfl)⟩) rfl hl.1 (Nat.le_of_ble_eq_true rfl) h_W_merge_45 (fun r33 σ32 H locs cells slots hw9 h9 => ?_)
            clear hw h; have hw := hw9; have h := h9; clear hw9 h9
            refine W.eq (g2 := F0 m 48 ls [.int r33]) rfl ?_
            refine lv_if_eq (tgt := 62) hx hb h_W_merge_48 (by decide) (fun c34 => ?_) (fun c34 => ?_)
            · skip
              replace hw := hw.1 c34
              exact K_62 () x1 x2 σ32 _ _ _ _ _ hw h (lv_sub hl [0, 1, 2] rfl)
            · skip
              replace hw := hw.2 c34
              refine lv_iload_n hx hb h_W_merge_51 rfl (lv_at hl 2 rfl) ?_
              refine C_callSi (As := [.int x2]) (rest := []) C h (X_W_isClassArray l dC dI ca H σ32 x2 hw) (va_cwS 1 hts (gS hsub u_281 u_67 u_51 u_68) rfl rfl rfl (by decide +kernel) ⟨(Nat.le_of_ble_eq_true rfl), (Nat.le_of_ble_eq_true rfl)⟩) rfl hl.1 (Nat.le_of_ble_eq_true rfl) h_W_merge_52 (fun r36 σ35 H locs cells slots hw9 h9 => ?_)
              clear hw h; have hw := hw9; have h := h9; clear hw9 h9
              refine W.eq (g2 := F0 m 55 ls [.int r36]) rfl ?_
              refine lv_if_eq (tgt := 62) hx hb h_W_merge_55 (by decide) (fun c37 => ?_) (fun c37 => ?_)
              · skip
                replace hw := hw.1 c37
                exact K_62 () x1 x2 σ35 _ _ _ _ _ hw h (lv_sub hl [0, 1, 2] rfl)
              · skip
                replace hw := hw.2 c37
                refine lv_iconst (v := 1) hx hb h_W_merge_58 (by decide) ?_
                refine lv_goto (tgt := 63) hx hb h_W_merge_59 (by decide) ?_
                exact K_63 () x1 x2 1 σ35 _ _ _ _ _ hw h (lv_sub hl [0, 1, 2] rfl)
          · skip
            replace hw := hw.1 c31
            exact K_33 () x1 x2 σ27 _ _ _ _ _ hw h (lv_sub hl [1, 2] rfl)
      · skip
        replace hw := hw.1 c29
        refine lv_iconst (v := 0) hx hb h_W_merge_21 (by decide) ?_
        exact hend (0 : Int32) σ27 _ _ _ _ _ _ hw h h_W_merge_22
  · skip
    replace hw := hw.1 c23
    refine lv_iload_n hx hb h_W_merge_5 rfl (lv_at hl 1 rfl) ?_
    exact hend x1 σ0 _ _ _ _ _ _ hw h h_W_merge_6
