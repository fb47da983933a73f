abbrev g_C_init : MethodName := ⟨"MapFramer$Call", "<init>", "()V"⟩
theorem u_0 : (Cond.methodLink "MapFramer$Call" 3 ⟨"java/lang/Object", "<init>", "()V"⟩ : Cond) ∈ bigW := inB_1 123 (by decide +kernel) rfl
theorem u_1 : (Cond.instanceMethod ⟨"java/lang/Object", "<init>", "()V"⟩ : Cond) ∈ bigW := inB_1 43 (by decide +kernel) rfl
theorem u_2 : (Cond.code ⟨"java/lang/Object", "<init>", "()V"⟩ object_method_1_code 1 none : Cond) ∈ bigW := inB_1 44 rfl rfl
theorem u_3 : (Cond.arrayClass .long : Cond) ∈ bigW := inB_1 116 (by decide +kernel) rfl
theorem u_4 : (Cond.fieldLink "MapFramer$Call" 9 "MapFramer$Call" "locals" "[J" : Cond) ∈ bigW := inB_1 128 (by decide +kernel) rfl
theorem u_5 : (Cond.fieldLink "MapFramer$Call" 15 "MapFramer$Call" "stack" "[J" : Cond) ∈ bigW := inB_1 129 (by decide +kernel) rfl
theorem h_C_init_0 : decode prog_2_method_1_code 0 = .ok (.aload_n 0, 1) := by decide +kernel
theorem h_C_init_1 : decode prog_2_method_1_code 1 = .ok (.invokespecial 3, 3) := by decide +kernel
theorem h_C_init_4 : decode prog_2_method_1_code 4 = .ok (.aload_n 0, 1) := by decide +kernel
theorem h_C_init_5 : decode prog_2_method_1_code 5 = .ok (.bipush 12, 2) := by decide +kernel
theorem h_C_init_7 : decode prog_2_method_1_code 7 = .ok (.newarray .long, 2) := by decide +kernel
theorem h_C_init_9 : decode prog_2_method_1_code 9 = .ok (.putfield 9, 3) := by decide +kernel
theorem h_C_init_12 : decode prog_2_method_1_code 12 = .ok (.aload_n 0, 1) := by decide +kernel
theorem h_C_init_13 : decode prog_2_method_1_code 13 = .ok (.bipush 12, 2) := by decide +kernel
theorem h_C_init_15 : decode prog_2_method_1_code 15 = .ok (.newarray .long, 2) := by decide +kernel
theorem h_C_init_17 : decode prog_2_method_1_code 17 = .ok (.putfield 15, 3) := by decide +kernel
theorem h_C_init_20 : decode prog_2_method_1_code 20 = .ok (.return_, 1) := by decide +kernel
def x_C_init (a0 : Nat) (σ0 : CST) (P : CST → Prop) : Prop := (¬ (12 : Int32) < 0 ∧ (12 : Int32).toNatClampNeg ≤ 60000000 ∧ 1 ≤ σ0.2.2.2.2.1 ∧ (12 : Int32).toNatClampNeg ≤ σ0.2.2.2.2.2.1 ∧ ∀ q1 : Nat, σ0.1 q1 = none → q1 ≠ σ0.2.2.2.2.2.2.1 → ∀ σ7 : CST, σ7 = nw σ0 q1 22 (12 : Int32).toNatClampNeg (12 : Int32).toNatClampNeg → σ7.1 a0 = some (0, 0) ∧ (∀ σ9 : CST, σ9 = sR σ7 a0 2 (some q1) → (¬ (12 : Int32) < 0 ∧ (12 : Int32).toNatClampNeg ≤ 60000000 ∧ 1 ≤ σ9.2.2.2.2.1 ∧ (12 : Int32).toNatClampNeg ≤ σ9.2.2.2.2.2.1 ∧ ∀ q10 : Nat, σ9.1 q10 = none → q10 ≠ σ9.2.2.2.2.2.2.1 → ∀ σ16 : CST, σ16 = nw σ9 q10 22 (12 : Int32).toNatClampNeg (12 : Int32).toNatClampNeg → σ16.1 a0 = some (0, 0) ∧ (∀ σ18 : CST, σ18 = sR σ16 a0 3 (some q10) → P σ18))))
set_option maxHeartbeats 4000000 in
set_option maxRecDepth 100000 in
theorem X_C_init (l : Launch) (dC : Nat → ClassId) (dI : Nat → Nat → Nat) (ca : Nat → ClassId) (H0 : Heap) (σ0 : CST) (a0 : Nat) {P : CST → Prop} (hw : x_C_init a0 σ0 P) : Met l g_C_init (mW g_C_init prog_2_method_1_code 1 none) ({ frames := 1, cells := σ0.2.2.2.2.1, slots := σ0.2.2.2.2.2.1, locals := 12 } : Room) (va_Pc [.ref a0] (CPre (dC, dI) ca σ0 H0)) (va_Qv P (CB (dC, dI) ca σ0 H0) (cA σ0 H0.size)) σ0.2.2.2.2.1 σ0.2.2.2.2.2.1 (cA σ0 H0.size) := by
  refine C_ofv (by decide +kernel) rfl rfl rfl (Nat.le_of_ble_eq_true rfl) ?_
  intro p e s m below meth cx Q A ls C hnm hend hH0 h hl
  subst hH0
  have C0 := C
  obtain ⟨⟨hx, hb, hml, hown, hts⟩, hsub⟩ := C0
  obtain ⟨cells, e_cells⟩ : ∃ z : Nat, z = 0 := ⟨_, rfl⟩
  obtain ⟨slots, e_slots⟩ : ∃ z : Nat, z = 0 := ⟨_, rfl⟩
  have h : CH (dC, dI) A ca ({ frames := 1, cells := σ0.2.2.2.2.1, slots := σ0.2.2.2.2.2.1, locals := 12 } : Room) σ0.2.2.2.2.2.2 σ0 s s.heap [] cells slots := by rw [e_cells, e_slots]; exact h
  show W p l e ({ frames := 1, cells := σ0.2.2.2.2.1, slots := σ0.2.2.2.2.2.1, locals := 12 } : Room) s m ([.ref a0] : List Value).toArray below meth cx s.heap [] 0 0 Q (F0 m 0 ls [])
  rw [show W p l e ({ frames := 1, cells := σ0.2.2.2.2.1, slots := σ0.2.2.2.2.2.1, locals := 12 } : Room) s m ([.ref a0] : List Value).toArray below meth cx s.heap [] 0 0 Q (F0 m 0 ls []) = W p l e ({ frames := 1, cells := σ0.2.2.2.2.1, slots := σ0.2.2.2.2.2.1, locals := 12 } : Room) s m ([.ref a0] : List Value).toArray below meth cx s.heap [] cells slots Q (F0 m 0 ls []) by rw [e_cells, e_slots]]
  have hl : lv_has ls 1 [(0, .ref a0)] := hl
  unfold x_C_init at hw
  refine lv_aload_n hx hb h_C_init_0 rfl (lv_at hl 0 rfl) ?_
  refine W.objInit hx hb hown (hts _ (hsub _ u_0)) (hts _ (hsub _ u_1)) (hts _ (hsub _ u_2)) rfl (by rw [hml]; exact hl.1) rfl h_C_init_1 (Nat.le_of_ble_eq_true rfl) (Nat.le_of_ble_eq_true rfl) ?_
  refine W.eq (g2 := F0 m 4 ls []) rfl ?_
  refine lv_aload_n hx hb h_C_init_4 rfl (lv_at hl 0 rfl) ?_
  refine lv_bipush (v := 12) hx hb h_C_init_5 (by decide) ?_
  obtain ⟨g5, g6, g2, g3, hw⟩ := hw
  refine C_newal C h u_3 g5 rfl g6 g2 g3 h_C_init_7 (fun q1 H g4 hz9 h => ?_)
  replace hw := hw q1 g4 hz9
  obtain ⟨σ7, e_σ7⟩ : ∃ z : CST, z = nw σ0 q1 22 (12 : Int32).toNatClampNeg (12 : Int32).toNatClampNeg := ⟨_, rfl⟩
  rw [← e_σ7] at h
  replace hw := hw σ7 e_σ7
  generalize cells + 1 = cells at h ⊢
  generalize slots + (12 : Int32).toNatClampNeg = slots at h ⊢
  obtain ⟨g8, hw⟩ := hw
  refine C_putr C h 0 2 (v := (some q1)) (ty := (.array .long)) g8 (Cn := R_C) (T := T_C) (N := 5) rfl (by decide) rfl uw_C tok_C nm_C (by decide) rfl u_4 (fun _ q => q) (Or.inr ⟨rfl, hnm, rfl⟩) (by decide +kernel) ck_a h_C_init_9 (fun H locs h => ?_)
  obtain ⟨σ9, e_σ9⟩ : ∃ z : CST, z = sR σ7 a0 2 (some q1) := ⟨_, rfl⟩
  rw [← e_σ9] at h
  replace hw := hw σ9 e_σ9
  refine lv_aload_n hx hb h_C_init_12 rfl (lv_at hl 0 rfl) ?_
  refine lv_bipush (v := 12) hx hb h_C_init_13 (by decide) ?_
  obtain ⟨g14, g15, g11, g12, hw⟩ := hw
  refine C_newal C h u_3 g14 rfl g15 g11 g12 h_C_init_15 (fun q10 H g13 hz9 h => ?_)
  replace hw := hw q10 g13 hz9
  obtain ⟨σ16, e_σ16⟩ : ∃ z : CST, z = nw σ9 q10 22 (12 : Int32).toNatClampNeg (12 : Int32).toNatClampNeg := ⟨_, rfl⟩
  rw [← e_σ16] at h
  replace hw := hw σ16 e_σ16
  generalize cells + 1 = cells at h ⊢
  generalize slots + (12 : Int32).toNatClampNeg = slots at h ⊢
  obtain ⟨g17, hw⟩ := hw
  refine C_putr C h 0 3 (v := (some q10)) (ty := (.array .long)) g17 (Cn := R_C) (T := T_C) (N := 5) rfl (by decide) rfl uw_C tok_C nm_C (by decide) rfl u_5 (fun _ q => q) (Or.inr ⟨rfl, hnm, rfl⟩) (by decide +kernel) ck_a h_C_init_17 (fun H locs h => ?_)
  obtain ⟨σ18, e_σ18⟩ : ∃ z : CST, z = sR σ16 a0 3 (some q10) := ⟨_, rfl⟩
  rw [← e_σ18] at h
  replace hw := hw σ18 e_σ18
  exact hend σ18 _ _ _ _ _ _ hw h h_C_init_20
abbrev g_C_start : MethodName := ⟨"MapFramer$Call", "start", "(LMapFramer$Method;)V"⟩
theorem u_6 : (Cond.fieldLink "MapFramer$Call" 18 "MapFramer$Call" "method" "LMapFramer$Method;" : Cond) ∈ bigW := inB_1 124 (by decide +kernel) rfl
theorem u_7 : (Cond.fieldLink "MapFramer$Call" 22 "MapFramer$Call" "place" "I" : Cond) ∈ bigW := inB_1 126 (by decide +kernel) rfl
theorem u_8 : (Cond.fieldLink "MapFramer$Call" 26 "MapFramer$Call" "size" "I" : Cond) ∈ bigW := inB_1 130 (by decide +kernel) rfl
theorem h_C_start_0 : decode prog_2_method_2_code 0 = .ok (.aload_n 0, 1) := by decide +kernel
theorem h_C_start_1 : decode prog_2_method_2_code 1 = .ok (.aload_n 1, 1) := by decide +kernel
theorem h_C_start_2 : decode prog_2_method_2_code 2 = .ok (.putfield 18, 3) := by decide +kernel
theorem h_C_start_5 : decode prog_2_method_2_code 5 = .ok (.aload_n 0, 1) := by decide +kernel
theorem h_C_start_6 : decode prog_2_method_2_code 6 = .ok (.iconst 0, 1) := by decide +kernel
theorem h_C_start_7 : decode prog_2_method_2_code 7 = .ok (.putfield 22, 3) := by decide +kernel
theorem h_C_start_10 : decode prog_2_method_2_code 10 = .ok (.aload_n 0, 1) := by decide +kernel
theorem h_C_start_11 : decode prog_2_method_2_code 11 = .ok (.iconst 0, 1) := by decide +kernel
theorem h_C_start_12 : decode prog_2_method_2_code 12 = .ok (.putfield 26, 3) := by decide +kernel
theorem h_C_start_15 : decode prog_2_method_2_code 15 = .ok (.return_, 1) := by decide +kernel
def x_C_start (a0 : Nat) (a1 : Nat) (σ0 : CST) (P : CST → Prop) : Prop := σ0.1 a0 = some (0, 0) ∧ (∀ σ2 : CST, σ2 = sR σ0 a0 0 (some a1) → σ2.1 a0 = some (0, 0) ∧ (∀ σ4 : CST, σ4 = sI σ2 a0 1 (0 : Int32) → σ4.1 a0 = some (0, 0) ∧ (∀ σ6 : CST, σ6 = sI σ4 a0 4 (0 : Int32) → P σ6)))
set_option maxHeartbeats 4000000 in
set_option maxRecDepth 100000 in
theorem X_C_start (l : Launch) (dC : Nat → ClassId) (dI : Nat → Nat → Nat) (ca : Nat → ClassId) (H0 : Heap) (σ0 : CST) (a0 : Nat) (a1 : Nat) {P : CST → Prop} (hw : x_C_start a0 a1 σ0 P) : Met l g_C_start (mW g_C_start prog_2_method_2_code 2 none) ({ frames := 0, cells := σ0.2.2.2.2.1, slots := σ0.2.2.2.2.2.1, locals := 0 } : Room) (va_Pc [.ref a0, .ref a1] (CPre (dC, dI) ca σ0 H0)) (va_Qv P (CB (dC, dI) ca σ0 H0) (cA σ0 H0.size)) σ0.2.2.2.2.1 σ0.2.2.2.2.2.1 (cA σ0 H0.size) := by
  refine C_ofv (by decide +kernel) rfl rfl rfl (Nat.le_of_ble_eq_true rfl) ?_
  intro p e s m below meth cx Q A ls C hnm hend hH0 h hl
  subst hH0
  have C0 := C
  obtain ⟨⟨hx, hb, hml, hown, hts⟩, hsub⟩ := C0
  obtain ⟨cells, e_cells⟩ : ∃ z : Nat, z = 0 := ⟨_, rfl⟩
  obtain ⟨slots, e_slots⟩ : ∃ z : Nat, z = 0 := ⟨_, rfl⟩
  have h : CH (dC, dI) A ca ({ frames := 0, cells := σ0.2.2.2.2.1, slots := σ0.2.2.2.2.2.1, locals := 0 } : Room) σ0.2.2.2.2.2.2 σ0 s s.heap [] cells slots := by rw [e_cells, e_slots]; exact h
  show W p l e ({ frames := 0, cells := σ0.2.2.2.2.1, slots := σ0.2.2.2.2.2.1, locals := 0 } : Room) s m ([.ref a0, .ref a1] : List Value).toArray below meth cx s.heap [] 0 0 Q (F0 m 0 ls [])
  rw [show W p l e ({ frames := 0, cells := σ0.2.2.2.2.1, slots := σ0.2.2.2.2.2.1, locals := 0 } : Room) s m ([.ref a0, .ref a1] : List Value).toArray below meth cx s.heap [] 0 0 Q (F0 m 0 ls []) = W p l e ({ frames := 0, cells := σ0.2.2.2.2.1, slots := σ0.2.2.2.2.2.1, locals := 0 } : Room) s m ([.ref a0, .ref a1] : List Value).toArray below meth cx s.heap [] cells slots Q (F0 m 0 ls []) by rw [e_cells, e_slots]]
  have hl : lv_has ls 2 [(0, .ref a0), (1, .ref a1)] := hl
  unfold x_C_start at hw
  refine lv_aload_n hx hb h_C_start_0 rfl (lv_at hl 0 rfl) ?_
  refine lv_aload_n hx hb h_C_start_1 rfl (lv_at hl 1 rfl) ?_
  obtain ⟨g1, hw⟩ := hw
  refine C_putr C h 0 0 (v := (some a1)) (ty := (.object "MapFramer$Method")) g1 (Cn := R_C) (T := T_C) (N := 5) rfl (by decide) rfl uw_C tok_C nm_C (by decide) rfl u_6 (fun _ q => q) (Or.inl rfl) (by decide +kernel) ck_o h_C_start_2 (fun H locs h => ?_)
  obtain ⟨σ2, e_σ2⟩ : ∃ z : CST, z = sR σ0 a0 0 (some a1) := ⟨_, rfl⟩
  rw [← e_σ2] at h
  replace hw := hw σ2 e_σ2
  refine lv_aload_n hx hb h_C_start_5 rfl (lv_at hl 0 rfl) ?_
  refine lv_iconst (v := 0) hx hb h_C_start_6 (by decide) ?_
  obtain ⟨g3, hw⟩ := hw
  refine C_puti C h 0 1 g3 (Cn := R_C) (T := T_C) (N := 5) rfl (by decide) rfl uw_C tok_C nm_C (by decide) rfl u_7 (fun _ q => q) (Or.inl rfl) (by decide +kernel) h_C_start_7 (fun H locs h => ?_)
  obtain ⟨σ4, e_σ4⟩ : ∃ z : CST, z = sI σ2 a0 1 (0 : Int32) := ⟨_, rfl⟩
  rw [← e_σ4] at h
  replace hw := hw σ4 e_σ4
  refine lv_aload_n hx hb h_C_start_10 rfl (lv_at hl 0 rfl) ?_
  refine lv_iconst (v := 0) hx hb h_C_start_11 (by decide) ?_
  obtain ⟨g5, hw⟩ := hw
  refine C_puti C h 0 4 g5 (Cn := R_C) (T := T_C) (N := 5) rfl (by decide) rfl uw_C tok_C nm_C (by decide) rfl u_8 (fun _ q => q) (Or.inl rfl) (by decide +kernel) h_C_start_12 (fun H locs h => ?_)
  obtain ⟨σ6, e_σ6⟩ : ∃ z : CST, z = sI σ4 a0 4 (0 : Int32) := ⟨_, rfl⟩
  rw [← e_σ6] at h
  replace hw := hw σ6 e_σ6
  exact hend σ6 _ _ _ _ _ _ hw h h_C_start_15
abbrev g_C_push : MethodName := ⟨"MapFramer$Call", "push", "(J)V"⟩
theorem h_C_push_0 : decode prog_2_method_3_code 0 = .ok (.aload_n 0, 1) := by decide +kernel
theorem h_C_push_1 : decode prog_2_method_3_code 1 = .ok (.getfield 26, 3) := by decide +kernel
theorem h_C_push_4 : decode prog_2_method_3_code 4 = .ok (.aload_n 0, 1) := by decide +kernel
theorem h_C_push_5 : decode prog_2_method_3_code 5 = .ok (.getfield 15, 3) := by decide +kernel
theorem h_C_push_8 : decode prog_2_method_3_code 8 = .ok (.arraylength, 1) := by decide +kernel
theorem h_C_push_9 : decode prog_2_method_3_code 9 = .ok (.if_icmp .ge 23, 3) := by decide +kernel
theorem h_C_push_12 : decode prog_2_method_3_code 12 = .ok (.aload_n 0, 1) := by decide +kernel
theorem h_C_push_13 : decode prog_2_method_3_code 13 = .ok (.getfield 15, 3) := by decide +kernel
theorem h_C_push_16 : decode prog_2_method_3_code 16 = .ok (.aload_n 0, 1) := by decide +kernel
theorem h_C_push_17 : decode prog_2_method_3_code 17 = .ok (.getfield 26, 3) := by decide +kernel
theorem h_C_push_20 : decode prog_2_method_3_code 20 = .ok (.lload_n 1, 1) := by decide +kernel
theorem h_C_push_21 : decode prog_2_method_3_code 21 = .ok (.lastore, 1) := by decide +kernel
theorem h_C_push_22 : decode prog_2_method_3_code 22 = .ok (.aload_n 0, 1) := by decide +kernel
theorem h_C_push_23 : decode prog_2_method_3_code 23 = .ok (.dup, 1) := by decide +kernel
theorem h_C_push_24 : decode prog_2_method_3_code 24 = .ok (.getfield 26, 3) := by decide +kernel
theorem h_C_push_27 : decode prog_2_method_3_code 27 = .ok (.iconst 1, 1) := by decide +kernel
theorem h_C_push_28 : decode prog_2_method_3_code 28 = .ok (.iadd, 1) := by decide +kernel
theorem h_C_push_29 : decode prog_2_method_3_code 29 = .ok (.putfield 26, 3) := by decide +kernel
theorem h_C_push_32 : decode prog_2_method_3_code 32 = .ok (.return_, 1) := by decide +kernel
def x_C_push (a0 : Nat) (x1 : Int64) (σ0 : CST) (P : CST → Prop) : Prop := σ0.1 a0 = some (0, 0) ∧ (∀ b2 : Option Nat, b2 = (σ0.2.2.2.1 a0 3) → (∃ r3 : Nat, b2 = some r3 ∧ ((∃ n5 : Nat, σ0.1 r3 = some (22, n5) ∧ ((((Int32.ofNat n5) ≤ (σ0.2.1 a0 4) → P σ0) ∧ (¬ (Int32.ofNat n5) ≤ (σ0.2.1 a0 4) → ∀ b7 : Option Nat, b7 = (σ0.2.2.2.1 a0 3) → (∃ r8 : Nat, b7 = some r8 ∧ ((∃ n10 : Nat, σ0.1 r8 = some (22, n10) ∧ (vp_in (σ0.2.1 a0 4) n10 ∧ (∀ σ12 : CST, σ12 = sL σ0 r8 ((σ0.2.1 a0 4) : Int32).toNatClampNeg x1 → σ12.1 a0 = some (0, 0) ∧ (∀ σ14 : CST, σ14 = sI σ12 a0 4 ((σ12.2.1 a0 4) + 1) → P σ14)))))))))))))
set_option maxHeartbeats 4000000 in
set_option maxRecDepth 100000 in
theorem X_C_push (l : Launch) (dC : Nat → ClassId) (dI : Nat → Nat → Nat) (ca : Nat → ClassId) (H0 : Heap) (σ0 : CST) (a0 : Nat) (x1 : Int64) {P : CST → Prop} (hw : x_C_push a0 x1 σ0 P) : Met l g_C_push (mW g_C_push prog_2_method_3_code 3 none) ({ frames := 0, cells := σ0.2.2.2.2.1, slots := σ0.2.2.2.2.2.1, locals := 0 } : Room) (va_Pc [.ref a0, .long x1] (CPre (dC, dI) ca σ0 H0)) (va_Qv P (CB (dC, dI) ca σ0 H0) (cA σ0 H0.size)) σ0.2.2.2.2.1 σ0.2.2.2.2.2.1 (cA σ0 H0.size) := by
  refine C_ofv (by decide +kernel) rfl rfl rfl (Nat.le_of_ble_eq_true rfl) ?_
  intro p e s m below meth cx Q A ls C hnm hend hH0 h hl
  subst hH0
  have C0 := C
  obtain ⟨⟨hx, hb, hml, hown, hts⟩, hsub⟩ := C0
  obtain ⟨cells, e_cells⟩ : ∃ z : Nat, z = 0 := ⟨_, rfl⟩
  obtain ⟨slots, e_slots⟩ : ∃ z : Nat, z = 0 := ⟨_, rfl⟩
  have h : CH (dC, dI) A ca ({ frames := 0, cells := σ0.2.2.2.2.1, slots := σ0.2.2.2.2.2.1, locals := 0 } : Room) σ0.2.2.2.2.2.2 σ0 s s.heap [] cells slots := by rw [e_cells, e_slots]; exact h
  show W p l e ({ frames := 0, cells := σ0.2.2.2.2.1, slots := σ0.2.2.2.2.2.1, locals := 0 } : Room) s m ([.ref a0, .long x1] : List Value).toArray below meth cx s.heap [] 0 0 Q (F0 m 0 ls [])
  rw [show W p l e ({ frames := 0, cells := σ0.2.2.2.2.1, slots := σ0.2.2.2.2.2.1, locals := 0 } : Room) s m ([.ref a0, .long x1] : List Value).toArray below meth cx s.heap [] 0 0 Q (F0 m 0 ls []) = W p l e ({ frames := 0, cells := σ0.2.2.2.2.1, slots := σ0.2.2.2.2.2.1, locals := 0 } : Room) s m ([.ref a0, .long x1] : List Value).toArray below meth cx s.heap [] cells slots Q (F0 m 0 ls []) by rw [e_cells, e_slots]]
  have hl : lv_has ls 3 [(0, .ref a0), (1, .long x1)] := hl
  unfold x_C_push at hw
  refine lv_aload_n hx hb h_C_push_0 rfl (lv_at hl 0 rfl) ?_
  obtain ⟨g1, hw⟩ := hw
  refine C_get C h 0 4 (v := .int (σ0.2.1 a0 4)) g1 rfl (Cn := R_C) (T := T_C) (N := 5) rfl (by decide) rfl uw_C (by decide) u_8 (fun _ q => q) h_C_push_1 ?_
  refine lv_aload_n hx hb h_C_push_4 rfl (lv_at hl 0 rfl) ?_
  refine C_get C h 0 3 (v := va_rf (σ0.2.2.2.1 a0 3)) g1 rfl (Cn := R_C) (T := T_C) (N := 5) rfl (by decide) rfl uw_C (by decide) u_5 (fun _ q => q) h_C_push_5 ?_
  refine lv_topq (fun b2 e_b2 => ?_)
  replace hw := hw b2 e_b2
  obtain ⟨r3, e_r3, hw⟩ := hw
  subst e_r3
  have hl : lv_has ls 3 [(0, .ref a0), (1, .long x1)] := hl
  refine W.eq (g2 := F0 m 8 ls [.ref r3, .int (σ0.2.1 a0 4)]) rfl ?_
  obtain ⟨n5, g4, hw⟩ := hw
  refine C_alen C h 22 2 rfl (by decide) g4 h_C_push_8 ?_
  refine lv_icmp_ge (tgt := 32) hx hb h_C_push_9 (by decide) (fun c6 => ?_) (fun c6 => ?_)
  · skip
    replace hw := hw.1 c6
    exact hend σ0 _ _ _ _ _ _ hw h h_C_push_32
  · skip
    replace hw := hw.2 c6
    refine lv_aload_n hx hb h_C_push_12 rfl (lv_at hl 0 rfl) ?_
    refine C_get C h 0 3 (v := va_rf (σ0.2.2.2.1 a0 3)) g1 rfl (Cn := R_C) (T := T_C) (N := 5) rfl (by decide) rfl uw_C (by decide) u_5 (fun _ q => q) h_C_push_13 ?_
    refine lv_topq (fun b7 e_b7 => ?_)
    replace hw := hw b7 e_b7
    refine lv_aload_n hx hb h_C_push_16 rfl (lv_at hl 0 rfl) ?_
    refine C_get C h 0 4 (v := .int (σ0.2.1 a0 4)) g1 rfl (Cn := R_C) (T := T_C) (N := 5) rfl (by decide) rfl uw_C (by decide) u_8 (fun _ q => q) h_C_push_17 ?_
    refine lv_lload_n hx hb h_C_push_20 rfl (lv_at hl 1 rfl) ?_
    obtain ⟨r8, e_r8, hw⟩ := hw
    subst e_r8
    have hl : lv_has ls 3 [(0, .ref a0), (1, .long x1)] := hl
    refine W.eq (g2 := F0 m 21 ls [.long x1, .int (σ0.2.1 a0 4), .ref r8]) rfl ?_
    obtain ⟨n10, g9, hw⟩ := hw
    obtain ⟨g11, hw⟩ := hw
    refine C_last C h g9 g11 h_C_push_21 (fun H locs h => ?_)
    obtain ⟨σ12, e_σ12⟩ : ∃ z : CST, z = sL σ0 r8 ((σ0.2.1 a0 4) : Int32).toNatClampNeg x1 := ⟨_, rfl⟩
    rw [← e_σ12] at h
    replace hw := hw σ12 e_σ12
    refine lv_aload_n hx hb h_C_push_22 rfl (lv_at hl 0 rfl) ?_
    refine lv_dup hx hb h_C_push_23 rfl ?_
    obtain ⟨g13, hw⟩ := hw
    refine C_get C h 0 4 (v := .int (σ12.2.1 a0 4)) g13 rfl (Cn := R_C) (T := T_C) (N := 5) rfl (by decide) rfl uw_C (by decide) u_8 (fun _ q => q) h_C_push_24 ?_
    refine lv_iconst (v := 1) hx hb h_C_push_27 (by decide) ?_
    refine lv_iadd hx hb h_C_push_28 ?_
    refine C_puti C h 0 4 g13 (Cn := R_C) (T := T_C) (N := 5) rfl (by decide) rfl uw_C tok_C nm_C (by decide) rfl u_8 (fun _ q => q) (Or.inl rfl) (by decide +kernel) h_C_push_29 (fun H locs h => ?_)
    obtain ⟨σ14, e_σ14⟩ : ∃ z : CST, z = sI σ12 a0 4 ((σ12.2.1 a0 4) + 1) := ⟨_, rfl⟩
    rw [← e_σ14] at h
    replace hw := hw σ14 e_σ14
    exact hend σ14 _ _ _ _ _ _ hw h h_C_push_32
abbrev g_C_pop : MethodName := ⟨"MapFramer$Call", "pop", "()J"⟩
theorem h_C_pop_0 : decode prog_2_method_4_code 0 = .ok (.aload_n 0, 1) := by decide +kernel
theorem h_C_pop_1 : decode prog_2_method_4_code 1 = .ok (.getfield 26, 3) := by decide +kernel
theorem h_C_pop_4 : decode prog_2_method_4_code 4 = .ok (.ifCond .ne 5, 3) := by decide +kernel
theorem h_C_pop_7 : decode prog_2_method_4_code 7 = .ok (.lconst 0, 1) := by decide +kernel
theorem h_C_pop_8 : decode prog_2_method_4_code 8 = .ok (.lreturn, 1) := by decide +kernel
theorem h_C_pop_9 : decode prog_2_method_4_code 9 = .ok (.aload_n 0, 1) := by decide +kernel
theorem h_C_pop_10 : decode prog_2_method_4_code 10 = .ok (.dup, 1) := by decide +kernel
theorem h_C_pop_11 : decode prog_2_method_4_code 11 = .ok (.getfield 26, 3) := by decide +kernel
theorem h_C_pop_14 : decode prog_2_method_4_code 14 = .ok (.iconst 1, 1) := by decide +kernel
theorem h_C_pop_15 : decode prog_2_method_4_code 15 = .ok (.isub, 1) := by decide +kernel
theorem h_C_pop_16 : decode prog_2_method_4_code 16 = .ok (.putfield 26, 3) := by decide +kernel
theorem h_C_pop_19 : decode prog_2_method_4_code 19 = .ok (.aload_n 0, 1) := by decide +kernel
theorem h_C_pop_20 : decode prog_2_method_4_code 20 = .ok (.getfield 15, 3) := by decide +kernel
theorem h_C_pop_23 : decode prog_2_method_4_code 23 = .ok (.aload_n 0, 1) := by decide +kernel
theorem h_C_pop_24 : decode prog_2_method_4_code 24 = .ok (.getfield 26, 3) := by decide +kernel
theorem h_C_pop_27 : decode prog_2_method_4_code 27 = .ok (.laload, 1) := by decide +kernel
theorem h_C_pop_28 : decode prog_2_method_4_code 28 = .ok (.lreturn, 1) := by decide +kernel
def x_C_pop (a0 : Nat) (σ0 : CST) (P : Int64 → CST → Prop) : Prop := σ0.1 a0 = some (0, 0) ∧ ((((σ0.2.1 a0 4) = 0 → P 0 σ0) ∧ (¬ (σ0.2.1 a0 4) = 0 → ∀ σ3 : CST, σ3 = sI σ0 a0 4 ((σ0.2.1 a0 4) - 1) → σ3.1 a0 = some (0, 0) ∧ (∀ b5 : Option Nat, b5 = (σ3.2.2.2.1 a0 3) → (∃ r6 : Nat, b5 = some r6 ∧ ((∃ n8 : Nat, σ3.1 r6 = some (22, n8) ∧ (vp_in (σ3.2.1 a0 4) n8 ∧ (∀ b10 : Int64, b10 = (σ3.2.2.1 r6 ((σ3.2.1 a0 4) : Int32).toNatClampNeg) → P b10 σ3)))))))))
set_option maxHeartbeats 4000000 in
set_option maxRecDepth 100000 in
theorem X_C_pop (l : Launch) (dC : Nat → ClassId) (dI : Nat → Nat → Nat) (ca : Nat → ClassId) (H0 : Heap) (σ0 : CST) (a0 : Nat) {P : Int64 → CST → Prop} (hw : x_C_pop a0 σ0 P) : Met l g_C_pop (mW g_C_pop prog_2_method_4_code 1 (some .long)) ({ frames := 0, cells := σ0.2.2.2.2.1, slots := σ0.2.2.2.2.2.1, locals := 0 } : Room) (va_Pc [.ref a0] (CPre (dC, dI) ca σ0 H0)) (va_Ql P (CB (dC, dI) ca σ0 H0) (cA σ0 H0.size)) σ0.2.2.2.2.1 σ0.2.2.2.2.2.1 (cA σ0 H0.size) := by
  refine C_ofl (by decide +kernel) rfl rfl rfl (Nat.le_of_ble_eq_true rfl) ?_
  intro p e s m below meth cx Q A ls C hnm hend hH0 h hl
  subst hH0
  have C0 := C
  obtain ⟨⟨hx, hb, hml, hown, hts⟩, hsub⟩ := C0
  obtain ⟨cells, e_cells⟩ : ∃ z : Nat, z = 0 := ⟨_, rfl⟩
  obtain ⟨slots, e_slots⟩ : ∃ z : Nat, z = 0 := ⟨_, rfl⟩
  have h : CH (dC, dI) A ca ({ frames := 0, cells := σ0.2.2.2.2.1, slots := σ0.2.2.2.2.2.1, locals := 0 } : Room) σ0.2.2.2.2.2.2 σ0 s s.heap [] cells slots := by rw [e_cells, e_slots]; exact h
  show W p l e ({ frames := 0, cells := σ0.2.2.2.2.1, slots := σ0.2.2.2.2.2.1, locals := 0 } : Room) s m ([.ref a0] : List Value).toArray below meth cx s.heap [] 0 0 Q (F0 m 0 ls [])
  rw [show W p l e ({ frames := 0, cells := σ0.2.2.2.2.1, slots := σ0.2.2.2.2.2.1, locals := 0 } : Room) s m ([.ref a0] : List Value).toArray below meth cx s.heap [] 0 0 Q (F0 m 0 ls []) = W p l e ({ frames := 0, cells := σ0.2.2.2.2.1, slots := σ0.2.2.2.2.2.1, locals := 0 } : Room) s m ([.ref a0] : List Value).toArray below meth cx s.heap [] cells slots Q (F0 m 0 ls []) by rw [e_cells, e_slots]]
  have hl : lv_has ls 1 [(0, .ref a0)] := hl
  unfold x_C_pop at hw
  refine lv_aload_n hx hb h_C_pop_0 rfl (lv_at hl 0 rfl) ?_
  obtain ⟨g1, hw⟩ := hw
  refine C_get C h 0 4 (v := .int (σ0.2.1 a0 4)) g1 rfl (Cn := R_C) (T := T_C) (N := 5) rfl (by decide) rfl uw_C (by decide) u_8 (fun _ q => q) h_C_pop_1 ?_
  refine lv_if_ne (tgt := 9) hx hb h_C_pop_4 (by decide) (fun c2 => ?_) (fun c2 => ?_)
  · skip
    replace hw := hw.2 c2
    refine lv_aload_n hx hb h_C_pop_9 rfl (lv_at hl 0 rfl) ?_
    refine lv_dup hx hb h_C_pop_10 rfl ?_
    refine C_get C h 0 4 (v := .int (σ0.2.1 a0 4)) g1 rfl (Cn := R_C) (T := T_C) (N := 5) rfl (by decide) rfl uw_C (by decide) u_8 (fun _ q => q) h_C_pop_11 ?_
    refine lv_iconst (v := 1) hx hb h_C_pop_14 (by decide) ?_
    refine lv_isub hx hb h_C_pop_15 ?_
    refine C_puti C h 0 4 g1 (Cn := R_C) (T := T_C) (N := 5) rfl (by decide) rfl uw_C tok_C nm_C (by decide) rfl u_8 (fun _ q => q) (Or.inl rfl) (by decide +kernel) h_C_pop_16 (fun H locs h => ?_)
    obtain ⟨σ3, e_σ3⟩ : ∃ z : CST, z = sI σ0 a0 4 ((σ0.2.1 a0 4) - 1) := ⟨_, rfl⟩
    rw [← e_σ3] at h
    replace hw := hw σ3 e_σ3
    refine lv_aload_n hx hb h_C_pop_19 rfl (lv_at hl 0 rfl) ?_
    obtain ⟨g4, hw⟩ := hw
    refine C_get C h 0 3 (v := va_rf (σ3.2.2.2.1 a0 3)) g4 rfl (Cn := R_C) (T := T_C) (N := 5) rfl (by decide) rfl uw_C (by decide) u_5 (fun _ q => q) h_C_pop_20 ?_
    refine lv_topq (fun b5 e_b5 => ?_)
    replace hw := hw b5 e_b5
    refine lv_aload_n hx hb h_C_pop_23 rfl (lv_at hl 0 rfl) ?_
    refine C_get C h 0 4 (v := .int (σ3.2.1 a0 4)) g4 rfl (Cn := R_C) (T := T_C) (N := 5) rfl (by decide) rfl uw_C (by decide) u_8 (fun _ q => q) h_C_pop_24 ?_
    obtain ⟨r6, e_r6, hw⟩ := hw
    subst e_r6
    have hl : lv_has ls 1 [(0, .ref a0)] := hl
    refine W.eq (g2 := F0 m 27 ls [.int (σ3.2.1 a0 4), .ref r6]) rfl ?_
    obtain ⟨n8, g7, hw⟩ := hw
    obtain ⟨g9, hw⟩ := hw
    refine C_lald C h g7 g9 h_C_pop_27 ?_
    refine lv_topl (fun b10 e_b10 => ?_)
    replace hw := hw b10 e_b10
    exact hend b10 σ3 _ _ _ _ _ _ hw h h_C_pop_28
  · skip
    replace hw := hw.1 c2
    refine lv_lconst (v := 0) hx hb h_C_pop_7 (by decide) ?_
    exact hend 0 σ0 _ _ _ _ _ _ hw h h_C_pop_8
abbrev g_C_pushLong : MethodName := ⟨"MapFramer$Call", "pushLong", "(J)V"⟩
theorem u_9 : (Cond.methodLink "MapFramer$Call" 29 ⟨"MapFramer$Call", "push", "(J)V"⟩ : Cond) ∈ bigW := inB_7 129 (by decide +kernel) rfl
theorem u_10 : (Cond.instanceMethod ⟨"MapFramer$Call", "push", "(J)V"⟩ : Cond) ∈ bigW := inB_7 117 (by decide +kernel) rfl
theorem u_11 : (Cond.selects "MapFramer$Call" ⟨"MapFramer$Call", "push", "(J)V"⟩ ⟨"MapFramer$Call", "push", "(J)V"⟩ : Cond) ∈ bigW := inB_7 118 (by decide +kernel) rfl
theorem u_12 : (Cond.initialized "MapFramer$Call" : Cond) ∈ bigW := inB_1 5 (by decide +kernel) rfl
theorem u_13 : (Cond.code ⟨"MapFramer$Call", "push", "(J)V"⟩ prog_2_method_3_code 3 none : Cond) ∈ bigW := inB_7 119 rfl rfl
theorem h_C_pushLong_0 : decode prog_2_method_5_code 0 = .ok (.aload_n 0, 1) := by decide +kernel
theorem h_C_pushLong_1 : decode prog_2_method_5_code 1 = .ok (.lload_n 1, 1) := by decide +kernel
theorem h_C_pushLong_2 : decode prog_2_method_5_code 2 = .ok (.invokevirtual 29, 3) := by decide +kernel
theorem h_C_pushLong_5 : decode prog_2_method_5_code 5 = .ok (.aload_n 0, 1) := by decide +kernel
theorem h_C_pushLong_6 : decode prog_2_method_5_code 6 = .ok (.lconst 0, 1) := by decide +kernel
theorem h_C_pushLong_7 : decode prog_2_method_5_code 7 = .ok (.invokevirtual 29, 3) := by decide +kernel
theorem h_C_pushLong_10 : decode prog_2_method_5_code 10 = .ok (.return_, 1) := by decide +kernel
def x_C_pushLong (a0 : Nat) (x1 : Int64) (σ0 : CST) (P : CST → Prop) : Prop := σ0.1 a0 = some (0, 0) ∧ (x_C_push a0 x1 σ0 (fun σ2 => σ2.1 a0 = some (0, 0) ∧ (x_C_push a0 (0 : Int64) σ2 (fun σ5 => P σ5))))
set_option maxHeartbeats 4000000 in
set_option maxRecDepth 100000 in
theorem X_C_pushLong (l : Launch) (dC : Nat → ClassId) (dI : Nat → Nat → Nat) (ca : Nat → ClassId) (H0 : Heap) (σ0 : CST) (a0 : Nat) (x1 : Int64) {P : CST → Prop} (hw : x_C_pushLong a0 x1 σ0 P) : Met l g_C_pushLong (mW g_C_pushLong prog_2_method_5_code 3 none) ({ frames := 1, cells := σ0.2.2.2.2.1, slots := σ0.2.2.2.2.2.1, locals := 22 } : Room) (va_Pc [.ref a0, .long x1] (CPre (dC, dI) ca σ0 H0)) (va_Qv P (CB (dC, dI) ca σ0 H0) (cA σ0 H0.size)) σ0.2.2.2.2.1 σ0.2.2.2.2.2.1 (cA σ0 H0.size) := by
  refine C_ofv (by decide +kernel) rfl rfl rfl (Nat.le_of_ble_eq_true rfl) ?_
  intro p e s m below meth cx Q A ls C hnm hend hH0 h hl
  subst hH0
  have C0 := C
  obtain ⟨⟨hx, hb, hml, hown, hts⟩, hsub⟩ := C0
  obtain ⟨cells, e_cells⟩ : ∃ z : Nat, z = 0 := ⟨_, rfl⟩
  obtain ⟨slots, e_slots⟩ : ∃ z : Nat, z = 0 := ⟨_, rfl⟩
  have h : CH (dC, dI) A ca ({ frames := 1, cells := σ0.2.2.2.2.1, slots := σ0.2.2.2.2.2.1, locals := 22 } : Room) σ0.2.2.2.2.2.2 σ0 s s.heap [] cells slots := by rw [e_cells, e_slots]; exact h
  show W p l e ({ frames := 1, cells := σ0.2.2.2.2.1, slots := σ0.2.2.2.2.2.1, locals := 22 } : Room) s m ([.ref a0, .long x1] : List Value).toArray below meth cx s.heap [] 0 0 Q (F0 m 0 ls [])
  rw [show W p l e ({ frames := 1, cells := σ0.2.2.2.2.1, slots := σ0.2.2.2.2.2.1, locals := 22 } : Room) s m ([.ref a0, .long x1] : List Value).toArray below meth cx s.heap [] 0 0 Q (F0 m 0 ls []) = W p l e ({ frames := 1, cells := σ0.2.2.2.2.1, slots := σ0.2.2.2.2.2.1, locals := 22 } : Room) s m ([.ref a0, .long x1] : List Value).toArray below meth cx s.heap [] cells slots Q (F0 m 0 ls []) by rw [e_cells, e_slots]]
  have hl : lv_has ls 3 [(0, .ref a0), (1, .long x1)] := hl
  unfold x_C_pushLong at hw
  refine lv_aload_n hx hb h_C_pushLong_0 rfl (lv_at hl 0 rfl) ?_
  refine lv_lload_n hx hb h_C_pushLong_1 rfl (lv_at hl 1 rfl) ?_
  obtain ⟨g1, hw⟩ := hw
  refine C_callVv (As := [.long x1]) (rest := []) C h (ci := 0) (Cn := R_C) (T := T_C) (N := 5) g1 rfl (by decide) (X_C_push l dC dI ca s.heap σ0 a0 x1 hw) (cwV 1 hts (gV hsub u_9 u_10 u_11 u_12 u_13) rfl rfl rfl (by decide +kernel) ⟨(Nat.le_of_ble_eq_true rfl), (Nat.le_of_ble_eq_true rfl)⟩) rfl hl.1 (Nat.le_of_ble_eq_true rfl) h_C_pushLong_2 (fun σ2 H locs cells slots hw9 h9 => ?_)
  clear hw h; have hw := hw9; have h := h9; clear hw9 h9
  refine W.eq (g2 := F0 m 5 ls []) rfl ?_
  refine lv_aload_n hx hb h_C_pushLong_5 rfl (lv_at hl 0 rfl) ?_
  refine lv_lconst (v := 0) hx hb h_C_pushLong_6 (by decide) ?_
  obtain ⟨g4, hw⟩ := hw
  refine C_callVv (As := [.long 0]) (rest := []) C h (ci := 0) (Cn := R_C) (T := T_C) (N := 5) g4 rfl (by decide) (X_C_push l dC dI ca H σ2 a0 (0 : Int64) hw) (cwV 1 hts (gV hsub u_9 u_10 u_11 u_12 u_13) rfl rfl rfl (by decide +kernel) ⟨(Nat.le_of_ble_eq_true rfl), (Nat.le_of_ble_eq_true rfl)⟩) rfl hl.1 (Nat.le_of_ble_eq_true rfl) h_C_pushLong_7 (fun σ5 H locs cells slots hw9 h9 => ?_)
  clear hw h; have hw := hw9; have h := h9; clear hw9 h9
  refine W.eq (g2 := F0 m 10 ls []) rfl ?_
  exact hend σ5 _ _ _ _ _ _ hw h h_C_pushLong_10
abbrev g_C_popLong : MethodName := ⟨"MapFramer$Call", "popLong", "()J"⟩
theorem u_14 : (Cond.methodLink "MapFramer$Call" 33 ⟨"MapFramer$Call", "pop", "()J"⟩ : Cond) ∈ bigW := inB_7 139 (by decide +kernel) rfl
theorem u_15 : (Cond.instanceMethod ⟨"MapFramer$Call", "pop", "()J"⟩ : Cond) ∈ bigW := inB_7 140 (by decide +kernel) rfl
theorem u_16 : (Cond.selects "MapFramer$Call" ⟨"MapFramer$Call", "pop", "()J"⟩ ⟨"MapFramer$Call", "pop", "()J"⟩ : Cond) ∈ bigW := inB_7 141 (by decide +kernel) rfl
theorem u_17 : (Cond.code ⟨"MapFramer$Call", "pop", "()J"⟩ prog_2_method_4_code 1 (some .long) : Cond) ∈ bigW := inB_7 142 rfl rfl
theorem h_C_popLong_0 : decode prog_2_method_6_code 0 = .ok (.aload_n 0, 1) := by decide +kernel
theorem h_C_popLong_1 : decode prog_2_method_6_code 1 = .ok (.invokevirtual 33, 3) := by decide +kernel
theorem h_C_popLong_4 : decode prog_2_method_6_code 4 = .ok (.pop2, 1) := by decide +kernel
theorem h_C_popLong_5 : decode prog_2_method_6_code 5 = .ok (.aload_n 0, 1) := by decide +kernel
theorem h_C_popLong_6 : decode prog_2_method_6_code 6 = .ok (.invokevirtual 33, 3) := by decide +kernel
theorem h_C_popLong_9 : decode prog_2_method_6_code 9 = .ok (.lreturn, 1) := by decide +kernel
def x_C_popLong (a0 : Nat) (σ0 : CST) (P : Int64 → CST → Prop) : Prop := σ0.1 a0 = some (0, 0) ∧ (x_C_pop a0 σ0 (fun r3 σ2 => σ2.1 a0 = some (0, 0) ∧ (x_C_pop a0 σ2 (fun r6 σ5 => P r6 σ5))))
set_option maxHeartbeats 4000000 in
set_option maxRecDepth 100000 in
theorem X_C_popLong (l : Launch) (dC : Nat → ClassId) (dI : Nat → Nat → Nat) (ca : Nat → ClassId) (H0 : Heap) (σ0 : CST) (a0 : Nat) {P : Int64 → CST → Prop} (hw : x_C_popLong a0 σ0 P) : Met l g_C_popLong (mW g_C_popLong prog_2_method_6_code 1 (some .long)) ({ frames := 1, cells := σ0.2.2.2.2.1, slots := σ0.2.2.2.2.2.1, locals := 20 } : Room) (va_Pc [.ref a0] (CPre (dC, dI) ca σ0 H0)) (va_Ql P (CB (dC, dI) ca σ0 H0) (cA σ0 H0.size)) σ0.2.2.2.2.1 σ0.2.2.2.2.2.1 (cA σ0 H0.size) := by
  refine C_ofl (by decide +kernel) rfl rfl rfl (Nat.le_of_ble_eq_true rfl) ?_
  intro p e s m below meth cx Q A ls C hnm hend hH0 h hl
  subst hH0
  have C0 := C
  obtain ⟨⟨hx, hb, hml, hown, hts⟩, hsub⟩ := C0
  obtain ⟨cells, e_cells⟩ : ∃ z : Nat, z = 0 := ⟨_, rfl⟩
  obtain ⟨slots, e_slots⟩ : ∃ z : Nat, z = 0 := ⟨_, rfl⟩
  have h : CH (dC, dI) A ca ({ frames := 1, cells := σ0.2.2.2.2.1, slots := σ0.2.2.2.2.2.1, locals := 20 } : Room) σ0.2.2.2.2.2.2 σ0 s s.heap [] cells slots := by rw [e_cells, e_slots]; exact h
  show W p l e ({ frames := 1, cells := σ0.2.2.2.2.1, slots := σ0.2.2.2.2.2.1, locals := 20 } : Room) s m ([.ref a0] : List Value).toArray below meth cx s.heap [] 0 0 Q (F0 m 0 ls [])
  rw [show W p l e ({ frames := 1, cells := σ0.2.2.2.2.1, slots := σ0.2.2.2.2.2.1, locals := 20 } : Room) s m ([.ref a0] : List Value).toArray below meth cx s.heap [] 0 0 Q (F0 m 0 ls []) = W p l e ({ frames := 1, cells := σ0.2.2.2.2.1, slots := σ0.2.2.2.2.2.1, locals := 20 } : Room) s m ([.ref a0] : List Value).toArray below meth cx s.heap [] cells slots Q (F0 m 0 ls []) by rw [e_cells, e_slots]]
  have hl : lv_has ls 1 [(0, .ref a0)] := hl
  unfold x_C_popLong at hw
  refine lv_aload_n hx hb h_C_popLong_0 rfl (lv_at hl 0 rfl) ?_
  obtain ⟨g1, hw⟩ := hw
  refine C_callVl (As := []) (rest := []) C h (ci := 0) (Cn := R_C) (T := T_C) (N := 5) g1 rfl (by decide) (X_C_pop l dC dI ca s.heap σ0 a0 hw) (cwV 0 hts (gV hsub u_14 u_15 u_16 u_12 u_17) rfl rfl rfl (by decide +kernel) ⟨(Nat.le_of_ble_eq_true rfl), (Nat.le_of_ble_eq_true rfl)⟩) rfl hl.1 (Nat.le_of_ble_eq_true rfl) h_C_popLong_1 (fun r3 σ2 H locs cells slots hw9 h9 => ?_)
  clear hw h; have hw := hw9; have h := h9; clear hw9 h9
  refine W.eq (g2 := F0 m 4 ls [.long r3]) rfl ?_
  refine lv_pop2_2 hx hb h_C_popLong_4 rfl ?_
  refine lv_aload_n hx hb h_C_popLong_5 rfl (lv_at hl 0 rfl) ?_
  obtain ⟨g4, hw⟩ := hw
  refine C_callVl (As := []) (rest := []) C h (ci := 0) (Cn := R_C) (T := T_C) (N := 5) g4 rfl (by decide) (X_C_pop l dC dI ca H σ2 a0 hw) (cwV 0 hts (gV hsub u_14 u_15 u_16 u_12 u_17) rfl rfl rfl (by decide +kernel) ⟨(Nat.le_of_ble_eq_true rfl), (Nat.le_of_ble_eq_true rfl)⟩) rfl hl.1 (Nat.le_of_ble_eq_true rfl) h_C_popLong_6 (fun r6 σ5 H locs cells slots hw9 h9 => ?_)
  clear hw h; have hw := hw9; have h := h9; clear hw9 h9
  refine W.eq (g2 := F0 m 9 ls [.long r6]) rfl ?_
  exact hend r6 σ5 _ _ _ _ _ _ hw h h_C_popLong_9
abbrev g_C_popInt : MethodName := ⟨"MapFramer$Call", "popInt", "()I"⟩
theorem h_C_popInt_0 : decode prog_2_method_7_code 0 = .ok (.aload_n 0, 1) := by decide +kernel
theorem h_C_popInt_1 : decode prog_2_method_7_code 1 = .ok (.invokevirtual 33, 3) := by decide +kernel
theorem h_C_popInt_4 : decode prog_2_method_7_code 4 = .ok (.l2i, 1) := by decide +kernel
theorem h_C_popInt_5 : decode prog_2_method_7_code 5 = .ok (.ireturn, 1) := by decide +kernel
def x_C_popInt (a0 : Nat) (σ0 : CST) (P : Int32 → CST → Prop) : Prop := σ0.1 a0 = some (0, 0) ∧ (x_C_pop a0 σ0 (fun r3 σ2 => P ((r3 : Int64).toInt32) σ2))
set_option maxHeartbeats 4000000 in
set_option maxRecDepth 100000 in
theorem X_C_popInt (l : Launch) (dC : Nat → ClassId) (dI : Nat → Nat → Nat) (ca : Nat → ClassId) (H0 : Heap) (σ0 : CST) (a0 : Nat) {P : Int32 → CST → Prop} (hw : x_C_popInt a0 σ0 P) : Met l g_C_popInt (mW g_C_popInt prog_2_method_7_code 1 (some .int)) ({ frames := 1, cells := σ0.2.2.2.2.1, slots := σ0.2.2.2.2.2.1, locals := 20 } : Room) (va_Pc [.ref a0] (CPre (dC, dI) ca σ0 H0)) (va_Qi P (CB (dC, dI) ca σ0 H0) (cA σ0 H0.size)) σ0.2.2.2.2.1 σ0.2.2.2.2.2.1 (cA σ0 H0.size) := by
  refine C_ofi (by decide +kernel) rfl rfl rfl (Nat.le_of_ble_eq_true rfl) ?_
  intro p e s m below meth cx Q A ls C hnm hend hH0 h hl
  subst hH0
  have C0 := C
  obtain ⟨⟨hx, hb, hml, hown, hts⟩, hsub⟩ := C0
  obtain ⟨cells, e_cells⟩ : ∃ z : Nat, z = 0 := ⟨_, rfl⟩
  obtain ⟨slots, e_slots⟩ : ∃ z : Nat, z = 0 := ⟨_, rfl⟩
  have h : CH (dC, dI) A ca ({ frames := 1, cells := σ0.2.2.2.2.1, slots := σ0.2.2.2.2.2.1, locals := 20 } : Room) σ0.2.2.2.2.2.2 σ0 s s.heap [] cells slots := by rw [e_cells, e_slots]; exact h
  show W p l e ({ frames := 1, cells := σ0.2.2.2.2.1, slots := σ0.2.2.2.2.2.1, locals := 20 } : Room) s m ([.ref a0] : List Value).toArray below meth cx s.heap [] 0 0 Q (F0 m 0 ls [])
  rw [show W p l e ({ frames := 1, cells := σ0.2.2.2.2.1, slots := σ0.2.2.2.2.2.1, locals := 20 } : Room) s m ([.ref a0] : List Value).toArray below meth cx s.heap [] 0 0 Q (F0 m 0 ls []) = W p l e ({ frames := 1, cells := σ0.2.2.2.2.1, slots := σ0.2.2.2.2.2.1, locals := 20 } : Room) s m ([.ref a0] : List Value).toArray below meth cx s.heap [] cells slots Q (F0 m 0 ls []) by rw [e_cells, e_slots]]
  have hl : lv_has ls 1 [(0, .ref a0)] := hl
  unfold x_C_popInt at hw
  refine lv_aload_n hx hb h_C_popInt_0 rfl (lv_at hl 0 rfl) ?_
  obtain ⟨g1, hw⟩ := hw
  refine C_callVl (As := []) (rest := []) C h (ci := 0) (Cn := R_C) (T := T_C) (N := 5) g1 rfl (by decide) (X_C_pop l dC dI ca s.heap σ0 a0 hw) (cwV 0 hts (gV hsub u_14 u_15 u_16 u_12 u_17) rfl rfl rfl (by decide +kernel) ⟨(Nat.le_of_ble_eq_true rfl), (Nat.le_of_ble_eq_true rfl)⟩) rfl hl.1 (Nat.le_of_ble_eq_true rfl) h_C_popInt_1 (fun r3 σ2 H locs cells slots hw9 h9 => ?_)
  clear hw h; have hw := hw9; have h := h9; clear hw9 h9
  refine W.eq (g2 := F0 m 4 ls [.long r3]) rfl ?_
  refine lv_l2i (v := (r3 : Int64).toInt32) hx hb h_C_popInt_4 rfl ?_
  exact hend ((r3 : Int64).toInt32) σ2 _ _ _ _ _ _ hw h h_C_popInt_5
abbrev g_C_localAt : MethodName := ⟨"MapFramer$Call", "localAt", "(I)J"⟩
theorem h_C_localAt_0 : decode prog_2_method_8_code 0 = .ok (.iload_n 1, 1) := by decide +kernel
theorem h_C_localAt_1 : decode prog_2_method_8_code 1 = .ok (.ifCond .lt 21, 3) := by decide +kernel
theorem h_C_localAt_4 : decode prog_2_method_8_code 4 = .ok (.iload_n 1, 1) := by decide +kernel
theorem h_C_localAt_5 : decode prog_2_method_8_code 5 = .ok (.aload_n 0, 1) := by decide +kernel
theorem h_C_localAt_6 : decode prog_2_method_8_code 6 = .ok (.getfield 9, 3) := by decide +kernel
theorem h_C_localAt_9 : decode prog_2_method_8_code 9 = .ok (.arraylength, 1) := by decide +kernel
theorem h_C_localAt_10 : decode prog_2_method_8_code 10 = .ok (.if_icmp .ge 12, 3) := by decide +kernel
theorem h_C_localAt_13 : decode prog_2_method_8_code 13 = .ok (.aload_n 0, 1) := by decide +kernel
theorem h_C_localAt_14 : decode prog_2_method_8_code 14 = .ok (.getfield 9, 3) := by decide +kernel
theorem h_C_localAt_17 : decode prog_2_method_8_code 17 = .ok (.iload_n 1, 1) := by decide +kernel
theorem h_C_localAt_18 : decode prog_2_method_8_code 18 = .ok (.laload, 1) := by decide +kernel
theorem h_C_localAt_19 : decode prog_2_method_8_code 19 = .ok (.goto 4, 3) := by decide +kernel
theorem h_C_localAt_22 : decode prog_2_method_8_code 22 = .ok (.lconst 0, 1) := by decide +kernel
theorem h_C_localAt_23 : decode prog_2_method_8_code 23 = .ok (.lreturn, 1) := by decide +kernel
def x_C_localAt_22 (a0 : Nat) (P : Int64 → CST → Prop) (σ : CST) : Prop := P 0 σ
def x_C_localAt (a0 : Nat) (x1 : Int32) (σ0 : CST) (P : Int64 → CST → Prop) : Prop := ((x1 < 0 → x_C_localAt_22 a0 P σ0) ∧ (¬ x1 < 0 → σ0.1 a0 = some (0, 0) ∧ (∀ b3 : Option Nat, b3 = (σ0.2.2.2.1 a0 2) → (∃ r4 : Nat, b3 = some r4 ∧ ((∃ n6 : Nat, σ0.1 r4 = some (22, n6) ∧ ((((Int32.ofNat n6) ≤ x1 → x_C_localAt_22 a0 P σ0) ∧ (¬ (Int32.ofNat n6) ≤ x1 → ∀ b8 : Option Nat, b8 = (σ0.2.2.2.1 a0 2) → (∃ r9 : Nat, b8 = some r9 ∧ ((∃ n11 : Nat, σ0.1 r9 = some (22, n11) ∧ (vp_in x1 n11 ∧ (∀ b13 : Int64, b13 = (σ0.2.2.1 r9 (x1 : Int32).toNatClampNeg) → P b13 σ0))))))))))))))
set_option maxHeartbeats 4000000 in
set_option maxRecDepth 100000 in
theorem X_C_localAt (l : Launch) (dC : Nat → ClassId) (dI : Nat → Nat → Nat) (ca : Nat → ClassId) (H0 : Heap) (σ0 : CST) (a0 : Nat) (x1 : Int32) {P : Int64 → CST → Prop} (hw : x_C_localAt a0 x1 σ0 P) : Met l g_C_localAt (mW g_C_localAt prog_2_method_8_code 2 (some .long)) ({ frames := 0, cells := σ0.2.2.2.2.1, slots := σ0.2.2.2.2.2.1, locals := 0 } : Room) (va_Pc [.ref a0, .int x1] (CPre (dC, dI) ca σ0 H0)) (va_Ql P (CB (dC, dI) ca σ0 H0) (cA σ0 H0.size)) σ0.2.2.2.2.1 σ0.2.2.2.2.2.1 (cA σ0 H0.size) := by
  refine C_ofl (by decide +kernel) rfl rfl rfl (Nat.le_of_ble_eq_true rfl) ?_
  intro p e s m below meth cx Q A ls C hnm hend hH0 h hl
  subst hH0
  have C0 := C
  obtain ⟨⟨hx, hb, hml, hown, hts⟩, hsub⟩ := C0
  obtain ⟨cells, e_cells⟩ : ∃ z : Nat, z = 0 := ⟨_, rfl⟩
  obtain ⟨slots, e_slots⟩ : ∃ z : Nat, z = 0 := ⟨_, rfl⟩
  have h : CH (dC, dI) A ca ({ frames := 0, cells := σ0.2.2.2.2.1, slots := σ0.2.2.2.2.2.1, locals := 0 } : Room) σ0.2.2.2.2.2.2 σ0 s s.heap [] cells slots := by rw [e_cells, e_slots]; exact h
  show W p l e ({ frames := 0, cells := σ0.2.2.2.2.1, slots := σ0.2.2.2.2.2.1, locals := 0 } : Room) s m ([.ref a0, .int x1] : List Value).toArray below meth cx s.heap [] 0 0 Q (F0 m 0 ls [])
  rw [show W p l e ({ frames := 0, cells := σ0.2.2.2.2.1, slots := σ0.2.2.2.2.2.1, locals := 0 } : Room) s m ([.ref a0, .int x1] : List Value).toArray below meth cx s.heap [] 0 0 Q (F0 m 0 ls []) = W p l e ({ frames := 0, cells := σ0.2.2.2.2.1, slots := σ0.2.2.2.2.2.1, locals := 0 } : Room) s m ([.ref a0, .int x1] : List Value).toArray below meth cx s.heap [] cells slots Q (F0 m 0 ls []) by rw [e_cells, e_slots]]
  have K_22 : ∀ (u9 : Unit), ∀ (σ : CST) (H : Heap) (locs : List Loc) (cells slots : Nat) (ls : Array Slot), x_C_localAt_22 a0 P σ → CH (dC, dI) A ca ({ frames := 0, cells := σ0.2.2.2.2.1, slots := σ0.2.2.2.2.2.1, locals := 0 } : Room) σ0.2.2.2.2.2.2 σ s H locs cells slots → lv_has ls 2 [] → W p l e ({ frames := 0, cells := σ0.2.2.2.2.1, slots := σ0.2.2.2.2.2.1, locals := 0 } : Room) s m ([.ref a0, .int x1] : List Value).toArray below meth cx H locs cells slots Q (F0 m 22 ls []) := by
    intro u9  σ H locs cells slots ls hw h hl
    unfold x_C_localAt_22 at hw
    refine lv_lconst (v := 0) hx hb h_C_localAt_22 (by decide) ?_
    exact hend 0 σ _ _ _ _ _ _ hw h h_C_localAt_23
  have hl : lv_has ls 2 [(0, .ref a0), (1, .int x1)] := hl
  unfold x_C_localAt at hw
  refine lv_iload_n hx hb h_C_localAt_0 rfl (lv_at hl 1 rfl) ?_
  refine lv_if_lt (tgt := 22) hx hb h_C_localAt_1 (by decide) (fun c1 => ?_) (fun c1 => ?_)
  · skip
    replace hw := hw.1 c1
    exact K_22 () σ0 _ _ _ _ _ hw h (lv_sub hl [] rfl)
  · skip
    replace hw := hw.2 c1
    refine lv_iload_n hx hb h_C_localAt_4 rfl (lv_at hl 1 rfl) ?_
    refine lv_aload_n hx hb h_C_localAt_5 rfl (lv_at hl 0 rfl) ?_
    obtain ⟨g2, hw⟩ := hw
    refine C_get C h 0 2 (v := va_rf (σ0.2.2.2.1 a0 2)) g2 rfl (Cn := R_C) (T := T_C) (N := 5) rfl (by decide) rfl uw_C (by decide) u_4 (fun _ q => q) h_C_localAt_6 ?_
    refine lv_topq (fun b3 e_b3 => ?_)
    replace hw := hw b3 e_b3
    obtain ⟨r4, e_r4, hw⟩ := hw
    subst e_r4
    have hl : lv_has ls 2 [(0, .ref a0), (1, .int x1)] := hl
    refine W.eq (g2 := F0 m 9 ls [.ref r4, .int x1]) rfl ?_
    obtain ⟨n6, g5, hw⟩ := hw
    refine C_alen C h 22 2 rfl (by decide) g5 h_C_localAt_9 ?_
    refine lv_icmp_ge (tgt := 22) hx hb h_C_localAt_10 (by decide) (fun c7 => ?_) (fun c7 => ?_)
    · skip
      replace hw := hw.1 c7
      exact K_22 () σ0 _ _ _ _ _ hw h (lv_sub hl [] rfl)
    · skip
      replace hw := hw.2 c7
      refine lv_aload_n hx hb h_C_localAt_13 rfl (lv_at hl 0 rfl) ?_
      refine C_get C h 0 2 (v := va_rf (σ0.2.2.2.1 a0 2)) g2 rfl (Cn := R_C) (T := T_C) (N := 5) rfl (by decide) rfl uw_C (by decide) u_4 (fun _ q => q) h_C_localAt_14 ?_
      refine lv_topq (fun b8 e_b8 => ?_)
      replace hw := hw b8 e_b8
      refine lv_iload_n hx hb h_C_localAt_17 rfl (lv_at hl 1 rfl) ?_
      obtain ⟨r9, e_r9, hw⟩ := hw
      subst e_r9
      have hl : lv_has ls 2 [(0, .ref a0), (1, .int x1)] := hl
      refine W.eq (g2 := F0 m 18 ls [.int x1, .ref r9]) rfl ?_
      obtain ⟨n11, g10, hw⟩ := hw
      obtain ⟨g12, hw⟩ := hw
      refine C_lald C h g10 g12 h_C_localAt_18 ?_
      refine lv_topl (fun b13 e_b13 => ?_)
      replace hw := hw b13 e_b13
      refine lv_goto (tgt := 23) hx hb h_C_localAt_19 (by decide) ?_
      exact hend b13 σ0 _ _ _ _ _ _ hw h h_C_localAt_23
abbrev g_C_setLocal : MethodName := ⟨"MapFramer$Call", "setLocal", "(IJ)V"⟩
theorem h_C_setLocal_0 : decode prog_2_method_9_code 0 = .ok (.iload_n 1, 1) := by decide +kernel
theorem h_C_setLocal_1 : decode prog_2_method_9_code 1 = .ok (.ifCond .lt 19, 3) := by decide +kernel
theorem h_C_setLocal_4 : decode prog_2_method_9_code 4 = .ok (.iload_n 1, 1) := by decide +kernel
theorem h_C_setLocal_5 : decode prog_2_method_9_code 5 = .ok (.aload_n 0, 1) := by decide +kernel
theorem h_C_setLocal_6 : decode prog_2_method_9_code 6 = .ok (.getfield 9, 3) := by decide +kernel
theorem h_C_setLocal_9 : decode prog_2_method_9_code 9 = .ok (.arraylength, 1) := by decide +kernel
theorem h_C_setLocal_10 : decode prog_2_method_9_code 10 = .ok (.if_icmp .ge 10, 3) := by decide +kernel
theorem h_C_setLocal_13 : decode prog_2_method_9_code 13 = .ok (.aload_n 0, 1) := by decide +kernel
theorem h_C_setLocal_14 : decode prog_2_method_9_code 14 = .ok (.getfield 9, 3) := by decide +kernel
theorem h_C_setLocal_17 : decode prog_2_method_9_code 17 = .ok (.iload_n 1, 1) := by decide +kernel
theorem h_C_setLocal_18 : decode prog_2_method_9_code 18 = .ok (.lload_n 2, 1) := by decide +kernel
theorem h_C_setLocal_19 : decode prog_2_method_9_code 19 = .ok (.lastore, 1) := by decide +kernel
theorem h_C_setLocal_20 : decode prog_2_method_9_code 20 = .ok (.return_, 1) := by decide +kernel
def x_C_setLocal (a0 : Nat) (x1 : Int32) (x2 : Int64) (σ0 : CST) (P : CST → Prop) : Prop := ((x1 < 0 → P σ0) ∧ (¬ x1 < 0 → σ0.1 a0 = some (0, 0) ∧ (∀ b3 : Option Nat, b3 = (σ0.2.2.2.1 a0 2) → (∃ r4 : Nat, b3 = some r4 ∧ ((∃ n6 : Nat, σ0.1 r4 = some (22, n6) ∧ ((((Int32.ofNat n6) ≤ x1 → P σ0) ∧ (¬ (Int32.ofNat n6) ≤ x1 → ∀ b8 : Option Nat, b8 = (σ0.2.2.2.1 a0 2) → (∃ r9 : Nat, b8 = some r9 ∧ ((∃ n11 : Nat, σ0.1 r9 = some (22, n11) ∧ (vp_in x1 n11 ∧ (∀ σ13 : CST, σ13 = sL σ0 r9 (x1 : Int32).toNatClampNeg x2 → P σ13))))))))))))))
set_option maxHeartbeats 4000000 in
set_option maxRecDepth 100000 in
theorem X_C_setLocal (l : Launch) (dC : Nat → ClassId) (dI : Nat → Nat → Nat) (ca : Nat → ClassId) (H0 : Heap) (σ0 : CST) (a0 : Nat) (x1 : Int32) (x2 : Int64) {P : CST → Prop} (hw : x_C_setLocal a0 x1 x2 σ0 P) : Met l g_C_setLocal (mW g_C_setLocal prog_2_method_9_code 4 none) ({ frames := 0, cells := σ0.2.2.2.2.1, slots := σ0.2.2.2.2.2.1, locals := 0 } : Room) (va_Pc [.ref a0, .int x1, .long x2] (CPre (dC, dI) ca σ0 H0)) (va_Qv P (CB (dC, dI) ca σ0 H0) (cA σ0 H0.size)) σ0.2.2.2.2.1 σ0.2.2.2.2.2.1 (cA σ0 H0.size) := by
  refine C_ofv (by decide +kernel) rfl rfl rfl (Nat.le_of_ble_eq_true rfl) ?_
  intro p e s m below meth cx Q A ls C hnm hend hH0 h hl
  subst hH0
  have C0 := C
  obtain ⟨⟨hx, hb, hml, hown, hts⟩, hsub⟩ := C0
  obtain ⟨cells, e_cells⟩ : ∃ z : Nat, z = 0 := ⟨_, rfl⟩
  obtain ⟨slots, e_slots⟩ : ∃ z : Nat, z = 0 := ⟨_, rfl⟩
  have h : CH (dC, dI) A ca ({ frames := 0, cells := σ0.2.2.2.2.1, slots := σ0.2.2.2.2.2.1, locals := 0 } : Room) σ0.2.2.2.2.2.2 σ0 s s.heap [] cells slots := by rw [e_cells, e_slots]; exact h
  show W p l e ({ frames := 0, cells := σ0.2.2.2.2.1, slots := σ0.2.2.2.2.2.1, locals := 0 } : Room) s m ([.ref a0, .int x1, .long x2] : List Value).toArray below meth cx s.heap [] 0 0 Q (F0 m 0 ls [])
  rw [show W p l e ({ frames := 0, cells := σ0.2.2.2.2.1, slots := σ0.2.2.2.2.2.1, locals := 0 } : Room) s m ([.ref a0, .int x1, .long x2] : List Value).toArray below meth cx s.heap [] 0 0 Q (F0 m 0 ls []) = W p l e ({ frames := 0, cells := σ0.2.2.2.2.1, slots := σ0.2.2.2.2.2.1, locals := 0 } : Room) s m ([.ref a0, .int x1, .long x2] : List Value).toArray below meth cx s.heap [] cells slots Q (F0 m 0 ls []) by rw [e_cells, e_slots]]
  have hl : lv_has ls 4 [(0, .ref a0), (1, .int x1), (2, .long x2)] := hl
  unfold x_C_setLocal at hw
  refine lv_iload_n hx hb h_C_setLocal_0 rfl (lv_at hl 1 rfl) ?_
  refine lv_if_lt (tgt := 20) hx hb h_C_setLocal_1 (by decide) (fun c1 => ?_) (fun c1 => ?_)
  · skip
    replace hw := hw.1 c1
    exact hend σ0 _ _ _ _ _ _ hw h h_C_setLocal_20
  · skip
    replace hw := hw.2 c1
    refine lv_iload_n hx hb h_C_setLocal_4 rfl (lv_at hl 1 rfl) ?_
    refine lv_aload_n hx hb h_C_setLocal_5 rfl (lv_at hl 0 rfl) ?_
    obtain ⟨g2, hw⟩ := hw
    refine C_get C h 0 2 (v := va_rf (σ0.2.2.2.1 a0 2)) g2 rfl (Cn := R_C) (T := T_C) (N := 5) rfl (by decide) rfl uw_C (by decide) u_4 (fun _ q => q) h_C_setLocal_6 ?_
    refine lv_topq (fun b3 e_b3 => ?_)
    replace hw := hw b3 e_b3
    obtain ⟨r4, e_r4, hw⟩ := hw
    subst e_r4
    have hl : lv_has ls 4 [(0, .ref a0), (1, .int x1), (2, .long x2)] := hl
    refine W.eq (g2 := F0 m 9 ls [.ref r4, .int x1]) rfl ?_
    obtain ⟨n6, g5, hw⟩ := hw
    refine C_alen C h 22 2 rfl (by decide) g5 h_C_setLocal_9 ?_
    refine lv_icmp_ge (tgt := 20) hx hb h_C_setLocal_10 (by decide) (fun c7 => ?_) (fun c7 => ?_)
    · skip
      replace hw := hw.1 c7
      exact hend σ0 _ _ _ _ _ _ hw h h_C_setLocal_20
    · skip
      replace hw := hw.2 c7
      refine lv_aload_n hx hb h_C_setLocal_13 rfl (lv_at hl 0 rfl) ?_
      refine C_get C h 0 2 (v := va_rf (σ0.2.2.2.1 a0 2)) g2 rfl (Cn := R_C) (T := T_C) (N := 5) rfl (by decide) rfl uw_C (by decide) u_4 (fun _ q => q) h_C_setLocal_14 ?_
      refine lv_topq (fun b8 e_b8 => ?_)
      replace hw := hw b8 e_b8
      refine lv_iload_n hx hb h_C_setLocal_17 rfl (lv_at hl 1 rfl) ?_
      refine lv_lload_n hx hb h_C_setLocal_18 rfl (lv_at hl 2 rfl) ?_
      obtain ⟨r9, e_r9, hw⟩ := hw
      subst e_r9
      have hl : lv_has ls 4 [(0, .ref a0), (1, .int x1), (2, .long x2)] := hl
      refine W.eq (g2 := F0 m 19 ls [.long x2, .int x1, .ref r9]) rfl ?_
      obtain ⟨n11, g10, hw⟩ := hw
      obtain ⟨g12, hw⟩ := hw
      refine C_last C h g10 g12 h_C_setLocal_19 (fun H locs h => ?_)
      obtain ⟨σ13, e_σ13⟩ : ∃ z : CST, z = sL σ0 r9 (x1 : Int32).toNatClampNeg x2 := ⟨_, rfl⟩
      rw [← e_σ13] at h
      replace hw := hw σ13 e_σ13
      exact hend σ13 _ _ _ _ _ _ hw h h_C_setLocal_20
abbrev g_BMath_min : MethodName := ⟨"java/lang/Math", "min", "(II)I"⟩
theorem h_BMath_min_0 : decode prog_25_method_69_code 0 = .ok (.iload_n 0, 1) := by decide +kernel
theorem h_BMath_min_1 : decode prog_25_method_69_code 1 = .ok (.iload_n 1, 1) := by decide +kernel
theorem h_BMath_min_2 : decode prog_25_method_69_code 2 = .ok (.if_icmp .gt 7, 3) := by decide +kernel
theorem h_BMath_min_5 : decode prog_25_method_69_code 5 = .ok (.iload_n 0, 1) := by decide +kernel
theorem h_BMath_min_6 : decode prog_25_method_69_code 6 = .ok (.goto 4, 3) := by decide +kernel
theorem h_BMath_min_9 : decode prog_25_method_69_code 9 = .ok (.iload_n 1, 1) := by decide +kernel
theorem h_BMath_min_10 : decode prog_25_method_69_code 10 = .ok (.ireturn, 1) := by decide +kernel
def x_BMath_min (x0 : Int32) (x1 : Int32) (σ0 : CST) (P : Int32 → CST → Prop) : Prop := ((x1 < x0 → P x1 σ0) ∧ (¬ x1 < x0 → P x0 σ0))
set_option maxHeartbeats 4000000 in
set_option maxRecDepth 100000 in
theorem X_BMath_min (l : Launch) (dC : Nat → ClassId) (dI : Nat → Nat → Nat) (ca : Nat → ClassId) (H0 : Heap) (σ0 : CST) (x0 : Int32) (x1 : Int32) {P : Int32 → CST → Prop} (hw : x_BMath_min x0 x1 σ0 P) : Met l g_BMath_min (mW g_BMath_min prog_25_method_69_code 2 (some .int)) ({ frames := 0, cells := σ0.2.2.2.2.1, slots := σ0.2.2.2.2.2.1, locals := 0 } : Room) (va_Pc [.int x0, .int x1] (CPre (dC, dI) ca σ0 H0)) (va_Qi P (CB (dC, dI) ca σ0 H0) (cA σ0 H0.size)) σ0.2.2.2.2.1 σ0.2.2.2.2.2.1 (cA σ0 H0.size) := by
  refine C_ofi (by decide +kernel) rfl rfl rfl (Nat.le_of_ble_eq_true rfl) ?_
  intro p e s m below meth cx Q A ls C hnm hend hH0 h hl
  subst hH0
  have C0 := C
  obtain ⟨⟨hx, hb, hml, hown, hts⟩, hsub⟩ := C0
  obtain ⟨cells, e_cells⟩ : ∃ z : Nat, z = 0 := ⟨_, rfl⟩
  obtain ⟨slots, e_slots⟩ : ∃ z : Nat, z = 0 := ⟨_, rfl⟩
  have h : CH (dC, dI) A ca ({ frames := 0, cells := σ0.2.2.2.2.1, slots := σ0.2.2.2.2.2.1, locals := 0 } : Room) σ0.2.2.2.2.2.2 σ0 s s.heap [] cells slots := by rw [e_cells, e_slots]; exact h
  show W p l e ({ frames := 0, cells := σ0.2.2.2.2.1, slots := σ0.2.2.2.2.2.1, locals := 0 } : Room) s m ([.int x0, .int x1] : List Value).toArray below meth cx s.heap [] 0 0 Q (F0 m 0 ls [])
  rw [show W p l e ({ frames := 0, cells := σ0.2.2.2.2.1, slots := σ0.2.2.2.2.2.1, locals := 0 } : Room) s m ([.int x0, .int x1] : List Value).toArray below meth cx s.heap [] 0 0 Q (F0 m 0 ls []) = W p l e ({ frames := 0, cells := σ0.2.2.2.2.1, slots := σ0.2.2.2.2.2.1, locals := 0 } : Room) s m ([.int x0, .int x1] : List Value).toArray below meth cx s.heap [] cells slots Q (F0 m 0 ls []) by rw [e_cells, e_slots]]
  have hl : lv_has ls 2 [(0, .int x0), (1, .int x1)] := hl
  unfold x_BMath_min at hw
  refine lv_iload_n hx hb h_BMath_min_0 rfl (lv_at hl 0 rfl) ?_
  refine lv_iload_n hx hb h_BMath_min_1 rfl (lv_at hl 1 rfl) ?_
  refine lv_icmp_gt (tgt := 9) hx hb h_BMath_min_2 (by decide) (fun c1 => ?_) (fun c1 => ?_)
  · skip
    replace hw := hw.1 c1
    refine lv_iload_n hx hb h_BMath_min_9 rfl (lv_at hl 1 rfl) ?_
    exact hend x1 σ0 _ _ _ _ _ _ hw h h_BMath_min_10
  · skip
    replace hw := hw.2 c1
    refine lv_iload_n hx hb h_BMath_min_5 rfl (lv_at hl 0 rfl) ?_
    refine lv_goto (tgt := 10) hx hb h_BMath_min_6 (by decide) ?_
    exact hend x0 σ0 _ _ _ _ _ _ hw h h_BMath_min_10
abbrev g_Fw_init : MethodName := ⟨"MapFramer$FrameWriter", "<init>", "(LMapFramer$Method;)V"⟩
theorem u_18 : (Cond.methodLink "MapFramer$FrameWriter" 3 ⟨"java/lang/Object", "<init>", "()V"⟩ : Cond) ∈ bigW := inB_6 179 (by decide +kernel) rfl
theorem u_19 : (Cond.arrayClass .int : Cond) ∈ bigW := inB_1 87 (by decide +kernel) rfl
theorem u_20 : (Cond.fieldLink "MapFramer$FrameWriter" 9 "MapFramer$FrameWriter" "bytes" "[I" : Cond) ∈ bigW := inB_6 182 (by decide +kernel) rfl
theorem u_21 : (Cond.fieldLink "MapFramer$FrameWriter" 15 "MapFramer$FrameWriter" "placeBefore" "I" : Cond) ∈ bigW := inB_6 184 (by decide +kernel) rfl
theorem u_22 : (Cond.fieldLink "MapFramer$FrameWriter" 19 "MapFramer$FrameWriter" "before" "[I" : Cond) ∈ bigW := inB_6 185 (by decide +kernel) rfl
theorem u_23 : (Cond.fieldLink "MapFramer$FrameWriter" 22 "MapFramer$FrameWriter" "locals" "[I" : Cond) ∈ bigW := inB_6 187 (by decide +kernel) rfl
theorem u_24 : (Cond.fieldLink "MapFramer$FrameWriter" 25 "MapFramer$FrameWriter" "stack" "[I" : Cond) ∈ bigW := inB_6 189 (by decide +kernel) rfl
theorem u_25 : (Cond.fieldLink "MapFramer$FrameWriter" 28 "MapFramer$Method" "arguments" "[I" : Cond) ∈ bigW := inB_2 156 (by decide +kernel) rfl
theorem u_26 : (Cond.methodLink "MapFramer$FrameWriter" 33 ⟨"java/lang/Math", "min", "(II)I"⟩ : Cond) ∈ bigW := inB_6 180 (by decide +kernel) rfl
theorem u_27 : (Cond.static ⟨"java/lang/Math", "min", "(II)I"⟩ : Cond) ∈ bigW := inB_3 16 (by decide +kernel) rfl
theorem u_28 : (Cond.initialized "java/lang/Math" : Cond) ∈ bigW := inB_1 17 (by decide +kernel) rfl
theorem u_29 : (Cond.code ⟨"java/lang/Math", "min", "(II)I"⟩ prog_25_method_69_code 2 (some .int) : Cond) ∈ bigW := inB_3 17 rfl rfl
theorem u_30 : (Cond.fieldLink "MapFramer$FrameWriter" 39 "MapFramer$FrameWriter" "beforeCount" "I" : Cond) ∈ bigW := inB_6 186 (by decide +kernel) rfl
theorem u_31 : (Cond.methodLink "MapFramer$FrameWriter" 42 ⟨"java/lang/System", "arraycopy", "(Ljava/lang/Object;ILjava/lang/Object;II)V"⟩ : Cond) ∈ bigW := inB_6 181 (by decide +kernel) rfl
theorem u_32 : (Cond.native ⟨"java/lang/System", "arraycopy", "(Ljava/lang/Object;ILjava/lang/Object;II)V"⟩ : Cond) ∈ bigW := inB_3 20 (by decide +kernel) rfl
theorem u_33 : (Cond.static ⟨"java/lang/System", "arraycopy", "(Ljava/lang/Object;ILjava/lang/Object;II)V"⟩ : Cond) ∈ bigW := inB_3 19 (by decide +kernel) rfl
theorem u_34 : (Cond.initialized "java/lang/System" : Cond) ∈ bigW := inB_1 18 (by decide +kernel) rfl
theorem h_Fw_init_0 : decode prog_3_method_1_code 0 = .ok (.aload_n 0, 1) := by decide +kernel
theorem h_Fw_init_1 : decode prog_3_method_1_code 1 = .ok (.invokespecial 3, 3) := by decide +kernel
theorem h_Fw_init_4 : decode prog_3_method_1_code 4 = .ok (.aload_n 0, 1) := by decide +kernel
theorem h_Fw_init_5 : decode prog_3_method_1_code 5 = .ok (.bipush 32, 2) := by decide +kernel
theorem h_Fw_init_7 : decode prog_3_method_1_code 7 = .ok (.newarray .int, 2) := by decide +kernel
theorem h_Fw_init_9 : decode prog_3_method_1_code 9 = .ok (.putfield 9, 3) := by decide +kernel
theorem h_Fw_init_12 : decode prog_3_method_1_code 12 = .ok (.aload_n 0, 1) := by decide +kernel
theorem h_Fw_init_13 : decode prog_3_method_1_code 13 = .ok (.iconst (-1), 1) := by decide +kernel
theorem h_Fw_init_14 : decode prog_3_method_1_code 14 = .ok (.putfield 15, 3) := by decide +kernel
theorem h_Fw_init_17 : decode prog_3_method_1_code 17 = .ok (.aload_n 0, 1) := by decide +kernel
theorem h_Fw_init_18 : decode prog_3_method_1_code 18 = .ok (.bipush 12, 2) := by decide +kernel
theorem h_Fw_init_20 : decode prog_3_method_1_code 20 = .ok (.newarray .int, 2) := by decide +kernel
theorem h_Fw_init_22 : decode prog_3_method_1_code 22 = .ok (.putfield 19, 3) := by decide +kernel
theorem h_Fw_init_25 : decode prog_3_method_1_code 25 = .ok (.aload_n 0, 1) := by decide +kernel
theorem h_Fw_init_26 : decode prog_3_method_1_code 26 = .ok (.bipush 12, 2) := by decide +kernel
theorem h_Fw_init_28 : decode prog_3_method_1_code 28 = .ok (.newarray .int, 2) := by decide +kernel
theorem h_Fw_init_30 : decode prog_3_method_1_code 30 = .ok (.putfield 22, 3) := by decide +kernel
theorem h_Fw_init_33 : decode prog_3_method_1_code 33 = .ok (.aload_n 0, 1) := by decide +kernel
theorem h_Fw_init_34 : decode prog_3_method_1_code 34 = .ok (.bipush 12, 2) := by decide +kernel
theorem h_Fw_init_36 : decode prog_3_method_1_code 36 = .ok (.newarray .int, 2) := by decide +kernel
theorem h_Fw_init_38 : decode prog_3_method_1_code 38 = .ok (.putfield 25, 3) := by decide +kernel
theorem h_Fw_init_41 : decode prog_3_method_1_code 41 = .ok (.aload_n 0, 1) := by decide +kernel
theorem h_Fw_init_42 : decode prog_3_method_1_code 42 = .ok (.aload_n 1, 1) := by decide +kernel
theorem h_Fw_init_43 : decode prog_3_method_1_code 43 = .ok (.getfield 28, 3) := by decide +kernel
theorem h_Fw_init_46 : decode prog_3_method_1_code 46 = .ok (.arraylength, 1) := by decide +kernel
theorem h_Fw_init_47 : decode prog_3_method_1_code 47 = .ok (.bipush 12, 2) := by decide +kernel
theorem h_Fw_init_49 : decode prog_3_method_1_code 49 = .ok (.invokestatic 33, 3) := by decide +kernel
theorem h_Fw_init_52 : decode prog_3_method_1_code 52 = .ok (.putfield 39, 3) := by decide +kernel
theorem h_Fw_init_55 : decode prog_3_method_1_code 55 = .ok (.aload_n 1, 1) := by decide +kernel
theorem h_Fw_init_56 : decode prog_3_method_1_code 56 = .ok (.getfield 28, 3) := by decide +kernel
theorem h_Fw_init_59 : decode prog_3_method_1_code 59 = .ok (.iconst 0, 1) := by decide +kernel
theorem h_Fw_init_60 : decode prog_3_method_1_code 60 = .ok (.aload_n 0, 1) := by decide +kernel
theorem h_Fw_init_61 : decode prog_3_method_1_code 61 = .ok (.getfield 19, 3) := by decide +kernel
theorem h_Fw_init_64 : decode prog_3_method_1_code 64 = .ok (.iconst 0, 1) := by decide +kernel
theorem h_Fw_init_65 : decode prog_3_method_1_code 65 = .ok (.aload_n 0, 1) := by decide +kernel
theorem h_Fw_init_66 : decode prog_3_method_1_code 66 = .ok (.getfield 39, 3) := by decide +kernel
theorem h_Fw_init_69 : decode prog_3_method_1_code 69 = .ok (.invokestatic 42, 3) := by decide +kernel
theorem h_Fw_init_72 : decode prog_3_method_1_code 72 = .ok (.return_, 1) := by decide +kernel
def x_Fw_init (a0 : Nat) (a1 : Nat) (σ0 : CST) (P : CST → Prop) : Prop := (¬ (32 : Int32) < 0 ∧ (32 : Int32).toNatClampNeg ≤ 60000000 ∧ 1 ≤ σ0.2.2.2.2.1 ∧ (32 : Int32).toNatClampNeg ≤ σ0.2.2.2.2.2.1 ∧ ∀ q1 : Nat, σ0.1 q1 = none → q1 ≠ σ0.2.2.2.2.2.2.1 → ∀ σ7 : CST, σ7 = nw σ0 q1 20 (32 : Int32).toNatClampNeg (32 : Int32).toNatClampNeg → σ7.1 a0 = some (11, 0) ∧ (∀ σ9 : CST, σ9 = sR σ7 a0 0 (some q1) → σ9.1 a0 = some (11, 0) ∧ (∀ σ11 : CST, σ11 = sI σ9 a0 2 ((-1) : Int32) → (¬ (12 : Int32) < 0 ∧ (12 : Int32).toNatClampNeg ≤ 60000000 ∧ 1 ≤ σ11.2.2.2.2.1 ∧ (12 : Int32).toNatClampNeg ≤ σ11.2.2.2.2.2.1 ∧ ∀ q12 : Nat, σ11.1 q12 = none → q12 ≠ σ11.2.2.2.2.2.2.1 → ∀ σ18 : CST, σ18 = nw σ11 q12 20 (12 : Int32).toNatClampNeg (12 : Int32).toNatClampNeg → σ18.1 a0 = some (11, 0) ∧ (∀ σ20 : CST, σ20 = sR σ18 a0 3 (some q12) → (¬ (12 : Int32) < 0 ∧ (12 : Int32).toNatClampNeg ≤ 60000000 ∧ 1 ≤ σ20.2.2.2.2.1 ∧ (12 : Int32).toNatClampNeg ≤ σ20.2.2.2.2.2.1 ∧ ∀ q21 : Nat, σ20.1 q21 = none → q21 ≠ σ20.2.2.2.2.2.2.1 → ∀ σ27 : CST, σ27 = nw σ20 q21 20 (12 : Int32).toNatClampNeg (12 : Int32).toNatClampNeg → σ27.1 a0 = some (11, 0) ∧ (∀ σ29 : CST, σ29 = sR σ27 a0 5 (some q21) → (¬ (12 : Int32) < 0 ∧ (12 : Int32).toNatClampNeg ≤ 60000000 ∧ 1 ≤ σ29.2.2.2.2.1 ∧ (12 : Int32).toNatClampNeg ≤ σ29.2.2.2.2.2.1 ∧ ∀ q30 : Nat, σ29.1 q30 = none → q30 ≠ σ29.2.2.2.2.2.2.1 → ∀ σ36 : CST, σ36 = nw σ29 q30 20 (12 : Int32).toNatClampNeg (12 : Int32).toNatClampNeg → σ36.1 a0 = some (11, 0) ∧ (∀ σ38 : CST, σ38 = sR σ36 a0 7 (some q30) → σ38.1 a1 = some (5, 0) ∧ (∀ b40 : Option Nat, b40 = (σ38.2.2.2.1 a1 0) → (∃ r41 : Nat, b40 = some r41 ∧ ((∃ n43 : Nat, σ38.1 r41 = some (20, n43) ∧ (x_BMath_min (Int32.ofNat n43) (12 : Int32) σ38 (fun r45 σ44 => σ44.1 a0 = some (11, 0) ∧ (∀ σ47 : CST, σ47 = sI σ44 a0 4 r45 → σ47.1 a1 = some (5, 0) ∧ (∀ b49 : Option Nat, b49 = (σ47.2.2.2.1 a1 0) → σ47.1 a0 = some (11, 0) ∧ (∀ b51 : Option Nat, b51 = (σ47.2.2.2.1 a0 3) → (∃ r52 : Nat, b49 = some r52 ∧ ((∃ r53 : Nat, b51 = some r53 ∧ ((∃ n55 : Nat, σ47.1 r52 = some (20, n55) ∧ ((∃ n57 : Nat, σ47.1 r53 = some (20, n57) ∧ ((¬ (0 : Int32) < 0 ∧ ¬ (0 : Int32) < 0 ∧ ¬ ((σ47.2.1 a0 4) : Int32) < 0 ∧ (0 : Int32).toNatClampNeg + ((σ47.2.1 a0 4) : Int32).toNatClampNeg ≤ n55 ∧ (0 : Int32).toNatClampNeg + ((σ47.2.1 a0 4) : Int32).toNatClampNeg ≤ n57 ∧ ∀ σ63 : CST, σ63 = sA σ47 r53 (va_cpy (σ47.2.1 r52) (σ47.2.1 r53) (0 : Int32).toNatClampNeg (0 : Int32).toNatClampNeg ((σ47.2.1 a0 4) : Int32).toNatClampNeg) → P σ63)))))))))))))))))))))))))))
set_option maxHeartbeats 4000000 in
set_option maxRecDepth 100000 in
theorem X_Fw_init (l : Launch) (dC : Nat → ClassId) (dI : Nat → Nat → Nat) (ca : Nat → ClassId) (H0 : Heap) (σ0 : CST) (a0 : Nat) (a1 : Nat) {P : CST → Prop} (hw : x_Fw_init a0 a1 σ0 P) : Met l g_Fw_init (mW g_Fw_init prog_3_method_1_code 2 none) ({ frames := 1, cells := σ0.2.2.2.2.1, slots := σ0.2.2.2.2.2.1, locals := 100 } : Room) (va_Pc [.ref a0, .ref a1] (CPre (dC, dI) ca σ0 H0)) (va_Qv P (CB (dC, dI) ca σ0 H0) (cA σ0 H0.size)) σ0.2.2.2.2.1 σ0.2.2.2.2.2.1 (cA σ0 H0.size) := by
  refine C_ofv (by decide +kernel) rfl rfl rfl (Nat.le_of_ble_eq_true rfl) ?_
  intro p e s m below meth cx Q A ls C hnm hend hH0 h hl
  subst hH0
  have C0 := C
  obtain ⟨⟨hx, hb, hml, hown, hts⟩, hsub⟩ := C0
  obtain ⟨cells, e_cells⟩ : ∃ z : Nat, z = 0 := ⟨_, rfl⟩
  obtain ⟨slots, e_slots⟩ : ∃ z : Nat, z = 0 := ⟨_, rfl⟩
  have h : CH (dC, dI) A ca ({ frames := 1, cells := σ0.2.2.2.2.1, slots := σ0.2.2.2.2.2.1, locals := 100 } : Room) σ0.2.2.2.2.2.2 σ0 s s.heap [] cells slots := by rw [e_cells, e_slots]; exact h
  show W p l e ({ frames := 1, cells := σ0.2.2.2.2.1, slots := σ0.2.2.2.2.2.1, locals := 100 } : Room) s m ([.ref a0, .ref a1] : List Value).toArray below meth cx s.heap [] 0 0 Q (F0 m 0 ls [])
  rw [show W p l e ({ frames := 1, cells := σ0.2.2.2.2.1, slots := σ0.2.2.2.2.2.1, locals := 100 } : Room) s m ([.ref a0, .ref a1] : List Value).toArray below meth cx s.heap [] 0 0 Q (F0 m 0 ls []) = W p l e ({ frames := 1, cells := σ0.2.2.2.2.1, slots := σ0.2.2.2.2.2.1, locals := 100 } : Room) s m ([.ref a0, .ref a1] : List Value).toArray below meth cx s.heap [] cells slots Q (F0 m 0 ls []) by rw [e_cells, e_slots]]
  have hl : lv_has ls 2 [(0, .ref a0), (1, .ref a1)] := hl
  unfold x_Fw_init at hw
  refine lv_aload_n hx hb h_Fw_init_0 rfl (lv_at hl 0 rfl) ?_
  refine W.objInit hx hb hown (hts _ (hsub _ u_18)) (hts _ (hsub _ u_1)) (hts _ (hsub _ u_2)) rfl (by rw [hml]; exact hl.1) rfl h_Fw_init_1 (Nat.le_of_ble_eq_true rfl) (Nat.le_of_ble_eq_true rfl) ?_
  refine W.eq (g2 := F0 m 4 ls []) rfl ?_
  refine lv_aload_n hx hb h_Fw_init_4 rfl (lv_at hl 0 rfl) ?_
  refine lv_bipush (v := 32) hx hb h_Fw_init_5 (by decide) ?_
  obtain ⟨g5, g6, g2, g3, hw⟩ := hw
  refine C_newai C h u_19 g5 rfl g6 g2 g3 h_Fw_init_7 (fun q1 H g4 hz9 h => ?_)
  replace hw := hw q1 g4 hz9
  obtain ⟨σ7, e_σ7⟩ : ∃ z : CST, z = nw σ0 q1 20 (32 : Int32).toNatClampNeg (32 : Int32).toNatClampNeg := ⟨_, rfl⟩
  rw [← e_σ7] at h
  replace hw := hw σ7 e_σ7
  generalize cells + 1 = cells at h ⊢
  generalize slots + (32 : Int32).toNatClampNeg = slots at h ⊢
  obtain ⟨g8, hw⟩ := hw
  refine C_putr C h 11 0 (v := (some q1)) (ty := (.array .int)) g8 (Cn := R_Fw) (T := T_Fw) (N := 9) rfl (by decide) rfl uw_Fw tok_Fw nm_Fw (by decide) rfl u_20 (fun _ q => q) (Or.inl rfl) (by decide +kernel) ck_a h_Fw_init_9 (fun H locs h => ?_)
  obtain ⟨σ9, e_σ9⟩ : ∃ z : CST, z = sR σ7 a0 0 (some q1) := ⟨_, rfl⟩
  rw [← e_σ9] at h
  replace hw := hw σ9 e_σ9
  refine lv_aload_n hx hb h_Fw_init_12 rfl (lv_at hl 0 rfl) ?_
  refine lv_iconst (v := (-1)) hx hb h_Fw_init_13 (by decide) ?_
  obtain ⟨g10, hw⟩ := hw
  refine C_puti C h 11 2 g10 (Cn := R_Fw) (T := T_Fw) (N := 9) rfl (by decide) rfl uw_Fw tok_Fw nm_Fw (by decide) rfl u_21 (fun _ q => q) (Or.inl rfl) (by decide +kernel) h_Fw_init_14 (fun H locs h => ?_)
  obtain ⟨σ11, e_σ11⟩ : ∃ z : CST, z = sI σ9 a0 2 ((-1) : Int32) := ⟨_, rfl⟩
  rw [← e_σ11] at h
  replace hw := hw σ11 e_σ11
  refine lv_aload_n hx hb h_Fw_init_17 rfl (lv_at hl 0 rfl) ?_
  refine lv_bipush (v := 12) hx hb h_Fw_init_18 (by decide) ?_
  obtain ⟨g16, g17, g13, g14, hw⟩ := hw
  refine C_newai C h u_19 g16 rfl g17 g13 g14 h_Fw_init_20 (fun q12 H g15 hz9 h => ?_)
  replace hw := hw q12 g15 hz9
  obtain ⟨σ18, e_σ18⟩ : ∃ z : CST, z = nw σ11 q12 20 (12 : Int32).toNatClampNeg (12 : Int32).toNatClampNeg := ⟨_, rfl⟩
  rw [← e_σ18] at h
  replace hw := hw σ18 e_σ18
  generalize cells + 1 = cells at h ⊢
  generalize slots + (12 : Int32).toNatClampNeg = slots at h ⊢
  obtain ⟨g19, hw⟩ := hw
  refine C_putr C h 11 3 (v := (some q12)) (ty := (.array .int)) g19 (Cn := R_Fw) (T := T_Fw) (N := 9) rfl (by decide) rfl uw_Fw tok_Fw nm_Fw (by decide) rfl u_22 (fun _ q => q) (Or.inl rfl) (by decide +kernel) ck_a h_Fw_init_22 (fun H locs h => ?_)
  obtain ⟨σ20, e_σ20⟩ : ∃ z : CST, z = sR σ18 a0 3 (some q12) := ⟨_, rfl⟩
  rw [← e_σ20] at h
  replace hw := hw σ20 e_σ20
  refine lv_aload_n hx hb h_Fw_init_25 rfl (lv_at hl 0 rfl) ?_
  refine lv_bipush (v := 12) hx hb h_Fw_init_26 (by decide) ?_
  obtain ⟨g25, g26, g22, g23, hw⟩ := hw
  refine C_newai C h u_19 g25 rfl g26 g22 g23 h_Fw_init_28 (fun q21 H g24 hz9 h => ?_)
  replace hw := hw q21 g24 hz9
  obtain ⟨σ27, e_σ27⟩ : ∃ z : CST, z = nw σ20 q21 20 (12 : Int32).toNatClampNeg (12 : Int32).toNatClampNeg := ⟨_, rfl⟩
  rw [← e_σ27] at h
  replace hw := hw σ27 e_σ27
  generalize cells + 1 = cells at h ⊢
  generalize slots + (12 : Int32).toNatClampNeg = slots at h ⊢
  obtain ⟨g28, hw⟩ := hw
  refine C_putr C h 11 5 (v := (some q21)) (ty := (.array .int)) g28 (Cn := R_Fw) (T := T_Fw) (N := 9) rfl (by decide) rfl uw_Fw tok_Fw nm_Fw (by decide) rfl u_23 (fun _ q => q) (Or.inl rfl) (by decide +kernel) ck_a h_Fw_init_30 (fun H locs h => ?_)
  obtain ⟨σ29, e_σ29⟩ : ∃ z : CST, z = sR σ27 a0 5 (some q21) := ⟨_, rfl⟩
  rw [← e_σ29] at h
  replace hw := hw σ29 e_σ29
  refine lv_aload_n hx hb h_Fw_init_33 rfl (lv_at hl 0 rfl) ?_
  refine lv_bipush (v := 12) hx hb h_Fw_init_34 (by decide) ?_
  obtain ⟨g34, g35, g31, g32, hw⟩ := hw
  refine C_newai C h u_19 g34 rfl g35 g31 g32 h_Fw_init_36 (fun q30 H g33 hz9 h => ?_)
  replace hw := hw q30 g33 hz9
  obtain ⟨σ36, e_σ36⟩ : ∃ z : CST, z = nw σ29 q30 20 (12 : Int32).toNatClampNeg (12 : Int32).toNatClampNeg := ⟨_, rfl⟩
  rw [← e_σ36] at h
  replace hw := hw σ36 e_σ36
  generalize cells + 1 = cells at h ⊢
  generalize slots + (12 : Int32).toNatClampNeg = slots at h ⊢
  obtain ⟨g37, hw⟩ := hw
  refine C_putr C h 11 7 (v := (some q30)) (ty := (.array .int)) g37 (Cn := R_Fw) (T := T_Fw) (N := 9) rfl (by decide) rfl uw_Fw tok_Fw nm_Fw (by decide) rfl u_24 (fun _ q => q) (Or.inr ⟨rfl, hnm, rfl⟩) (by decide +kernel) ck_a h_Fw_init_38 (fun H locs h => ?_)
  obtain ⟨σ38, e_σ38⟩ : ∃ z : CST, z = sR σ36 a0 7 (some q30) := ⟨_, rfl⟩
  rw [← e_σ38] at h
  replace hw := hw σ38 e_σ38
  refine lv_aload_n hx hb h_Fw_init_41 rfl (lv_at hl 0 rfl) ?_
  refine lv_aload_n hx hb h_Fw_init_42 rfl (lv_at hl 1 rfl) ?_
  obtain ⟨g39, hw⟩ := hw
  refine C_get C h 5 0 (v := va_rf (σ38.2.2.2.1 a1 0)) g39 rfl (Cn := R_E) (T := T_E) (N := 13) rfl (by decide) rfl uw_E (by decide) u_25 (fun _ q => q) h_Fw_init_43 ?_
  refine lv_topq (fun b40 e_b40 => ?_)
  replace hw := hw b40 e_b40
  obtain ⟨r41, e_r41, hw⟩ := hw
  subst e_r41
  have hl : lv_has ls 2 [(0, .ref a0), (1, .ref a1)] := hl
  refine W.eq (g2 := F0 m 46 ls [.ref r41, .ref a0]) rfl ?_
  obtain ⟨n43, g42, hw⟩ := hw
  refine C_alen C h 20 0 rfl (by decide) g42 h_Fw_init_46 ?_
  refine lv_bipush (v := 12) hx hb h_Fw_init_47 (by decide) ?_
  refine C_callSi (As := [.int (Int32.ofNat n43), .int 12]) (rest := [.ref a0]) C h (X_BMath_min l dC dI ca H σ38 (Int32.ofNat n43) (12 : Int32) hw) (va_cwS 2 hts (gS hsub u_26 u_27 u_28 u_29) rfl rfl rfl (by decide +kernel) ⟨(Nat.le_of_ble_eq_true rfl), (Nat.le_of_ble_eq_true rfl)⟩) rfl hl.1 (Nat.le_of_ble_eq_true rfl) h_Fw_init_49 (fun r45 σ44 H locs cells slots hw9 h9 => ?_)
  clear hw h; have hw := hw9; have h := h9; clear hw9 h9
  refine W.eq (g2 := F0 m 52 ls [.int r45, .ref a0]) rfl ?_
  obtain ⟨g46, hw⟩ := hw
  refine C_puti C h 11 4 g46 (Cn := R_Fw) (T := T_Fw) (N := 9) rfl (by decide) rfl uw_Fw tok_Fw nm_Fw (by decide) rfl u_30 (fun _ q => q) (Or.inl rfl) (by decide +kernel) h_Fw_init_52 (fun H locs h => ?_)
  obtain ⟨σ47, e_σ47⟩ : ∃ z : CST, z = sI σ44 a0 4 r45 := ⟨_, rfl⟩
  rw [← e_σ47] at h
  replace hw := hw σ47 e_σ47
  refine lv_aload_n hx hb h_Fw_init_55 rfl (lv_at hl 1 rfl) ?_
  obtain ⟨g48, hw⟩ := hw
  refine C_get C h 5 0 (v := va_rf (σ47.2.2.2.1 a1 0)) g48 rfl (Cn := R_E) (T := T_E) (N := 13) rfl (by decide) rfl uw_E (by decide) u_25 (fun _ q => q) h_Fw_init_56 ?_
  refine lv_topq (fun b49 e_b49 => ?_)
  replace hw := hw b49 e_b49
  refine lv_iconst (v := 0) hx hb h_Fw_init_59 (by decide) ?_
  refine lv_aload_n hx hb h_Fw_init_60 rfl (lv_at hl 0 rfl) ?_
  obtain ⟨g50, hw⟩ := hw
  refine C_get C h 11 3 (v := va_rf (σ47.2.2.2.1 a0 3)) g50 rfl (Cn := R_Fw) (T := T_Fw) (N := 9) rfl (by decide) rfl uw_Fw (by decide) u_22 (fun _ q => q) h_Fw_init_61 ?_
  refine lv_topq (fun b51 e_b51 => ?_)
  replace hw := hw b51 e_b51
  refine lv_iconst (v := 0) hx hb h_Fw_init_64 (by decide) ?_
  refine lv_aload_n hx hb h_Fw_init_65 rfl (lv_at hl 0 rfl) ?_
  refine C_get C h 11 4 (v := .int (σ47.2.1 a0 4)) g50 rfl (Cn := R_Fw) (T := T_Fw) (N := 9) rfl (by decide) rfl uw_Fw (by decide) u_30 (fun _ q => q) h_Fw_init_66 ?_
  obtain ⟨r52, e_r52, hw⟩ := hw
  subst e_r52
  have hl : lv_has ls 2 [(0, .ref a0), (1, .ref a1)] := hl
  refine W.eq (g2 := F0 m 69 ls [.int (σ47.2.1 a0 4), .int 0, va_rf b51, .int 0, .ref r52]) rfl ?_
  obtain ⟨r53, e_r53, hw⟩ := hw
  subst e_r53
  have hl : lv_has ls 2 [(0, .ref a0), (1, .ref a1)] := hl
  refine W.eq (g2 := F0 m 69 ls [.int (σ47.2.1 a0 4), .int 0, .ref r53, .int 0, .ref r52]) rfl ?_
  obtain ⟨n55, g54, hw⟩ := hw
  obtain ⟨n57, g56, hw⟩ := hw
  obtain ⟨g58, g59, g60, g61, g62, hw⟩ := hw
  refine C_copyi C h hl.1 u_31 u_32 u_33 u_34 g54 g56 g58 g59 g60 g61 g62 (Nat.le_of_ble_eq_true rfl) (Nat.le_of_ble_eq_true rfl) h_Fw_init_69 (fun H locs h => ?_)
  obtain ⟨σ63, e_σ63⟩ : ∃ z : CST, z = sA σ47 r53 (va_cpy (σ47.2.1 r52) (σ47.2.1 r53) (0 : Int32).toNatClampNeg (0 : Int32).toNatClampNeg ((σ47.2.1 a0 4) : Int32).toNatClampNeg) := ⟨_, rfl⟩
  rw [← e_σ63] at h
  replace hw := hw σ63 e_σ63
  exact hend σ63 _ _ _ _ _ _ hw h h_Fw_init_72
abbrev g_Ar_copyOf : MethodName := ⟨"java/util/Arrays", "copyOf", "([II)[I"⟩
theorem u_35 : (Cond.methodLink "java/util/Arrays" 304 ⟨"java/lang/Math", "min", "(II)I"⟩ : Cond) ∈ bigW := inB_3 15 (by decide +kernel) rfl
theorem u_36 : (Cond.methodLink "java/util/Arrays" 150 ⟨"java/lang/System", "arraycopy", "(Ljava/lang/Object;ILjava/lang/Object;II)V"⟩ : Cond) ∈ bigW := inB_3 18 (by decide +kernel) rfl
theorem u_37 : (Cond.methodLink "java/util/Arrays" 316 ⟨"[I", "clone", "()Ljava/lang/Object;"⟩ : Cond) ∈ bigW := inB_3 8 (by decide +kernel) rfl
theorem u_38 : (Cond.sameMethod "[I" "java/lang/Object" "clone" "()Ljava/lang/Object;" : Cond) ∈ bigW := inB_3 9 (by decide +kernel) rfl
theorem u_39 : (Cond.native ⟨"java/lang/Object", "clone", "()Ljava/lang/Object;"⟩ : Cond) ∈ bigW := inB_3 10 (by decide +kernel) rfl
theorem u_40 : (Cond.instanceMethod ⟨"java/lang/Object", "clone", "()Ljava/lang/Object;"⟩ : Cond) ∈ bigW := inB_3 11 (by decide +kernel) rfl
theorem u_41 : (Cond.selects "[I" ⟨"[I", "clone", "()Ljava/lang/Object;"⟩ ⟨"java/lang/Object", "clone", "()Ljava/lang/Object;"⟩ : Cond) ∈ bigW := inB_3 12 (by decide +kernel) rfl
theorem u_42 : (Cond.classLink "java/util/Arrays" 317 "[I" : Cond) ∈ bigW := inB_3 14 (by decide +kernel) rfl
theorem h_Ar_copyOf_0 : decode prog_37_method_123_code 0 = .ok (.iload_n 1, 1) := by decide +kernel
theorem h_Ar_copyOf_1 : decode prog_37_method_123_code 1 = .ok (.aload_n 0, 1) := by decide +kernel
theorem h_Ar_copyOf_2 : decode prog_37_method_123_code 2 = .ok (.arraylength, 1) := by decide +kernel
theorem h_Ar_copyOf_3 : decode prog_37_method_123_code 3 = .ok (.if_icmp .ne 11, 3) := by decide +kernel
theorem h_Ar_copyOf_6 : decode prog_37_method_123_code 6 = .ok (.aload_n 0, 1) := by decide +kernel
theorem h_Ar_copyOf_7 : decode prog_37_method_123_code 7 = .ok (.invokevirtual 316, 3) := by decide +kernel
theorem h_Ar_copyOf_10 : decode prog_37_method_123_code 10 = .ok (.checkcast 317, 3) := by decide +kernel
theorem h_Ar_copyOf_13 : decode prog_37_method_123_code 13 = .ok (.areturn, 1) := by decide +kernel
theorem h_Ar_copyOf_14 : decode prog_37_method_123_code 14 = .ok (.iload_n 1, 1) := by decide +kernel
theorem h_Ar_copyOf_15 : decode prog_37_method_123_code 15 = .ok (.newarray .int, 2) := by decide +kernel
theorem h_Ar_copyOf_17 : decode prog_37_method_123_code 17 = .ok (.astore_n 2, 1) := by decide +kernel
theorem h_Ar_copyOf_18 : decode prog_37_method_123_code 18 = .ok (.aload_n 0, 1) := by decide +kernel
theorem h_Ar_copyOf_19 : decode prog_37_method_123_code 19 = .ok (.iconst 0, 1) := by decide +kernel
theorem h_Ar_copyOf_20 : decode prog_37_method_123_code 20 = .ok (.aload_n 2, 1) := by decide +kernel
theorem h_Ar_copyOf_21 : decode prog_37_method_123_code 21 = .ok (.iconst 0, 1) := by decide +kernel
theorem h_Ar_copyOf_22 : decode prog_37_method_123_code 22 = .ok (.aload_n 0, 1) := by decide +kernel
theorem h_Ar_copyOf_23 : decode prog_37_method_123_code 23 = .ok (.arraylength, 1) := by decide +kernel
theorem h_Ar_copyOf_24 : decode prog_37_method_123_code 24 = .ok (.iload_n 1, 1) := by decide +kernel
theorem h_Ar_copyOf_25 : decode prog_37_method_123_code 25 = .ok (.invokestatic 304, 3) := by decide +kernel
theorem h_Ar_copyOf_28 : decode prog_37_method_123_code 28 = .ok (.invokestatic 150, 3) := by decide +kernel
theorem h_Ar_copyOf_31 : decode prog_37_method_123_code 31 = .ok (.aload_n 2, 1) := by decide +kernel
theorem h_Ar_copyOf_32 : decode prog_37_method_123_code 32 = .ok (.areturn, 1) := by decide +kernel
def x_Ar_copyOf (a0 : Nat) (x1 : Int32) (σ0 : CST) (P : Option Nat → CST → Prop) : Prop := (∃ n2 : Nat, σ0.1 a0 = some (20, n2) ∧ (((x1 = (Int32.ofNat n2) → (1 ≤ σ0.2.2.2.2.1 ∧ n2 ≤ σ0.2.2.2.2.2.1 ∧ ∀ q25 : Nat, σ0.1 q25 = none → q25 ≠ σ0.2.2.2.2.2.2.1 → ∀ σ29 : CST, σ29 = sA (nw σ0 q25 20 n2 n2) q25 (σ0.2.1 a0) → (∃ n31 : Nat, σ29.1 q25 = some (20, n31) ∧ (P (some q25) σ29)))) ∧ (¬ x1 = (Int32.ofNat n2) → (¬ (x1 : Int32) < 0 ∧ (x1 : Int32).toNatClampNeg ≤ 60000000 ∧ 1 ≤ σ0.2.2.2.2.1 ∧ (x1 : Int32).toNatClampNeg ≤ σ0.2.2.2.2.2.1 ∧ ∀ q4 : Nat, σ0.1 q4 = none → q4 ≠ σ0.2.2.2.2.2.2.1 → ∀ σ10 : CST, σ10 = nw σ0 q4 20 (x1 : Int32).toNatClampNeg (x1 : Int32).toNatClampNeg → (∃ n12 : Nat, σ10.1 a0 = some (20, n12) ∧ (x_BMath_min (Int32.ofNat n12) x1 σ10 (fun r14 σ13 => (∃ n16 : Nat, σ13.1 a0 = some (20, n16) ∧ ((∃ n18 : Nat, σ13.1 q4 = some (20, n18) ∧ ((¬ (0 : Int32) < 0 ∧ ¬ (0 : Int32) < 0 ∧ ¬ (r14 : Int32) < 0 ∧ (0 : Int32).toNatClampNeg + (r14 : Int32).toNatClampNeg ≤ n16 ∧ (0 : Int32).toNatClampNeg + (r14 : Int32).toNatClampNeg ≤ n18 ∧ ∀ σ24 : CST, σ24 = sA σ13 q4 (va_cpy (σ13.2.1 a0) (σ13.2.1 q4) (0 : Int32).toNatClampNeg (0 : Int32).toNatClampNeg (r14 : Int32).toNatClampNeg) → P (some q4) σ24)))))))))))))
set_option maxHeartbeats 4000000 in
set_option maxRecDepth 100000 in
theorem X_Ar_copyOf (l : Launch) (dC : Nat → ClassId) (dI : Nat → Nat → Nat) (ca : Nat → ClassId) (H0 : Heap) (σ0 : CST) (a0 : Nat) (x1 : Int32) {P : Option Nat → CST → Prop} (hw : x_Ar_copyOf a0 x1 σ0 P) : Met l g_Ar_copyOf (mW g_Ar_copyOf prog_37_method_123_code 3 (some (.array .int))) ({ frames := 1, cells := σ0.2.2.2.2.1, slots := σ0.2.2.2.2.2.1, locals := 100 } : Room) (va_Pc [.ref a0, .int x1] (CPre (dC, dI) ca σ0 H0)) (va_Qq P (CB (dC, dI) ca σ0 H0) (cA σ0 H0.size)) σ0.2.2.2.2.1 σ0.2.2.2.2.2.1 (cA σ0 H0.size) := by
  refine C_ofq (Or.inr ⟨_, rfl⟩) (by decide +kernel) rfl rfl rfl (Nat.le_of_ble_eq_true rfl) ?_
  intro p e s m below meth cx Q A ls C hnm hend hH0 h hl
  subst hH0
  have C0 := C
  obtain ⟨⟨hx, hb, hml, hown, hts⟩, hsub⟩ := C0
  obtain ⟨cells, e_cells⟩ : ∃ z : Nat, z = 0 := ⟨_, rfl⟩
  obtain ⟨slots, e_slots⟩ : ∃ z : Nat, z = 0 := ⟨_, rfl⟩
  have h : CH (dC, dI) A ca ({ frames := 1, cells := σ0.2.2.2.2.1, slots := σ0.2.2.2.2.2.1, locals := 100 } : Room) σ0.2.2.2.2.2.2 σ0 s s.heap [] cells slots := by rw [e_cells, e_slots]; exact h
  show W p l e ({ frames := 1, cells := σ0.2.2.2.2.1, slots := σ0.2.2.2.2.2.1, locals := 100 } : Room) s m ([.ref a0, .int x1] : List Value).toArray below meth cx s.heap [] 0 0 Q (F0 m 0 ls [])
  rw [show W p l e ({ frames := 1, cells := σ0.2.2.2.2.1, slots := σ0.2.2.2.2.2.1, locals := 100 } : Room) s m ([.ref a0, .int x1] : List Value).toArray below meth cx s.heap [] 0 0 Q (F0 m 0 ls []) = W p l e ({ frames := 1, cells := σ0.2.2.2.2.1, slots := σ0.2.2.2.2.2.1, locals := 100 } : Room) s m ([.ref a0, .int x1] : List Value).toArray below meth cx s.heap [] cells slots Q (F0 m 0 ls []) by rw [e_cells, e_slots]]
  have hl : lv_has ls 3 [(0, .ref a0), (1, .int x1)] := hl
  unfold x_Ar_copyOf at hw
  refine lv_iload_n hx hb h_Ar_copyOf_0 rfl (lv_at hl 1 rfl) ?_
  refine lv_aload_n hx hb h_Ar_copyOf_1 rfl (lv_at hl 0 rfl) ?_
  obtain ⟨n2, g1, hw⟩ := hw
  refine C_alen C h 20 0 rfl (by decide) g1 h_Ar_copyOf_2 ?_
  refine lv_icmp_ne (tgt := 14) hx hb h_Ar_copyOf_3 (by decide) (fun c3 => ?_) (fun c3 => ?_)
  · skip
    replace hw := hw.2 c3
    refine lv_iload_n hx hb h_Ar_copyOf_14 rfl (lv_at hl 1 rfl) ?_
    obtain ⟨g8, g9, g5, g6, hw⟩ := hw
    refine C_newai C h u_19 g8 rfl g9 g5 g6 h_Ar_copyOf_15 (fun q4 H g7 hz9 h => ?_)
    replace hw := hw q4 g7 hz9
    obtain ⟨σ10, e_σ10⟩ : ∃ z : CST, z = nw σ0 q4 20 (x1 : Int32).toNatClampNeg (x1 : Int32).toNatClampNeg := ⟨_, rfl⟩
    rw [← e_σ10] at h
    replace hw := hw σ10 e_σ10
    generalize cells + 1 = cells at h ⊢
    generalize slots + (x1 : Int32).toNatClampNeg = slots at h ⊢
    refine lv_astore_n (i := 2) (lv' := [(2, .ref q4), (0, .ref a0), (1, .int x1)]) hx hb h_Ar_copyOf_17 rfl hl (by decide) rfl (fun ls hl => ?_)
    refine lv_aload_n hx hb h_Ar_copyOf_18 rfl (lv_at hl 1 rfl) ?_
    refine lv_iconst (v := 0) hx hb h_Ar_copyOf_19 (by decide) ?_
    refine lv_aload_n hx hb h_Ar_copyOf_20 rfl (lv_at hl 0 rfl) ?_
    refine lv_iconst (v := 0) hx hb h_Ar_copyOf_21 (by decide) ?_
    refine lv_aload_n hx hb h_Ar_copyOf_22 rfl (lv_at hl 1 rfl) ?_
    obtain ⟨n12, g11, hw⟩ := hw
    refine C_alen C h 20 0 rfl (by decide) g11 h_Ar_copyOf_23 ?_
    refine lv_iload_n hx hb h_Ar_copyOf_24 rfl (lv_at hl 2 rfl) ?_
    refine C_callSi (As := [.int (Int32.ofNat n12), .int x1]) (rest := [.int 0, .ref q4, .int 0, .ref a0]) C h (X_BMath_min l dC dI ca H σ10 (Int32.ofNat n12) x1 hw) (va_cwS 2 hts (gS hsub u_35 u_27 u_28 u_29) rfl rfl rfl (by decide +kernel) ⟨(Nat.le_of_ble_eq_true rfl), (Nat.le_of_ble_eq_true rfl)⟩) rfl hl.1 (Nat.le_of_ble_eq_true rfl) h_Ar_copyOf_25 (fun r14 σ13 H locs cells slots hw9 h9 => ?_)
    clear hw h; have hw := hw9; have h := h9; clear hw9 h9
    refine W.eq (g2 := F0 m 28 ls [.int r14, .int 0, .ref q4, .int 0, .ref a0]) rfl ?_
    obtain ⟨n16, g15, hw⟩ := hw
    obtain ⟨n18, g17, hw⟩ := hw
    obtain ⟨g19, g20, g21, g22, g23, hw⟩ := hw
    refine C_copyi C h hl.1 u_36 u_32 u_33 u_34 g15 g17 g19 g20 g21 g22 g23 (Nat.le_of_ble_eq_true rfl) (Nat.le_of_ble_eq_true rfl) h_Ar_copyOf_28 (fun H locs h => ?_)
    obtain ⟨σ24, e_σ24⟩ : ∃ z : CST, z = sA σ13 q4 (va_cpy (σ13.2.1 a0) (σ13.2.1 q4) (0 : Int32).toNatClampNeg (0 : Int32).toNatClampNeg (r14 : Int32).toNatClampNeg) := ⟨_, rfl⟩
    rw [← e_σ24] at h
    replace hw := hw σ24 e_σ24
    refine lv_aload_n hx hb h_Ar_copyOf_31 rfl (lv_at hl 0 rfl) ?_
    exact hend (some q4) σ24 _ _ _ _ _ _ hw h h_Ar_copyOf_32
  · skip
    replace hw := hw.1 c3
    refine lv_aload_n hx hb h_Ar_copyOf_6 rfl (lv_at hl 0 rfl) ?_
    obtain ⟨g26, g27, hw⟩ := hw
    refine C_clone C h hl.1 u_37 u_38 u_39 u_40 u_41 g1 (Nat.le_of_ble_eq_true rfl) (Nat.le_of_ble_eq_true rfl) g26 g27 h_Ar_copyOf_7 (fun q25 H g28 hz9 h => ?_)
    replace hw := hw q25 g28 hz9
    obtain ⟨σ29, e_σ29⟩ : ∃ z : CST, z = sA (nw σ0 q25 20 n2 n2) q25 (σ0.2.1 a0) := ⟨_, rfl⟩
    rw [← e_σ29] at h
    replace hw := hw σ29 e_σ29
    generalize cells + 1 = cells at h ⊢
    generalize slots + n2 = slots at h ⊢
    obtain ⟨n31, g30, hw⟩ := hw
    refine C_castI C h u_42 g30 h_Ar_copyOf_10 ?_
    exact hend (some q25) σ29 _ _ _ _ _ _ hw h h_Ar_copyOf_13
abbrev g_Fw_written : MethodName := ⟨"MapFramer$FrameWriter", "written", "()[I"⟩
theorem u_43 : (Cond.fieldLink "MapFramer$FrameWriter" 48 "MapFramer$FrameWriter" "length" "I" : Cond) ∈ bigW := inB_6 183 (by decide +kernel) rfl
theorem u_44 : (Cond.methodLink "MapFramer$FrameWriter" 51 ⟨"java/util/Arrays", "copyOf", "([II)[I"⟩ : Cond) ∈ bigW := inB_6 235 (by decide +kernel) rfl
theorem u_45 : (Cond.static ⟨"java/util/Arrays", "copyOf", "([II)[I"⟩ : Cond) ∈ bigW := inB_3 6 (by decide +kernel) rfl
theorem u_46 : (Cond.initialized "java/util/Arrays" : Cond) ∈ bigW := inB_1 16 (by decide +kernel) rfl
theorem u_47 : (Cond.code ⟨"java/util/Arrays", "copyOf", "([II)[I"⟩ prog_37_method_123_code 3 (some (.array .int)) : Cond) ∈ bigW := inB_3 7 rfl rfl
theorem h_Fw_written_0 : decode prog_3_method_2_code 0 = .ok (.aload_n 0, 1) := by decide +kernel
theorem h_Fw_written_1 : decode prog_3_method_2_code 1 = .ok (.getfield 9, 3) := by decide +kernel
theorem h_Fw_written_4 : decode prog_3_method_2_code 4 = .ok (.aload_n 0, 1) := by decide +kernel
theorem h_Fw_written_5 : decode prog_3_method_2_code 5 = .ok (.getfield 48, 3) := by decide +kernel
theorem h_Fw_written_8 : decode prog_3_method_2_code 8 = .ok (.invokestatic 51, 3) := by decide +kernel
theorem h_Fw_written_11 : decode prog_3_method_2_code 11 = .ok (.areturn, 1) := by decide +kernel
def x_Fw_written (a0 : Nat) (σ0 : CST) (P : Option Nat → CST → Prop) : Prop := σ0.1 a0 = some (11, 0) ∧ (∀ b2 : Option Nat, b2 = (σ0.2.2.2.1 a0 0) → (∃ r3 : Nat, b2 = some r3 ∧ (x_Ar_copyOf r3 (σ0.2.1 a0 1) σ0 (fun r5 σ4 => P r5 σ4))))
set_option maxHeartbeats 4000000 in
set_option maxRecDepth 100000 in
theorem X_Fw_written (l : Launch) (dC : Nat → ClassId) (dI : Nat → Nat → Nat) (ca : Nat → ClassId) (H0 : Heap) (σ0 : CST) (a0 : Nat) {P : Option Nat → CST → Prop} (hw : x_Fw_written a0 σ0 P) : Met l g_Fw_written (mW g_Fw_written prog_3_method_2_code 1 (some (.array .int))) ({ frames := 2, cells := σ0.2.2.2.2.1, slots := σ0.2.2.2.2.2.1, locals := 122 } : Room) (va_Pc [.ref a0] (CPre (dC, dI) ca σ0 H0)) (va_Qq P (CB (dC, dI) ca σ0 H0) (cA σ0 H0.size)) σ0.2.2.2.2.1 σ0.2.2.2.2.2.1 (cA σ0 H0.size) := by
  refine C_ofq (Or.inr ⟨_, rfl⟩) (by decide +kernel) rfl rfl rfl (Nat.le_of_ble_eq_true rfl) ?_
  intro p e s m below meth cx Q A ls C hnm hend hH0 h hl
  subst hH0
  have C0 := C
  obtain ⟨⟨hx, hb, hml, hown, hts⟩, hsub⟩ := C0
  obtain ⟨cells, e_cells⟩ : ∃ z : Nat, z = 0 := ⟨_, rfl⟩
  obtain ⟨slots, e_slots⟩ : ∃ z : Nat, z = 0 := ⟨_, rfl⟩
  have h : CH (dC, dI) A ca ({ frames := 2, cells := σ0.2.2.2.2.1, slots := σ0.2.2.2.2.2.1, locals := 122 } : Room) σ0.2.2.2.2.2.2 σ0 s s.heap [] cells slots := by rw [e_cells, e_slots]; exact h
  show W p l e ({ frames := 2, cells := σ0.2.2.2.2.1, slots := σ0.2.2.2.2.2.1, locals := 122 } : Room) s m ([.ref a0] : List Value).toArray below meth cx s.heap [] 0 0 Q (F0 m 0 ls [])
  rw [show W p l e ({ frames := 2, cells := σ0.2.2.2.2.1, slots := σ0.2.2.2.2.2.1, locals := 122 } : Room) s m ([.ref a0] : List Value).toArray below meth cx s.heap [] 0 0 Q (F0 m 0 ls []) = W p l e ({ frames := 2, cells := σ0.2.2.2.2.1, slots := σ0.2.2.2.2.2.1, locals := 122 } : Room) s m ([.ref a0] : List Value).toArray below meth cx s.heap [] cells slots Q (F0 m 0 ls []) by rw [e_cells, e_slots]]
  have hl : lv_has ls 1 [(0, .ref a0)] := hl
  unfold x_Fw_written at hw
  refine lv_aload_n hx hb h_Fw_written_0 rfl (lv_at hl 0 rfl) ?_
  obtain ⟨g1, hw⟩ := hw
  refine C_get C h 11 0 (v := va_rf (σ0.2.2.2.1 a0 0)) g1 rfl (Cn := R_Fw) (T := T_Fw) (N := 9) rfl (by decide) rfl uw_Fw (by decide) u_20 (fun _ q => q) h_Fw_written_1 ?_
  refine lv_topq (fun b2 e_b2 => ?_)
  replace hw := hw b2 e_b2
  refine lv_aload_n hx hb h_Fw_written_4 rfl (lv_at hl 0 rfl) ?_
  refine C_get C h 11 1 (v := .int (σ0.2.1 a0 1)) g1 rfl (Cn := R_Fw) (T := T_Fw) (N := 9) rfl (by decide) rfl uw_Fw (by decide) u_43 (fun _ q => q) h_Fw_written_5 ?_
  obtain ⟨r3, e_r3, hw⟩ := hw
  subst e_r3
  have hl : lv_has ls 1 [(0, .ref a0)] := hl
  refine W.eq (g2 := F0 m 8 ls [.int (σ0.2.1 a0 1), .ref r3]) rfl ?_
  refine C_callSq (As := [.ref r3, .int (σ0.2.1 a0 1)]) (rest := []) C h (X_Ar_copyOf l dC dI ca s.heap σ0 r3 (σ0.2.1 a0 1) hw) (va_cwS 2 hts (gS hsub u_44 u_45 u_46 u_47) rfl rfl rfl (by decide +kernel) ⟨(Nat.le_of_ble_eq_true rfl), (Nat.le_of_ble_eq_true rfl)⟩) rfl hl.1 (Nat.le_of_ble_eq_true rfl) h_Fw_written_8 (fun r5 σ4 H locs cells slots hw9 h9 => ?_)
  clear hw h; have hw := hw9; have h := h9; clear hw9 h9
  refine W.eq (g2 := F0 m 11 ls [va_rf r5]) rfl ?_
  exact hend r5 σ4 _ _ _ _ _ _ hw h h_Fw_written_11
abbrev g_W_width : MethodName := ⟨"MapFramer$World", "width", "(I)I"⟩
theorem h_W_width_0 : decode prog_12_method_17_code 0 = .ok (.iload_n 0, 1) := by decide +kernel
theorem h_W_width_1 : decode prog_12_method_17_code 1 = .ok (.iconst 2, 1) := by decide +kernel
theorem h_W_width_2 : decode prog_12_method_17_code 2 = .ok (.if_icmp .ne 7, 3) := by decide +kernel
theorem h_W_width_5 : decode prog_12_method_17_code 5 = .ok (.iconst 2, 1) := by decide +kernel
theorem h_W_width_6 : decode prog_12_method_17_code 6 = .ok (.goto 4, 3) := by decide +kernel
theorem h_W_width_9 : decode prog_12_method_17_code 9 = .ok (.iconst 1, 1) := by decide +kernel
theorem h_W_width_10 : decode prog_12_method_17_code 10 = .ok (.ireturn, 1) := by decide +kernel
def x_W_width (x0 : Int32) (σ0 : CST) (P : Int32 → CST → Prop) : Prop := ((x0 = 2 → P (2 : Int32) σ0) ∧ (¬ x0 = 2 → P (1 : Int32) σ0))
set_option maxHeartbeats 4000000 in
set_option maxRecDepth 100000 in
theorem X_W_width (l : Launch) (dC : Nat → ClassId) (dI : Nat → Nat → Nat) (ca : Nat → ClassId) (H0 : Heap) (σ0 : CST) (x0 : Int32) {P : Int32 → CST → Prop} (hw : x_W_width x0 σ0 P) : Met l g_W_width (mW g_W_width prog_12_method_17_code 1 (some .int)) ({ frames := 0, cells := σ0.2.2.2.2.1, slots := σ0.2.2.2.2.2.1, locals := 0 } : Room) (va_Pc [.int x0] (CPre (dC, dI) ca σ0 H0)) (va_Qi P (CB (dC, dI) ca σ0 H0) (cA σ0 H0.size)) σ0.2.2.2.2.1 σ0.2.2.2.2.2.1 (cA σ0 H0.size) := by
  refine C_ofi (by decide +kernel) rfl rfl rfl (Nat.le_of_ble_eq_true rfl) ?_
  intro p e s m below meth cx Q A ls C hnm hend hH0 h hl
  subst hH0
  have C0 := C
  obtain ⟨⟨hx, hb, hml, hown, hts⟩, hsub⟩ := C0
  obtain ⟨cells, e_cells⟩ : ∃ z : Nat, z = 0 := ⟨_, rfl⟩
  obtain ⟨slots, e_slots⟩ : ∃ z : Nat, z = 0 := ⟨_, rfl⟩
  have h : CH (dC, dI) A ca ({ frames := 0, cells := σ0.2.2.2.2.1, slots := σ0.2.2.2.2.2.1, locals := 0 } : Room) σ0.2.2.2.2.2.2 σ0 s s.heap [] cells slots := by rw [e_cells, e_slots]; exact h
  show W p l e ({ frames := 0, cells := σ0.2.2.2.2.1, slots := σ0.2.2.2.2.2.1, locals := 0 } : Room) s m ([.int x0] : List Value).toArray below meth cx s.heap [] 0 0 Q (F0 m 0 ls [])
  rw [show W p l e ({ frames := 0, cells := σ0.2.2.2.2.1, slots := σ0.2.2.2.2.2.1, locals := 0 } : Room) s m ([.int x0] : List Value).toArray below meth cx s.heap [] 0 0 Q (F0 m 0 ls []) = W p l e ({ frames := 0, cells := σ0.2.2.2.2.1, slots := σ0.2.2.2.2.2.1, locals := 0 } : Room) s m ([.int x0] : List Value).toArray below meth cx s.heap [] cells slots Q (F0 m 0 ls []) by rw [e_cells, e_slots]]
  have hl : lv_has ls 1 [(0, .int x0)] := hl
  unfold x_W_width at hw
  refine lv_iload_n hx hb h_W_width_0 rfl (lv_at hl 0 rfl) ?_
  refine lv_iconst (v := 2) hx hb h_W_width_1 (by decide) ?_
  refine lv_icmp_ne (tgt := 9) hx hb h_W_width_2 (by decide) (fun c1 => ?_) (fun c1 => ?_)
  · skip
    replace hw := hw.2 c1
    refine lv_iconst (v := 1) hx hb h_W_width_9 (by decide) ?_
    exact hend (1 : Int32) σ0 _ _ _ _ _ _ hw h h_W_width_10
  · skip
    replace hw := hw.1 c1
    refine lv_iconst (v := 2) hx hb h_W_width_5 (by decide) ?_
    refine lv_goto (tgt := 10) hx hb h_W_width_6 (by decide) ?_
    exact hend (2 : Int32) σ0 _ _ _ _ _ _ hw h h_W_width_10
abbrev g_Fw_listLocals : MethodName := ⟨"MapFramer$FrameWriter", "listLocals", "(LMapFramer$State;)V"⟩
theorem u_48 : (Cond.fieldLink "MapFramer$FrameWriter" 79 "MapFramer$State" "locals" "[I" : Cond) ∈ bigW := inB_3 177 (by decide +kernel) rfl
theorem u_49 : (Cond.methodLink "MapFramer$FrameWriter" 80 ⟨"MapFramer$World", "width", "(I)I"⟩ : Cond) ∈ bigW := inB_6 218 (by decide +kernel) rfl
theorem u_50 : (Cond.static ⟨"MapFramer$World", "width", "(I)I"⟩ : Cond) ∈ bigW := inB_2 237 (by decide +kernel) rfl
theorem u_51 : (Cond.initialized "MapFramer$World" : Cond) ∈ bigW := inB_1 2 (by decide +kernel) rfl
theorem u_52 : (Cond.code ⟨"MapFramer$World", "width", "(I)I"⟩ prog_12_method_17_code 1 (some .int) : Cond) ∈ bigW := inB_2 238 rfl rfl
theorem u_53 : (Cond.fieldLink "MapFramer$FrameWriter" 57 "MapFramer$FrameWriter" "localCount" "I" : Cond) ∈ bigW := inB_6 188 (by decide +kernel) rfl
theorem h_Fw_listLocals_0 : decode prog_3_method_4_code 0 = .ok (.iconst 0, 1) := by decide +kernel
theorem h_Fw_listLocals_1 : decode prog_3_method_4_code 1 = .ok (.istore_n 2, 1) := by decide +kernel
theorem h_Fw_listLocals_2 : decode prog_3_method_4_code 2 = .ok (.aload_n 0, 1) := by decide +kernel
theorem h_Fw_listLocals_3 : decode prog_3_method_4_code 3 = .ok (.iconst 0, 1) := by decide +kernel
theorem h_Fw_listLocals_4 : decode prog_3_method_4_code 4 = .ok (.putfield 57, 3) := by decide +kernel
theorem h_Fw_listLocals_7 : decode prog_3_method_4_code 7 = .ok (.iconst 0, 1) := by decide +kernel
theorem h_Fw_listLocals_8 : decode prog_3_method_4_code 8 = .ok (.istore_n 3, 1) := by decide +kernel
theorem h_Fw_listLocals_9 : decode prog_3_method_4_code 9 = .ok (.iload_n 3, 1) := by decide +kernel
theorem h_Fw_listLocals_10 : decode prog_3_method_4_code 10 = .ok (.aload_n 1, 1) := by decide +kernel
theorem h_Fw_listLocals_11 : decode prog_3_method_4_code 11 = .ok (.getfield 79, 3) := by decide +kernel
theorem h_Fw_listLocals_14 : decode prog_3_method_4_code 14 = .ok (.arraylength, 1) := by decide +kernel
theorem h_Fw_listLocals_15 : decode prog_3_method_4_code 15 = .ok (.if_icmp .ge 53, 3) := by decide +kernel
theorem h_Fw_listLocals_18 : decode prog_3_method_4_code 18 = .ok (.iload_n 2, 1) := by decide +kernel
theorem h_Fw_listLocals_19 : decode prog_3_method_4_code 19 = .ok (.bipush 12, 2) := by decide +kernel
theorem h_Fw_listLocals_21 : decode prog_3_method_4_code 21 = .ok (.if_icmp .ge 47, 3) := by decide +kernel
theorem h_Fw_listLocals_24 : decode prog_3_method_4_code 24 = .ok (.aload_n 0, 1) := by decide +kernel
theorem h_Fw_listLocals_25 : decode prog_3_method_4_code 25 = .ok (.getfield 22, 3) := by decide +kernel
theorem h_Fw_listLocals_28 : decode prog_3_method_4_code 28 = .ok (.iload_n 2, 1) := by decide +kernel
theorem h_Fw_listLocals_29 : decode prog_3_method_4_code 29 = .ok (.aload_n 1, 1) := by decide +kernel
theorem h_Fw_listLocals_30 : decode prog_3_method_4_code 30 = .ok (.getfield 79, 3) := by decide +kernel
theorem h_Fw_listLocals_33 : decode prog_3_method_4_code 33 = .ok (.iload_n 3, 1) := by decide +kernel
theorem h_Fw_listLocals_34 : decode prog_3_method_4_code 34 = .ok (.iaload, 1) := by decide +kernel
theorem h_Fw_listLocals_35 : decode prog_3_method_4_code 35 = .ok (.iastore, 1) := by decide +kernel
theorem h_Fw_listLocals_36 : decode prog_3_method_4_code 36 = .ok (.iinc 2 1, 3) := by decide +kernel
theorem h_Fw_listLocals_39 : decode prog_3_method_4_code 39 = .ok (.aload_n 1, 1) := by decide +kernel
theorem h_Fw_listLocals_40 : decode prog_3_method_4_code 40 = .ok (.getfield 79, 3) := by decide +kernel
theorem h_Fw_listLocals_43 : decode prog_3_method_4_code 43 = .ok (.iload_n 3, 1) := by decide +kernel
theorem h_Fw_listLocals_44 : decode prog_3_method_4_code 44 = .ok (.iaload, 1) := by decide +kernel
theorem h_Fw_listLocals_45 : decode prog_3_method_4_code 45 = .ok (.ifCond .eq 8, 3) := by decide +kernel
theorem h_Fw_listLocals_48 : decode prog_3_method_4_code 48 = .ok (.aload_n 0, 1) := by decide +kernel
theorem h_Fw_listLocals_49 : decode prog_3_method_4_code 49 = .ok (.iload_n 2, 1) := by decide +kernel
theorem h_Fw_listLocals_50 : decode prog_3_method_4_code 50 = .ok (.putfield 57, 3) := by decide +kernel
theorem h_Fw_listLocals_53 : decode prog_3_method_4_code 53 = .ok (.iload_n 3, 1) := by decide +kernel
theorem h_Fw_listLocals_54 : decode prog_3_method_4_code 54 = .ok (.aload_n 1, 1) := by decide +kernel
theorem h_Fw_listLocals_55 : decode prog_3_method_4_code 55 = .ok (.getfield 79, 3) := by decide +kernel
theorem h_Fw_listLocals_58 : decode prog_3_method_4_code 58 = .ok (.iload_n 3, 1) := by decide +kernel
theorem h_Fw_listLocals_59 : decode prog_3_method_4_code 59 = .ok (.iaload, 1) := by decide +kernel
theorem h_Fw_listLocals_60 : decode prog_3_method_4_code 60 = .ok (.invokestatic 80, 3) := by decide +kernel
theorem h_Fw_listLocals_63 : decode prog_3_method_4_code 63 = .ok (.iadd, 1) := by decide +kernel
theorem h_Fw_listLocals_64 : decode prog_3_method_4_code 64 = .ok (.istore_n 3, 1) := by decide +kernel
theorem h_Fw_listLocals_65 : decode prog_3_method_4_code 65 = .ok (.goto (-56), 3) := by decide +kernel
theorem h_Fw_listLocals_68 : decode prog_3_method_4_code 68 = .ok (.return_, 1) := by decide +kernel
def x_Fw_listLocals_53 (a0 : Nat) (a1 : Nat) (K9 : Int32 → Int32 → CST → Prop) (P : CST → Prop) (z2 : Int32) (z3 : Int32) (σ : CST) : Prop := σ.1 a1 = some (8, 0) ∧ (∀ b2 : Option Nat, b2 = (σ.2.2.2.1 a1 0) → (∃ r3 : Nat, b2 = some r3 ∧ ((∃ n5 : Nat, σ.1 r3 = some (20, n5) ∧ (vp_in z3 n5 ∧ (∀ b7 : Int32, b7 = (σ.2.1 r3 (z3 : Int32).toNatClampNeg) → x_W_width b7 σ (fun r9 σ8 => K9 z2 (z3 + r9) σ8)))))))
def x_Fw_listLocals_9 (a0 : Nat) (a1 : Nat) (P : CST → Prop) : Nat → Int32 → Int32 → CST → Prop
  | 0, _, _, _ => False
  | n + 1, z2, z3, σ => σ.1 a1 = some (8, 0) ∧ (∀ b11 : Option Nat, b11 = (σ.2.2.2.1 a1 0) → (∃ r12 : Nat, b11 = some r12 ∧ ((∃ n14 : Nat, σ.1 r12 = some (20, n14) ∧ ((((Int32.ofNat n14) ≤ z3 → P σ) ∧ (¬ (Int32.ofNat n14) ≤ z3 → ((12 ≤ z2 → P σ) ∧ (¬ 12 ≤ z2 → σ.1 a0 = some (11, 0) ∧ (∀ b18 : Option Nat, b18 = (σ.2.2.2.1 a0 5) → ∀ b19 : Option Nat, b19 = (σ.2.2.2.1 a1 0) → (∃ r20 : Nat, b19 = some r20 ∧ ((∃ n22 : Nat, σ.1 r20 = some (20, n22) ∧ (vp_in z3 n22 ∧ (∀ b24 : Int32, b24 = (σ.2.1 r20 (z3 : Int32).toNatClampNeg) → (∃ r25 : Nat, b18 = some r25 ∧ ((∃ n27 : Nat, σ.1 r25 = some (20, n27) ∧ (vp_in z2 n27 ∧ (∀ σ29 : CST, σ29 = sI σ r25 (z2 : Int32).toNatClampNeg b24 → σ29.1 a1 = some (8, 0) ∧ (∀ b31 : Option Nat, b31 = (σ29.2.2.2.1 a1 0) → (∃ r32 : Nat, b31 = some r32 ∧ ((∃ n34 : Nat, σ29.1 r32 = some (20, n34) ∧ (vp_in z3 n34 ∧ (∀ b36 : Int32, b36 = (σ29.2.1 r32 (z3 : Int32).toNatClampNeg) → ((b36 = 0 → x_Fw_listLocals_53 a0 a1 (x_Fw_listLocals_9 a0 a1 P n) P (z2 + 1) z3 σ29) ∧ (¬ b36 = 0 → σ29.1 a0 = some (11, 0) ∧ (∀ σ39 : CST, σ39 = sI σ29 a0 6 (z2 + 1) → x_Fw_listLocals_53 a0 a1 (x_Fw_listLocals_9 a0 a1 P n) P (z2 + 1) z3 σ39)))))))))))))))))))))))))))))
def x_Fw_listLocals (a0 : Nat) (a1 : Nat) (σ0 : CST) (P : CST → Prop) : Prop := σ0.1 a0 = some (11, 0) ∧ (∀ σ41 : CST, σ41 = sI σ0 a0 6 (0 : Int32) → (∃ n9 : Nat, x_Fw_listLocals_9 a0 a1 P n9 0 0 σ41))
set_option maxHeartbeats 4000000 in
set_option maxRecDepth 100000 in
theorem X_Fw_listLocals (l : Launch) (dC : Nat → ClassId) (dI : Nat → Nat → Nat) (ca : Nat → ClassId) (H0 : Heap) (σ0 : CST) (a0 : Nat) (a1 : Nat) {P : CST → Prop} (hw : x_Fw_listLocals a0 a1 σ0 P) : Met l g_Fw_listLocals (mW g_Fw_listLocals prog_3_method_4_code 4 none) ({ frames := 1, cells := σ0.2.2.2.2.1, slots := σ0.2.2.2.2.2.1, locals := 20 } : Room) (va_Pc [.ref a0, .ref a1] (CPre (dC, dI) ca σ0 H0)) (va_Qv P (CB (dC, dI) ca σ0 H0) (cA σ0 H0.size)) σ0.2.2.2.2.1 σ0.2.2.2.2.2.1 (cA σ0 H0.size) := by
  refine C_ofv (by decide +kernel) rfl rfl rfl (Nat.le_of_ble_eq_true rfl) ?_
  intro p e s m below meth cx Q A ls C hnm hend hH0 h hl
  subst hH0
  have C0 := C
  obtain ⟨⟨hx, hb, hml, hown, hts⟩, hsub⟩ := C0
  obtain ⟨cells, e_cells⟩ : ∃ z : Nat, z = 0 := ⟨_, rfl⟩
  obtain ⟨slots, e_slots⟩ : ∃ z : Nat, z = 0 := ⟨_, rfl⟩
  have h : CH (dC, dI) A ca ({ frames := 1, cells := σ0.2.2.2.2.1, slots := σ0.2.2.2.2.2.1, locals := 20 } : Room) σ0.2.2.2.2.2.2 σ0 s s.heap [] cells slots := by rw [e_cells, e_slots]; exact h
  show W p l e ({ frames := 1, cells := σ0.2.2.2.2.1, slots := σ0.2.2.2.2.2.1, locals := 20 } : Room) s m ([.ref a0, .ref a1] : List Value).toArray below meth cx s.heap [] 0 0 Q (F0 m 0 ls [])
  rw [show W p l e ({ frames := 1, cells := σ0.2.2.2.2.1, slots := σ0.2.2.2.2.2.1, locals := 20 } : Room) s m ([.ref a0, .ref a1] : List Value).toArray below meth cx s.heap [] 0 0 Q (F0 m 0 ls []) = W p l e ({ frames := 1, cells := σ0.2.2.2.2.1, slots := σ0.2.2.2.2.2.1, locals := 20 } : Room) s m ([.ref a0, .ref a1] : List Value).toArray below meth cx s.heap [] cells slots Q (F0 m 0 ls []) by rw [e_cells, e_slots]]
  have K_53 : ∀ (K9 : Int32 → Int32 → CST → Prop) (hK9 : ∀ (z2 : Int32) (z3 : Int32) (σ : CST) (H : Heap) (locs : List Loc) (cells slots : Nat) (ls : Array Slot), K9 z2 z3 σ → CH (dC, dI) A ca ({ frames := 1, cells := σ0.2.2.2.2.1, slots := σ0.2.2.2.2.2.1, locals := 20 } : Room) σ0.2.2.2.2.2.2 σ s H locs cells slots → lv_has ls 4 [(0, .ref a0), (1, .ref a1), (2, .int z2), (3, .int z3)] → W p l e ({ frames := 1, cells := σ0.2.2.2.2.1, slots := σ0.2.2.2.2.2.1, locals := 20 } : Room) s m ([.ref a0, .ref a1] : List Value).toArray below meth cx H locs cells slots Q (F0 m 9 ls [])), ∀ (z2 : Int32) (z3 : Int32) (σ : CST) (H : Heap) (locs : List Loc) (cells slots : Nat) (ls : Array Slot), x_Fw_listLocals_53 a0 a1 K9 P z2 z3 σ → CH (dC, dI) A ca ({ frames := 1, cells := σ0.2.2.2.2.1, slots := σ0.2.2.2.2.2.1, locals := 20 } : Room) σ0.2.2.2.2.2.2 σ s H locs cells slots → lv_has ls 4 [(0, .ref a0), (1, .ref a1), (2, .int z2), (3, .int z3)] → W p l e ({ frames := 1, cells := σ0.2.2.2.2.1, slots := σ0.2.2.2.2.2.1, locals := 20 } : Room) s m ([.ref a0, .ref a1] : List Value).toArray below meth cx H locs cells slots Q (F0 m 53 ls []) := by
    intro K9 hK9 z2 z3 σ H locs cells slots ls hw h hl
    unfold x_Fw_listLocals_53 at hw
    refine lv_iload_n hx hb h_Fw_listLocals_53 rfl (lv_at hl 3 rfl) ?_
    refine lv_aload_n hx hb h_Fw_listLocals_54 rfl (lv_at hl 1 rfl) ?_
    obtain ⟨g1, hw⟩ := hw
    refine C_get C h 8 0 (v := va_rf (σ.2.2.2.1 a1 0)) g1 rfl (Cn := R_St) (T := T_St) (N := 4) rfl (by decide) rfl uw_St (by decide) u_48 (fun _ q => q) h_Fw_listLocals_55 ?_
    refine lv_topq (fun b2 e_b2 => ?_)
    replace hw := hw b2 e_b2
    refine lv_iload_n hx hb h_Fw_listLocals_58 rfl (lv_at hl 3 rfl) ?_
    obtain ⟨r3, e_r3, hw⟩ := hw
    subst e_r3
    have hl : lv_has ls 4 [(0, .ref a0), (1, .ref a1), (2, .int z2), (3, .int z3)] := hl
    refine W.eq (g2 := F0 m 59 ls [.int z3, .ref r3, .int z3]) rfl ?_
    obtain ⟨n5, g4, hw⟩ := hw
    obtain ⟨g6, hw⟩ := hw
    refine C_iald C h g4 g6 h_Fw_listLocals_59 ?_
    refine lv_topi (fun b7 e_b7 => ?_)
    replace hw := hw b7 e_b7
    refine C_callSi (As := [.int b7]) (rest := [.int z3]) C h (X_W_width l dC dI ca H σ b7 hw) (va_cwS 1 hts (gS hsub u_49 u_50 u_51 u_52) rfl rfl rfl (by decide +kernel) ⟨(Nat.le_of_ble_eq_true rfl), (Nat.le_of_ble_eq_true rfl)⟩) rfl hl.1 (Nat.le_of_ble_eq_true rfl) h_Fw_listLocals_60 (fun r9 σ8 H locs cells slots hw9 h9 => ?_)
    clear hw h; have hw := hw9; have h := h9; clear hw9 h9
    refine W.eq (g2 := F0 m 63 ls [.int r9, .int z3]) rfl ?_
    refine lv_iadd hx hb h_Fw_listLocals_63 ?_
    refine lv_istore_n (i := 3) (lv' := [(3, .int (z3 + r9)), (0, .ref a0), (1, .ref a1), (2, .int z2)]) hx hb h_Fw_listLocals_64 rfl hl (by decide) rfl (fun ls hl => ?_)
    refine lv_goto (tgt := 9) hx hb h_Fw_listLocals_65 (by decide) ?_
    exact hK9 z2 (z3 + r9) σ8 _ _ _ _ _ hw h (lv_sub hl [1, 2, 3, 0] rfl)
  have K_9 : ∀ (n : Nat), ∀ (z2 : Int32) (z3 : Int32) (σ : CST) (H : Heap) (locs : List Loc) (cells slots : Nat) (ls : Array Slot), x_Fw_listLocals_9 a0 a1 P n z2 z3 σ → CH (dC, dI) A ca ({ frames := 1, cells := σ0.2.2.2.2.1, slots := σ0.2.2.2.2.2.1, locals := 20 } : Room) σ0.2.2.2.2.2.2 σ s H locs cells slots → lv_has ls 4 [(0, .ref a0), (1, .ref a1), (2, .int z2), (3, .int z3)] → W p l e ({ frames := 1, cells := σ0.2.2.2.2.1, slots := σ0.2.2.2.2.2.1, locals := 20 } : Room) s m ([.ref a0, .ref a1] : List Value).toArray below meth cx H locs cells slots Q (F0 m 9 ls []) := by
    intro  n
    induction n with
    | zero => intro z2 z3 σ H locs cells slots ls hw h hl; unfold x_Fw_listLocals_9 at hw; exact hw.elim
    | succ n ih =>
      intro z2 z3 σ H locs cells slots ls hw h hl
      unfold x_Fw_listLocals_9 at hw
      refine lv_iload_n hx hb h_Fw_listLocals_9 rfl (lv_at hl 3 rfl) ?_
      refine lv_aload_n hx hb h_Fw_listLocals_10 rfl (lv_at hl 1 rfl) ?_
      obtain ⟨g10, hw⟩ := hw
      refine C_get C h 8 0 (v := va_rf (σ.2.2.2.1 a1 0)) g10 rfl (Cn := R_St) (T := T_St) (N := 4) rfl (by decide) rfl uw_St (by decide) u_48 (fun _ q => q) h_Fw_listLocals_11 ?_
      refine lv_topq (fun b11 e_b11 => ?_)
      replace hw := hw b11 e_b11
      obtain ⟨r12, e_r12, hw⟩ := hw
      subst e_r12
      have hl : lv_has ls 4 [(0, .ref a0), (1, .ref a1), (2, .int z2), (3, .int z3)] := hl
      refine W.eq (g2 := F0 m 14 ls [.ref r12, .int z3]) rfl ?_
      obtain ⟨n14, g13, hw⟩ := hw
      refine C_alen C h 20 0 rfl (by decide) g13 h_Fw_listLocals_14 ?_
      refine lv_icmp_ge (tgt := 68) hx hb h_Fw_listLocals_15 (by decide) (fun c15 => ?_) (fun c15 => ?_)
      · skip
        replace hw := hw.1 c15
        exact hend σ _ _ _ _ _ _ hw h h_Fw_listLocals_68
      · skip
        replace hw := hw.2 c15
        refine lv_iload_n hx hb h_Fw_listLocals_18 rfl (lv_at hl 2 rfl) ?_
        refine lv_bipush (v := 12) hx hb h_Fw_listLocals_19 (by decide) ?_
        refine lv_icmp_ge (tgt := 68) hx hb h_Fw_listLocals_21 (by decide) (fun c16 => ?_) (fun c16 => ?_)
        · skip
          replace hw := hw.1 c16
          exact hend σ _ _ _ _ _ _ hw h h_Fw_listLocals_68
        · skip
          replace hw := hw.2 c16
          refine lv_aload_n hx hb h_Fw_listLocals_24 rfl (lv_at hl 0 rfl) ?_
          obtain ⟨g17, hw⟩ := hw
          refine C_get C h 11 5 (v := va_rf (σ.2.2.2.1 a0 5)) g17 rfl (Cn := R_Fw) (T := T_Fw) (N := 9) rfl (by decide) rfl uw_Fw (by decide) u_23 (fun _ q => q) h_Fw_listLocals_25 ?_
          refine lv_topq (fun b18 e_b18 => ?_)
          replace hw := hw b18 e_b18
          refine lv_iload_n hx hb h_Fw_listLocals_28 rfl (lv_at hl 2 rfl) ?_
          refine lv_aload_n hx hb h_Fw_listLocals_29 rfl (lv_at hl 1 rfl) ?_
          refine C_get C h 8 0 (v := va_rf (σ.2.2.2.1 a1 0)) g10 rfl (Cn := R_St) (T := T_St) (N := 4) rfl (by decide) rfl uw_St (by decide) u_48 (fun _ q => q) h_Fw_listLocals_30 ?_
          refine lv_topq (fun b19 e_b19 => ?_)
          replace hw := hw b19 e_b19
          refine lv_iload_n hx hb h_Fw_listLocals_33 rfl (lv_at hl 3 rfl) ?_
          obtain ⟨r20, e_r20, hw⟩ := hw
          subst e_r20
          have hl : lv_has ls 4 [(0, .ref a0), (1, .ref a1), (2, .int z2), (3, .int z3)] := hl
          refine W.eq (g2 := F0 m 34 ls [.int z3, .ref r20, .int z2, va_rf b18]) rfl ?_
          obtain ⟨n22, g21, hw⟩ := hw
          obtain ⟨g23, hw⟩ := hw
          refine C_iald C h g21 g23 h_Fw_listLocals_34 ?_
          refine lv_topi (fun b24 e_b24 => ?_)
          replace hw := hw b24 e_b24
          obtain ⟨r25, e_r25, hw⟩ := hw
          subst e_r25
          have hl : lv_has ls 4 [(0, .ref a0), (1, .ref a1), (2, .int z2), (3, .int z3)] := hl
          refine W.eq (g2 := F0 m 35 ls [.int b24, .int z2, .ref r25]) rfl ?_
          obtain ⟨n27, g26, hw⟩ := hw
          obtain ⟨g28, hw⟩ := hw
          refine C_iast C h g26 g28 h_Fw_listLocals_35 (fun H locs h => ?_)
          obtain ⟨σ29, e_σ29⟩ : ∃ z : CST, z = sI σ r25 (z2 : Int32).toNatClampNeg b24 := ⟨_, rfl⟩
          rw [← e_σ29] at h
          replace hw := hw σ29 e_σ29
          refine lv_iinc (v := (z2 + 1)) (lv' := [(2, .int (z2 + 1)), (0, .ref a0), (1, .ref a1), (3, .int z3)]) hx hb h_Fw_listLocals_36 hl (k := 2) rfl (rfl) (by decide) rfl (fun ls hl => ?_)
          refine lv_aload_n hx hb h_Fw_listLocals_39 rfl (lv_at hl 2 rfl) ?_
          obtain ⟨g30, hw⟩ := hw
          refine C_get C h 8 0 (v := va_rf (σ29.2.2.2.1 a1 0)) g30 rfl (Cn := R_St) (T := T_St) (N := 4) rfl (by decide) rfl uw_St (by decide) u_48 (fun _ q => q) h_Fw_listLocals_40 ?_
          refine lv_topq (fun b31 e_b31 => ?_)
          replace hw := hw b31 e_b31
          refine lv_iload_n hx hb h_Fw_listLocals_43 rfl (lv_at hl 3 rfl) ?_
          obtain ⟨r32, e_r32, hw⟩ := hw
          subst e_r32
          have hl : lv_has ls 4 [(2, .int (z2 + 1)), (0, .ref a0), (1, .ref a1), (3, .int z3)] := hl
          refine W.eq (g2 := F0 m 44 ls [.int z3, .ref r32]) rfl ?_
          obtain ⟨n34, g33, hw⟩ := hw
          obtain ⟨g35, hw⟩ := hw
          refine C_iald C h g33 g35 h_Fw_listLocals_44 ?_
          refine lv_topi (fun b36 e_b36 => ?_)
          replace hw := hw b36 e_b36
          refine lv_if_eq (tgt := 53) hx hb h_Fw_listLocals_45 (by decide) (fun c37 => ?_) (fun c37 => ?_)
          · skip
            replace hw := hw.1 c37
            exact K_53 _ ih (z2 + 1) z3 σ29 _ _ _ _ _ hw h (lv_sub hl [1, 2, 0, 3] rfl)
          · skip
            replace hw := hw.2 c37
            refine lv_aload_n hx hb h_Fw_listLocals_48 rfl (lv_at hl 1 rfl) ?_
            refine lv_iload_n hx hb h_Fw_listLocals_49 rfl (lv_at hl 0 rfl) ?_
            obtain ⟨g38, hw⟩ := hw
            refine C_puti C h 11 6 g38 (Cn := R_Fw) (T := T_Fw) (N := 9) rfl (by decide) rfl uw_Fw tok_Fw nm_Fw (by decide) rfl u_53 (fun _ q => q) (Or.inl rfl) (by decide +kernel) h_Fw_listLocals_50 (fun H locs h => ?_)
            obtain ⟨σ39, e_σ39⟩ : ∃ z : CST, z = sI σ29 a0 6 (z2 + 1) := ⟨_, rfl⟩
            rw [← e_σ39] at h
            replace hw := hw σ39 e_σ39
            exact K_53 _ ih (z2 + 1) z3 σ39 _ _ _ _ _ hw h (lv_sub hl [1, 2, 0, 3] rfl)
  have hl : lv_has ls 4 [(0, .ref a0), (1, .ref a1)] := hl
  unfold x_Fw_listLocals at hw
  refine lv_iconst (v := 0) hx hb h_Fw_listLocals_0 (by decide) ?_
  refine lv_istore_n (i := 2) (lv' := [(2, .int 0), (0, .ref a0), (1, .ref a1)]) hx hb h_Fw_listLocals_1 rfl hl (by decide) rfl (fun ls hl => ?_)
  refine lv_aload_n hx hb h_Fw_listLocals_2 rfl (lv_at hl 1 rfl) ?_
  refine lv_iconst (v := 0) hx hb h_Fw_listLocals_3 (by decide) ?_
  obtain ⟨g40, hw⟩ := hw
  refine C_puti C h 11 6 g40 (Cn := R_Fw) (T := T_Fw) (N := 9) rfl (by decide) rfl uw_Fw tok_Fw nm_Fw (by decide) rfl u_53 (fun _ q => q) (Or.inl rfl) (by decide +kernel) h_Fw_listLocals_4 (fun H locs h => ?_)
  obtain ⟨σ41, e_σ41⟩ : ∃ z : CST, z = sI σ0 a0 6 (0 : Int32) := ⟨_, rfl⟩
  rw [← e_σ41] at h
  replace hw := hw σ41 e_σ41
  refine lv_iconst (v := 0) hx hb h_Fw_listLocals_7 (by decide) ?_
  refine lv_istore_n (i := 3) (lv' := [(3, .int 0), (2, .int 0), (0, .ref a0), (1, .ref a1)]) hx hb h_Fw_listLocals_8 rfl hl (by decide) rfl (fun ls hl => ?_)
  obtain ⟨n9, hw⟩ := hw
  exact K_9 n9 0 0 σ41 _ _ _ _ _ hw h (lv_sub hl [2, 3, 1, 0] rfl)
abbrev g_Fw_isOnePartOfOther : MethodName := ⟨"MapFramer$FrameWriter", "isOnePartOfOther", "()Z"⟩
theorem h_Fw_isOnePartOfOther_0 : decode prog_3_method_6_code 0 = .ok (.iconst 0, 1) := by decide +kernel
theorem h_Fw_isOnePartOfOther_1 : decode prog_3_method_6_code 1 = .ok (.istore_n 1, 1) := by decide +kernel
theorem h_Fw_isOnePartOfOther_2 : decode prog_3_method_6_code 2 = .ok (.iload_n 1, 1) := by decide +kernel
theorem h_Fw_isOnePartOfOther_3 : decode prog_3_method_6_code 3 = .ok (.aload_n 0, 1) := by decide +kernel
theorem h_Fw_isOnePartOfOther_4 : decode prog_3_method_6_code 4 = .ok (.getfield 57, 3) := by decide +kernel
theorem h_Fw_isOnePartOfOther_7 : decode prog_3_method_6_code 7 = .ok (.if_icmp .ge 34, 3) := by decide +kernel
theorem h_Fw_isOnePartOfOther_10 : decode prog_3_method_6_code 10 = .ok (.iload_n 1, 1) := by decide +kernel
theorem h_Fw_isOnePartOfOther_11 : decode prog_3_method_6_code 11 = .ok (.aload_n 0, 1) := by decide +kernel
theorem h_Fw_isOnePartOfOther_12 : decode prog_3_method_6_code 12 = .ok (.getfield 39, 3) := by decide +kernel
theorem h_Fw_isOnePartOfOther_15 : decode prog_3_method_6_code 15 = .ok (.if_icmp .ge 26, 3) := by decide +kernel
theorem h_Fw_isOnePartOfOther_18 : decode prog_3_method_6_code 18 = .ok (.aload_n 0, 1) := by decide +kernel
theorem h_Fw_isOnePartOfOther_19 : decode prog_3_method_6_code 19 = .ok (.getfield 22, 3) := by decide +kernel
theorem h_Fw_isOnePartOfOther_22 : decode prog_3_method_6_code 22 = .ok (.iload_n 1, 1) := by decide +kernel
theorem h_Fw_isOnePartOfOther_23 : decode prog_3_method_6_code 23 = .ok (.iaload, 1) := by decide +kernel
theorem h_Fw_isOnePartOfOther_24 : decode prog_3_method_6_code 24 = .ok (.aload_n 0, 1) := by decide +kernel
theorem h_Fw_isOnePartOfOther_25 : decode prog_3_method_6_code 25 = .ok (.getfield 19, 3) := by decide +kernel
theorem h_Fw_isOnePartOfOther_28 : decode prog_3_method_6_code 28 = .ok (.iload_n 1, 1) := by decide +kernel
theorem h_Fw_isOnePartOfOther_29 : decode prog_3_method_6_code 29 = .ok (.iaload, 1) := by decide +kernel
theorem h_Fw_isOnePartOfOther_30 : decode prog_3_method_6_code 30 = .ok (.if_icmp .eq 5, 3) := by decide +kernel
theorem h_Fw_isOnePartOfOther_33 : decode prog_3_method_6_code 33 = .ok (.iconst 0, 1) := by decide +kernel
theorem h_Fw_isOnePartOfOther_34 : decode prog_3_method_6_code 34 = .ok (.ireturn, 1) := by decide +kernel
theorem h_Fw_isOnePartOfOther_35 : decode prog_3_method_6_code 35 = .ok (.iinc 1 1, 3) := by decide +kernel
theorem h_Fw_isOnePartOfOther_38 : decode prog_3_method_6_code 38 = .ok (.goto (-36), 3) := by decide +kernel
theorem h_Fw_isOnePartOfOther_41 : decode prog_3_method_6_code 41 = .ok (.iconst 1, 1) := by decide +kernel
theorem h_Fw_isOnePartOfOther_42 : decode prog_3_method_6_code 42 = .ok (.ireturn, 1) := by decide +kernel
def x_Fw_isOnePartOfOther_2 (a0 : Nat) (P : Int32 → CST → Prop) : Nat → Int32 → CST → Prop
  | 0, _, _ => False
  | n + 1, z1, σ => σ.1 a0 = some (11, 0) ∧ ((((σ.2.1 a0 6) ≤ z1 → P (1 : Int32) σ) ∧ (¬ (σ.2.1 a0 6) ≤ z1 → (((σ.2.1 a0 4) ≤ z1 → P (1 : Int32) σ) ∧ (¬ (σ.2.1 a0 4) ≤ z1 → ∀ b4 : Option Nat, b4 = (σ.2.2.2.1 a0 5) → (∃ r5 : Nat, b4 = some r5 ∧ ((∃ n7 : Nat, σ.1 r5 = some (20, n7) ∧ (vp_in z1 n7 ∧ (∀ b9 : Int32, b9 = (σ.2.1 r5 (z1 : Int32).toNatClampNeg) → ∀ b10 : Option Nat, b10 = (σ.2.2.2.1 a0 3) → (∃ r11 : Nat, b10 = some r11 ∧ ((∃ n13 : Nat, σ.1 r11 = some (20, n13) ∧ (vp_in z1 n13 ∧ (∀ b15 : Int32, b15 = (σ.2.1 r11 (z1 : Int32).toNatClampNeg) → ((b9 = b15 → x_Fw_isOnePartOfOther_2 a0 P n (z1 + 1) σ) ∧ (¬ b9 = b15 → P (0 : Int32) σ)))))))))))))))))
def x_Fw_isOnePartOfOther (a0 : Nat) (σ0 : CST) (P : Int32 → CST → Prop) : Prop := (∃ n9 : Nat, x_Fw_isOnePartOfOther_2 a0 P n9 0 σ0)
set_option maxHeartbeats 4000000 in
set_option maxRecDepth 100000 in
theorem X_Fw_isOnePartOfOther (l : Launch) (dC : Nat → ClassId) (dI : Nat → Nat → Nat) (ca : Nat → ClassId) (H0 : Heap) (σ0 : CST) (a0 : Nat) {P : Int32 → CST → Prop} (hw : x_Fw_isOnePartOfOther a0 σ0 P) : Met l g_Fw_isOnePartOfOther (mW g_Fw_isOnePartOfOther prog_3_method_6_code 2 (some .boolean)) ({ frames := 0, cells := σ0.2.2.2.2.1, slots := σ0.2.2.2.2.2.1, locals := 0 } : Room) (va_Pc [.ref a0] (CPre (dC, dI) ca σ0 H0)) (va_Qi P (CB (dC, dI) ca σ0 H0) (cA σ0 H0.size)) σ0.2.2.2.2.1 σ0.2.2.2.2.2.1 (cA σ0 H0.size) := by
  refine C_ofz (by decide +kernel) rfl rfl rfl (Nat.le_of_ble_eq_true rfl) ?_
  intro p e s m below meth cx Q A ls C hnm hend hH0 h hl
  subst hH0
  have C0 := C
  obtain ⟨⟨hx, hb, hml, hown, hts⟩, hsub⟩ := C0
  obtain ⟨cells, e_cells⟩ : ∃ z : Nat, z = 0 := ⟨_, rfl⟩
  obtain ⟨slots, e_slots⟩ : ∃ z : Nat, z = 0 := ⟨_, rfl⟩
  have h : CH (dC, dI) A ca ({ frames := 0, cells := σ0.2.2.2.2.1, slots := σ0.2.2.2.2.2.1, locals := 0 } : Room) σ0.2.2.2.2.2.2 σ0 s s.heap [] cells slots := by rw [e_cells, e_slots]; exact h
  show W p l e ({ frames := 0, cells := σ0.2.2.2.2.1, slots := σ0.2.2.2.2.2.1, locals := 0 } : Room) s m ([.ref a0] : List Value).toArray below meth cx s.heap [] 0 0 Q (F0 m 0 ls [])
  rw [show W p l e ({ frames := 0, cells := σ0.2.2.2.2.1, slots := σ0.2.2.2.2.2.1, locals := 0 } : Room) s m ([.ref a0] : List Value).toArray below meth cx s.heap [] 0 0 Q (F0 m 0 ls []) = W p l e ({ frames := 0, cells := σ0.2.2.2.2.1, slots := σ0.2.2.2.2.2.1, locals := 0 } : Room) s m ([.ref a0] : List Value).toArray below meth cx s.heap [] cells slots Q (F0 m 0 ls []) by rw [e_cells, e_slots]]
  have K_2 : ∀ (n : Nat), ∀ (z1 : Int32) (σ : CST) (H : Heap) (locs : List Loc) (cells slots : Nat) (ls : Array Slot), x_Fw_isOnePartOfOther_2 a0 P n z1 σ → CH (dC, dI) A ca ({ frames := 0, cells := σ0.2.2.2.2.1, slots := σ0.2.2.2.2.2.1, locals := 0 } : Room) σ0.2.2.2.2.2.2 σ s H locs cells slots → lv_has ls 2 [(0, .ref a0), (1, .int z1)] → W p l e ({ frames := 0, cells := σ0.2.2.2.2.1, slots := σ0.2.2.2.2.2.1, locals := 0 } : Room) s m ([.ref a0] : List Value).toArray below meth cx H locs cells slots Q (F0 m 2 ls []) := by
    intro  n
    induction n with
    | zero => intro z1 σ H locs cells slots ls hw h hl; unfold x_Fw_isOnePartOfOther_2 at hw; exact hw.elim
    | succ n ih =>
      intro z1 σ H locs cells slots ls hw h hl
      unfold x_Fw_isOnePartOfOther_2 at hw
      refine lv_iload_n hx hb h_Fw_isOnePartOfOther_2 rfl (lv_at hl 1 rfl) ?_
      refine lv_aload_n hx hb h_Fw_isOnePartOfOther_3 rfl (lv_at hl 0 rfl) ?_
      obtain ⟨g1, hw⟩ := hw
      refine C_get C h 11 6 (v := .int (σ.2.1 a0 6)) g1 rfl (Cn := R_Fw) (T := T_Fw) (N := 9) rfl (by decide) rfl uw_Fw (by decide) u_53 (fun _ q => q) h_Fw_isOnePartOfOther_4 ?_
      refine lv_icmp_ge (tgt := 41) hx hb h_Fw_isOnePartOfOther_7 (by decide) (fun c2 => ?_) (fun c2 => ?_)
      · skip
        replace hw := hw.1 c2
        refine lv_iconst (v := 1) hx hb h_Fw_isOnePartOfOther_41 (by decide) ?_
        exact hend (1 : Int32) σ _ _ _ _ _ _ rfl hw h h_Fw_isOnePartOfOther_42
      · skip
        replace hw := hw.2 c2
        refine lv_iload_n hx hb h_Fw_isOnePartOfOther_10 rfl (lv_at hl 1 rfl) ?_
        refine lv_aload_n hx hb h_Fw_isOnePartOfOther_11 rfl (lv_at hl 0 rfl) ?_
        refine C_get C h 11 4 (v := .int (σ.2.1 a0 4)) g1 rfl (Cn := R_Fw) (T := T_Fw) (N := 9) rfl (by decide) rfl uw_Fw (by decide) u_30 (fun _ q => q) h_Fw_isOnePartOfOther_12 ?_
        refine lv_icmp_ge (tgt := 41) hx hb h_Fw_isOnePartOfOther_15 (by decide) (fun c3 => ?_) (fun c3 => ?_)
        · skip
          replace hw := hw.1 c3
          refine lv_iconst (v := 1) hx hb h_Fw_isOnePartOfOther_41 (by decide) ?_
          exact hend (1 : Int32) σ _ _ _ _ _ _ rfl hw h h_Fw_isOnePartOfOther_42
        · skip
          replace hw := hw.2 c3
          refine lv_aload_n hx hb h_Fw_isOnePartOfOther_18 rfl (lv_at hl 0 rfl) ?_
          refine C_get C h 11 5 (v := va_rf (σ.2.2.2.1 a0 5)) g1 rfl (Cn := R_Fw) (T := T_Fw) (N := 9) rfl (by decide) rfl uw_Fw (by decide) u_23 (fun _ q => q) h_Fw_isOnePartOfOther_19 ?_
          refine lv_topq (fun b4 e_b4 => ?_)
          replace hw := hw b4 e_b4
          refine lv_iload_n hx hb h_Fw_isOnePartOfOther_22 rfl (lv_at hl 1 rfl) ?_
          obtain ⟨r5, e_r5, hw⟩ := hw
          subst e_r5
          have hl : lv_has ls 2 [(0, .ref a0), (1, .int z1)] := hl
          refine W.eq (g2 := F0 m 23 ls [.int z1, .ref r5]) rfl ?_
          obtain ⟨n7, g6, hw⟩ := hw
          obtain ⟨g8, hw⟩ := hw
          refine C_iald C h g6 g8 h_Fw_isOnePartOfOther_23 ?_
          refine lv_topi (fun b9 e_b9 => ?_)
          replace hw := hw b9 e_b9
          refine lv_aload_n hx hb h_Fw_isOnePartOfOther_24 rfl (lv_at hl 0 rfl) ?_
          refine C_get C h 11 3 (v := va_rf (σ.2.2.2.1 a0 3)) g1 rfl (Cn := R_Fw) (T := T_Fw) (N := 9) rfl (by decide) rfl uw_Fw (by decide) u_22 (fun _ q => q) h_Fw_isOnePartOfOther_25 ?_
          refine lv_topq (fun b10 e_b10 => ?_)
          replace hw := hw b10 e_b10
          refine lv_iload_n hx hb h_Fw_isOnePartOfOther_28 rfl (lv_at hl 1 rfl) ?_
          obtain ⟨r11, e_r11, hw⟩ := hw
          subst e_r11
          have hl : lv_has ls 2 [(0, .ref a0), (1, .int z1)] := hl
          refine W.eq (g2 := F0 m 29 ls [.int z1, .ref r11, .int b9]) rfl ?_
          obtain ⟨n13, g12, hw⟩ := hw
          obtain ⟨g14, hw⟩ := hw
          refine C_iald C h g12 g14 h_Fw_isOnePartOfOther_29 ?_
          refine lv_topi (fun b15 e_b15 => ?_)
          replace hw := hw b15 e_b15
          refine lv_icmp_eq (tgt := 35) hx hb h_Fw_isOnePartOfOther_30 (by decide) (fun c16 => ?_) (fun c16 => ?_)
          · skip
            replace hw := hw.1 c16
            refine lv_iinc (v := (z1 + 1)) (lv' := [(1, .int (z1 + 1)), (0, .ref a0)]) hx hb h_Fw_isOnePartOfOther_35 hl (k := 1) rfl (rfl) (by decide) rfl (fun ls hl => ?_)
            refine lv_goto (tgt := 2) hx hb h_Fw_isOnePartOfOther_38 (by decide) ?_
            exact ih (z1 + 1) σ _ _ _ _ _ hw h (lv_sub hl [1, 0] rfl)
          · skip
            replace hw := hw.2 c16
            refine lv_iconst (v := 0) hx hb h_Fw_isOnePartOfOther_33 (by decide) ?_
            exact hend (0 : Int32) σ _ _ _ _ _ _ rfl hw h h_Fw_isOnePartOfOther_34
  have hl : lv_has ls 2 [(0, .ref a0)] := hl
  unfold x_Fw_isOnePartOfOther at hw
  refine lv_iconst (v := 0) hx hb h_Fw_isOnePartOfOther_0 (by decide) ?_
  refine lv_istore_n (i := 1) (lv' := [(1, .int 0), (0, .ref a0)]) hx hb h_Fw_isOnePartOfOther_1 rfl hl (by decide) rfl (fun ls hl => ?_)
  obtain ⟨n9, hw⟩ := hw
  exact K_2 n9 0 σ0 _ _ _ _ _ hw h (lv_sub hl [1, 0] rfl)
abbrev g_Fw_put : MethodName := ⟨"MapFramer$FrameWriter", "put", "(I)V"⟩
theorem h_Fw_put_0 : decode prog_3_method_11_code 0 = .ok (.aload_n 0, 1) := by decide +kernel
theorem h_Fw_put_1 : decode prog_3_method_11_code 1 = .ok (.getfield 48, 3) := by decide +kernel
theorem h_Fw_put_4 : decode prog_3_method_11_code 4 = .ok (.aload_n 0, 1) := by decide +kernel
theorem h_Fw_put_5 : decode prog_3_method_11_code 5 = .ok (.getfield 9, 3) := by decide +kernel
theorem h_Fw_put_8 : decode prog_3_method_11_code 8 = .ok (.arraylength, 1) := by decide +kernel
theorem h_Fw_put_9 : decode prog_3_method_11_code 9 = .ok (.if_icmp .ne 20, 3) := by decide +kernel
theorem h_Fw_put_12 : decode prog_3_method_11_code 12 = .ok (.aload_n 0, 1) := by decide +kernel
theorem h_Fw_put_13 : decode prog_3_method_11_code 13 = .ok (.aload_n 0, 1) := by decide +kernel
theorem h_Fw_put_14 : decode prog_3_method_11_code 14 = .ok (.getfield 9, 3) := by decide +kernel
theorem h_Fw_put_17 : decode prog_3_method_11_code 17 = .ok (.iconst 2, 1) := by decide +kernel
theorem h_Fw_put_18 : decode prog_3_method_11_code 18 = .ok (.aload_n 0, 1) := by decide +kernel
theorem h_Fw_put_19 : decode prog_3_method_11_code 19 = .ok (.getfield 48, 3) := by decide +kernel
theorem h_Fw_put_22 : decode prog_3_method_11_code 22 = .ok (.imul, 1) := by decide +kernel
theorem h_Fw_put_23 : decode prog_3_method_11_code 23 = .ok (.invokestatic 51, 3) := by decide +kernel
theorem h_Fw_put_26 : decode prog_3_method_11_code 26 = .ok (.putfield 9, 3) := by decide +kernel
theorem h_Fw_put_29 : decode prog_3_method_11_code 29 = .ok (.aload_n 0, 1) := by decide +kernel
theorem h_Fw_put_30 : decode prog_3_method_11_code 30 = .ok (.getfield 9, 3) := by decide +kernel
theorem h_Fw_put_33 : decode prog_3_method_11_code 33 = .ok (.aload_n 0, 1) := by decide +kernel
theorem h_Fw_put_34 : decode prog_3_method_11_code 34 = .ok (.getfield 48, 3) := by decide +kernel
theorem h_Fw_put_37 : decode prog_3_method_11_code 37 = .ok (.iload_n 1, 1) := by decide +kernel
theorem h_Fw_put_38 : decode prog_3_method_11_code 38 = .ok (.iastore, 1) := by decide +kernel
theorem h_Fw_put_39 : decode prog_3_method_11_code 39 = .ok (.aload_n 0, 1) := by decide +kernel
theorem h_Fw_put_40 : decode prog_3_method_11_code 40 = .ok (.dup, 1) := by decide +kernel
theorem h_Fw_put_41 : decode prog_3_method_11_code 41 = .ok (.getfield 48, 3) := by decide +kernel
theorem h_Fw_put_44 : decode prog_3_method_11_code 44 = .ok (.iconst 1, 1) := by decide +kernel
theorem h_Fw_put_45 : decode prog_3_method_11_code 45 = .ok (.iadd, 1) := by decide +kernel
theorem h_Fw_put_46 : decode prog_3_method_11_code 46 = .ok (.putfield 48, 3) := by decide +kernel
theorem h_Fw_put_49 : decode prog_3_method_11_code 49 = .ok (.return_, 1) := by decide +kernel
def x_Fw_put_29 (a0 : Nat) (P : CST → Prop) (z1 : Int32) (σ : CST) : Prop := σ.1 a0 = some (11, 0) ∧ (∀ b2 : Option Nat, b2 = (σ.2.2.2.1 a0 0) → (∃ r3 : Nat, b2 = some r3 ∧ ((∃ n5 : Nat, σ.1 r3 = some (20, n5) ∧ (vp_in (σ.2.1 a0 1) n5 ∧ (∀ σ7 : CST, σ7 = sI σ r3 ((σ.2.1 a0 1) : Int32).toNatClampNeg z1 → σ7.1 a0 = some (11, 0) ∧ (∀ σ9 : CST, σ9 = sI σ7 a0 1 ((σ7.2.1 a0 1) + 1) → P σ9)))))))
def x_Fw_put (a0 : Nat) (x1 : Int32) (σ0 : CST) (P : CST → Prop) : Prop := σ0.1 a0 = some (11, 0) ∧ (∀ b11 : Option Nat, b11 = (σ0.2.2.2.1 a0 0) → (∃ r12 : Nat, b11 = some r12 ∧ ((∃ n14 : Nat, σ0.1 r12 = some (20, n14) ∧ ((((σ0.2.1 a0 1) = (Int32.ofNat n14) → ∀ b16 : Option Nat, b16 = (σ0.2.2.2.1 a0 0) → (∃ r17 : Nat, b16 = some r17 ∧ (x_Ar_copyOf r17 ((2 : Int32) * (σ0.2.1 a0 1)) σ0 (fun r19 σ18 => σ18.1 a0 = some (11, 0) ∧ (∀ σ21 : CST, σ21 = sR σ18 a0 0 r19 → x_Fw_put_29 a0 P x1 σ21))))) ∧ (¬ (σ0.2.1 a0 1) = (Int32.ofNat n14) → x_Fw_put_29 a0 P x1 σ0)))))))
set_option maxHeartbeats 4000000 in
set_option maxRecDepth 100000 in
theorem X_Fw_put (l : Launch) (dC : Nat → ClassId) (dI : Nat → Nat → Nat) (ca : Nat → ClassId) (H0 : Heap) (σ0 : CST) (a0 : Nat) (x1 : Int32) {P : CST → Prop} (hw : x_Fw_put a0 x1 σ0 P) : Met l g_Fw_put (mW g_Fw_put prog_3_method_11_code 2 none) ({ frames := 2, cells := σ0.2.2.2.2.1, slots := σ0.2.2.2.2.2.1, locals := 122 } : Room) (va_Pc [.ref a0, .int x1] (CPre (dC, dI) ca σ0 H0)) (va_Qv P (CB (dC, dI) ca σ0 H0) (cA σ0 H0.size)) σ0.2.2.2.2.1 σ0.2.2.2.2.2.1 (cA σ0 H0.size) := by
  refine C_ofv (by decide +kernel) rfl rfl rfl (Nat.le_of_ble_eq_true rfl) ?_
  intro p e s m below meth cx Q A ls C hnm hend hH0 h hl
  subst hH0
  have C0 := C
  obtain ⟨⟨hx, hb, hml, hown, hts⟩, hsub⟩ := C0
  obtain ⟨cells, e_cells⟩ : ∃ z : Nat, z = 0 := ⟨_, rfl⟩
  obtain ⟨slots, e_slots⟩ : ∃ z : Nat, z = 0 := ⟨_, rfl⟩
  have h : CH (dC, dI) A ca ({ frames := 2, cells := σ0.2.2.2.2.1, slots := σ0.2.2.2.2.2.1, locals := 122 } : Room) σ0.2.2.2.2.2.2 σ0 s s.heap [] cells slots := by rw [e_cells, e_slots]; exact h
  show W p l e ({ frames := 2, cells := σ0.2.2.2.2.1, slots := σ0.2.2.2.2.2.1, locals := 122 } : Room) s m ([.ref a0, .int x1] : List Value).toArray below meth cx s.heap [] 0 0 Q (F0 m 0 ls [])
  rw [show W p l e ({ frames := 2, cells := σ0.2.2.2.2.1, slots := σ0.2.2.2.2.2.1, locals := 122 } : Room) s m ([.ref a0, .int x1] : List Value).toArray below meth cx s.heap [] 0 0 Q (F0 m 0 ls []) = W p l e ({ frames := 2, cells := σ0.2.2.2.2.1, slots := σ0.2.2.2.2.2.1, locals := 122 } : Room) s m ([.ref a0, .int x1] : List Value).toArray below meth cx s.heap [] cells slots Q (F0 m 0 ls []) by rw [e_cells, e_slots]]
  have K_29 : ∀ (u9 : Unit), ∀ (z1 : Int32) (σ : CST) (H : Heap) (locs : List Loc) (cells slots : Nat) (ls : Array Slot), x_Fw_put_29 a0 P z1 σ → CH (dC, dI) A ca ({ frames := 2, cells := σ0.2.2.2.2.1, slots := σ0.2.2.2.2.2.1, locals := 122 } : Room) σ0.2.2.2.2.2.2 σ s H locs cells slots → lv_has ls 2 [(0, .ref a0), (1, .int z1)] → W p l e ({ frames := 2, cells := σ0.2.2.2.2.1, slots := σ0.2.2.2.2.2.1, locals := 122 } : Room) s m ([.ref a0, .int x1] : List Value).toArray below meth cx H locs cells slots Q (F0 m 29 ls []) := by
    intro u9 z1 σ H locs cells slots ls hw h hl
    unfold x_Fw_put_29 at hw
    refine lv_aload_n hx hb h_Fw_put_29 rfl (lv_at hl 0 rfl) ?_
    obtain ⟨g1, hw⟩ := hw
    refine C_get C h 11 0 (v := va_rf (σ.2.2.2.1 a0 0)) g1 rfl (Cn := R_Fw) (T := T_Fw) (N := 9) rfl (by decide) rfl uw_Fw (by decide) u_20 (fun _ q => q) h_Fw_put_30 ?_
    refine lv_topq (fun b2 e_b2 => ?_)
    replace hw := hw b2 e_b2
    refine lv_aload_n hx hb h_Fw_put_33 rfl (lv_at hl 0 rfl) ?_
    refine C_get C h 11 1 (v := .int (σ.2.1 a0 1)) g1 rfl (Cn := R_Fw) (T := T_Fw) (N := 9) rfl (by decide) rfl uw_Fw (by decide) u_43 (fun _ q => q) h_Fw_put_34 ?_
    refine lv_iload_n hx hb h_Fw_put_37 rfl (lv_at hl 1 rfl) ?_
    obtain ⟨r3, e_r3, hw⟩ := hw
    subst e_r3
    have hl : lv_has ls 2 [(0, .ref a0), (1, .int z1)] := hl
    refine W.eq (g2 := F0 m 38 ls [.int z1, .int (σ.2.1 a0 1), .ref r3]) rfl ?_
    obtain ⟨n5, g4, hw⟩ := hw
    obtain ⟨g6, hw⟩ := hw
    refine C_iast C h g4 g6 h_Fw_put_38 (fun H locs h => ?_)
    obtain ⟨σ7, e_σ7⟩ : ∃ z : CST, z = sI σ r3 ((σ.2.1 a0 1) : Int32).toNatClampNeg z1 := ⟨_, rfl⟩
    rw [← e_σ7] at h
    replace hw := hw σ7 e_σ7
    refine lv_aload_n hx hb h_Fw_put_39 rfl (lv_at hl 0 rfl) ?_
    refine lv_dup hx hb h_Fw_put_40 rfl ?_
    obtain ⟨g8, hw⟩ := hw
    refine C_get C h 11 1 (v := .int (σ7.2.1 a0 1)) g8 rfl (Cn := R_Fw) (T := T_Fw) (N := 9) rfl (by decide) rfl uw_Fw (by decide) u_43 (fun _ q => q) h_Fw_put_41 ?_
    refine lv_iconst (v := 1) hx hb h_Fw_put_44 (by decide) ?_
    refine lv_iadd hx hb h_Fw_put_45 ?_
    refine C_puti C h 11 1 g8 (Cn := R_Fw) (T := T_Fw) (N := 9) rfl (by decide) rfl uw_Fw tok_Fw nm_Fw (by decide) rfl u_43 (fun _ q => q) (Or.inl rfl) (by decide +kernel) h_Fw_put_46 (fun H locs h => ?_)
    obtain ⟨σ9, e_σ9⟩ : ∃ z : CST, z = sI σ7 a0 1 ((σ7.2.1 a0 1) + 1) := ⟨_, rfl⟩
    rw [← e_σ9] at h
    replace hw := hw σ9 e_σ9
    exact hend σ9 _ _ _ _ _ _ hw h h_Fw_put_49
  have hl : lv_has ls 2 [(0, .ref a0), (1, .int x1)] := hl
  unfold x_Fw_put at hw
  refine lv_aload_n hx hb h_Fw_put_0 rfl (lv_at hl 0 rfl) ?_
  obtain ⟨g10, hw⟩ := hw
  refine C_get C h 11 1 (v := .int (σ0.2.1 a0 1)) g10 rfl (Cn := R_Fw) (T := T_Fw) (N := 9) rfl (by decide) rfl uw_Fw (by decide) u_43 (fun _ q => q) h_Fw_put_1 ?_
  refine lv_aload_n hx hb h_Fw_put_4 rfl (lv_at hl 0 rfl) ?_
  refine C_get C h 11 0 (v := va_rf (σ0.2.2.2.1 a0 0)) g10 rfl (Cn := R_Fw) (T := T_Fw) (N := 9) rfl (by decide) rfl uw_Fw (by decide) u_20 (fun _ q => q) h_Fw_put_5 ?_
  refine lv_topq (fun b11 e_b11 => ?_)
  replace hw := hw b11 e_b11
  obtain ⟨r12, e_r12, hw⟩ := hw
  subst e_r12
  have hl : lv_has ls 2 [(0, .ref a0), (1, .int x1)] := hl
  refine W.eq (g2 := F0 m 8 ls [.ref r12, .int (σ0.2.1 a0 1)]) rfl ?_
  obtain ⟨n14, g13, hw⟩ := hw
  refine C_alen C h 20 0 rfl (by decide) g13 h_Fw_put_8 ?_
  refine lv_icmp_ne (tgt := 29) hx hb h_Fw_put_9 (by decide) (fun c15 => ?_) (fun c15 => ?_)
  · skip
    replace hw := hw.2 c15
    exact K_29 () x1 σ0 _ _ _ _ _ hw h (lv_sub hl [0, 1] rfl)
  · skip
    replace hw := hw.1 c15
    refine lv_aload_n hx hb h_Fw_put_12 rfl (lv_at hl 0 rfl) ?_
    refine lv_aload_n hx hb h_Fw_put_13 rfl (lv_at hl 0 rfl) ?_
    refine C_get C h 11 0 (v := va_rf (σ0.2.2.2.1 a0 0)) g10 rfl (Cn := R_Fw) (T := T_Fw) (N := 9) rfl (by decide) rfl uw_Fw (by decide) u_20 (fun _ q => q) h_Fw_put_14 ?_
    refine lv_topq (fun b16 e_b16 => ?_)
    replace hw := hw b16 e_b16
    refine lv_iconst (v := 2) hx hb h_Fw_put_17 (by decide) ?_
    refine lv_aload_n hx hb h_Fw_put_18 rfl (lv_at hl 0 rfl) ?_
    refine C_get C h 11 1 (v := .int (σ0.2.1 a0 1)) g10 rfl (Cn := R_Fw) (T := T_Fw) (N := 9) rfl (by decide) rfl uw_Fw (by decide) u_43 (fun _ q => q) h_Fw_put_19 ?_
    refine lv_imul hx hb h_Fw_put_22 ?_
    obtain ⟨r17, e_r17, hw⟩ := hw
    subst e_r17
    have hl : lv_has ls 2 [(0, .ref a0), (1, .int x1)] := hl
    refine W.eq (g2 := F0 m 23 ls [.int ((2 : Int32) * (σ0.2.1 a0 1)), .ref r17, .ref a0]) rfl ?_
    refine C_callSq (As := [.ref r17, .int ((2 : Int32) * (σ0.2.1 a0 1))]) (rest := [.ref a0]) C h (X_Ar_copyOf l dC dI ca s.heap σ0 r17 ((2 : Int32) * (σ0.2.1 a0 1)) hw) (va_cwS 2 hts (gS hsub u_44 u_45 u_46 u_47) rfl rfl rfl (by decide +kernel) ⟨(Nat.le_of_ble_eq_true rfl), (Nat.le_of_ble_eq_true rfl)⟩) rfl hl.1 (Nat.le_of_ble_eq_true rfl) h_Fw_put_23 (fun r19 σ18 H locs cells slots hw9 h9 => ?_)
    clear hw h; have hw := hw9; have h := h9; clear hw9 h9
    refine W.eq (g2 := F0 m 26 ls [va_rf r19, .ref a0]) rfl ?_
    obtain ⟨g20, hw⟩ := hw
    refine C_putr C h 11 0 (v := r19) (ty := (.array .int)) g20 (Cn := R_Fw) (T := T_Fw) (N := 9) rfl (by decide) rfl uw_Fw tok_Fw nm_Fw (by decide) rfl u_20 (fun _ q => q) (Or.inl rfl) (by decide +kernel) ck_a h_Fw_put_26 (fun H locs h => ?_)
    obtain ⟨σ21, e_σ21⟩ : ∃ z : CST, z = sR σ18 a0 0 r19 := ⟨_, rfl⟩
    rw [← e_σ21] at h
    replace hw := hw σ21 e_σ21
    exact K_29 () x1 σ21 _ _ _ _ _ hw h (lv_sub hl [0, 1] rfl)
abbrev g_Fw_putPair : MethodName := ⟨"MapFramer$FrameWriter", "putPair", "(I)V"⟩
theorem u_54 : (Cond.methodLink "MapFramer$FrameWriter" 99 ⟨"MapFramer$FrameWriter", "put", "(I)V"⟩ : Cond) ∈ bigW := inB_6 231 (by decide +kernel) rfl
theorem u_55 : (Cond.instanceMethod ⟨"MapFramer$FrameWriter", "put", "(I)V"⟩ : Cond) ∈ bigW := inB_6 233 (by decide +kernel) rfl
theorem u_56 : (Cond.selects "MapFramer$FrameWriter" ⟨"MapFramer$FrameWriter", "put", "(I)V"⟩ ⟨"MapFramer$FrameWriter", "put", "(I)V"⟩ : Cond) ∈ bigW := inS (y := ⟨"MapFramer$FrameWriter", "put", "(I)V"⟩) (n := 9) (List.mem_of_getElem? (i := 49) (by decide +kernel))
theorem u_57 : (Cond.initialized "MapFramer$FrameWriter" : Cond) ∈ bigW := inB_1 36 (by decide +kernel) rfl
theorem u_58 : (Cond.code ⟨"MapFramer$FrameWriter", "put", "(I)V"⟩ prog_3_method_11_code 2 none : Cond) ∈ bigW := inB_6 234 rfl rfl
theorem h_Fw_putPair_0 : decode prog_3_method_10_code 0 = .ok (.aload_n 0, 1) := by decide +kernel
theorem h_Fw_putPair_1 : decode prog_3_method_10_code 1 = .ok (.iload_n 1, 1) := by decide +kernel
theorem h_Fw_putPair_2 : decode prog_3_method_10_code 2 = .ok (.bipush 8, 2) := by decide +kernel
theorem h_Fw_putPair_4 : decode prog_3_method_10_code 4 = .ok (.iushr, 1) := by decide +kernel
theorem h_Fw_putPair_5 : decode prog_3_method_10_code 5 = .ok (.invokevirtual 99, 3) := by decide +kernel
theorem h_Fw_putPair_8 : decode prog_3_method_10_code 8 = .ok (.aload_n 0, 1) := by decide +kernel
theorem h_Fw_putPair_9 : decode prog_3_method_10_code 9 = .ok (.iload_n 1, 1) := by decide +kernel
theorem h_Fw_putPair_10 : decode prog_3_method_10_code 10 = .ok (.sipush 255, 3) := by decide +kernel
theorem h_Fw_putPair_13 : decode prog_3_method_10_code 13 = .ok (.iand, 1) := by decide +kernel
theorem h_Fw_putPair_14 : decode prog_3_method_10_code 14 = .ok (.invokevirtual 99, 3) := by decide +kernel
theorem h_Fw_putPair_17 : decode prog_3_method_10_code 17 = .ok (.return_, 1) := by decide +kernel
def x_Fw_putPair (a0 : Nat) (x1 : Int32) (σ0 : CST) (P : CST → Prop) : Prop := ∀ b1 : Int32, b1 = ((x1 : Int32).toUInt32 >>> ((8 : Int32).toUInt32 &&& Int32.toUInt32 31)).toInt32 → σ0.1 a0 = some (11, 0) ∧ (x_Fw_put a0 b1 σ0 (fun σ3 => ∀ b5 : Int32, b5 = (x1 &&& 255) → σ3.1 a0 = some (11, 0) ∧ (x_Fw_put a0 b5 σ3 (fun σ7 => P σ7))))
set_option maxHeartbeats 4000000 in
set_option maxRecDepth 100000 in
theorem X_Fw_putPair (l : Launch) (dC : Nat → ClassId) (dI : Nat → Nat → Nat) (ca : Nat → ClassId) (H0 : Heap) (σ0 : CST) (a0 : Nat) (x1 : Int32) {P : CST → Prop} (hw : x_Fw_putPair a0 x1 σ0 P) : Met l g_Fw_putPair (mW g_Fw_putPair prog_3_method_10_code 2 none) ({ frames := 3, cells := σ0.2.2.2.2.1, slots := σ0.2.2.2.2.2.1, locals := 143 } : Room) (va_Pc [.ref a0, .int x1] (CPre (dC, dI) ca σ0 H0)) (va_Qv P (CB (dC, dI) ca σ0 H0) (cA σ0 H0.size)) σ0.2.2.2.2.1 σ0.2.2.2.2.2.1 (cA σ0 H0.size) := by
  refine C_ofv (by decide +kernel) rfl rfl rfl (Nat.le_of_ble_eq_true rfl) ?_
  intro p e s m below meth cx Q A ls C hnm hend hH0 h hl
  subst hH0
  have C0 := C
  obtain ⟨⟨hx, hb, hml, hown, hts⟩, hsub⟩ := C0
  obtain ⟨cells, e_cells⟩ : ∃ z : Nat, z = 0 := ⟨_, rfl⟩
  obtain ⟨slots, e_slots⟩ : ∃ z : Nat, z = 0 := ⟨_, rfl⟩
  have h : CH (dC, dI) A ca ({ frames := 3, cells := σ0.2.2.2.2.1, slots := σ0.2.2.2.2.2.1, locals := 143 } : Room) σ0.2.2.2.2.2.2 σ0 s s.heap [] cells slots := by rw [e_cells, e_slots]; exact h
  show W p l e ({ frames := 3, cells := σ0.2.2.2.2.1, slots := σ0.2.2.2.2.2.1, locals := 143 } : Room) s m ([.ref a0, .int x1] : List Value).toArray below meth cx s.heap [] 0 0 Q (F0 m 0 ls [])
  rw [show W p l e ({ frames := 3, cells := σ0.2.2.2.2.1, slots := σ0.2.2.2.2.2.1, locals := 143 } : Room) s m ([.ref a0, .int x1] : List Value).toArray below meth cx s.heap [] 0 0 Q (F0 m 0 ls []) = W p l e ({ frames := 3, cells := σ0.2.2.2.2.1, slots := σ0.2.2.2.2.2.1, locals := 143 } : Room) s m ([.ref a0, .int x1] : List Value).toArray below meth cx s.heap [] cells slots Q (F0 m 0 ls []) by rw [e_cells, e_slots]]
  have hl : lv_has ls 2 [(0, .ref a0), (1, .int x1)] := hl
  unfold x_Fw_putPair at hw
  refine lv_aload_n hx hb h_Fw_putPair_0 rfl (lv_at hl 0 rfl) ?_
  refine lv_iload_n hx hb h_Fw_putPair_1 rfl (lv_at hl 1 rfl) ?_
  refine lv_bipush (v := 8) hx hb h_Fw_putPair_2 (by decide) ?_
  refine lv_iushr (v := ((x1 : Int32).toUInt32 >>> ((8 : Int32).toUInt32 &&& Int32.toUInt32 31)).toInt32) hx hb h_Fw_putPair_4 rfl ?_
  refine lv_topi (fun b1 e_b1 => ?_)
  replace hw := hw b1 e_b1
  obtain ⟨g2, hw⟩ := hw
  refine C_callVv (As := [.int b1]) (rest := []) C h (ci := 11) (Cn := R_Fw) (T := T_Fw) (N := 9) g2 rfl (by decide) (X_Fw_put l dC dI ca s.heap σ0 a0 b1 hw) (cwV 1 hts (gV hsub u_54 u_55 u_56 u_57 u_58) rfl rfl rfl (by decide +kernel) ⟨(Nat.le_of_ble_eq_true rfl), (Nat.le_of_ble_eq_true rfl)⟩) rfl hl.1 (Nat.le_of_ble_eq_true rfl) h_Fw_putPair_5 (fun σ3 H locs cells slots hw9 h9 => ?_)
  clear hw h; have hw := hw9; have h := h9; clear hw9 h9
  refine W.eq (g2 := F0 m 8 ls []) rfl ?_
  refine lv_aload_n hx hb h_Fw_putPair_8 rfl (lv_at hl 0 rfl) ?_
  refine lv_iload_n hx hb h_Fw_putPair_9 rfl (lv_at hl 1 rfl) ?_
  refine lv_sipush (v := 255) hx hb h_Fw_putPair_10 (by decide) ?_
  refine lv_iand hx hb h_Fw_putPair_13 ?_
  refine lv_topi (fun b5 e_b5 => ?_)
  replace hw := hw b5 e_b5
  obtain ⟨g6, hw⟩ := hw
  refine C_callVv (As := [.int b5]) (rest := []) C h (ci := 11) (Cn := R_Fw) (T := T_Fw) (N := 9) g6 rfl (by decide) (X_Fw_put l dC dI ca H σ3 a0 b5 hw) (cwV 1 hts (gV hsub u_54 u_55 u_56 u_57 u_58) rfl rfl rfl (by decide +kernel) ⟨(Nat.le_of_ble_eq_true rfl), (Nat.le_of_ble_eq_true rfl)⟩) rfl hl.1 (Nat.le_of_ble_eq_true rfl) h_Fw_putPair_14 (fun σ7 H locs cells slots hw9 h9 => ?_)
  clear hw h; have hw := hw9; have h := h9; clear hw9 h9
  refine W.eq (g2 := F0 m 17 ls []) rfl ?_
  exact hend σ7 _ _ _ _ _ _ hw h h_Fw_putPair_17
abbrev g_Fw_putKind : MethodName := ⟨"MapFramer$FrameWriter", "putKind", "(II)V"⟩
theorem u_59 : (Cond.methodLink "MapFramer$FrameWriter" 96 ⟨"MapFramer$FrameWriter", "putPair", "(I)V"⟩ : Cond) ∈ bigW := inB_6 236 (by decide +kernel) rfl
theorem u_60 : (Cond.instanceMethod ⟨"MapFramer$FrameWriter", "putPair", "(I)V"⟩ : Cond) ∈ bigW := inB_6 238 (by decide +kernel) rfl
theorem u_61 : (Cond.selects "MapFramer$FrameWriter" ⟨"MapFramer$FrameWriter", "putPair", "(I)V"⟩ ⟨"MapFramer$FrameWriter", "putPair", "(I)V"⟩ : Cond) ∈ bigW := inS (y := ⟨"MapFramer$FrameWriter", "putPair", "(I)V"⟩) (n := 9) (List.mem_of_getElem? (i := 50) (by decide +kernel))
theorem u_62 : (Cond.code ⟨"MapFramer$FrameWriter", "putPair", "(I)V"⟩ prog_3_method_10_code 2 none : Cond) ∈ bigW := inB_6 239 rfl rfl
theorem h_Fw_putKind_0 : decode prog_3_method_7_code 0 = .ok (.aload_n 0, 1) := by decide +kernel
theorem h_Fw_putKind_1 : decode prog_3_method_7_code 1 = .ok (.iload_n 1, 1) := by decide +kernel
theorem h_Fw_putKind_2 : decode prog_3_method_7_code 2 = .ok (.invokevirtual 99, 3) := by decide +kernel
theorem h_Fw_putKind_5 : decode prog_3_method_7_code 5 = .ok (.iload_n 1, 1) := by decide +kernel
theorem h_Fw_putKind_6 : decode prog_3_method_7_code 6 = .ok (.sipush 247, 3) := by decide +kernel
theorem h_Fw_putKind_9 : decode prog_3_method_7_code 9 = .ok (.if_icmp .lt 8, 3) := by decide +kernel
theorem h_Fw_putKind_12 : decode prog_3_method_7_code 12 = .ok (.aload_n 0, 1) := by decide +kernel
theorem h_Fw_putKind_13 : decode prog_3_method_7_code 13 = .ok (.iload_n 2, 1) := by decide +kernel
theorem h_Fw_putKind_14 : decode prog_3_method_7_code 14 = .ok (.invokevirtual 96, 3) := by decide +kernel
theorem h_Fw_putKind_17 : decode prog_3_method_7_code 17 = .ok (.return_, 1) := by decide +kernel
def x_Fw_putKind (a0 : Nat) (x1 : Int32) (x2 : Int32) (σ0 : CST) (P : CST → Prop) : Prop := σ0.1 a0 = some (11, 0) ∧ (x_Fw_put a0 x1 σ0 (fun σ2 => ((x1 < 247 → P σ2) ∧ (¬ x1 < 247 → σ2.1 a0 = some (11, 0) ∧ (x_Fw_putPair a0 x2 σ2 (fun σ6 => P σ6))))))
set_option maxHeartbeats 4000000 in
set_option maxRecDepth 100000 in
theorem X_Fw_putKind (l : Launch) (dC : Nat → ClassId) (dI : Nat → Nat → Nat) (ca : Nat → ClassId) (H0 : Heap) (σ0 : CST) (a0 : Nat) (x1 : Int32) (x2 : Int32) {P : CST → Prop} (hw : x_Fw_putKind a0 x1 x2 σ0 P) : Met l g_Fw_putKind (mW g_Fw_putKind prog_3_method_7_code 3 none) ({ frames := 4, cells := σ0.2.2.2.2.1, slots := σ0.2.2.2.2.2.1, locals := 164 } : Room) (va_Pc [.ref a0, .int x1, .int x2] (CPre (dC, dI) ca σ0 H0)) (va_Qv P (CB (dC, dI) ca σ0 H0) (cA σ0 H0.size)) σ0.2.2.2.2.1 σ0.2.2.2.2.2.1 (cA σ0 H0.size) := by
  refine C_ofv (by decide +kernel) rfl rfl rfl (Nat.le_of_ble_eq_true rfl) ?_
  intro p e s m below meth cx Q A ls C hnm hend hH0 h hl
  subst hH0
  have C0 := C
  obtain ⟨⟨hx, hb, hml, hown, hts⟩, hsub⟩ := C0
  obtain ⟨cells, e_cells⟩ : ∃ z : Nat, z = 0 := ⟨_, rfl⟩
  obtain ⟨slots, e_slots⟩ : ∃ z : Nat, z = 0 := ⟨_, rfl⟩
  have h : CH (dC, dI) A ca ({ frames := 4, cells := σ0.2.2.2.2.1, slots := σ0.2.2.2.2.2.1, locals := 164 } : Room) σ0.2.2.2.2.2.2 σ0 s s.heap [] cells slots := by rw [e_cells, e_slots]; exact h
  show W p l e ({ frames := 4, cells := σ0.2.2.2.2.1, slots := σ0.2.2.2.2.2.1, locals := 164 } : Room) s m ([.ref a0, .int x1, .int x2] : List Value).toArray below meth cx s.heap [] 0 0 Q (F0 m 0 ls [])
  rw [show W p l e ({ frames := 4, cells := σ0.2.2.2.2.1, slots := σ0.2.2.2.2.2.1, locals := 164 } : Room) s m ([.ref a0, .int x1, .int x2] : List Value).toArray below meth cx s.heap [] 0 0 Q (F0 m 0 ls []) = W p l e ({ frames := 4, cells := σ0.2.2.2.2.1, slots := σ0.2.2.2.2.2.1, locals := 164 } : Room) s m ([.ref a0, .int x1, .int x2] : List Value).toArray below meth cx s.heap [] cells slots Q (F0 m 0 ls []) by rw [e_cells, e_slots]]
  have hl : lv_has ls 3 [(0, .ref a0), (1, .int x1), (2, .int x2)] := hl
  unfold x_Fw_putKind at hw
  refine lv_aload_n hx hb h_Fw_putKind_0 rfl (lv_at hl 0 rfl) ?_
  refine lv_iload_n hx hb h_Fw_putKind_1 rfl (lv_at hl 1 rfl) ?_
  obtain ⟨g1, hw⟩ := hw
  refine C_callVv (As := [.int x1]) (rest := []) C h (ci := 11) (Cn := R_Fw) (T := T_Fw) (N := 9) g1 rfl (by decide) (X_Fw_put l dC dI ca s.heap σ0 a0 x1 hw) (cwV 1 hts (gV hsub u_54 u_55 u_56 u_57 u_58) rfl rfl rfl (by decide +kernel) ⟨(Nat.le_of_ble_eq_true rfl), (Nat.le_of_ble_eq_true rfl)⟩) rfl hl.1 (Nat.le_of_ble_eq_true rfl) h_Fw_putKind_2 (fun σ2 H locs cells slots hw9 h9 => ?_)
  clear hw h; have hw := hw9; have h := h9; clear hw9 h9
  refine W.eq (g2 := F0 m 5 ls []) rfl ?_
  refine lv_iload_n hx hb h_Fw_putKind_5 rfl (lv_at hl 1 rfl) ?_
  refine lv_sipush (v := 247) hx hb h_Fw_putKind_6 (by decide) ?_
  refine lv_icmp_lt (tgt := 17) hx hb h_Fw_putKind_9 (by decide) (fun c4 => ?_) (fun c4 => ?_)
  · skip
    replace hw := hw.1 c4
    exact hend σ2 _ _ _ _ _ _ hw h h_Fw_putKind_17
  · skip
    replace hw := hw.2 c4
    refine lv_aload_n hx hb h_Fw_putKind_12 rfl (lv_at hl 0 rfl) ?_
    refine lv_iload_n hx hb h_Fw_putKind_13 rfl (lv_at hl 2 rfl) ?_
    obtain ⟨g5, hw⟩ := hw
    refine C_callVv (As := [.int x2]) (rest := []) C h (ci := 11) (Cn := R_Fw) (T := T_Fw) (N := 9) g5 rfl (by decide) (X_Fw_putPair l dC dI ca H σ2 a0 x2 hw) (cwV 1 hts (gV hsub u_59 u_60 u_61 u_57 u_62) rfl rfl rfl (by decide +kernel) ⟨(Nat.le_of_ble_eq_true rfl), (Nat.le_of_ble_eq_true rfl)⟩) rfl hl.1 (Nat.le_of_ble_eq_true rfl) h_Fw_putKind_14 (fun σ6 H locs cells slots hw9 h9 => ?_)
    clear hw h; have hw := hw9; have h := h9; clear hw9 h9
    refine W.eq (g2 := F0 m 17 ls []) rfl ?_
    exact hend σ6 _ _ _ _ _ _ hw h h_Fw_putKind_17
abbrev g_W_isUninitialized : MethodName := ⟨"MapFramer$World", "isUninitialized", "(I)Z"⟩
theorem h_W_isUninitialized_0 : decode prog_12_method_16_code 0 = .ok (.iload_n 0, 1) := by decide +kernel
theorem h_W_isUninitialized_1 : decode prog_12_method_16_code 1 = .ok (.sipush 1000, 3) := by decide +kernel
theorem h_W_isUninitialized_4 : decode prog_12_method_16_code 4 = .ok (.if_icmp .lt 7, 3) := by decide +kernel
theorem h_W_isUninitialized_7 : decode prog_12_method_16_code 7 = .ok (.iconst 1, 1) := by decide +kernel
theorem h_W_isUninitialized_8 : decode prog_12_method_16_code 8 = .ok (.goto 4, 3) := by decide +kernel
theorem h_W_isUninitialized_11 : decode prog_12_method_16_code 11 = .ok (.iconst 0, 1) := by decide +kernel
theorem h_W_isUninitialized_12 : decode prog_12_method_16_code 12 = .ok (.ireturn, 1) := by decide +kernel
def x_W_isUninitialized (x0 : Int32) (σ0 : CST) (P : Int32 → CST → Prop) : Prop := ((x0 < 1000 → P (0 : Int32) σ0) ∧ (¬ x0 < 1000 → P (1 : Int32) σ0))
set_option maxHeartbeats 4000000 in
set_option maxRecDepth 100000 in
theorem X_W_isUninitialized (l : Launch) (dC : Nat → ClassId) (dI : Nat → Nat → Nat) (ca : Nat → ClassId) (H0 : Heap) (σ0 : CST) (x0 : Int32) {P : Int32 → CST → Prop} (hw : x_W_isUninitialized x0 σ0 P) : Met l g_W_isUninitialized (mW g_W_isUninitialized prog_12_method_16_code 1 (some .boolean)) ({ frames := 0, cells := σ0.2.2.2.2.1, slots := σ0.2.2.2.2.2.1, locals := 0 } : Room) (va_Pc [.int x0] (CPre (dC, dI) ca σ0 H0)) (va_Qi P (CB (dC, dI) ca σ0 H0) (cA σ0 H0.size)) σ0.2.2.2.2.1 σ0.2.2.2.2.2.1 (cA σ0 H0.size) := by
  refine C_ofz (by decide +kernel) rfl rfl rfl (Nat.le_of_ble_eq_true rfl) ?_
  intro p e s m below meth cx Q A ls C hnm hend hH0 h hl
  subst hH0
  have C0 := C
  obtain ⟨⟨hx, hb, hml, hown, hts⟩, hsub⟩ := C0
  obtain ⟨cells, e_cells⟩ : ∃ z : Nat, z = 0 := ⟨_, rfl⟩
  obtain ⟨slots, e_slots⟩ : ∃ z : Nat, z = 0 := ⟨_, rfl⟩
  have h : CH (dC, dI) A ca ({ frames := 0, cells := σ0.2.2.2.2.1, slots := σ0.2.2.2.2.2.1, locals := 0 } : Room) σ0.2.2.2.2.2.2 σ0 s s.heap [] cells slots := by rw [e_cells, e_slots]; exact h
  show W p l e ({ frames := 0, cells := σ0.2.2.2.2.1, slots := σ0.2.2.2.2.2.1, locals := 0 } : Room) s m ([.int x0] : List Value).toArray below meth cx s.heap [] 0 0 Q (F0 m 0 ls [])
  rw [show W p l e ({ frames := 0, cells := σ0.2.2.2.2.1, slots := σ0.2.2.2.2.2.1, locals := 0 } : Room) s m ([.int x0] : List Value).toArray below meth cx s.heap [] 0 0 Q (F0 m 0 ls []) = W p l e ({ frames := 0, cells := σ0.2.2.2.2.1, slots := σ0.2.2.2.2.2.1, locals := 0 } : Room) s m ([.int x0] : List Value).toArray below meth cx s.heap [] cells slots Q (F0 m 0 ls []) by rw [e_cells, e_slots]]
  have hl : lv_has ls 1 [(0, .int x0)] := hl
  unfold x_W_isUninitialized at hw
  refine lv_iload_n hx hb h_W_isUninitialized_0 rfl (lv_at hl 0 rfl) ?_
  refine lv_sipush (v := 1000) hx hb h_W_isUninitialized_1 (by decide) ?_
  refine lv_icmp_lt (tgt := 11) hx hb h_W_isUninitialized_4 (by decide) (fun c1 => ?_) (fun c1 => ?_)
  · skip
    replace hw := hw.1 c1
    refine lv_iconst (v := 0) hx hb h_W_isUninitialized_11 (by decide) ?_
    exact hend (0 : Int32) σ0 _ _ _ _ _ _ rfl hw h h_W_isUninitialized_12
  · skip
    replace hw := hw.2 c1
    refine lv_iconst (v := 1) hx hb h_W_isUninitialized_7 (by decide) ?_
    refine lv_goto (tgt := 12) hx hb h_W_isUninitialized_8 (by decide) ?_
    exact hend (1 : Int32) σ0 _ _ _ _ _ _ rfl hw h h_W_isUninitialized_12
abbrev g_W_isClassArray : MethodName := ⟨"MapFramer$World", "isClassArray", "(I)Z"⟩
theorem h_W_isClassArray_0 : decode prog_12_method_13_code 0 = .ok (.iload_n 0, 1) := by decide +kernel
theorem h_W_isClassArray_1 : decode prog_12_method_13_code 1 = .ok (.bipush 64, 2) := by decide +kernel
theorem h_W_isClassArray_3 : decode prog_12_method_13_code 3 = .ok (.if_icmp .lt 13, 3) := by decide +kernel
theorem h_W_isClassArray_6 : decode prog_12_method_13_code 6 = .ok (.iload_n 0, 1) := by decide +kernel
theorem h_W_isClassArray_7 : decode prog_12_method_13_code 7 = .ok (.bipush 80, 2) := by decide +kernel
theorem h_W_isClassArray_9 : decode prog_12_method_13_code 9 = .ok (.if_icmp .ge 7, 3) := by decide +kernel
theorem h_W_isClassArray_12 : decode prog_12_method_13_code 12 = .ok (.iconst 1, 1) := by decide +kernel
theorem h_W_isClassArray_13 : decode prog_12_method_13_code 13 = .ok (.goto 4, 3) := by decide +kernel
theorem h_W_isClassArray_16 : decode prog_12_method_13_code 16 = .ok (.iconst 0, 1) := by decide +kernel
theorem h_W_isClassArray_17 : decode prog_12_method_13_code 17 = .ok (.ireturn, 1) := by decide +kernel
def x_W_isClassArray (x0 : Int32) (σ0 : CST) (P : Int32 → CST → Prop) : Prop := ((x0 < 64 → P (0 : Int32) σ0) ∧ (¬ x0 < 64 → ((80 ≤ x0 → P (0 : Int32) σ0) ∧ (¬ 80 ≤ x0 → P (1 : Int32) σ0))))
set_option maxHeartbeats 4000000 in
set_option maxRecDepth 100000 in
theorem X_W_isClassArray (l : Launch) (dC : Nat → ClassId) (dI : Nat → Nat → Nat) (ca : Nat → ClassId) (H0 : Heap) (σ0 : CST) (x0 : Int32) {P : Int32 → CST → Prop} (hw : x_W_isClassArray x0 σ0 P) : Met l g_W_isClassArray (mW g_W_isClassArray prog_12_method_13_code 1 (some .boolean)) ({ frames := 0, cells := σ0.2.2.2.2.1, slots := σ0.2.2.2.2.2.1, locals := 0 } : Room) (va_Pc [.int x0] (CPre (dC, dI) ca σ0 H0)) (va_Qi P (CB (dC, dI) ca σ0 H0) (cA σ0 H0.size)) σ0.2.2.2.2.1 σ0.2.2.2.2.2.1 (cA σ0 H0.size) := by
  refine C_ofz (by decide +kernel) rfl rfl rfl (Nat.le_of_ble_eq_true rfl) ?_
  intro p e s m below meth cx Q A ls C hnm hend hH0 h hl
  subst hH0
  have C0 := C
  obtain ⟨⟨hx, hb, hml, hown, hts⟩, hsub⟩ := C0
  obtain ⟨cells, e_cells⟩ : ∃ z : Nat, z = 0 := ⟨_, rfl⟩
  obtain ⟨slots, e_slots⟩ : ∃ z : Nat, z = 0 := ⟨_, rfl⟩
  have h : CH (dC, dI) A ca ({ frames := 0, cells := σ0.2.2.2.2.1, slots := σ0.2.2.2.2.2.1, locals := 0 } : Room) σ0.2.2.2.2.2.2 σ0 s s.heap [] cells slots := by rw [e_cells, e_slots]; exact h
  show W p l e ({ frames := 0, cells := σ0.2.2.2.2.1, slots := σ0.2.2.2.2.2.1, locals := 0 } : Room) s m ([.int x0] : List Value).toArray below meth cx s.heap [] 0 0 Q (F0 m 0 ls [])
  rw [show W p l e ({ frames := 0, cells := σ0.2.2.2.2.1, slots := σ0.2.2.2.2.2.1, locals := 0 } : Room) s m ([.int x0] : List Value).toArray below meth cx s.heap [] 0 0 Q (F0 m 0 ls []) = W p l e ({ frames := 0, cells := σ0.2.2.2.2.1, slots := σ0.2.2.2.2.2.1, locals := 0 } : Room) s m ([.int x0] : List Value).toArray below meth cx s.heap [] cells slots Q (F0 m 0 ls []) by rw [e_cells, e_slots]]
  have hl : lv_has ls 1 [(0, .int x0)] := hl
  unfold x_W_isClassArray at hw
  refine lv_iload_n hx hb h_W_isClassArray_0 rfl (lv_at hl 0 rfl) ?_
  refine lv_bipush (v := 64) hx hb h_W_isClassArray_1 (by decide) ?_
  refine lv_icmp_lt (tgt := 16) hx hb h_W_isClassArray_3 (by decide) (fun c1 => ?_) (fun c1 => ?_)
  · skip
    replace hw := hw.1 c1
    refine lv_iconst (v := 0) hx hb h_W_isClassArray_16 (by decide) ?_
    exact hend (0 : Int32) σ0 _ _ _ _ _ _ rfl hw h h_W_isClassArray_17
  · skip
    replace hw := hw.2 c1
    refine lv_iload_n hx hb h_W_isClassArray_6 rfl (lv_at hl 0 rfl) ?_
    refine lv_bipush (v := 80) hx hb h_W_isClassArray_7 (by decide) ?_
    refine lv_icmp_ge (tgt := 16) hx hb h_W_isClassArray_9 (by decide) (fun c2 => ?_) (fun c2 => ?_)
    · skip
      replace hw := hw.1 c2
      refine lv_iconst (v := 0) hx hb h_W_isClassArray_16 (by decide) ?_
      exact hend (0 : Int32) σ0 _ _ _ _ _ _ rfl hw h h_W_isClassArray_17
    · skip
      replace hw := hw.2 c2
      refine lv_iconst (v := 1) hx hb h_W_isClassArray_12 (by decide) ?_
      refine lv_goto (tgt := 17) hx hb h_W_isClassArray_13 (by decide) ?_
      exact hend (1 : Int32) σ0 _ _ _ _ _ _ rfl hw h h_W_isClassArray_17
abbrev g_W_isObject : MethodName := ⟨"MapFramer$World", "isObject", "(I)Z"⟩
theorem h_W_isObject_0 : decode prog_12_method_12_code 0 = .ok (.iload_n 0, 1) := by decide +kernel
theorem h_W_isObject_1 : decode prog_12_method_12_code 1 = .ok (.bipush 32, 2) := by decide +kernel
theorem h_W_isObject_3 : decode prog_12_method_12_code 3 = .ok (.if_icmp .lt 13, 3) := by decide +kernel
theorem h_W_isObject_6 : decode prog_12_method_12_code 6 = .ok (.iload_n 0, 1) := by decide +kernel
theorem h_W_isObject_7 : decode prog_12_method_12_code 7 = .ok (.bipush 48, 2) := by decide +kernel
theorem h_W_isObject_9 : decode prog_12_method_12_code 9 = .ok (.if_icmp .ge 7, 3) := by decide +kernel
theorem h_W_isObject_12 : decode prog_12_method_12_code 12 = .ok (.iconst 1, 1) := by decide +kernel
theorem h_W_isObject_13 : decode prog_12_method_12_code 13 = .ok (.goto 4, 3) := by decide +kernel
theorem h_W_isObject_16 : decode prog_12_method_12_code 16 = .ok (.iconst 0, 1) := by decide +kernel
theorem h_W_isObject_17 : decode prog_12_method_12_code 17 = .ok (.ireturn, 1) := by decide +kernel
def x_W_isObject (x0 : Int32) (σ0 : CST) (P : Int32 → CST → Prop) : Prop := ((x0 < 32 → P (0 : Int32) σ0) ∧ (¬ x0 < 32 → ((48 ≤ x0 → P (0 : Int32) σ0) ∧ (¬ 48 ≤ x0 → P (1 : Int32) σ0))))
set_option maxHeartbeats 4000000 in
set_option maxRecDepth 100000 in
theorem X_W_isObject (l : Launch) (dC : Nat → ClassId) (dI : Nat → Nat → Nat) (ca : Nat → ClassId) (H0 : Heap) (σ0 : CST) (x0 : Int32) {P : Int32 → CST → Prop} (hw : x_W_isObject x0 σ0 P) : Met l g_W_isObject (mW g_W_isObject prog_12_method_12_code 1 (some .boolean)) ({ frames := 0, cells := σ0.2.2.2.2.1, slots := σ0.2.2.2.2.2.1, locals := 0 } : Room) (va_Pc [.int x0] (CPre (dC, dI) ca σ0 H0)) (va_Qi P (CB (dC, dI) ca σ0 H0) (cA σ0 H0.size)) σ0.2.2.2.2.1 σ0.2.2.2.2.2.1 (cA σ0 H0.size) := by
  refine C_ofz (by decide +kernel) rfl rfl rfl (Nat.le_of_ble_eq_true rfl) ?_
  intro p e s m below meth cx Q A ls C hnm hend hH0 h hl
  subst hH0
  have C0 := C
  obtain ⟨⟨hx, hb, hml, hown, hts⟩, hsub⟩ := C0
  obtain ⟨cells, e_cells⟩ : ∃ z : Nat, z = 0 := ⟨_, rfl⟩
  obtain ⟨slots, e_slots⟩ : ∃ z : Nat, z = 0 := ⟨_, rfl⟩
  have h : CH (dC, dI) A ca ({ frames := 0, cells := σ0.2.2.2.2.1, slots := σ0.2.2.2.2.2.1, locals := 0 } : Room) σ0.2.2.2.2.2.2 σ0 s s.heap [] cells slots := by rw [e_cells, e_slots]; exact h
  show W p l e ({ frames := 0, cells := σ0.2.2.2.2.1, slots := σ0.2.2.2.2.2.1, locals := 0 } : Room) s m ([.int x0] : List Value).toArray below meth cx s.heap [] 0 0 Q (F0 m 0 ls [])
  rw [show W p l e ({ frames := 0, cells := σ0.2.2.2.2.1, slots := σ0.2.2.2.2.2.1, locals := 0 } : Room) s m ([.int x0] : List Value).toArray below meth cx s.heap [] 0 0 Q (F0 m 0 ls []) = W p l e ({ frames := 0, cells := σ0.2.2.2.2.1, slots := σ0.2.2.2.2.2.1, locals := 0 } : Room) s m ([.int x0] : List Value).toArray below meth cx s.heap [] cells slots Q (F0 m 0 ls []) by rw [e_cells, e_slots]]
  have hl : lv_has ls 1 [(0, .int x0)] := hl
  unfold x_W_isObject at hw
  refine lv_iload_n hx hb h_W_isObject_0 rfl (lv_at hl 0 rfl) ?_
  refine lv_bipush (v := 32) hx hb h_W_isObject_1 (by decide) ?_
  refine lv_icmp_lt (tgt := 16) hx hb h_W_isObject_3 (by decide) (fun c1 => ?_) (fun c1 => ?_)
  · skip
    replace hw := hw.1 c1
    refine lv_iconst (v := 0) hx hb h_W_isObject_16 (by decide) ?_
    exact hend (0 : Int32) σ0 _ _ _ _ _ _ rfl hw h h_W_isObject_17
  · skip
    replace hw := hw.2 c1
    refine lv_iload_n hx hb h_W_isObject_6 rfl (lv_at hl 0 rfl) ?_
    refine lv_bipush (v := 48) hx hb h_W_isObject_7 (by decide) ?_
    refine lv_icmp_ge (tgt := 16) hx hb h_W_isObject_9 (by decide) (fun c2 => ?_) (fun c2 => ?_)
    · skip
      replace hw := hw.1 c2
      refine lv_iconst (v := 0) hx hb h_W_isObject_16 (by decide) ?_
      exact hend (0 : Int32) σ0 _ _ _ _ _ _ rfl hw h h_W_isObject_17
    · skip
      replace hw := hw.2 c2
      refine lv_iconst (v := 1) hx hb h_W_isObject_12 (by decide) ?_
      refine lv_goto (tgt := 17) hx hb h_W_isObject_13 (by decide) ?_
      exact hend (1 : Int32) σ0 _ _ _ _ _ _ rfl hw h h_W_isObject_17
abbrev g_Fw_putType : MethodName := ⟨"MapFramer$FrameWriter", "putType", "(I)V"⟩
theorem u_63 : (Cond.methodLink "MapFramer$FrameWriter" 105 ⟨"MapFramer$World", "isUninitialized", "(I)Z"⟩ : Cond) ∈ bigW := inB_7 8 (by decide +kernel) rfl
theorem u_64 : (Cond.static ⟨"MapFramer$World", "isUninitialized", "(I)Z"⟩ : Cond) ∈ bigW := inB_4 189 (by decide +kernel) rfl
theorem u_65 : (Cond.code ⟨"MapFramer$World", "isUninitialized", "(I)Z"⟩ prog_12_method_16_code 1 (some .boolean) : Cond) ∈ bigW := inB_4 190 rfl rfl
theorem u_66 : (Cond.methodLink "MapFramer$FrameWriter" 109 ⟨"MapFramer$World", "isClassArray", "(I)Z"⟩ : Cond) ∈ bigW := inB_7 9 (by decide +kernel) rfl
theorem u_67 : (Cond.static ⟨"MapFramer$World", "isClassArray", "(I)Z"⟩ : Cond) ∈ bigW := inB_4 103 (by decide +kernel) rfl
theorem u_68 : (Cond.code ⟨"MapFramer$World", "isClassArray", "(I)Z"⟩ prog_12_method_13_code 1 (some .boolean) : Cond) ∈ bigW := inB_4 104 rfl rfl
theorem u_69 : (Cond.methodLink "MapFramer$FrameWriter" 112 ⟨"MapFramer$World", "isObject", "(I)Z"⟩ : Cond) ∈ bigW := inB_7 10 (by decide +kernel) rfl
theorem u_70 : (Cond.static ⟨"MapFramer$World", "isObject", "(I)Z"⟩ : Cond) ∈ bigW := inB_4 106 (by decide +kernel) rfl
theorem u_71 : (Cond.code ⟨"MapFramer$World", "isObject", "(I)Z"⟩ prog_12_method_12_code 1 (some .boolean) : Cond) ∈ bigW := inB_4 107 rfl rfl
theorem h_Fw_putType_0 : decode prog_3_method_9_code 0 = .ok (.iload_n 1, 1) := by decide +kernel
theorem h_Fw_putType_1 : decode prog_3_method_9_code 1 = .ok (.iconst 2, 1) := by decide +kernel
theorem h_Fw_putType_2 : decode prog_3_method_9_code 2 = .ok (.if_icmp .ne 11, 3) := by decide +kernel
theorem h_Fw_putType_5 : decode prog_3_method_9_code 5 = .ok (.aload_n 0, 1) := by decide +kernel
theorem h_Fw_putType_6 : decode prog_3_method_9_code 6 = .ok (.iconst 4, 1) := by decide +kernel
theorem h_Fw_putType_7 : decode prog_3_method_9_code 7 = .ok (.invokevirtual 99, 3) := by decide +kernel
theorem h_Fw_putType_10 : decode prog_3_method_9_code 10 = .ok (.goto 136, 3) := by decide +kernel
theorem h_Fw_putType_13 : decode prog_3_method_9_code 13 = .ok (.iload_n 1, 1) := by decide +kernel
theorem h_Fw_putType_14 : decode prog_3_method_9_code 14 = .ok (.iconst 3, 1) := by decide +kernel
theorem h_Fw_putType_15 : decode prog_3_method_9_code 15 = .ok (.if_icmp .eq 8, 3) := by decide +kernel
theorem h_Fw_putType_18 : decode prog_3_method_9_code 18 = .ok (.iload_n 1, 1) := by decide +kernel
theorem h_Fw_putType_19 : decode prog_3_method_9_code 19 = .ok (.iconst 4, 1) := by decide +kernel
theorem h_Fw_putType_20 : decode prog_3_method_9_code 20 = .ok (.if_icmp .ne 22, 3) := by decide +kernel
theorem h_Fw_putType_23 : decode prog_3_method_9_code 23 = .ok (.aload_n 0, 1) := by decide +kernel
theorem h_Fw_putType_24 : decode prog_3_method_9_code 24 = .ok (.bipush 7, 2) := by decide +kernel
theorem h_Fw_putType_26 : decode prog_3_method_9_code 26 = .ok (.invokevirtual 99, 3) := by decide +kernel
theorem h_Fw_putType_29 : decode prog_3_method_9_code 29 = .ok (.aload_n 0, 1) := by decide +kernel
theorem h_Fw_putType_30 : decode prog_3_method_9_code 30 = .ok (.iconst 2, 1) := by decide +kernel
theorem h_Fw_putType_31 : decode prog_3_method_9_code 31 = .ok (.invokevirtual 99, 3) := by decide +kernel
theorem h_Fw_putType_34 : decode prog_3_method_9_code 34 = .ok (.aload_n 0, 1) := by decide +kernel
theorem h_Fw_putType_35 : decode prog_3_method_9_code 35 = .ok (.iload_n 1, 1) := by decide +kernel
theorem h_Fw_putType_36 : decode prog_3_method_9_code 36 = .ok (.invokevirtual 99, 3) := by decide +kernel
theorem h_Fw_putType_39 : decode prog_3_method_9_code 39 = .ok (.goto 107, 3) := by decide +kernel
theorem h_Fw_putType_42 : decode prog_3_method_9_code 42 = .ok (.iload_n 1, 1) := by decide +kernel
theorem h_Fw_putType_43 : decode prog_3_method_9_code 43 = .ok (.invokestatic 105, 3) := by decide +kernel
theorem h_Fw_putType_46 : decode prog_3_method_9_code 46 = .ok (.ifCond .eq 37, 3) := by decide +kernel
theorem h_Fw_putType_49 : decode prog_3_method_9_code 49 = .ok (.aload_n 0, 1) := by decide +kernel
theorem h_Fw_putType_50 : decode prog_3_method_9_code 50 = .ok (.bipush 8, 2) := by decide +kernel
theorem h_Fw_putType_52 : decode prog_3_method_9_code 52 = .ok (.invokevirtual 99, 3) := by decide +kernel
theorem h_Fw_putType_55 : decode prog_3_method_9_code 55 = .ok (.aload_n 0, 1) := by decide +kernel
theorem h_Fw_putType_56 : decode prog_3_method_9_code 56 = .ok (.iload_n 1, 1) := by decide +kernel
theorem h_Fw_putType_57 : decode prog_3_method_9_code 57 = .ok (.sipush 1000, 3) := by decide +kernel
theorem h_Fw_putType_60 : decode prog_3_method_9_code 60 = .ok (.isub, 1) := by decide +kernel
theorem h_Fw_putType_61 : decode prog_3_method_9_code 61 = .ok (.bipush 8, 2) := by decide +kernel
theorem h_Fw_putType_63 : decode prog_3_method_9_code 63 = .ok (.iushr, 1) := by decide +kernel
theorem h_Fw_putType_64 : decode prog_3_method_9_code 64 = .ok (.invokevirtual 99, 3) := by decide +kernel
theorem h_Fw_putType_67 : decode prog_3_method_9_code 67 = .ok (.aload_n 0, 1) := by decide +kernel
theorem h_Fw_putType_68 : decode prog_3_method_9_code 68 = .ok (.iload_n 1, 1) := by decide +kernel
theorem h_Fw_putType_69 : decode prog_3_method_9_code 69 = .ok (.sipush 1000, 3) := by decide +kernel
theorem h_Fw_putType_72 : decode prog_3_method_9_code 72 = .ok (.isub, 1) := by decide +kernel
theorem h_Fw_putType_73 : decode prog_3_method_9_code 73 = .ok (.sipush 255, 3) := by decide +kernel
theorem h_Fw_putType_76 : decode prog_3_method_9_code 76 = .ok (.iand, 1) := by decide +kernel
theorem h_Fw_putType_77 : decode prog_3_method_9_code 77 = .ok (.invokevirtual 99, 3) := by decide +kernel
theorem h_Fw_putType_80 : decode prog_3_method_9_code 80 = .ok (.goto 66, 3) := by decide +kernel
theorem h_Fw_putType_83 : decode prog_3_method_9_code 83 = .ok (.iload_n 1, 1) := by decide +kernel
theorem h_Fw_putType_84 : decode prog_3_method_9_code 84 = .ok (.invokestatic 109, 3) := by decide +kernel
theorem h_Fw_putType_87 : decode prog_3_method_9_code 87 = .ok (.ifCond .eq 25, 3) := by decide +kernel
theorem h_Fw_putType_90 : decode prog_3_method_9_code 90 = .ok (.aload_n 0, 1) := by decide +kernel
theorem h_Fw_putType_91 : decode prog_3_method_9_code 91 = .ok (.bipush 7, 2) := by decide +kernel
theorem h_Fw_putType_93 : decode prog_3_method_9_code 93 = .ok (.invokevirtual 99, 3) := by decide +kernel
theorem h_Fw_putType_96 : decode prog_3_method_9_code 96 = .ok (.aload_n 0, 1) := by decide +kernel
theorem h_Fw_putType_97 : decode prog_3_method_9_code 97 = .ok (.iconst 1, 1) := by decide +kernel
theorem h_Fw_putType_98 : decode prog_3_method_9_code 98 = .ok (.invokevirtual 99, 3) := by decide +kernel
theorem h_Fw_putType_101 : decode prog_3_method_9_code 101 = .ok (.aload_n 0, 1) := by decide +kernel
theorem h_Fw_putType_102 : decode prog_3_method_9_code 102 = .ok (.iload_n 1, 1) := by decide +kernel
theorem h_Fw_putType_103 : decode prog_3_method_9_code 103 = .ok (.bipush 64, 2) := by decide +kernel
theorem h_Fw_putType_105 : decode prog_3_method_9_code 105 = .ok (.isub, 1) := by decide +kernel
theorem h_Fw_putType_106 : decode prog_3_method_9_code 106 = .ok (.invokevirtual 99, 3) := by decide +kernel
theorem h_Fw_putType_109 : decode prog_3_method_9_code 109 = .ok (.goto 37, 3) := by decide +kernel
theorem h_Fw_putType_112 : decode prog_3_method_9_code 112 = .ok (.iload_n 1, 1) := by decide +kernel
theorem h_Fw_putType_113 : decode prog_3_method_9_code 113 = .ok (.invokestatic 112, 3) := by decide +kernel
theorem h_Fw_putType_116 : decode prog_3_method_9_code 116 = .ok (.ifCond .eq 25, 3) := by decide +kernel
theorem h_Fw_putType_119 : decode prog_3_method_9_code 119 = .ok (.aload_n 0, 1) := by decide +kernel
theorem h_Fw_putType_120 : decode prog_3_method_9_code 120 = .ok (.bipush 7, 2) := by decide +kernel
theorem h_Fw_putType_122 : decode prog_3_method_9_code 122 = .ok (.invokevirtual 99, 3) := by decide +kernel
theorem h_Fw_putType_125 : decode prog_3_method_9_code 125 = .ok (.aload_n 0, 1) := by decide +kernel
theorem h_Fw_putType_126 : decode prog_3_method_9_code 126 = .ok (.iconst 0, 1) := by decide +kernel
theorem h_Fw_putType_127 : decode prog_3_method_9_code 127 = .ok (.invokevirtual 99, 3) := by decide +kernel
theorem h_Fw_putType_130 : decode prog_3_method_9_code 130 = .ok (.aload_n 0, 1) := by decide +kernel
theorem h_Fw_putType_131 : decode prog_3_method_9_code 131 = .ok (.iload_n 1, 1) := by decide +kernel
theorem h_Fw_putType_132 : decode prog_3_method_9_code 132 = .ok (.bipush 32, 2) := by decide +kernel
theorem h_Fw_putType_134 : decode prog_3_method_9_code 134 = .ok (.isub, 1) := by decide +kernel
theorem h_Fw_putType_135 : decode prog_3_method_9_code 135 = .ok (.invokevirtual 99, 3) := by decide +kernel
theorem h_Fw_putType_138 : decode prog_3_method_9_code 138 = .ok (.goto 8, 3) := by decide +kernel
theorem h_Fw_putType_141 : decode prog_3_method_9_code 141 = .ok (.aload_n 0, 1) := by decide +kernel
theorem h_Fw_putType_142 : decode prog_3_method_9_code 142 = .ok (.iload_n 1, 1) := by decide +kernel
theorem h_Fw_putType_143 : decode prog_3_method_9_code 143 = .ok (.invokevirtual 99, 3) := by decide +kernel
theorem h_Fw_putType_146 : decode prog_3_method_9_code 146 = .ok (.return_, 1) := by decide +kernel
def x_Fw_putType_23 (a0 : Nat) (P : CST → Prop) (z1 : Int32) (σ : CST) : Prop := σ.1 a0 = some (11, 0) ∧ (x_Fw_put a0 (7 : Int32) σ (fun σ2 => σ2.1 a0 = some (11, 0) ∧ (x_Fw_put a0 (2 : Int32) σ2 (fun σ5 => σ5.1 a0 = some (11, 0) ∧ (x_Fw_put a0 z1 σ5 (fun σ8 => P σ8))))))
def x_Fw_putType (a0 : Nat) (x1 : Int32) (σ0 : CST) (P : CST → Prop) : Prop := ((x1 = 2 → σ0.1 a0 = some (11, 0) ∧ (x_Fw_put a0 (4 : Int32) σ0 (fun σ55 => P σ55))) ∧ (¬ x1 = 2 → ((x1 = 3 → x_Fw_putType_23 a0 P x1 σ0) ∧ (¬ x1 = 3 → ((x1 = 4 → x_Fw_putType_23 a0 P x1 σ0) ∧ (¬ x1 = 4 → x_W_isUninitialized x1 σ0 (fun r14 σ13 => ((r14 = 0 → x_W_isClassArray x1 σ13 (fun r17 σ16 => ((r17 = 0 → x_W_isObject x1 σ16 (fun r20 σ19 => ((r20 = 0 → σ19.1 a0 = some (11, 0) ∧ (x_Fw_put a0 x1 σ19 (fun σ23 => P σ23))) ∧ (¬ r20 = 0 → σ19.1 a0 = some (11, 0) ∧ (x_Fw_put a0 (7 : Int32) σ19 (fun σ26 => σ26.1 a0 = some (11, 0) ∧ (x_Fw_put a0 (0 : Int32) σ26 (fun σ29 => σ29.1 a0 = some (11, 0) ∧ (x_Fw_put a0 (x1 - 32) σ29 (fun σ32 => P σ32)))))))))) ∧ (¬ r17 = 0 → σ16.1 a0 = some (11, 0) ∧ (x_Fw_put a0 (7 : Int32) σ16 (fun σ35 => σ35.1 a0 = some (11, 0) ∧ (x_Fw_put a0 (1 : Int32) σ35 (fun σ38 => σ38.1 a0 = some (11, 0) ∧ (x_Fw_put a0 (x1 - 64) σ38 (fun σ41 => P σ41)))))))))) ∧ (¬ r14 = 0 → σ13.1 a0 = some (11, 0) ∧ (x_Fw_put a0 (8 : Int32) σ13 (fun σ44 => ∀ b46 : Int32, b46 = (((x1 - 1000) : Int32).toUInt32 >>> ((8 : Int32).toUInt32 &&& Int32.toUInt32 31)).toInt32 → σ44.1 a0 = some (11, 0) ∧ (x_Fw_put a0 b46 σ44 (fun σ48 => ∀ b50 : Int32, b50 = ((x1 - 1000) &&& 255) → σ48.1 a0 = some (11, 0) ∧ (x_Fw_put a0 b50 σ48 (fun σ52 => P σ52)))))))))))))))
set_option maxHeartbeats 4000000 in
set_option maxRecDepth 100000 in
theorem X_Fw_putType (l : Launch) (dC : Nat → ClassId) (dI : Nat → Nat → Nat) (ca : Nat → ClassId) (H0 : Heap) (σ0 : CST) (a0 : Nat) (x1 : Int32) {P : CST → Prop} (hw : x_Fw_putType a0 x1 σ0 P) : Met l g_Fw_putType (mW g_Fw_putType prog_3_method_9_code 2 none) ({ frames := 3, cells := σ0.2.2.2.2.1, slots := σ0.2.2.2.2.2.1, locals := 143 } : Room) (va_Pc [.ref a0, .int x1] (CPre (dC, dI) ca σ0 H0)) (va_Qv P (CB (dC, dI) ca σ0 H0) (cA σ0 H0.size)) σ0.2.2.2.2.1 σ0.2.2.2.2.2.1 (cA σ0 H0.size) := by
  refine C_ofv (by decide +kernel) rfl rfl rfl (Nat.le_of_ble_eq_true rfl) ?_
  intro p e s m below meth cx Q A ls C hnm hend hH0 h hl
  subst hH0
  have C0 := C
  obtain ⟨⟨hx, hb, hml, hown, hts⟩, hsub⟩ := C0
  obtain ⟨cells, e_cells⟩ : ∃ z : Nat, z = 0 := ⟨_, rfl⟩
  obtain ⟨slots, e_slots⟩ : ∃ z : Nat, z = 0 := ⟨_, rfl⟩
  have h : CH (dC, dI) A ca ({ frames := 3, cells := σ0.2.2.2.2.1, slots := σ0.2.2.2.2.2.1, locals := 143 } : Room) σ0.2.2.2.2.2.2 σ0 s s.heap [] cells slots := by rw [e_cells, e_slots]; exact h
  show W p l e ({ frames := 3, cells := σ0.2.2.2.2.1, slots := σ0.2.2.2.2.2.1, locals := 143 } : Room) s m ([.ref a0, .int x1] : List Value).toArray below meth cx s.heap [] 0 0 Q (F0 m 0 ls [])
  rw [show W p l e ({ frames := 3, cells := σ0.2.2.2.2.1, slots := σ0.2.2.2.2.2.1, locals := 143 } : Room) s m ([.ref a0, .int x1] : List Value).toArray below meth cx s.heap [] 0 0 Q (F0 m 0 ls []) = W p l e ({ frames := 3, cells := σ0.2.2.2.2.1, slots := σ0.2.2.2.2.2.1, locals := 143 } : Room) s m ([.ref a0, .int x1] : List Value).toArray below meth cx s.heap [] cells slots Q (F0 m 0 ls []) by rw [e_cells, e_slots]]
  have K_23 : ∀ (u9 : Unit), ∀ (z1 : Int32) (σ : CST) (H : Heap) (locs : List Loc) (cells slots : Nat) (ls : Array Slot), x_Fw_putType_23 a0 P z1 σ → CH (dC, dI) A ca ({ frames := 3, cells := σ0.2.2.2.2.1, slots := σ0.2.2.2.2.2.1, locals := 143 } : Room) σ0.2.2.2.2.2.2 σ s H locs cells slots → lv_has ls 2 [(0, .ref a0), (1, .int z1)] → W p l e ({ frames := 3, cells := σ0.2.2.2.2.1, slots := σ0.2.2.2.2.2.1, locals := 143 } : Room) s m ([.ref a0, .int x1] : List Value).toArray below meth cx H locs cells slots Q (F0 m 23 ls []) := by
    intro u9 z1 σ H locs cells slots ls hw h hl
    unfold x_Fw_putType_23 at hw
    refine lv_aload_n hx hb h_Fw_putType_23 rfl (lv_at hl 0 rfl) ?_
    refine lv_bipush (v := 7) hx hb h_Fw_putType_24 (by decide) ?_
    obtain ⟨g1, hw⟩ := hw
    refine C_callVv (As := [.int 7]) (rest := []) C h (ci := 11) (Cn := R_Fw) (T := T_Fw) (N := 9) g1 rfl (by decide) (X_Fw_put l dC dI ca H σ a0 (7 : Int32) hw) (cwV 1 hts (gV hsub u_54 u_55 u_56 u_57 u_58) rfl rfl rfl (by decide +kernel) ⟨(Nat.le_of_ble_eq_true rfl), (Nat.le_of_ble_eq_true rfl)⟩) rfl hl.1 (Nat.le_of_ble_eq_true rfl) h_Fw_putType_26 (fun σ2 H locs cells slots hw9 h9 => ?_)
    clear hw h; have hw := hw9; have h := h9; clear hw9 h9
    refine W.eq (g2 := F0 m 29 ls []) rfl ?_
    refine lv_aload_n hx hb h_Fw_putType_29 rfl (lv_at hl 0 rfl) ?_
    refine lv_iconst (v := 2) hx hb h_Fw_putType_30 (by decide) ?_
    obtain ⟨g4, hw⟩ := hw
    refine C_callVv (As := [.int 2]) (rest := []) C h (ci := 11) (Cn := R_Fw) (T := T_Fw) (N := 9) g4 rfl (by decide) (X_Fw_put l dC dI ca H σ2 a0 (2 : Int32) hw) (cwV 1 hts (gV hsub u_54 u_55 u_56 u_57 u_58) rfl rfl rfl (by decide +kernel) ⟨(Nat.le_of_ble_eq_true rfl), (Nat.le_of_ble_eq_true rfl)⟩) rfl hl.1 (Nat.le_of_ble_eq_true rfl) h_Fw_putType_31 (fun σ5 H locs cells slots hw9 h9 => ?_)
    clear hw h; have hw := hw9; have h := h9; clear hw9 h9
    refine W.eq (g2 := F0 m 34 ls []) rfl ?_
    refine lv_aload_n hx hb h_Fw_putType_34 rfl (lv_at hl 0 rfl) ?_
    refine lv_iload_n hx hb h_Fw_putType_35 rfl (lv_at hl 1 rfl) ?_
    obtain ⟨g7, hw⟩ := hw
    refine C_callVv (As := [.int z1]) (rest := []) C h (ci := 11) (Cn := R_Fw) (T := T_Fw) (N := 9) g7 rfl (by decide) (X_Fw_put l dC dI ca H σ5 a0 z1 hw) (cwV 1 hts (gV hsub u_54 u_55 u_56 u_57 u_58) rfl rfl rfl (by decide +kernel) ⟨(Nat.le_of_ble_eq_true rfl), (Nat.le_of_ble_eq_true rfl)⟩) rfl hl.1 (Nat.le_of_ble_eq_true rfl) h_Fw_putType_36 (fun σ8 H locs cells slots hw9 h9 => ?_)
    clear hw h; have hw := hw9; have h := h9; clear hw9 h9
    refine W.eq (g2 := F0 m 39 ls []) rfl ?_
    refine lv_goto (tgt := 146) hx hb h_Fw_putType_39 (by decide) ?_
    exact hend σ8 _ _ _ _ _ _ hw h h_Fw_putType_146
  have hl : lv_has ls 2 [(0, .ref a0), (1, .int x1)] := hl
  unfold x_Fw_putType at hw
  refine lv_iload_n hx hb h_Fw_putType_0 rfl (lv_at hl 1 rfl) ?_
  refine lv_iconst (v := 2) hx hb h_Fw_putType_1 (by decide) ?_
  refine lv_icmp_ne (tgt := 13) hx hb h_Fw_putType_2 (by decide) (fun c10 => ?_) (fun c10 => ?_)
  · skip
    replace hw := hw.2 c10
    refine lv_iload_n hx hb h_Fw_putType_13 rfl (lv_at hl 1 rfl) ?_
    refine lv_iconst (v := 3) hx hb h_Fw_putType_14 (by decide) ?_
    refine lv_icmp_eq (tgt := 23) hx hb h_Fw_putType_15 (by decide) (fun c11 => ?_) (fun c11 => ?_)
    · skip
      replace hw := hw.1 c11
      exact K_23 () x1 σ0 _ _ _ _ _ hw h (lv_sub hl [0, 1] rfl)
    · skip
      replace hw := hw.2 c11
      refine lv_iload_n hx hb h_Fw_putType_18 rfl (lv_at hl 1 rfl) ?_
      refine lv_iconst (v := 4) hx hb h_Fw_putType_19 (by decide) ?_
      refine lv_icmp_ne (tgt := 42) hx hb h_Fw_putType_20 (by decide) (fun c12 => ?_) (fun c12 => ?_)
      · skip
        replace hw := hw.2 c12
        refine lv_iload_n hx hb h_Fw_putType_42 rfl (lv_at hl 1 rfl) ?_
        refine C_callSi (As := [.int x1]) (rest := []) C h (X_W_isUninitialized l dC dI ca s.heap σ0 x1 hw) (va_cwS 1 hts (gS hsub u_63 u_64 u_51 u_65) rfl rfl rfl (by decide +kernel) ⟨(Nat.le_of_ble_eq_true rfl), (Nat.le_of_ble_eq_true rfl)⟩) rfl hl.1 (Nat.le_of_ble_eq_true rfl) h_Fw_putType_43 (fun r14 σ13 H locs cells slots hw9 h9 => ?_)
        clear hw h; have hw := hw9; have h := h9; clear hw9 h9
        refine W.eq (g2 := F0 m 46 ls [.int r14]) rfl ?_
        refine lv_if_eq (tgt := 83) hx hb h_Fw_putType_46 (by decide) (fun c15 => ?_) (fun c15 => ?_)
        · skip
          replace hw := hw.1 c15
          refine lv_iload_n hx hb h_Fw_putType_83 rfl (lv_at hl 1 rfl) ?_
          refine C_callSi (As := [.int x1]) (rest := []) C h (X_W_isClassArray l dC dI ca H σ13 x1 hw) (va_cwS 1 hts (gS hsub u_66 u_67 u_51 u_68) rfl rfl rfl (by decide +kernel) ⟨(Nat.le_of_ble_eq_true rfl), (Nat.le_of_ble_eq_true rfl)⟩) rfl hl.1 (Nat.le_of_ble_eq_true rfl) h_Fw_putType_84 (fun r17 σ16 H locs cells slots hw9 h9 => ?_)
          clear hw h; have hw := hw9; have h := h9; clear hw9 h9
          refine W.eq (g2 := F0 m 87 ls [.int r17]) rfl ?_
          refine lv_if_eq (tgt := 112) hx hb h_Fw_putType_87 (by decide) (fun c18 => ?_) (fun c18 => ?_)
          · skip
            replace hw := hw.1 c18
            refine lv_iload_n hx hb h_Fw_putType_112 rfl (lv_at hl 1 rfl) ?_
            refine C_callSi (As := [.int x1]) (rest := []) C h (X_W_isObject l dC dI ca H σ16 x1 hw) (va_cwS 1 hts (gS hsub u_69 u_70 u_51 u_71) rfl rfl rfl (by decide +kernel) ⟨(Nat.le_of_ble_eq_true rfl), (Nat.le_of_ble_eq_true rfl)⟩) rfl hl.1 (Nat.le_of_ble_eq_true rfl) h_Fw_putType_113 (fun r20 σ19 H locs cells slots hw9 h9 => ?_)
            clear hw h; have hw := hw9; have h := h9; clear hw9 h9
            refine W.eq (g2 := F0 m 116 ls [.int r20]) rfl ?_
            refine lv_if_eq (tgt := 141) hx hb h_Fw_putType_116 (by decide) (fun c21 => ?_) (fun c21 => ?_)
            · skip
              replace hw := hw.1 c21
              refine lv_aload_n hx hb h_Fw_putType_141 rfl (lv_at hl 0 rfl) ?_
              refine lv_iload_n hx hb h_Fw_putType_142 rfl (lv_at hl 1 rfl) ?_
              obtain ⟨g22, hw⟩ := hw
              refine C_callVv (As := [.int x1]) (rest := []) C h (ci := 11) (Cn := R_Fw) (T := T_Fw) (N := 9) g22 rfl (by decide) (X_Fw_put l dC dI ca H σ19 a0 x1 hw) (cwV 1 hts (gV hsub u_54 u_55 u_56 u_57 u_58) rfl rfl rfl (by decide +kernel) ⟨(Nat.le_of_ble_eq_true rfl), (Nat.le_of_ble_eq_true rfl)⟩) rfl hl.1 (Nat.le_of_ble_eq_true rfl) h_Fw_putType_143 (fun σ23 H locs cells slots hw9 h9 => ?_)
              clear hw h; have hw := hw9; have h := h9; clear hw9 h9
              refine W.eq (g2 := F0 m 146 ls []) rfl ?_
              exact hend σ23 _ _ _ _ _ _ hw h h_Fw_putType_146
            · skip
              replace hw := hw.2 c21
              refine lv_aload_n hx hb h_Fw_putType_119 rfl (lv_at hl 0 rfl) ?_
              refine lv_bipush (v := 7) hx hb h_Fw_putType_120 (by decide) ?_
              obtain ⟨g25, hw⟩ := hw
              refine C_callVv (As := [.int 7]) (rest := []) C h (ci := 11) (Cn := R_Fw) (T := T_Fw) (N := 9) g25 rfl (by decide) (X_Fw_put l dC dI ca H σ19 a0 (7 : Int32) hw) (cwV 1 hts (gV hsub u_54 u_55 u_56 u_57 u_58) rfl rfl rfl (by decide +kernel) ⟨(Nat.le_of_ble_eq_true rfl), (Nat.le_of_ble_eq_true rfl)⟩) rfl hl.1 (Nat.le_of_ble_eq_true rfl) h_Fw_putType_122 (fun σ26 H locs cells slots hw9 h9 => ?_)
              clear hw h; have hw := hw9; have h := h9; clear hw9 h9
              refine W.eq (g2 := F0 m 125 ls []) rfl ?_
              refine lv_aload_n hx hb h_Fw_putType_125 rfl (lv_at hl 0 rfl) ?_
              refine lv_iconst (v := 0) hx hb h_Fw_putType_126 (by decide) ?_
              obtain ⟨g28, hw⟩ := hw
              refine C_callVv (As := [.int 0]) (rest := []) C h (ci := 11) (Cn := R_Fw) (T := T_Fw) (N := 9) g28 rfl (by decide) (X_Fw_put l dC dI ca H σ26 a0 (0 : Int32) hw) (cwV 1 hts (gV hsub u_54 u_55 u_56 u_57 u_58) rfl rfl rfl (by decide +kernel) ⟨(Nat.le_of_ble_eq_true rfl), (Nat.le_of_ble_eq_true rfl)⟩) rfl hl.1 (Nat.le_of_ble_eq_true rfl) h_Fw_putType_127 (fun σ29 H locs cells slots hw9 h9 => ?_)
              clear hw h; have hw := hw9; have h := h9; clear hw9 h9
              refine W.eq (g2 := F0 m 130 ls []) rfl ?_
              refine lv_aload_n hx hb h_Fw_putType_130 rfl (lv_at hl 0 rfl) ?_
              refine lv_iload_n hx hb h_Fw_putType_131 rfl (lv_at hl 1 rfl) ?_
              refine lv_bipush (v := 32) hx hb h_Fw_putType_132 (by decide) ?_
              refine lv_isub hx hb h_Fw_putType_134 ?_
              obtain ⟨g31, hw⟩ := hw
              refine C_callVv (As := [.int (x1 - 32)]) (rest := []) C h (ci := 11) (Cn := R_Fw) (T := T_Fw) (N := 9) g31 rfl (by decide) (X_Fw_put l dC dI ca H σ29 a0 (x1 - 32) hw) (cwV 1 hts (gV hsub u_54 u_55 u_56 u_57 u_58) rfl rfl rfl (by decide +kernel) ⟨(Nat.le_of_ble_eq_true rfl), (Nat.le_of_ble_eq_true rfl)⟩) rfl hl.1 (Nat.le_of_ble_eq_true rfl) h_Fw_putType_135 (fun σ32 H locs cells slots hw9 h9 => ?_)
              clear hw h; have hw := hw9; have h := h9; clear hw9 h9
              refine W.eq (g2 := F0 m 138 ls []) rfl ?_
              refine lv_goto (tgt := 146) hx hb h_Fw_putType_138 (by decide) ?_
              exact hend σ32 _ _ _ _ _ _ hw h h_Fw_putType_146
          · skip
            replace hw := hw.2 c18
            refine lv_aload_n hx hb h_Fw_putType_90 rfl (lv_at hl 0 rfl) ?_
            refine lv_bipush (v := 7) hx hb h_Fw_putType_91 (by decide) ?_
            obtain ⟨g34, hw⟩ := hw
            refine C_callVv (As := [.int 7]) (rest := []) C h (ci := 11) (Cn := R_Fw) (T := T_Fw) (N := 9) g34 rfl (by decide) (X_Fw_put l dC dI ca H σ16 a0 (7 : Int32) hw) (cwV 1 hts (gV hsub u_54 u_55 u_56 u_57 u_58) rfl rfl rfl (by decide +kernel) ⟨(Nat.le_of_ble_eq_true rfl), (Nat.le_of_ble_eq_true rfl)⟩) rfl hl.1 (Nat.le_of_ble_eq_true rfl) h_Fw_putType_93 (fun σ35 H locs cells slots hw9 h9 => ?_)
            clear hw h; have hw := hw9; have h := h9; clear hw9 h9
            refine W.eq (g2 := F0 m 96 ls []) rfl ?_
            refine lv_aload_n hx hb h_Fw_putType_96 rfl (lv_at hl 0 rfl) ?_
            refine lv_iconst (v := 1) hx hb h_Fw_putType_97 (by decide) ?_
            obtain ⟨g37, hw⟩ := hw
            refine C_callVv (As := [.int 1]) (rest := []) C h (ci := 11) (Cn := R_Fw) (T := T_Fw) (N := 9) g37 rfl (by decide) (X_Fw_put l dC dI ca H σ35 a0 (1 : Int32) hw) (cwV 1 hts (gV hsub u_54 u_55 u_56 u_57 u_58) rfl rfl rfl (by decide +kernel) ⟨(Nat.le_of_ble_eq_true rfl), (Nat.le_of_ble_eq_true rfl)⟩) rfl hl.1 (Nat.le_of_ble_eq_true rfl) h_Fw_putType_98 (fun σ38 H locs cells slots hw9 h9 => ?_)
            clear hw h; have hw := hw9; have h := h9; clear hw9 h9
            refine W.eq (g2 := F0 m 101 ls []) rfl ?_
            refine lv_aload_n hx hb h_Fw_putType_101 rfl (lv_at hl 0 rfl) ?_
            refine lv_iload_n hx hb h_Fw_putType_102 rfl (lv_at hl 1 rfl) ?_
            refine lv_bipush (v := 64) hx hb h_Fw_putType_103 (by decide) ?_
            refine lv_isub hx hb h_Fw_putType_105 ?_
            obtain ⟨g40, hw⟩ := hw
            refine C_callVv (As := [.int (x1 - 64)]) (rest := []) C h (ci := 11) (Cn := R_Fw) (T := T_Fw) (N := 9) g40 rfl (by decide) (X_Fw_put l dC dI ca H σ38 a0 (x1 - 64) hw) (cwV 1 hts (gV hsub u_54 u_55 u_56 u_57 u_58) rfl rfl rfl (by decide +kernel) ⟨(Nat.le_of_ble_eq_true rfl), (Nat.le_of_ble_eq_true rfl)⟩) rfl hl.1 (Nat.le_of_ble_eq_true rfl) h_Fw_putType_106 (fun σ41 H locs cells slots hw9 h9 => ?_)
            clear hw h; have hw := hw9; have h := h9; clear hw9 h9
            refine W.eq (g2 := F0 m 109 ls []) rfl ?_
            refine lv_goto (tgt := 146) hx hb h_Fw_putType_109 (by decide) ?_
            exact hend σ41 _ _ _ _ _ _ hw h h_Fw_putType_146
        · skip
          replace hw := hw.2 c15
          refine lv_aload_n hx hb h_Fw_putType_49 rfl (lv_at hl 0 rfl) ?_
          refine lv_bipush (v := 8) hx hb h_Fw_putType_50 (by decide) ?_
          obtain ⟨g43, hw⟩ := hw
          refine C_callVv (As := [.int 8]) (rest := []) C h (ci := 11) (Cn := R_Fw) (T := T_Fw) (N := 9) g43 rfl (by decide) (X_Fw_put l dC dI ca H σ13 a0 (8 : Int32) hw) (cwV 1 hts (gV hsub u_54 u_55 u_56 u_57 u_58) rfl rfl rfl (by decide +kernel) ⟨(Nat.le_of_ble_eq_true rfl), (Nat.le_of_ble_eq_true rfl)⟩) rfl hl.1 (Nat.le_of_ble_eq_true rfl) h_Fw_putType_52 (fun σ44 H locs cells slots hw9 h9 => ?_)
          clear hw h; have hw := hw9; have h := h9; clear hw9 h9
          refine W.eq (g2 := F0 m 55 ls []) rfl ?_
          refine lv_aload_n hx hb h_Fw_putType_55 rfl (lv_at hl 0 rfl) ?_
          refine lv_iload_n hx hb h_Fw_putType_56 rfl (lv_at hl 1 rfl) ?_
          refine lv_sipush (v := 1000) hx hb h_Fw_putType_57 (by decide) ?_
          refine lv_isub hx hb h_Fw_putType_60 ?_
          refine lv_bipush (v := 8) hx hb h_Fw_putType_61 (by decide) ?_
          refine lv_iushr (v := (((x1 - 1000) : Int32).toUInt32 >>> ((8 : Int32).toUInt32 &&& Int32.toUInt32 31)).toInt32) hx hb h_Fw_putType_63 rfl ?_
          refine lv_topi (fun b46 e_b46 => ?_)
          replace hw := hw b46 e_b46
          obtain ⟨g47, hw⟩ := hw
          refine C_callVv (As := [.int b46]) (rest := []) C h (ci := 11) (Cn := R_Fw) (T := T_Fw) (N := 9) g47 rfl (by decide) (X_Fw_put l dC dI ca H σ44 a0 b46 hw) (cwV 1 hts (gV hsub u_54 u_55 u_56 u_57 u_58) rfl rfl rfl (by decide +kernel) ⟨(Nat.le_of_ble_eq_true rfl), (Nat.le_of_ble_eq_true rfl)⟩) rfl hl.1 (Nat.le_of_ble_eq_true rfl) h_Fw_putType_64 (fun σ48 H locs cells slots hw9 h9 => ?_)
          clear hw h; have hw := hw9; have h := h9; clear hw9 h9
          refine W.eq (g2 := F0 m 67 ls []) rfl ?_
          refine lv_aload_n hx hb h_Fw_putType_67 rfl (lv_at hl 0 rfl) ?_
          refine lv_iload_n hx hb h_Fw_putType_68 rfl (lv_at hl 1 rfl) ?_
          refine lv_sipush (v := 1000) hx hb h_Fw_putType_69 (by decide) ?_
          refine lv_isub hx hb h_Fw_putType_72 ?_
          refine lv_sipush (v := 255) hx hb h_Fw_putType_73 (by decide) ?_
          refine lv_iand hx hb h_Fw_putType_76 ?_
          refine lv_topi (fun b50 e_b50 => ?_)
          replace hw := hw b50 e_b50
          obtain ⟨g51, hw⟩ := hw
          refine C_callVv (As := [.int b50]) (rest := []) C h (ci := 11) (Cn := R_Fw) (T := T_Fw) (N := 9) g51 rfl (by decide) (X_Fw_put l dC dI ca H σ48 a0 b50 hw) (cwV 1 hts (gV hsub u_54 u_55 u_56 u_57 u_58) rfl rfl rfl (by decide +kernel) ⟨(Nat.le_of_ble_eq_true rfl), (Nat.le_of_ble_eq_true rfl)⟩) rfl hl.1 (Nat.le_of_ble_eq_true rfl) h_Fw_putType_77 (fun σ52 H locs cells slots hw9 h9 => ?_)
          clear hw h; have hw := hw9; have h := h9; clear hw9 h9
          refine W.eq (g2 := F0 m 80 ls []) rfl ?_
          refine lv_goto (tgt := 146) hx hb h_Fw_putType_80 (by decide) ?_
          exact hend σ52 _ _ _ _ _ _ hw h h_Fw_putType_146
      · skip
        replace hw := hw.1 c12
        exact K_23 () x1 σ0 _ _ _ _ _ hw h (lv_sub hl [0, 1] rfl)
  · skip
    replace hw := hw.1 c10
    refine lv_aload_n hx hb h_Fw_putType_5 rfl (lv_at hl 0 rfl) ?_
    refine lv_iconst (v := 4) hx hb h_Fw_putType_6 (by decide) ?_
    obtain ⟨g54, hw⟩ := hw
    refine C_callVv (As := [.int 4]) (rest := []) C h (ci := 11) (Cn := R_Fw) (T := T_Fw) (N := 9) g54 rfl (by decide) (X_Fw_put l dC dI ca s.heap σ0 a0 (4 : Int32) hw) (cwV 1 hts (gV hsub u_54 u_55 u_56 u_57 u_58) rfl rfl rfl (by decide +kernel) ⟨(Nat.le_of_ble_eq_true rfl), (Nat.le_of_ble_eq_true rfl)⟩) rfl hl.1 (Nat.le_of_ble_eq_true rfl) h_Fw_putType_7 (fun σ55 H locs cells slots hw9 h9 => ?_)
    clear hw h; have hw := hw9; have h := h9; clear hw9 h9
    refine W.eq (g2 := F0 m 10 ls []) rfl ?_
    refine lv_goto (tgt := 146) hx hb h_Fw_putType_10 (by decide) ?_
    exact hend σ55 _ _ _ _ _ _ hw h h_Fw_putType_146
