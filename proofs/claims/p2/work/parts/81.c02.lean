abbrev g_AL_grow2 : MethodName := ⟨"java/util/ArrayList", "grow", "()[Ljava/lang/Object;"⟩
theorem u_149 : (Cond.methodLink "java/util/ArrayList" 69 ⟨"java/util/ArrayList", "grow", "(I)[Ljava/lang/Object;"⟩ : Cond) ∈ bigW := inB_3 83 (by decide +kernel) rfl
theorem u_150 : (Cond.instanceMethod ⟨"java/util/ArrayList", "grow", "(I)[Ljava/lang/Object;"⟩ : Cond) ∈ bigW := inB_3 85 (by decide +kernel) rfl
theorem u_151 : (Cond.selects "java/util/ArrayList" ⟨"java/util/ArrayList", "grow", "(I)[Ljava/lang/Object;"⟩ ⟨"java/util/ArrayList", "grow", "(I)[Ljava/lang/Object;"⟩ : Cond) ∈ bigW := inS (y := ⟨"java/util/ArrayList", "grow", "(I)[Ljava/lang/Object;"⟩) (n := 3) (List.mem_of_getElem? (i := 3) (by decide +kernel))
theorem u_152 : (Cond.code ⟨"java/util/ArrayList", "grow", "(I)[Ljava/lang/Object;"⟩ prog_36_method_6_code 4 (some (.array (.object "java/lang/Object"))) : Cond) ∈ bigW := inB_3 86 rfl rfl
theorem h_AL_grow2_0 : decode prog_36_method_7_code 0 = .ok (.aload_n 0, 1) := by decide +kernel
theorem h_AL_grow2_1 : decode prog_36_method_7_code 1 = .ok (.aload_n 0, 1) := by decide +kernel
theorem h_AL_grow2_2 : decode prog_36_method_7_code 2 = .ok (.getfield 48, 3) := by decide +kernel
theorem h_AL_grow2_5 : decode prog_36_method_7_code 5 = .ok (.iconst 1, 1) := by decide +kernel
theorem h_AL_grow2_6 : decode prog_36_method_7_code 6 = .ok (.iadd, 1) := by decide +kernel
theorem h_AL_grow2_7 : decode prog_36_method_7_code 7 = .ok (.invokevirtual 69, 3) := by decide +kernel
theorem h_AL_grow2_10 : decode prog_36_method_7_code 10 = .ok (.areturn, 1) := by decide +kernel
def x_AL_grow2 (a0 : Nat) (σ0 : CST) (P : Option Nat → CST → Prop) : Prop := σ0.1 a0 = some (6, 0) ∧ (x_AL_grow a0 ((σ0.2.1 a0 2) + 1) σ0 (fun r3 σ2 => P r3 σ2))
set_option maxHeartbeats 4000000 in
set_option maxRecDepth 100000 in
theorem X_AL_grow2 (l : Launch) (dC : Nat → ClassId) (dI : Nat → Nat → Nat) (ca : Nat → ClassId) (H0 : Heap) (σ0 : CST) (a0 : Nat) {P : Option Nat → CST → Prop} (hw : x_AL_grow2 a0 σ0 P) : Met l g_AL_grow2 (mW g_AL_grow2 prog_36_method_7_code 1 (some (.array (.object "java/lang/Object")))) ({ frames := 4, cells := σ0.2.2.2.2.1, slots := σ0.2.2.2.2.2.1, locals := 167 } : Room) (va_Pc [.ref a0] (CPre (dC, dI) ca σ0 H0)) (va_Qq P (CB (dC, dI) ca σ0 H0) (cA σ0 H0.size)) σ0.2.2.2.2.1 σ0.2.2.2.2.2.1 (cA σ0 H0.size) := by
  refine C_ofq (Or.inr ⟨_, rfl⟩) (by decide +kernel) rfl rfl rfl (Nat.le_of_ble_eq_true rfl) ?_
  intro p e s m below meth cx Q A ls C hnm hend hH0 h hl
  subst hH0
  have C0 := C
  obtain ⟨⟨hx, hb, hml, hown, hts⟩, hsub⟩ := C0
  obtain ⟨cells, e_cells⟩ : ∃ z : Nat, z = 0 := ⟨_, rfl⟩
  obtain ⟨slots, e_slots⟩ : ∃ z : Nat, z = 0 := ⟨_, rfl⟩
  have h : CH (dC, dI) A ca ({ frames := 4, cells := σ0.2.2.2.2.1, slots := σ0.2.2.2.2.2.1, locals := 167 } : Room) σ0.2.2.2.2.2.2 σ0 s s.heap [] cells slots := by rw [e_cells, e_slots]; exact h
  show W p l e ({ frames := 4, cells := σ0.2.2.2.2.1, slots := σ0.2.2.2.2.2.1, locals := 167 } : Room) s m ([.ref a0] : List Value).toArray below meth cx s.heap [] 0 0 Q (F0 m 0 ls [])
  rw [show W p l e ({ frames := 4, cells := σ0.2.2.2.2.1, slots := σ0.2.2.2.2.2.1, locals := 167 } : Room) s m ([.ref a0] : List Value).toArray below meth cx s.heap [] 0 0 Q (F0 m 0 ls []) = W p l e ({ frames := 4, cells := σ0.2.2.2.2.1, slots := σ0.2.2.2.2.2.1, locals := 167 } : Room) s m ([.ref a0] : List Value).toArray below meth cx s.heap [] cells slots Q (F0 m 0 ls []) by rw [e_cells, e_slots]]
  have hl : lv_has ls 1 [(0, .ref a0)] := hl
  unfold x_AL_grow2 at hw
  refine lv_aload_n hx hb h_AL_grow2_0 rfl (lv_at hl 0 rfl) ?_
  refine lv_aload_n hx hb h_AL_grow2_1 rfl (lv_at hl 0 rfl) ?_
  obtain ⟨g1, hw⟩ := hw
  refine C_get C h 6 2 (v := .int (σ0.2.1 a0 2)) g1 rfl (Cn := R_A) (T := T_A) (N := 3) rfl (by decide) rfl uw_A (by decide) u_104 (fun _ q => q) h_AL_grow2_2 ?_
  refine lv_iconst (v := 1) hx hb h_AL_grow2_5 (by decide) ?_
  refine lv_iadd hx hb h_AL_grow2_6 ?_
  refine C_callVq (As := [.int ((σ0.2.1 a0 2) + 1)]) (rest := []) C h (ci := 6) (Cn := R_A) (T := T_A) (N := 3) g1 rfl (by decide) (X_AL_grow l dC dI ca s.heap σ0 a0 ((σ0.2.1 a0 2) + 1) hw) (cwV 1 hts (gV hsub u_149 u_150 u_151 u_117 u_152) rfl rfl rfl (by decide +kernel) ⟨(Nat.le_of_ble_eq_true rfl), (Nat.le_of_ble_eq_true rfl)⟩) rfl hl.1 (Nat.le_of_ble_eq_true rfl) h_AL_grow2_7 (fun r3 σ2 H locs cells slots hw9 h9 => ?_)
  clear hw h; have hw := hw9; have h := h9; clear hw9 h9
  refine W.eq (g2 := F0 m 10 ls [va_rf r3]) rfl ?_
  exact hend r3 σ2 _ _ _ _ _ _ hw h h_AL_grow2_10
abbrev g_AL_add : MethodName := ⟨"java/util/ArrayList", "add", "(ILjava/lang/Object;)V"⟩
theorem u_153 : (Cond.methodLink "java/util/ArrayList" 135 ⟨"java/util/ArrayList", "rangeCheckForAdd", "(I)V"⟩ : Cond) ∈ bigW := inB_5 102 (by decide +kernel) rfl
theorem u_154 : (Cond.instanceMethod ⟨"java/util/ArrayList", "rangeCheckForAdd", "(I)V"⟩ : Cond) ∈ bigW := inB_5 104 (by decide +kernel) rfl
theorem u_155 : (Cond.selects "java/util/ArrayList" ⟨"java/util/ArrayList", "rangeCheckForAdd", "(I)V"⟩ ⟨"java/util/ArrayList", "rangeCheckForAdd", "(I)V"⟩ : Cond) ∈ bigW := inS (y := ⟨"java/util/ArrayList", "rangeCheckForAdd", "(I)V"⟩) (n := 3) (List.mem_of_getElem? (i := 42) (by decide +kernel))
theorem u_156 : (Cond.code ⟨"java/util/ArrayList", "rangeCheckForAdd", "(I)V"⟩ prog_36_method_45_code 2 none : Cond) ∈ bigW := inB_5 105 rfl rfl
theorem u_157 : (Cond.methodLink "java/util/ArrayList" 129 ⟨"java/util/ArrayList", "grow", "()[Ljava/lang/Object;"⟩ : Cond) ∈ bigW := inB_3 79 (by decide +kernel) rfl
theorem u_158 : (Cond.instanceMethod ⟨"java/util/ArrayList", "grow", "()[Ljava/lang/Object;"⟩ : Cond) ∈ bigW := inB_3 81 (by decide +kernel) rfl
theorem u_159 : (Cond.selects "java/util/ArrayList" ⟨"java/util/ArrayList", "grow", "()[Ljava/lang/Object;"⟩ ⟨"java/util/ArrayList", "grow", "()[Ljava/lang/Object;"⟩ : Cond) ∈ bigW := inS (y := ⟨"java/util/ArrayList", "grow", "()[Ljava/lang/Object;"⟩) (n := 3) (List.mem_of_getElem? (i := 2) (by decide +kernel))
theorem u_160 : (Cond.code ⟨"java/util/ArrayList", "grow", "()[Ljava/lang/Object;"⟩ prog_36_method_7_code 1 (some (.array (.object "java/lang/Object"))) : Cond) ∈ bigW := inB_3 82 rfl rfl
theorem h_AL_add_0 : decode prog_36_method_26_code 0 = .ok (.aload_n 0, 1) := by decide +kernel
theorem h_AL_add_1 : decode prog_36_method_26_code 1 = .ok (.iload_n 1, 1) := by decide +kernel
theorem h_AL_add_2 : decode prog_36_method_26_code 2 = .ok (.invokevirtual 135, 3) := by decide +kernel
theorem h_AL_add_5 : decode prog_36_method_26_code 5 = .ok (.aload_n 0, 1) := by decide +kernel
theorem h_AL_add_6 : decode prog_36_method_26_code 6 = .ok (.dup, 1) := by decide +kernel
theorem h_AL_add_7 : decode prog_36_method_26_code 7 = .ok (.getfield 63, 3) := by decide +kernel
theorem h_AL_add_10 : decode prog_36_method_26_code 10 = .ok (.iconst 1, 1) := by decide +kernel
theorem h_AL_add_11 : decode prog_36_method_26_code 11 = .ok (.iadd, 1) := by decide +kernel
theorem h_AL_add_12 : decode prog_36_method_26_code 12 = .ok (.putfield 63, 3) := by decide +kernel
theorem h_AL_add_15 : decode prog_36_method_26_code 15 = .ok (.aload_n 0, 1) := by decide +kernel
theorem h_AL_add_16 : decode prog_36_method_26_code 16 = .ok (.getfield 48, 3) := by decide +kernel
theorem h_AL_add_19 : decode prog_36_method_26_code 19 = .ok (.dup, 1) := by decide +kernel
theorem h_AL_add_20 : decode prog_36_method_26_code 20 = .ok (.istore_n 3, 1) := by decide +kernel
theorem h_AL_add_21 : decode prog_36_method_26_code 21 = .ok (.aload_n 0, 1) := by decide +kernel
theorem h_AL_add_22 : decode prog_36_method_26_code 22 = .ok (.getfield 9, 3) := by decide +kernel
theorem h_AL_add_25 : decode prog_36_method_26_code 25 = .ok (.dup, 1) := by decide +kernel
theorem h_AL_add_26 : decode prog_36_method_26_code 26 = .ok (.astore 4, 2) := by decide +kernel
theorem h_AL_add_28 : decode prog_36_method_26_code 28 = .ok (.arraylength, 1) := by decide +kernel
theorem h_AL_add_29 : decode prog_36_method_26_code 29 = .ok (.if_icmp .ne 9, 3) := by decide +kernel
theorem h_AL_add_32 : decode prog_36_method_26_code 32 = .ok (.aload_n 0, 1) := by decide +kernel
theorem h_AL_add_33 : decode prog_36_method_26_code 33 = .ok (.invokevirtual 129, 3) := by decide +kernel
theorem h_AL_add_36 : decode prog_36_method_26_code 36 = .ok (.astore 4, 2) := by decide +kernel
theorem h_AL_add_38 : decode prog_36_method_26_code 38 = .ok (.aload 4, 2) := by decide +kernel
theorem h_AL_add_40 : decode prog_36_method_26_code 40 = .ok (.iload_n 1, 1) := by decide +kernel
theorem h_AL_add_41 : decode prog_36_method_26_code 41 = .ok (.aload 4, 2) := by decide +kernel
theorem h_AL_add_43 : decode prog_36_method_26_code 43 = .ok (.iload_n 1, 1) := by decide +kernel
theorem h_AL_add_44 : decode prog_36_method_26_code 44 = .ok (.iconst 1, 1) := by decide +kernel
theorem h_AL_add_45 : decode prog_36_method_26_code 45 = .ok (.iadd, 1) := by decide +kernel
theorem h_AL_add_46 : decode prog_36_method_26_code 46 = .ok (.iload_n 3, 1) := by decide +kernel
theorem h_AL_add_47 : decode prog_36_method_26_code 47 = .ok (.iload_n 1, 1) := by decide +kernel
theorem h_AL_add_48 : decode prog_36_method_26_code 48 = .ok (.isub, 1) := by decide +kernel
theorem h_AL_add_49 : decode prog_36_method_26_code 49 = .ok (.invokestatic 112, 3) := by decide +kernel
theorem h_AL_add_52 : decode prog_36_method_26_code 52 = .ok (.aload 4, 2) := by decide +kernel
theorem h_AL_add_54 : decode prog_36_method_26_code 54 = .ok (.iload_n 1, 1) := by decide +kernel
theorem h_AL_add_55 : decode prog_36_method_26_code 55 = .ok (.aload_n 2, 1) := by decide +kernel
theorem h_AL_add_56 : decode prog_36_method_26_code 56 = .ok (.aastore, 1) := by decide +kernel
theorem h_AL_add_57 : decode prog_36_method_26_code 57 = .ok (.aload_n 0, 1) := by decide +kernel
theorem h_AL_add_58 : decode prog_36_method_26_code 58 = .ok (.iload_n 3, 1) := by decide +kernel
theorem h_AL_add_59 : decode prog_36_method_26_code 59 = .ok (.iconst 1, 1) := by decide +kernel
theorem h_AL_add_60 : decode prog_36_method_26_code 60 = .ok (.iadd, 1) := by decide +kernel
theorem h_AL_add_61 : decode prog_36_method_26_code 61 = .ok (.putfield 48, 3) := by decide +kernel
theorem h_AL_add_64 : decode prog_36_method_26_code 64 = .ok (.return_, 1) := by decide +kernel
def x_AL_add_38 (a0 : Nat) (a2 : Nat) (P : CST → Prop) (z1 : Int32) (z3 : Int32) (z4 : Option Nat) (σ : CST) : Prop := (∃ r1 : Nat, z4 = some r1 ∧ ((∃ n3 : Nat, σ.1 r1 = some (27, n3) ∧ ((¬ (z1 : Int32) < 0 ∧ ¬ ((z1 + 1) : Int32) < 0 ∧ ¬ ((z3 - z1) : Int32) < 0 ∧ (z1 : Int32).toNatClampNeg + ((z3 - z1) : Int32).toNatClampNeg ≤ n3 ∧ ((z1 + 1) : Int32).toNatClampNeg + ((z3 - z1) : Int32).toNatClampNeg ≤ n3 ∧ (∀ i : Nat, i < ((z3 - z1) : Int32).toNatClampNeg → ∀ y : Nat, σ.2.2.2.1 r1 ((z1 : Int32).toNatClampNeg + i) = some y → σ.1 y = some (7, 0)) ∧ (∀ σ10 : CST, σ10 = sB σ r1 (va_cpy (σ.2.2.2.1 r1) (σ.2.2.2.1 r1) (z1 : Int32).toNatClampNeg ((z1 + 1) : Int32).toNatClampNeg ((z3 - z1) : Int32).toNatClampNeg) → (∃ n12 : Nat, σ10.1 r1 = some (27, n12) ∧ (σ10.1 a2 = some (7, 0) ∧ (vp_in z1 n12 ∧ (∀ σ15 : CST, σ15 = sR σ10 r1 (z1 : Int32).toNatClampNeg (some a2) → σ15.1 a0 = some (6, 0) ∧ (∀ σ17 : CST, σ17 = sI σ15 a0 2 (z3 + 1) → P σ17)))))))))))
def x_AL_add (a0 : Nat) (x1 : Int32) (a2 : Nat) (σ0 : CST) (P : CST → Prop) : Prop := σ0.1 a0 = some (6, 0) ∧ (x_AL_rangeCheckForAdd a0 x1 σ0 (fun σ19 => σ19.1 a0 = some (6, 0) ∧ (∀ σ22 : CST, σ22 = sI σ19 a0 0 ((σ19.2.1 a0 0) + 1) → σ22.1 a0 = some (6, 0) ∧ (∀ b24 : Option Nat, b24 = (σ22.2.2.2.1 a0 1) → (∃ r25 : Nat, b24 = some r25 ∧ ((∃ n26 : Nat, ((r25 = σ22.2.2.2.2.2.2.1 ∧ n26 = 0) ∨ σ22.1 r25 = some (27, n26)) ∧ ((((σ22.2.1 a0 2) = (Int32.ofNat n26) → x_AL_grow2 a0 σ22 (fun r30 σ29 => x_AL_add_38 a0 a2 P x1 (σ22.2.1 a0 2) r30 σ29)) ∧ (¬ (σ22.2.1 a0 2) = (Int32.ofNat n26) → x_AL_add_38 a0 a2 P x1 (σ22.2.1 a0 2) (some r25) σ22))))))))))
set_option maxHeartbeats 4000000 in
set_option maxRecDepth 100000 in
theorem X_AL_add (l : Launch) (dC : Nat → ClassId) (dI : Nat → Nat → Nat) (ca : Nat → ClassId) (H0 : Heap) (σ0 : CST) (a0 : Nat) (x1 : Int32) (a2 : Nat) {P : CST → Prop} (hw : x_AL_add a0 x1 a2 σ0 P) : Met l g_AL_add (mW g_AL_add prog_36_method_26_code 5 none) ({ frames := 5, cells := σ0.2.2.2.2.1, slots := σ0.2.2.2.2.2.1, locals := 187 } : Room) (va_Pc [.ref a0, .int x1, .ref a2] (CPre (dC, dI) ca σ0 H0)) (va_Qv P (CB (dC, dI) ca σ0 H0) (cA σ0 H0.size)) σ0.2.2.2.2.1 σ0.2.2.2.2.2.1 (cA σ0 H0.size) := by
  refine C_ofv (by decide +kernel) rfl rfl rfl (Nat.le_of_ble_eq_true rfl) ?_
  intro p e s m below meth cx Q A ls C hnm hend hH0 h hl
  subst hH0
  have C0 := C
  obtain ⟨⟨hx, hb, hml, hown, hts⟩, hsub⟩ := C0
  obtain ⟨cells, e_cells⟩ : ∃ z : Nat, z = 0 := ⟨_, rfl⟩
  obtain ⟨slots, e_slots⟩ : ∃ z : Nat, z = 0 := ⟨_, rfl⟩
  have h : CH (dC, dI) A ca ({ frames := 5, cells := σ0.2.2.2.2.1, slots := σ0.2.2.2.2.2.1, locals := 187 } : Room) σ0.2.2.2.2.2.2 σ0 s s.heap [] cells slots := by rw [e_cells, e_slots]; exact h
  show W p l e ({ frames := 5, cells := σ0.2.2.2.2.1, slots := σ0.2.2.2.2.2.1, locals := 187 } : Room) s m ([.ref a0, .int x1, .ref a2] : List Value).toArray below meth cx s.heap [] 0 0 Q (F0 m 0 ls [])
  rw [show W p l e ({ frames := 5, cells := σ0.2.2.2.2.1, slots := σ0.2.2.2.2.2.1, locals := 187 } : Room) s m ([.ref a0, .int x1, .ref a2] : List Value).toArray below meth cx s.heap [] 0 0 Q (F0 m 0 ls []) = W p l e ({ frames := 5, cells := σ0.2.2.2.2.1, slots := σ0.2.2.2.2.2.1, locals := 187 } : Room) s m ([.ref a0, .int x1, .ref a2] : List Value).toArray below meth cx s.heap [] cells slots Q (F0 m 0 ls []) by rw [e_cells, e_slots]]
  have K_38 : ∀ (u9 : Unit), ∀ (z1 : Int32) (z3 : Int32) (z4 : Option Nat) (σ : CST) (H : Heap) (locs : List Loc) (cells slots : Nat) (ls : Array Slot), x_AL_add_38 a0 a2 P z1 z3 z4 σ → CH (dC, dI) A ca ({ frames := 5, cells := σ0.2.2.2.2.1, slots := σ0.2.2.2.2.2.1, locals := 187 } : Room) σ0.2.2.2.2.2.2 σ s H locs cells slots → lv_has ls 5 [(0, .ref a0), (1, .int z1), (2, .ref a2), (3, .int z3), (4, va_rf z4)] → W p l e ({ frames := 5, cells := σ0.2.2.2.2.1, slots := σ0.2.2.2.2.2.1, locals := 187 } : Room) s m ([.ref a0, .int x1, .ref a2] : List Value).toArray below meth cx H locs cells slots Q (F0 m 38 ls []) := by
    intro u9 z1 z3 z4 σ H locs cells slots ls hw h hl
    unfold x_AL_add_38 at hw
    refine cq_aload hx hb h_AL_add_38 (lv_at hl 4 rfl) ?_
    refine lv_iload_n hx hb h_AL_add_40 rfl (lv_at hl 1 rfl) ?_
    refine cq_aload hx hb h_AL_add_41 (lv_at hl 4 rfl) ?_
    refine lv_iload_n hx hb h_AL_add_43 rfl (lv_at hl 1 rfl) ?_
    refine lv_iconst (v := 1) hx hb h_AL_add_44 (by decide) ?_
    refine lv_iadd hx hb h_AL_add_45 ?_
    refine lv_iload_n hx hb h_AL_add_46 rfl (lv_at hl 3 rfl) ?_
    refine lv_iload_n hx hb h_AL_add_47 rfl (lv_at hl 1 rfl) ?_
    refine lv_isub hx hb h_AL_add_48 ?_
    obtain ⟨r1, e_r1, hw⟩ := hw
    subst e_r1
    have hl : lv_has ls 5 [(0, .ref a0), (1, .int z1), (2, .ref a2), (3, .int z3), (4, .ref r1)] := hl
    refine W.eq (g2 := F0 m 49 ls [.int (z3 - z1), .int (z1 + 1), .ref r1, .int z1, .ref r1]) rfl ?_
    obtain ⟨n3, g2, hw⟩ := hw
    obtain ⟨g4, g5, g6, g7, g8, hw⟩ := hw
    obtain ⟨g9, hw⟩ := hw
    refine C_copyq C h hl.1 u_121 u_32 u_33 u_34 g2 g2 g4 g5 g6 g7 g8 g9 (Nat.le_of_ble_eq_true rfl) (Nat.le_of_ble_eq_true rfl) h_AL_add_49 (fun H locs h => ?_)
    obtain ⟨σ10, e_σ10⟩ : ∃ z : CST, z = sB σ r1 (va_cpy (σ.2.2.2.1 r1) (σ.2.2.2.1 r1) (z1 : Int32).toNatClampNeg ((z1 + 1) : Int32).toNatClampNeg ((z3 - z1) : Int32).toNatClampNeg) := ⟨_, rfl⟩
    rw [← e_σ10] at h
    replace hw := hw σ10 e_σ10
    refine lv_aload hx hb h_AL_add_52 (lv_at hl 4 rfl) ?_
    refine lv_iload_n hx hb h_AL_add_54 rfl (lv_at hl 1 rfl) ?_
    refine lv_aload_n hx hb h_AL_add_55 rfl (lv_at hl 2 rfl) ?_
    obtain ⟨n12, g11, hw⟩ := hw
    obtain ⟨g13, hw⟩ := hw
    obtain ⟨g14, hw⟩ := hw
    refine C_aastO C h 27 6 (r := (R_Ha, T_Ha, 4)) rfl h.2.2.2.2.1.2.2.2.2.2.2.2.2.1 g13 rfl (by decide) (by decide) g11 g14 h_AL_add_56 (fun H locs h => ?_)
    obtain ⟨σ15, e_σ15⟩ : ∃ z : CST, z = sR σ10 r1 (z1 : Int32).toNatClampNeg (some a2) := ⟨_, rfl⟩
    rw [← e_σ15] at h
    replace hw := hw σ15 e_σ15
    refine lv_aload_n hx hb h_AL_add_57 rfl (lv_at hl 0 rfl) ?_
    refine lv_iload_n hx hb h_AL_add_58 rfl (lv_at hl 3 rfl) ?_
    refine lv_iconst (v := 1) hx hb h_AL_add_59 (by decide) ?_
    refine lv_iadd hx hb h_AL_add_60 ?_
    obtain ⟨g16, hw⟩ := hw
    refine C_puti C h 6 2 g16 (Cn := R_A) (T := T_A) (N := 3) rfl (by decide) rfl uw_A tok_A nm_A (by decide) rfl u_104 (fun _ q => q) (Or.inl rfl) (by decide +kernel) h_AL_add_61 (fun H locs h => ?_)
    obtain ⟨σ17, e_σ17⟩ : ∃ z : CST, z = sI σ15 a0 2 (z3 + 1) := ⟨_, rfl⟩
    rw [← e_σ17] at h
    replace hw := hw σ17 e_σ17
    exact hend σ17 _ _ _ _ _ _ hw h h_AL_add_64
  have hl : lv_has ls 5 [(0, .ref a0), (1, .int x1), (2, .ref a2)] := hl
  unfold x_AL_add at hw
  refine lv_aload_n hx hb h_AL_add_0 rfl (lv_at hl 0 rfl) ?_
  refine lv_iload_n hx hb h_AL_add_1 rfl (lv_at hl 1 rfl) ?_
  obtain ⟨g18, hw⟩ := hw
  refine C_callVv (As := [.int x1]) (rest := []) C h (ci := 6) (Cn := R_A) (T := T_A) (N := 3) g18 rfl (by decide) (X_AL_rangeCheckForAdd l dC dI ca s.heap σ0 a0 x1 hw) (cwV 1 hts (gV hsub u_153 u_154 u_155 u_117 u_156) rfl rfl rfl (by decide +kernel) ⟨(Nat.le_of_ble_eq_true rfl), (Nat.le_of_ble_eq_true rfl)⟩) rfl hl.1 (Nat.le_of_ble_eq_true rfl) h_AL_add_2 (fun σ19 H locs cells slots hw9 h9 => ?_)
  clear hw h; have hw := hw9; have h := h9; clear hw9 h9
  refine W.eq (g2 := F0 m 5 ls []) rfl ?_
  refine lv_aload_n hx hb h_AL_add_5 rfl (lv_at hl 0 rfl) ?_
  refine lv_dup hx hb h_AL_add_6 rfl ?_
  obtain ⟨g21, hw⟩ := hw
  refine C_get C h 6 0 (v := .int (σ19.2.1 a0 0)) g21 rfl (Cn := R_A) (T := T_A) (N := 3) rfl (by decide) rfl uw_A (by decide) u_119 (u_same (hts _ (hsub _ u_120))) h_AL_add_7 ?_
  refine lv_iconst (v := 1) hx hb h_AL_add_10 (by decide) ?_
  refine lv_iadd hx hb h_AL_add_11 ?_
  refine C_puti C h 6 0 g21 (Cn := R_A) (T := T_A) (N := 3) rfl (by decide) rfl uw_A tok_A nm_A (by decide) rfl u_119 (u_same (hts _ (hsub _ u_120))) (Or.inl rfl) (by decide +kernel) h_AL_add_12 (fun H locs h => ?_)
  obtain ⟨σ22, e_σ22⟩ : ∃ z : CST, z = sI σ19 a0 0 ((σ19.2.1 a0 0) + 1) := ⟨_, rfl⟩
  rw [← e_σ22] at h
  replace hw := hw σ22 e_σ22
  refine lv_aload_n hx hb h_AL_add_15 rfl (lv_at hl 0 rfl) ?_
  obtain ⟨g23, hw⟩ := hw
  refine C_get C h 6 2 (v := .int (σ22.2.1 a0 2)) g23 rfl (Cn := R_A) (T := T_A) (N := 3) rfl (by decide) rfl uw_A (by decide) u_104 (fun _ q => q) h_AL_add_16 ?_
  refine lv_dup hx hb h_AL_add_19 rfl ?_
  refine lv_istore_n (i := 3) (lv' := [(3, .int (σ22.2.1 a0 2)), (0, .ref a0), (1, .int x1), (2, .ref a2)]) hx hb h_AL_add_20 rfl hl (by decide) rfl (fun ls hl => ?_)
  refine lv_aload_n hx hb h_AL_add_21 rfl (lv_at hl 1 rfl) ?_
  refine C_get C h 6 1 (v := va_rf (σ22.2.2.2.1 a0 1)) g23 rfl (Cn := R_A) (T := T_A) (N := 3) rfl (by decide) rfl uw_A (by decide) u_109 (fun _ q => q) h_AL_add_22 ?_
  refine lv_topq (fun b24 e_b24 => ?_)
  replace hw := hw b24 e_b24
  refine lv_dup hx hb h_AL_add_25 (cq_cat _) ?_
  refine cq_astore (lv' := [(4, va_rf b24), (3, .int (σ22.2.1 a0 2)), (0, .ref a0), (1, .int x1), (2, .ref a2)]) hx hb h_AL_add_26 hl (by decide) rfl (fun ls hl => ?_)
  obtain ⟨r25, e_r25, hw⟩ := hw
  subst e_r25
  have hl : lv_has ls 5 [(4, .ref r25), (3, .int (σ22.2.1 a0 2)), (0, .ref a0), (1, .int x1), (2, .ref a2)] := hl
  refine W.eq (g2 := F0 m 28 ls [.ref r25, .int (σ22.2.1 a0 2)]) rfl ?_
  obtain ⟨n26, g27, hw⟩ := hw
  refine C_alenO C h g27 h_AL_add_28 ?_
  refine lv_icmp_ne (tgt := 38) hx hb h_AL_add_29 (by decide) (fun c28 => ?_) (fun c28 => ?_)
  · skip
    replace hw := hw.2 c28
    exact K_38 () x1 (σ22.2.1 a0 2) (some r25) σ22 _ _ _ _ _ hw h (lv_sub hl [2, 3, 4, 1, 0] rfl)
  · skip
    replace hw := hw.1 c28
    refine lv_aload_n hx hb h_AL_add_32 rfl (lv_at hl 2 rfl) ?_
    refine C_callVq (As := []) (rest := []) C h (ci := 6) (Cn := R_A) (T := T_A) (N := 3) g23 rfl (by decide) (X_AL_grow2 l dC dI ca H σ22 a0 hw) (cwV 0 hts (gV hsub u_157 u_158 u_159 u_117 u_160) rfl rfl rfl (by decide +kernel) ⟨(Nat.le_of_ble_eq_true rfl), (Nat.le_of_ble_eq_true rfl)⟩) rfl hl.1 (Nat.le_of_ble_eq_true rfl) h_AL_add_33 (fun r30 σ29 H locs cells slots hw9 h9 => ?_)
    clear hw h; have hw := hw9; have h := h9; clear hw9 h9
    refine W.eq (g2 := F0 m 36 ls [va_rf r30]) rfl ?_
    refine cq_astore (lv' := [(4, va_rf r30), (3, .int (σ22.2.1 a0 2)), (0, .ref a0), (1, .int x1), (2, .ref a2)]) hx hb h_AL_add_36 hl (by decide) rfl (fun ls hl => ?_)
    exact K_38 () x1 (σ22.2.1 a0 2) r30 σ29 _ _ _ _ _ hw h (lv_sub hl [2, 3, 4, 1, 0] rfl)
abbrev g_Ha_cut : MethodName := ⟨"MapFramer$Handler", "cut", "(Ljava/util/ArrayList;II)V"⟩
theorem u_161 : (Cond.classLink "MapFramer$Handler" 8 "MapFramer$Handler" : Cond) ∈ bigW := inB_5 87 (by decide +kernel) rfl
theorem u_162 : (Cond.instantiable "MapFramer$Handler" 4 : Cond) ∈ bigW := inB_3 43 (by decide +kernel) rfl
theorem u_163 : (Cond.initialized "MapFramer$Handler" : Cond) ∈ bigW := inB_1 19 (by decide +kernel) rfl
theorem u_164 : (Cond.code ⟨"MapFramer$Handler", "<init>", "(IIII)V"⟩ prog_4_method_1_code 5 none : Cond) ∈ bigW := inB_3 46 rfl rfl
theorem u_165 : (Cond.methodLink "MapFramer$Handler" 35 ⟨"MapFramer$Handler", "<init>", "(IIII)V"⟩ : Cond) ∈ bigW := inB_5 97 (by decide +kernel) rfl
theorem u_166 : (Cond.instanceMethod ⟨"MapFramer$Handler", "<init>", "(IIII)V"⟩ : Cond) ∈ bigW := inB_3 45 (by decide +kernel) rfl
theorem u_167 : (Cond.methodLink "MapFramer$Handler" 38 ⟨"java/util/ArrayList", "add", "(ILjava/lang/Object;)V"⟩ : Cond) ∈ bigW := inB_5 98 (by decide +kernel) rfl
theorem u_168 : (Cond.instanceMethod ⟨"java/util/ArrayList", "add", "(ILjava/lang/Object;)V"⟩ : Cond) ∈ bigW := inB_5 99 (by decide +kernel) rfl
theorem u_169 : (Cond.selects "java/util/ArrayList" ⟨"java/util/ArrayList", "add", "(ILjava/lang/Object;)V"⟩ ⟨"java/util/ArrayList", "add", "(ILjava/lang/Object;)V"⟩ : Cond) ∈ bigW := inB_5 100 (by decide +kernel) rfl
theorem u_170 : (Cond.code ⟨"java/util/ArrayList", "add", "(ILjava/lang/Object;)V"⟩ prog_36_method_26_code 5 none : Cond) ∈ bigW := inB_5 101 rfl rfl
theorem u_171 : (Cond.methodLink "MapFramer$Handler" 28 ⟨"java/util/ArrayList", "get", "(I)Ljava/lang/Object;"⟩ : Cond) ∈ bigW := inB_5 86 (by decide +kernel) rfl
theorem u_172 : (Cond.instanceMethod ⟨"java/util/ArrayList", "get", "(I)Ljava/lang/Object;"⟩ : Cond) ∈ bigW := inB_4 48 (by decide +kernel) rfl
theorem u_173 : (Cond.selects "java/util/ArrayList" ⟨"java/util/ArrayList", "get", "(I)Ljava/lang/Object;"⟩ ⟨"java/util/ArrayList", "get", "(I)Ljava/lang/Object;"⟩ : Cond) ∈ bigW := inB_4 49 (by decide +kernel) rfl
theorem u_174 : (Cond.code ⟨"java/util/ArrayList", "get", "(I)Ljava/lang/Object;"⟩ prog_36_method_20_code 2 (some (.object "java/lang/Object")) : Cond) ∈ bigW := inB_4 50 rfl rfl
theorem u_175 : (Cond.methodLink "MapFramer$Handler" 32 ⟨"java/util/ArrayList", "remove", "(I)Ljava/lang/Object;"⟩ : Cond) ∈ bigW := inB_5 88 (by decide +kernel) rfl
theorem u_176 : (Cond.instanceMethod ⟨"java/util/ArrayList", "remove", "(I)Ljava/lang/Object;"⟩ : Cond) ∈ bigW := inB_5 89 (by decide +kernel) rfl
theorem u_177 : (Cond.selects "java/util/ArrayList" ⟨"java/util/ArrayList", "remove", "(I)Ljava/lang/Object;"⟩ ⟨"java/util/ArrayList", "remove", "(I)Ljava/lang/Object;"⟩ : Cond) ∈ bigW := inB_5 90 (by decide +kernel) rfl
theorem u_178 : (Cond.code ⟨"java/util/ArrayList", "remove", "(I)Ljava/lang/Object;"⟩ prog_36_method_29_code 4 (some (.object "java/lang/Object")) : Cond) ∈ bigW := inB_5 91 rfl rfl
theorem u_179 : (Cond.methodLink "MapFramer$Handler" 22 ⟨"java/util/ArrayList", "size", "()I"⟩ : Cond) ∈ bigW := inB_5 85 (by decide +kernel) rfl
theorem u_180 : (Cond.instanceMethod ⟨"java/util/ArrayList", "size", "()I"⟩ : Cond) ∈ bigW := inB_3 38 (by decide +kernel) rfl
theorem u_181 : (Cond.selects "java/util/ArrayList" ⟨"java/util/ArrayList", "size", "()I"⟩ ⟨"java/util/ArrayList", "size", "()I"⟩ : Cond) ∈ bigW := inB_3 39 (by decide +kernel) rfl
theorem u_182 : (Cond.code ⟨"java/util/ArrayList", "size", "()I"⟩ prog_36_method_8_code 1 (some .int) : Cond) ∈ bigW := inB_3 40 rfl rfl
theorem h_Ha_cut_0 : decode prog_4_method_3_code 0 = .ok (.aload_n 0, 1) := by decide +kernel
theorem h_Ha_cut_1 : decode prog_4_method_3_code 1 = .ok (.invokevirtual 22, 3) := by decide +kernel
theorem h_Ha_cut_4 : decode prog_4_method_3_code 4 = .ok (.iconst 1, 1) := by decide +kernel
theorem h_Ha_cut_5 : decode prog_4_method_3_code 5 = .ok (.isub, 1) := by decide +kernel
theorem h_Ha_cut_6 : decode prog_4_method_3_code 6 = .ok (.istore_n 3, 1) := by decide +kernel
theorem h_Ha_cut_7 : decode prog_4_method_3_code 7 = .ok (.iload_n 3, 1) := by decide +kernel
theorem h_Ha_cut_8 : decode prog_4_method_3_code 8 = .ok (.ifCond .lt 120, 3) := by decide +kernel
theorem h_Ha_cut_11 : decode prog_4_method_3_code 11 = .ok (.aload_n 0, 1) := by decide +kernel
theorem h_Ha_cut_12 : decode prog_4_method_3_code 12 = .ok (.iload_n 3, 1) := by decide +kernel
theorem h_Ha_cut_13 : decode prog_4_method_3_code 13 = .ok (.invokevirtual 28, 3) := by decide +kernel
theorem h_Ha_cut_16 : decode prog_4_method_3_code 16 = .ok (.checkcast 8, 3) := by decide +kernel
theorem h_Ha_cut_19 : decode prog_4_method_3_code 19 = .ok (.astore 4, 2) := by decide +kernel
theorem h_Ha_cut_21 : decode prog_4_method_3_code 21 = .ok (.aload 4, 2) := by decide +kernel
theorem h_Ha_cut_23 : decode prog_4_method_3_code 23 = .ok (.getfield 13, 3) := by decide +kernel
theorem h_Ha_cut_26 : decode prog_4_method_3_code 26 = .ok (.iload_n 1, 1) := by decide +kernel
theorem h_Ha_cut_27 : decode prog_4_method_3_code 27 = .ok (.if_icmp .le 95, 3) := by decide +kernel
theorem h_Ha_cut_30 : decode prog_4_method_3_code 30 = .ok (.iload_n 2, 1) := by decide +kernel
theorem h_Ha_cut_31 : decode prog_4_method_3_code 31 = .ok (.aload 4, 2) := by decide +kernel
theorem h_Ha_cut_33 : decode prog_4_method_3_code 33 = .ok (.getfield 7, 3) := by decide +kernel
theorem h_Ha_cut_36 : decode prog_4_method_3_code 36 = .ok (.if_icmp .gt 6, 3) := by decide +kernel
theorem h_Ha_cut_39 : decode prog_4_method_3_code 39 = .ok (.goto 83, 3) := by decide +kernel
theorem h_Ha_cut_42 : decode prog_4_method_3_code 42 = .ok (.aload_n 0, 1) := by decide +kernel
theorem h_Ha_cut_43 : decode prog_4_method_3_code 43 = .ok (.iload_n 3, 1) := by decide +kernel
theorem h_Ha_cut_44 : decode prog_4_method_3_code 44 = .ok (.invokevirtual 32, 3) := by decide +kernel
theorem h_Ha_cut_47 : decode prog_4_method_3_code 47 = .ok (.pop, 1) := by decide +kernel
theorem h_Ha_cut_48 : decode prog_4_method_3_code 48 = .ok (.iload_n 2, 1) := by decide +kernel
theorem h_Ha_cut_49 : decode prog_4_method_3_code 49 = .ok (.aload 4, 2) := by decide +kernel
theorem h_Ha_cut_51 : decode prog_4_method_3_code 51 = .ok (.getfield 13, 3) := by decide +kernel
theorem h_Ha_cut_54 : decode prog_4_method_3_code 54 = .ok (.if_icmp .ge 31, 3) := by decide +kernel
theorem h_Ha_cut_57 : decode prog_4_method_3_code 57 = .ok (.aload_n 0, 1) := by decide +kernel
theorem h_Ha_cut_58 : decode prog_4_method_3_code 58 = .ok (.iload_n 3, 1) := by decide +kernel
theorem h_Ha_cut_59 : decode prog_4_method_3_code 59 = .ok (.new 8, 3) := by decide +kernel
theorem h_Ha_cut_62 : decode prog_4_method_3_code 62 = .ok (.dup, 1) := by decide +kernel
theorem h_Ha_cut_63 : decode prog_4_method_3_code 63 = .ok (.iload_n 2, 1) := by decide +kernel
theorem h_Ha_cut_64 : decode prog_4_method_3_code 64 = .ok (.aload 4, 2) := by decide +kernel
theorem h_Ha_cut_66 : decode prog_4_method_3_code 66 = .ok (.getfield 13, 3) := by decide +kernel
theorem h_Ha_cut_69 : decode prog_4_method_3_code 69 = .ok (.aload 4, 2) := by decide +kernel
theorem h_Ha_cut_71 : decode prog_4_method_3_code 71 = .ok (.getfield 16, 3) := by decide +kernel
theorem h_Ha_cut_74 : decode prog_4_method_3_code 74 = .ok (.aload 4, 2) := by decide +kernel
theorem h_Ha_cut_76 : decode prog_4_method_3_code 76 = .ok (.getfield 19, 3) := by decide +kernel
theorem h_Ha_cut_79 : decode prog_4_method_3_code 79 = .ok (.invokespecial 35, 3) := by decide +kernel
theorem h_Ha_cut_82 : decode prog_4_method_3_code 82 = .ok (.invokevirtual 38, 3) := by decide +kernel
theorem h_Ha_cut_85 : decode prog_4_method_3_code 85 = .ok (.aload 4, 2) := by decide +kernel
theorem h_Ha_cut_87 : decode prog_4_method_3_code 87 = .ok (.getfield 7, 3) := by decide +kernel
theorem h_Ha_cut_90 : decode prog_4_method_3_code 90 = .ok (.iload_n 1, 1) := by decide +kernel
theorem h_Ha_cut_91 : decode prog_4_method_3_code 91 = .ok (.if_icmp .ge 31, 3) := by decide +kernel
theorem h_Ha_cut_94 : decode prog_4_method_3_code 94 = .ok (.aload_n 0, 1) := by decide +kernel
theorem h_Ha_cut_95 : decode prog_4_method_3_code 95 = .ok (.iload_n 3, 1) := by decide +kernel
theorem h_Ha_cut_96 : decode prog_4_method_3_code 96 = .ok (.new 8, 3) := by decide +kernel
theorem h_Ha_cut_99 : decode prog_4_method_3_code 99 = .ok (.dup, 1) := by decide +kernel
theorem h_Ha_cut_100 : decode prog_4_method_3_code 100 = .ok (.aload 4, 2) := by decide +kernel
theorem h_Ha_cut_102 : decode prog_4_method_3_code 102 = .ok (.getfield 7, 3) := by decide +kernel
theorem h_Ha_cut_105 : decode prog_4_method_3_code 105 = .ok (.iload_n 1, 1) := by decide +kernel
theorem h_Ha_cut_106 : decode prog_4_method_3_code 106 = .ok (.aload 4, 2) := by decide +kernel
theorem h_Ha_cut_108 : decode prog_4_method_3_code 108 = .ok (.getfield 16, 3) := by decide +kernel
theorem h_Ha_cut_111 : decode prog_4_method_3_code 111 = .ok (.aload 4, 2) := by decide +kernel
theorem h_Ha_cut_113 : decode prog_4_method_3_code 113 = .ok (.getfield 19, 3) := by decide +kernel
theorem h_Ha_cut_116 : decode prog_4_method_3_code 116 = .ok (.invokespecial 35, 3) := by decide +kernel
theorem h_Ha_cut_119 : decode prog_4_method_3_code 119 = .ok (.invokevirtual 38, 3) := by decide +kernel
theorem h_Ha_cut_122 : decode prog_4_method_3_code 122 = .ok (.iinc 3 (-1), 3) := by decide +kernel
theorem h_Ha_cut_125 : decode prog_4_method_3_code 125 = .ok (.goto (-118), 3) := by decide +kernel
theorem h_Ha_cut_128 : decode prog_4_method_3_code 128 = .ok (.return_, 1) := by decide +kernel
def x_Ha_cut_122 (a0 : Nat) (K7 : Int32 → Int32 → Int32 → CST → Prop) (P : CST → Prop) (z1 : Int32) (z2 : Int32) (z3 : Int32) (σ : CST) : Prop := K7 z1 z2 (z3 + (-1)) σ
def x_Ha_cut_85 (a0 : Nat) (K7 : Int32 → Int32 → Int32 → CST → Prop) (P : CST → Prop) (z1 : Int32) (z2 : Int32) (z3 : Int32) (z4 : Option Nat) (σ : CST) : Prop := (∃ r1 : Nat, z4 = some r1 ∧ (σ.1 r1 = some (7, 0) ∧ (((z1 ≤ (σ.2.1 r1 0) → x_Ha_cut_122 a0 K7 P z1 z2 z3 σ) ∧ (¬ z1 ≤ (σ.2.1 r1 0) → (1 ≤ σ.2.2.2.2.1 ∧ 4 ≤ σ.2.2.2.2.2.1 ∧ ∀ q4 : Nat, σ.1 q4 = none → q4 ≠ σ.2.2.2.2.2.2.1 → ∀ σ8 : CST, σ8 = nw σ q4 7 0 4 → σ8.1 r1 = some (7, 0) ∧ (x_Ha_init q4 (σ8.2.1 r1 0) z1 (σ8.2.1 r1 2) (σ8.2.1 r1 3) σ8 (fun σ10 => σ10.1 a0 = some (6, 0) ∧ (x_AL_add a0 z3 q4 σ10 (fun σ13 => x_Ha_cut_122 a0 K7 P z1 z2 z3 σ13))))))))))
def x_Ha_cut_7 (a0 : Nat) (P : CST → Prop) : Nat → Int32 → Int32 → Int32 → CST → Prop
  | 0, _, _, _, _ => False
  | n + 1, z1, z2, z3, σ => ((z3 < 0 → P σ) ∧ (¬ z3 < 0 → σ.1 a0 = some (6, 0) ∧ (x_AL_get a0 z3 σ (fun r18 σ17 => ((r18 = none → False) ∧ (∀ r20 : Nat, r18 = some r20 → σ17.1 r20 = some (7, 0) ∧ ((((σ17.2.1 r20 1) ≤ z1 → x_Ha_cut_122 a0 (x_Ha_cut_7 a0 P n) P z1 z2 z3 σ17) ∧ (¬ (σ17.2.1 r20 1) ≤ z1 → (((σ17.2.1 r20 0) < z2 → σ17.1 a0 = some (6, 0) ∧ (x_AL_remove a0 z3 σ17 (fun r26 σ25 => σ25.1 r20 = some (7, 0) ∧ ((((σ25.2.1 r20 1) ≤ z2 → x_Ha_cut_85 a0 (x_Ha_cut_7 a0 P n) P z1 z2 z3 (some r20) σ25) ∧ (¬ (σ25.2.1 r20 1) ≤ z2 → (1 ≤ σ25.2.2.2.2.1 ∧ 4 ≤ σ25.2.2.2.2.2.1 ∧ ∀ q29 : Nat, σ25.1 q29 = none → q29 ≠ σ25.2.2.2.2.2.2.1 → ∀ σ33 : CST, σ33 = nw σ25 q29 7 0 4 → σ33.1 r20 = some (7, 0) ∧ (x_Ha_init q29 z2 (σ33.2.1 r20 1) (σ33.2.1 r20 2) (σ33.2.1 r20 3) σ33 (fun σ35 => σ35.1 a0 = some (6, 0) ∧ (x_AL_add a0 z3 q29 σ35 (fun σ38 => x_Ha_cut_85 a0 (x_Ha_cut_7 a0 P n) P z1 z2 z3 (some r20) σ38))))))))))) ∧ (¬ (σ17.2.1 r20 0) < z2 → x_Ha_cut_122 a0 (x_Ha_cut_7 a0 P n) P z1 z2 z3 σ17)))))))))))
def x_Ha_cut (a0 : Nat) (x1 : Int32) (x2 : Int32) (σ0 : CST) (P : CST → Prop) : Prop := σ0.1 a0 = some (6, 0) ∧ (x_AL_size a0 σ0 (fun r42 σ41 => (∃ n9 : Nat, x_Ha_cut_7 a0 P n9 x1 x2 (r42 - 1) σ41)))
set_option maxHeartbeats 4000000 in
set_option maxRecDepth 100000 in
theorem X_Ha_cut (l : Launch) (dC : Nat → ClassId) (dI : Nat → Nat → Nat) (ca : Nat → ClassId) (H0 : Heap) (σ0 : CST) (a0 : Nat) (x1 : Int32) (x2 : Int32) {P : CST → Prop} (hw : x_Ha_cut a0 x1 x2 σ0 P) : Met l g_Ha_cut (mW g_Ha_cut prog_4_method_3_code 5 none) ({ frames := 6, cells := σ0.2.2.2.2.1, slots := σ0.2.2.2.2.2.1, locals := 211 } : Room) (va_Pc [.ref a0, .int x1, .int x2] (CPre (dC, dI) ca σ0 H0)) (va_Qv P (CB (dC, dI) ca σ0 H0) (cA σ0 H0.size)) σ0.2.2.2.2.1 σ0.2.2.2.2.2.1 (cA σ0 H0.size) := by
  refine C_ofv (by decide +kernel) rfl rfl rfl (Nat.le_of_ble_eq_true rfl) ?_
  intro p e s m below meth cx Q A ls C hnm hend hH0 h hl
  subst hH0
  have C0 := C
  obtain ⟨⟨hx, hb, hml, hown, hts⟩, hsub⟩ := C0
  obtain ⟨cells, e_cells⟩ : ∃ z : Nat, z = 0 := ⟨_, rfl⟩
  obtain ⟨slots, e_slots⟩ : ∃ z : Nat, z = 0 := ⟨_, rfl⟩
  have h : CH (dC, dI) A ca ({ frames := 6, cells := σ0.2.2.2.2.1, slots := σ0.2.2.2.2.2.1, locals := 211 } : Room) σ0.2.2.2.2.2.2 σ0 s s.heap [] cells slots := by rw [e_cells, e_slots]; exact h
  show W p l e ({ frames := 6, cells := σ0.2.2.2.2.1, slots := σ0.2.2.2.2.2.1, locals := 211 } : Room) s m ([.ref a0, .int x1, .int x2] : List Value).toArray below meth cx s.heap [] 0 0 Q (F0 m 0 ls [])
  rw [show W p l e ({ frames := 6, cells := σ0.2.2.2.2.1, slots := σ0.2.2.2.2.2.1, locals := 211 } : Room) s m ([.ref a0, .int x1, .int x2] : List Value).toArray below meth cx s.heap [] 0 0 Q (F0 m 0 ls []) = W p l e ({ frames := 6, cells := σ0.2.2.2.2.1, slots := σ0.2.2.2.2.2.1, locals := 211 } : Room) s m ([.ref a0, .int x1, .int x2] : List Value).toArray below meth cx s.heap [] cells slots Q (F0 m 0 ls []) by rw [e_cells, e_slots]]
  have K_122 : ∀ (K7 : Int32 → Int32 → Int32 → CST → Prop) (hK7 : ∀ (z1 : Int32) (z2 : Int32) (z3 : Int32) (σ : CST) (H : Heap) (locs : List Loc) (cells slots : Nat) (ls : Array Slot), K7 z1 z2 z3 σ → CH (dC, dI) A ca ({ frames := 6, cells := σ0.2.2.2.2.1, slots := σ0.2.2.2.2.2.1, locals := 211 } : Room) σ0.2.2.2.2.2.2 σ s H locs cells slots → lv_has ls 5 [(0, .ref a0), (1, .int z1), (2, .int z2), (3, .int z3)] → W p l e ({ frames := 6, cells := σ0.2.2.2.2.1, slots := σ0.2.2.2.2.2.1, locals := 211 } : Room) s m ([.ref a0, .int x1, .int x2] : List Value).toArray below meth cx H locs cells slots Q (F0 m 7 ls [])), ∀ (z1 : Int32) (z2 : Int32) (z3 : Int32) (σ : CST) (H : Heap) (locs : List Loc) (cells slots : Nat) (ls : Array Slot), x_Ha_cut_122 a0 K7 P z1 z2 z3 σ → CH (dC, dI) A ca ({ frames := 6, cells := σ0.2.2.2.2.1, slots := σ0.2.2.2.2.2.1, locals := 211 } : Room) σ0.2.2.2.2.2.2 σ s H locs cells slots → lv_has ls 5 [(0, .ref a0), (1, .int z1), (2, .int z2), (3, .int z3)] → W p l e ({ frames := 6, cells := σ0.2.2.2.2.1, slots := σ0.2.2.2.2.2.1, locals := 211 } : Room) s m ([.ref a0, .int x1, .int x2] : List Value).toArray below meth cx H locs cells slots Q (F0 m 122 ls []) := by
    intro K7 hK7 z1 z2 z3 σ H locs cells slots ls hw h hl
    unfold x_Ha_cut_122 at hw
    refine lv_iinc (v := (z3 + (-1))) (lv' := [(3, .int (z3 + (-1))), (0, .ref a0), (1, .int z1), (2, .int z2)]) hx hb h_Ha_cut_122 hl (k := 3) rfl (rfl) (by decide) rfl (fun ls hl => ?_)
    refine lv_goto (tgt := 7) hx hb h_Ha_cut_125 (by decide) ?_
    exact hK7 z1 z2 (z3 + (-1)) σ _ _ _ _ _ hw h (lv_sub hl [1, 2, 3, 0] rfl)
  have K_85 : ∀ (K7 : Int32 → Int32 → Int32 → CST → Prop) (hK7 : ∀ (z1 : Int32) (z2 : Int32) (z3 : Int32) (σ : CST) (H : Heap) (locs : List Loc) (cells slots : Nat) (ls : Array Slot), K7 z1 z2 z3 σ → CH (dC, dI) A ca ({ frames := 6, cells := σ0.2.2.2.2.1, slots := σ0.2.2.2.2.2.1, locals := 211 } : Room) σ0.2.2.2.2.2.2 σ s H locs cells slots → lv_has ls 5 [(0, .ref a0), (1, .int z1), (2, .int z2), (3, .int z3)] → W p l e ({ frames := 6, cells := σ0.2.2.2.2.1, slots := σ0.2.2.2.2.2.1, locals := 211 } : Room) s m ([.ref a0, .int x1, .int x2] : List Value).toArray below meth cx H locs cells slots Q (F0 m 7 ls [])), ∀ (z1 : Int32) (z2 : Int32) (z3 : Int32) (z4 : Option Nat) (σ : CST) (H : Heap) (locs : List Loc) (cells slots : Nat) (ls : Array Slot), x_Ha_cut_85 a0 K7 P z1 z2 z3 z4 σ → CH (dC, dI) A ca ({ frames := 6, cells := σ0.2.2.2.2.1, slots := σ0.2.2.2.2.2.1, locals := 211 } : Room) σ0.2.2.2.2.2.2 σ s H locs cells slots → lv_has ls 5 [(0, .ref a0), (1, .int z1), (2, .int z2), (3, .int z3), (4, va_rf z4)] → W p l e ({ frames := 6, cells := σ0.2.2.2.2.1, slots := σ0.2.2.2.2.2.1, locals := 211 } : Room) s m ([.ref a0, .int x1, .int x2] : List Value).toArray below meth cx H locs cells slots Q (F0 m 85 ls []) := by
    intro K7 hK7 z1 z2 z3 z4 σ H locs cells slots ls hw h hl
    unfold x_Ha_cut_85 at hw
    refine cq_aload hx hb h_Ha_cut_85 (lv_at hl 4 rfl) ?_
    obtain ⟨r1, e_r1, hw⟩ := hw
    subst e_r1
    have hl : lv_has ls 5 [(0, .ref a0), (1, .int z1), (2, .int z2), (3, .int z3), (4, .ref r1)] := hl
    refine W.eq (g2 := F0 m 87 ls [.ref r1]) rfl ?_
    obtain ⟨g2, hw⟩ := hw
    refine C_get C h 7 0 (v := .int (σ.2.1 r1 0)) g2 rfl (Cn := R_Ha) (T := T_Ha) (N := 4) rfl (by decide) rfl uw_Ha (by decide) u_100 (fun _ q => q) h_Ha_cut_87 ?_
    refine lv_iload_n hx hb h_Ha_cut_90 rfl (lv_at hl 1 rfl) ?_
    refine lv_icmp_ge (tgt := 122) hx hb h_Ha_cut_91 (by decide) (fun c3 => ?_) (fun c3 => ?_)
    · skip
      replace hw := hw.1 c3
      exact K_122 _ hK7 z1 z2 z3 σ _ _ _ _ _ hw h (lv_sub hl [0, 1, 2, 3] rfl)
    · skip
      replace hw := hw.2 c3
      refine lv_aload_n hx hb h_Ha_cut_94 rfl (lv_at hl 0 rfl) ?_
      refine lv_iload_n hx hb h_Ha_cut_95 rfl (lv_at hl 3 rfl) ?_
      obtain ⟨g5, g6, hw⟩ := hw
      refine C_new C h 7 (Cn := R_Ha) (T := T_Ha) (N := 4) rfl (by decide) uw_Ha tok_Ha (cdf_Ha rfl rfl rfl) u_161 u_162 u_163 g5 g6 h_Ha_cut_96 (fun q4 H g7 hz9 h => ?_)
      replace hw := hw q4 g7 hz9
      obtain ⟨σ8, e_σ8⟩ : ∃ z : CST, z = nw σ q4 7 0 4 := ⟨_, rfl⟩
      rw [← e_σ8] at h
      replace hw := hw σ8 e_σ8
      generalize cells + 1 = cells at h ⊢
      generalize slots + 4 = slots at h ⊢
      refine lv_dup hx hb h_Ha_cut_99 rfl ?_
      refine lv_aload hx hb h_Ha_cut_100 (lv_at hl 4 rfl) ?_
      obtain ⟨g9, hw⟩ := hw
      refine C_get C h 7 0 (v := .int (σ8.2.1 r1 0)) g9 rfl (Cn := R_Ha) (T := T_Ha) (N := 4) rfl (by decide) rfl uw_Ha (by decide) u_100 (fun _ q => q) h_Ha_cut_102 ?_
      refine lv_iload_n hx hb h_Ha_cut_105 rfl (lv_at hl 1 rfl) ?_
      refine lv_aload hx hb h_Ha_cut_106 (lv_at hl 4 rfl) ?_
      refine C_get C h 7 2 (v := .int (σ8.2.1 r1 2)) g9 rfl (Cn := R_Ha) (T := T_Ha) (N := 4) rfl (by decide) rfl uw_Ha (by decide) u_102 (fun _ q => q) h_Ha_cut_108 ?_
      refine lv_aload hx hb h_Ha_cut_111 (lv_at hl 4 rfl) ?_
      refine C_get C h 7 3 (v := .int (σ8.2.1 r1 3)) g9 rfl (Cn := R_Ha) (T := T_Ha) (N := 4) rfl (by decide) rfl uw_Ha (by decide) u_103 (fun _ q => q) h_Ha_cut_113 ?_
      refine C_callIv (As := [.int (σ8.2.1 r1 0), .int z1, .int (σ8.2.1 r1 2), .int (σ8.2.1 r1 3)]) (rest := [.ref q4, .int z3, .ref a0]) C h (X_Ha_init l dC dI ca H σ8 q4 (σ8.2.1 r1 0) z1 (σ8.2.1 r1 2) (σ8.2.1 r1 3) hw) (cwI 4 hts (gC hsub u_164) rfl rfl rfl (hts _ (hsub _ u_163)) (hts _ (hsub _ u_165)) (hts _ (hsub _ u_166)) rfl (by decide +kernel) ⟨(Nat.le_of_ble_eq_true rfl), (Nat.le_of_ble_eq_true rfl)⟩) rfl hl.1 (Nat.le_of_ble_eq_true rfl) h_Ha_cut_116 (fun σ10 H locs cells slots hw9 h9 => ?_)
      clear hw h; have hw := hw9; have h := h9; clear hw9 h9
      refine W.eq (g2 := F0 m 119 ls [.ref q4, .int z3, .ref a0]) rfl ?_
      obtain ⟨g12, hw⟩ := hw
      refine C_callVv (As := [.int z3, .ref q4]) (rest := []) C h (ci := 6) (Cn := R_A) (T := T_A) (N := 3) g12 rfl (by decide) (X_AL_add l dC dI ca H σ10 a0 z3 q4 hw) (cwV 2 hts (gV hsub u_167 u_168 u_169 u_117 u_170) rfl rfl rfl (by decide +kernel) ⟨(Nat.le_of_ble_eq_true rfl), (Nat.le_of_ble_eq_true rfl)⟩) rfl hl.1 (Nat.le_of_ble_eq_true rfl) h_Ha_cut_119 (fun σ13 H locs cells slots hw9 h9 => ?_)
      clear hw h; have hw := hw9; have h := h9; clear hw9 h9
      refine W.eq (g2 := F0 m 122 ls []) rfl ?_
      exact K_122 _ hK7 z1 z2 z3 σ13 _ _ _ _ _ hw h (lv_sub hl [0, 1, 2, 3] rfl)
  have K_7 : ∀ (n : Nat), ∀ (z1 : Int32) (z2 : Int32) (z3 : Int32) (σ : CST) (H : Heap) (locs : List Loc) (cells slots : Nat) (ls : Array Slot), x_Ha_cut_7 a0 P n z1 z2 z3 σ → CH (dC, dI) A ca ({ frames := 6, cells := σ0.2.2.2.2.1, slots := σ0.2.2.2.2.2.1, locals := 211 } : Room) σ0.2.2.2.2.2.2 σ s H locs cells slots → lv_has ls 5 [(0, .ref a0), (1, .int z1), (2, .int z2), (3, .int z3)] → W p l e ({ frames := 6, cells := σ0.2.2.2.2.1, slots := σ0.2.2.2.2.2.1, locals := 211 } : Room) s m ([.ref a0, .int x1, .int x2] : List Value).toArray below meth cx H locs cells slots Q (F0 m 7 ls []) := by
    intro  n
    induction n with
    | zero => intro z1 z2 z3 σ H locs cells slots ls hw h hl; unfold x_Ha_cut_7 at hw; exact hw.elim
    | succ n ih =>
      intro z1 z2 z3 σ H locs cells slots ls hw h hl
      unfold x_Ha_cut_7 at hw
      refine lv_iload_n hx hb h_Ha_cut_7 rfl (lv_at hl 3 rfl) ?_
      refine lv_if_lt (tgt := 128) hx hb h_Ha_cut_8 (by decide) (fun c15 => ?_) (fun c15 => ?_)
      · skip
        replace hw := hw.1 c15
        exact hend σ _ _ _ _ _ _ hw h h_Ha_cut_128
      · skip
        replace hw := hw.2 c15
        refine lv_aload_n hx hb h_Ha_cut_11 rfl (lv_at hl 0 rfl) ?_
        refine lv_iload_n hx hb h_Ha_cut_12 rfl (lv_at hl 3 rfl) ?_
        obtain ⟨g16, hw⟩ := hw
        refine C_callVq (As := [.int z3]) (rest := []) C h (ci := 6) (Cn := R_A) (T := T_A) (N := 3) g16 rfl (by decide) (X_AL_get l dC dI ca H σ a0 z3 hw) (cwV 1 hts (gV hsub u_171 u_172 u_173 u_117 u_174) rfl rfl rfl (by decide +kernel) ⟨(Nat.le_of_ble_eq_true rfl), (Nat.le_of_ble_eq_true rfl)⟩) rfl hl.1 (Nat.le_of_ble_eq_true rfl) h_Ha_cut_13 (fun r18 σ17 H locs cells slots hw9 h9 => ?_)
        clear hw h; have hw := hw9; have h := h9; clear hw9 h9
        refine W.eq (g2 := F0 m 16 ls [va_rf r18]) rfl ?_
        rcases cq_or r18 with c19 | ⟨r20, c19⟩
        · subst c19
          replace hw := hw.1 rfl
          have hl : lv_has ls 5 [(0, .ref a0), (1, .int z1), (2, .int z2), (3, .int z3)] := hl
          refine W.eq (g2 := F0 m 16 ls [.null]) rfl ?_
          refine lv_castN hx hb h_Ha_cut_16 ?_
          refine lv_astoreN (lv' := [(4, .null), (0, .ref a0), (1, .int z1), (2, .int z2), (3, .int z3)]) hx hb h_Ha_cut_19 hl (by decide) rfl (fun ls hl => ?_)
          refine lv_aloadN hx hb h_Ha_cut_21 (lv_at hl 0 rfl) ?_
          exact hw.elim
        · subst c19
          replace hw := hw.2 r20 rfl
          have hl : lv_has ls 5 [(0, .ref a0), (1, .int z1), (2, .int z2), (3, .int z3)] := hl
          refine W.eq (g2 := F0 m 16 ls [.ref r20]) rfl ?_
          obtain ⟨g21, hw⟩ := hw
          refine C_cast C h 7 (Cn := R_Ha) (T := T_Ha) (N := 4) rfl (by decide) u_161 g21 h_Ha_cut_16 ?_
          refine lv_astore (lv' := [(4, .ref r20), (0, .ref a0), (1, .int z1), (2, .int z2), (3, .int z3)]) hx hb h_Ha_cut_19 hl (by decide) rfl (fun ls hl => ?_)
          refine lv_aload hx hb h_Ha_cut_21 (lv_at hl 0 rfl) ?_
          refine C_get C h 7 1 (v := .int (σ17.2.1 r20 1)) g21 rfl (Cn := R_Ha) (T := T_Ha) (N := 4) rfl (by decide) rfl uw_Ha (by decide) u_101 (fun _ q => q) h_Ha_cut_23 ?_
          refine lv_iload_n hx hb h_Ha_cut_26 rfl (lv_at hl 2 rfl) ?_
          refine lv_icmp_le (tgt := 122) hx hb h_Ha_cut_27 (by decide) (fun c22 => ?_) (fun c22 => ?_)
          · skip
            replace hw := hw.1 c22
            exact K_122 _ ih z1 z2 z3 σ17 _ _ _ _ _ hw h (lv_sub hl [1, 2, 3, 4] rfl)
          · skip
            replace hw := hw.2 c22
            refine lv_iload_n hx hb h_Ha_cut_30 rfl (lv_at hl 3 rfl) ?_
            refine lv_aload hx hb h_Ha_cut_31 (lv_at hl 0 rfl) ?_
            refine C_get C h 7 0 (v := .int (σ17.2.1 r20 0)) g21 rfl (Cn := R_Ha) (T := T_Ha) (N := 4) rfl (by decide) rfl uw_Ha (by decide) u_100 (fun _ q => q) h_Ha_cut_33 ?_
            refine lv_icmp_gt (tgt := 42) hx hb h_Ha_cut_36 (by decide) (fun c23 => ?_) (fun c23 => ?_)
            · skip
              replace hw := hw.1 c23
              refine lv_aload_n hx hb h_Ha_cut_42 rfl (lv_at hl 1 rfl) ?_
              refine lv_iload_n hx hb h_Ha_cut_43 rfl (lv_at hl 4 rfl) ?_
              obtain ⟨g24, hw⟩ := hw
              refine C_callVq (As := [.int z3]) (rest := []) C h (ci := 6) (Cn := R_A) (T := T_A) (N := 3) g24 rfl (by decide) (X_AL_remove l dC dI ca H σ17 a0 z3 hw) (cwV 1 hts (gV hsub u_175 u_176 u_177 u_117 u_178) rfl rfl rfl (by decide +kernel) ⟨(Nat.le_of_ble_eq_true rfl), (Nat.le_of_ble_eq_true rfl)⟩) rfl hl.1 (Nat.le_of_ble_eq_true rfl) h_Ha_cut_44 (fun r26 σ25 H locs cells slots hw9 h9 => ?_)
              clear hw h; have hw := hw9; have h := h9; clear hw9 h9
              refine W.eq (g2 := F0 m 47 ls [va_rf r26]) rfl ?_
              refine lv_pop hx hb h_Ha_cut_47 (cq_cat _) ?_
              refine lv_iload_n hx hb h_Ha_cut_48 rfl (lv_at hl 3 rfl) ?_
              refine lv_aload hx hb h_Ha_cut_49 (lv_at hl 0 rfl) ?_
              obtain ⟨g27, hw⟩ := hw
              refine C_get C h 7 1 (v := .int (σ25.2.1 r20 1)) g27 rfl (Cn := R_Ha) (T := T_Ha) (N := 4) rfl (by decide) rfl uw_Ha (by decide) u_101 (fun _ q => q) h_Ha_cut_51 ?_
              refine lv_icmp_ge (tgt := 85) hx hb h_Ha_cut_54 (by decide) (fun c28 => ?_) (fun c28 => ?_)
              · skip
                replace hw := hw.1 c28
                exact K_85 _ ih z1 z2 z3 (some r20) σ25 _ _ _ _ _ hw h (lv_sub hl [1, 2, 3, 4, 0] rfl)
              · skip
                replace hw := hw.2 c28
                refine lv_aload_n hx hb h_Ha_cut_57 rfl (lv_at hl 1 rfl) ?_
                refine lv_iload_n hx hb h_Ha_cut_58 rfl (lv_at hl 4 rfl) ?_
                obtain ⟨g30, g31, hw⟩ := hw
                refine C_new C h 7 (Cn := R_Ha) (T := T_Ha) (N := 4) rfl (by decide) uw_Ha tok_Ha (cdf_Ha rfl rfl rfl) u_161 u_162 u_163 g30 g31 h_Ha_cut_59 (fun q29 H g32 hz9 h => ?_)
                replace hw := hw q29 g32 hz9
                obtain ⟨σ33, e_σ33⟩ : ∃ z : CST, z = nw σ25 q29 7 0 4 := ⟨_, rfl⟩
                rw [← e_σ33] at h
                replace hw := hw σ33 e_σ33
                generalize cells + 1 = cells at h ⊢
                generalize slots + 4 = slots at h ⊢
                refine lv_dup hx hb h_Ha_cut_62 rfl ?_
                refine lv_iload_n hx hb h_Ha_cut_63 rfl (lv_at hl 3 rfl) ?_
                refine lv_aload hx hb h_Ha_cut_64 (lv_at hl 0 rfl) ?_
                obtain ⟨g34, hw⟩ := hw
                refine C_get C h 7 1 (v := .int (σ33.2.1 r20 1)) g34 rfl (Cn := R_Ha) (T := T_Ha) (N := 4) rfl (by decide) rfl uw_Ha (by decide) u_101 (fun _ q => q) h_Ha_cut_66 ?_
                refine lv_aload hx hb h_Ha_cut_69 (lv_at hl 0 rfl) ?_
                refine C_get C h 7 2 (v := .int (σ33.2.1 r20 2)) g34 rfl (Cn := R_Ha) (T := T_Ha) (N := 4) rfl (by decide) rfl uw_Ha (by decide) u_102 (fun _ q => q) h_Ha_cut_71 ?_
                refine lv_aload hx hb h_Ha_cut_74 (lv_at hl 0 rfl) ?_
                refine C_get C h 7 3 (v := .int (σ33.2.1 r20 3)) g34 rfl (Cn := R_Ha) (T := T_Ha) (N := 4) rfl (by decide) rfl uw_Ha (by decide) u_103 (fun _ q => q) h_Ha_cut_76 ?_
                refine C_callIv (As := [.int z2, .int (σ33.2.1 r20 1), .int (σ33.2.1 r20 2), .int (σ33.2.1 r20 3)]) (rest := [.ref q29, .int z3, .ref a0]) C h (X_Ha_init l dC dI ca H σ33 q29 z2 (σ33.2.1 r20 1) (σ33.2.1 r20 2) (σ33.2.1 r20 3) hw) (cwI 4 hts (gC hsub u_164) rfl rfl rfl (hts _ (hsub _ u_163)) (hts _ (hsub _ u_165)) (hts _ (hsub _ u_166)) rfl (by decide +kernel) ⟨(Nat.le_of_ble_eq_true rfl), (Nat.le_of_ble_eq_true rfl)⟩) rfl hl.1 (Nat.le_of_ble_eq_true rfl) h_Ha_cut_79 (fun σ35 H locs cells slots hw9 h9 => ?_)
                clear hw h; have hw := hw9; have h := h9; clear hw9 h9
                refine W.eq (g2 := F0 m 82 ls [.ref q29, .int z3, .ref a0]) rfl ?_
                obtain ⟨g37, hw⟩ := hw
                refine C_callVv (As := [.int z3, .ref q29]) (rest := []) C h (ci := 6) (Cn := R_A) (T := T_A) (N := 3) g37 rfl (by decide) (X_AL_add l dC dI ca H σ35 a0 z3 q29 hw) (cwV 2 hts (gV hsub u_167 u_168 u_169 u_117 u_170) rfl rfl rfl (by decide +kernel) ⟨(Nat.le_of_ble_eq_true rfl), (Nat.le_of_ble_eq_true rfl)⟩) rfl hl.1 (Nat.le_of_ble_eq_true rfl) h_Ha_cut_82 (fun σ38 H locs cells slots hw9 h9 => ?_)
                clear hw h; have hw := hw9; have h := h9; clear hw9 h9
                refine W.eq (g2 := F0 m 85 ls []) rfl ?_
                exact K_85 _ ih z1 z2 z3 (some r20) σ38 _ _ _ _ _ hw h (lv_sub hl [1, 2, 3, 4, 0] rfl)
            · skip
              replace hw := hw.2 c23
              refine lv_goto (tgt := 122) hx hb h_Ha_cut_39 (by decide) ?_
              exact K_122 _ ih z1 z2 z3 σ17 _ _ _ _ _ hw h (lv_sub hl [1, 2, 3, 4] rfl)
  have hl : lv_has ls 5 [(0, .ref a0), (1, .int x1), (2, .int x2)] := hl
  unfold x_Ha_cut at hw
  refine lv_aload_n hx hb h_Ha_cut_0 rfl (lv_at hl 0 rfl) ?_
  obtain ⟨g40, hw⟩ := hw
  refine C_callVi (As := []) (rest := []) C h (ci := 6) (Cn := R_A) (T := T_A) (N := 3) g40 rfl (by decide) (X_AL_size l dC dI ca s.heap σ0 a0 hw) (cwV 0 hts (gV hsub u_179 u_180 u_181 u_117 u_182) rfl rfl rfl (by decide +kernel) ⟨(Nat.le_of_ble_eq_true rfl), (Nat.le_of_ble_eq_true rfl)⟩) rfl hl.1 (Nat.le_of_ble_eq_true rfl) h_Ha_cut_1 (fun r42 σ41 H locs cells slots hw9 h9 => ?_)
  clear hw h; have hw := hw9; have h := h9; clear hw9 h9
  refine W.eq (g2 := F0 m 4 ls [.int r42]) rfl ?_
  refine lv_iconst (v := 1) hx hb h_Ha_cut_4 (by decide) ?_
  refine lv_isub hx hb h_Ha_cut_5 ?_
  refine lv_istore_n (i := 3) (lv' := [(3, .int (r42 - 1)), (0, .ref a0), (1, .int x1), (2, .int x2)]) hx hb h_Ha_cut_6 rfl hl (by decide) rfl (fun ls hl => ?_)
  obtain ⟨n9, hw⟩ := hw
  exact K_7 n9 x1 x2 (r42 - 1) σ41 _ _ _ _ _ hw h (lv_sub hl [1, 2, 3, 0] rfl)
abbrev g_H_init : MethodName := ⟨"MapFramer$Heap", "<init>", "()V"⟩
theorem u_183 : (Cond.methodLink "MapFramer$Heap" 1 ⟨"java/lang/Object", "<init>", "()V"⟩ : Cond) ∈ bigW := inB_1 100 (by decide +kernel) rfl
theorem u_184 : (Cond.fieldLink "MapFramer$Heap" 9 "MapFramer$Heap" "types" "[I" : Cond) ∈ bigW := inB_1 101 (by decide +kernel) rfl
theorem u_185 : (Cond.fieldLink "MapFramer$Heap" 13 "MapFramer$Heap" "lengths" "[I" : Cond) ∈ bigW := inB_1 102 (by decide +kernel) rfl
theorem u_186 : (Cond.fieldLink "MapFramer$Heap" 16 "MapFramer$Heap" "values" "[J" : Cond) ∈ bigW := inB_1 103 (by decide +kernel) rfl
theorem h_H_init_0 : decode prog_5_method_1_code 0 = .ok (.aload_n 0, 1) := by decide +kernel
theorem h_H_init_1 : decode prog_5_method_1_code 1 = .ok (.invokespecial 1, 3) := by decide +kernel
theorem h_H_init_4 : decode prog_5_method_1_code 4 = .ok (.aload_n 0, 1) := by decide +kernel
theorem h_H_init_5 : decode prog_5_method_1_code 5 = .ok (.sipush 150, 3) := by decide +kernel
theorem h_H_init_8 : decode prog_5_method_1_code 8 = .ok (.newarray .int, 2) := by decide +kernel
theorem h_H_init_10 : decode prog_5_method_1_code 10 = .ok (.putfield 9, 3) := by decide +kernel
theorem h_H_init_13 : decode prog_5_method_1_code 13 = .ok (.aload_n 0, 1) := by decide +kernel
theorem h_H_init_14 : decode prog_5_method_1_code 14 = .ok (.sipush 150, 3) := by decide +kernel
theorem h_H_init_17 : decode prog_5_method_1_code 17 = .ok (.newarray .int, 2) := by decide +kernel
theorem h_H_init_19 : decode prog_5_method_1_code 19 = .ok (.putfield 13, 3) := by decide +kernel
theorem h_H_init_22 : decode prog_5_method_1_code 22 = .ok (.aload_n 0, 1) := by decide +kernel
theorem h_H_init_23 : decode prog_5_method_1_code 23 = .ok (.sipush 3600, 3) := by decide +kernel
theorem h_H_init_26 : decode prog_5_method_1_code 26 = .ok (.newarray .long, 2) := by decide +kernel
theorem h_H_init_28 : decode prog_5_method_1_code 28 = .ok (.putfield 16, 3) := by decide +kernel
theorem h_H_init_31 : decode prog_5_method_1_code 31 = .ok (.return_, 1) := by decide +kernel
def x_H_init (a0 : Nat) (σ0 : CST) (P : CST → Prop) : Prop := (¬ (150 : Int32) < 0 ∧ (150 : Int32).toNatClampNeg ≤ 60000000 ∧ 1 ≤ σ0.2.2.2.2.1 ∧ (150 : Int32).toNatClampNeg ≤ σ0.2.2.2.2.2.1 ∧ ∀ q1 : Nat, σ0.1 q1 = none → q1 ≠ σ0.2.2.2.2.2.2.1 → ∀ σ7 : CST, σ7 = nw σ0 q1 20 (150 : Int32).toNatClampNeg (150 : Int32).toNatClampNeg → σ7.1 a0 = some (1, 0) ∧ (∀ σ9 : CST, σ9 = sR σ7 a0 0 (some q1) → (¬ (150 : Int32) < 0 ∧ (150 : Int32).toNatClampNeg ≤ 60000000 ∧ 1 ≤ σ9.2.2.2.2.1 ∧ (150 : Int32).toNatClampNeg ≤ σ9.2.2.2.2.2.1 ∧ ∀ q10 : Nat, σ9.1 q10 = none → q10 ≠ σ9.2.2.2.2.2.2.1 → ∀ σ16 : CST, σ16 = nw σ9 q10 20 (150 : Int32).toNatClampNeg (150 : Int32).toNatClampNeg → σ16.1 a0 = some (1, 0) ∧ (∀ σ18 : CST, σ18 = sR σ16 a0 1 (some q10) → (¬ (3600 : Int32) < 0 ∧ (3600 : Int32).toNatClampNeg ≤ 60000000 ∧ 1 ≤ σ18.2.2.2.2.1 ∧ (3600 : Int32).toNatClampNeg ≤ σ18.2.2.2.2.2.1 ∧ ∀ q19 : Nat, σ18.1 q19 = none → q19 ≠ σ18.2.2.2.2.2.2.1 → ∀ σ25 : CST, σ25 = nw σ18 q19 22 (3600 : Int32).toNatClampNeg (3600 : Int32).toNatClampNeg → σ25.1 a0 = some (1, 0) ∧ (∀ σ27 : CST, σ27 = sR σ25 a0 2 (some q19) → P σ27))))))
set_option maxHeartbeats 4000000 in
set_option maxRecDepth 100000 in
theorem X_H_init (l : Launch) (dC : Nat → ClassId) (dI : Nat → Nat → Nat) (ca : Nat → ClassId) (H0 : Heap) (σ0 : CST) (a0 : Nat) {P : CST → Prop} (hw : x_H_init a0 σ0 P) : Met l g_H_init (mW g_H_init prog_5_method_1_code 1 none) ({ frames := 1, cells := σ0.2.2.2.2.1, slots := σ0.2.2.2.2.2.1, locals := 12 } : Room) (va_Pc [.ref a0] (CPre (dC, dI) ca σ0 H0)) (va_Qv P (CB (dC, dI) ca σ0 H0) (cA σ0 H0.size)) σ0.2.2.2.2.1 σ0.2.2.2.2.2.1 (cA σ0 H0.size) := by
  refine C_ofv (by decide +kernel) rfl rfl rfl (Nat.le_of_ble_eq_true rfl) ?_
  intro p e s m below meth cx Q A ls C hnm hend hH0 h hl
  subst hH0
  have C0 := C
  obtain ⟨⟨hx, hb, hml, hown, hts⟩, hsub⟩ := C0
  obtain ⟨cells, e_cells⟩ : ∃ z : Nat, z = 0 := ⟨_, rfl⟩
  obtain ⟨slots, e_slots⟩ : ∃ z : Nat, z = 0 := ⟨_, rfl⟩
  have h : CH (dC, dI) A ca ({ frames := 1, cells := σ0.2.2.2.2.1, slots := σ0.2.2.2.2.2.1, locals := 12 } : Room) σ0.2.2.2.2.2.2 σ0 s s.heap [] cells slots := by rw [e_cells, e_slots]; exact h
  show W p l e ({ frames := 1, cells := σ0.2.2.2.2.1, slots := σ0.2.2.2.2.2.1, locals := 12 } : Room) s m ([.ref a0] : List Value).toArray below meth cx s.heap [] 0 0 Q (F0 m 0 ls [])
  rw [show W p l e ({ frames := 1, cells := σ0.2.2.2.2.1, slots := σ0.2.2.2.2.2.1, locals := 12 } : Room) s m ([.ref a0] : List Value).toArray below meth cx s.heap [] 0 0 Q (F0 m 0 ls []) = W p l e ({ frames := 1, cells := σ0.2.2.2.2.1, slots := σ0.2.2.2.2.2.1, locals := 12 } : Room) s m ([.ref a0] : List Value).toArray below meth cx s.heap [] cells slots Q (F0 m 0 ls []) by rw [e_cells, e_slots]]
  have hl : lv_has ls 1 [(0, .ref a0)] := hl
  unfold x_H_init at hw
  refine lv_aload_n hx hb h_H_init_0 rfl (lv_at hl 0 rfl) ?_
  refine W.objInit hx hb hown (hts _ (hsub _ u_183)) (hts _ (hsub _ u_1)) (hts _ (hsub _ u_2)) rfl (by rw [hml]; exact hl.1) rfl h_H_init_1 (Nat.le_of_ble_eq_true rfl) (Nat.le_of_ble_eq_true rfl) ?_
  refine W.eq (g2 := F0 m 4 ls []) rfl ?_
  refine lv_aload_n hx hb h_H_init_4 rfl (lv_at hl 0 rfl) ?_
  refine lv_sipush (v := 150) hx hb h_H_init_5 (by decide) ?_
  obtain ⟨g5, g6, g2, g3, hw⟩ := hw
  refine C_newai C h u_19 g5 rfl g6 g2 g3 h_H_init_8 (fun q1 H g4 hz9 h => ?_)
  replace hw := hw q1 g4 hz9
  obtain ⟨σ7, e_σ7⟩ : ∃ z : CST, z = nw σ0 q1 20 (150 : Int32).toNatClampNeg (150 : Int32).toNatClampNeg := ⟨_, rfl⟩
  rw [← e_σ7] at h
  replace hw := hw σ7 e_σ7
  generalize cells + 1 = cells at h ⊢
  generalize slots + (150 : Int32).toNatClampNeg = slots at h ⊢
  obtain ⟨g8, hw⟩ := hw
  refine C_putr C h 1 0 (v := (some q1)) (ty := (.array .int)) g8 (Cn := R_H) (T := T_H) (N := 4) rfl (by decide) rfl uw_H tok_H nm_H (by decide) rfl u_184 (fun _ q => q) (Or.inr ⟨rfl, hnm, rfl⟩) (by decide +kernel) ck_a h_H_init_10 (fun H locs h => ?_)
  obtain ⟨σ9, e_σ9⟩ : ∃ z : CST, z = sR σ7 a0 0 (some q1) := ⟨_, rfl⟩
  rw [← e_σ9] at h
  replace hw := hw σ9 e_σ9
  refine lv_aload_n hx hb h_H_init_13 rfl (lv_at hl 0 rfl) ?_
  refine lv_sipush (v := 150) hx hb h_H_init_14 (by decide) ?_
  obtain ⟨g14, g15, g11, g12, hw⟩ := hw
  refine C_newai C h u_19 g14 rfl g15 g11 g12 h_H_init_17 (fun q10 H g13 hz9 h => ?_)
  replace hw := hw q10 g13 hz9
  obtain ⟨σ16, e_σ16⟩ : ∃ z : CST, z = nw σ9 q10 20 (150 : Int32).toNatClampNeg (150 : Int32).toNatClampNeg := ⟨_, rfl⟩
  rw [← e_σ16] at h
  replace hw := hw σ16 e_σ16
  generalize cells + 1 = cells at h ⊢
  generalize slots + (150 : Int32).toNatClampNeg = slots at h ⊢
  obtain ⟨g17, hw⟩ := hw
  refine C_putr C h 1 1 (v := (some q10)) (ty := (.array .int)) g17 (Cn := R_H) (T := T_H) (N := 4) rfl (by decide) rfl uw_H tok_H nm_H (by decide) rfl u_185 (fun _ q => q) (Or.inr ⟨rfl, hnm, rfl⟩) (by decide +kernel) ck_a h_H_init_19 (fun H locs h => ?_)
  obtain ⟨σ18, e_σ18⟩ : ∃ z : CST, z = sR σ16 a0 1 (some q10) := ⟨_, rfl⟩
  rw [← e_σ18] at h
  replace hw := hw σ18 e_σ18
  refine lv_aload_n hx hb h_H_init_22 rfl (lv_at hl 0 rfl) ?_
  refine lv_sipush (v := 3600) hx hb h_H_init_23 (by decide) ?_
  obtain ⟨g23, g24, g20, g21, hw⟩ := hw
  refine C_newal C h u_3 g23 rfl g24 g20 g21 h_H_init_26 (fun q19 H g22 hz9 h => ?_)
  replace hw := hw q19 g22 hz9
  obtain ⟨σ25, e_σ25⟩ : ∃ z : CST, z = nw σ18 q19 22 (3600 : Int32).toNatClampNeg (3600 : Int32).toNatClampNeg := ⟨_, rfl⟩
  rw [← e_σ25] at h
  replace hw := hw σ25 e_σ25
  generalize cells + 1 = cells at h ⊢
  generalize slots + (3600 : Int32).toNatClampNeg = slots at h ⊢
  obtain ⟨g26, hw⟩ := hw
  refine C_putr C h 1 2 (v := (some q19)) (ty := (.array .long)) g26 (Cn := R_H) (T := T_H) (N := 4) rfl (by decide) rfl uw_H tok_H nm_H (by decide) rfl u_186 (fun _ q => q) (Or.inr ⟨rfl, hnm, rfl⟩) (by decide +kernel) ck_a h_H_init_28 (fun H locs h => ?_)
  obtain ⟨σ27, e_σ27⟩ : ∃ z : CST, z = sR σ25 a0 2 (some q19) := ⟨_, rfl⟩
  rw [← e_σ27] at h
  replace hw := hw σ27 e_σ27
  exact hend σ27 _ _ _ _ _ _ hw h h_H_init_31
abbrev g_Ar_rangeCheck : MethodName := ⟨"java/util/Arrays", "rangeCheck", "(III)V"⟩
theorem h_Ar_rangeCheck_0 : decode prog_37_method_30_code 0 = .ok (.iload_n 1, 1) := by decide +kernel
theorem h_Ar_rangeCheck_1 : decode prog_37_method_30_code 1 = .ok (.iload_n 2, 1) := by decide +kernel
theorem h_Ar_rangeCheck_2 : decode prog_37_method_30_code 2 = .ok (.if_icmp .le 44, 3) := by decide +kernel
theorem h_Ar_rangeCheck_46 : decode prog_37_method_30_code 46 = .ok (.iload_n 1, 1) := by decide +kernel
theorem h_Ar_rangeCheck_47 : decode prog_37_method_30_code 47 = .ok (.ifCond .ge 12, 3) := by decide +kernel
theorem h_Ar_rangeCheck_59 : decode prog_37_method_30_code 59 = .ok (.iload_n 2, 1) := by decide +kernel
theorem h_Ar_rangeCheck_60 : decode prog_37_method_30_code 60 = .ok (.iload_n 0, 1) := by decide +kernel
theorem h_Ar_rangeCheck_61 : decode prog_37_method_30_code 61 = .ok (.if_icmp .le 12, 3) := by decide +kernel
theorem h_Ar_rangeCheck_73 : decode prog_37_method_30_code 73 = .ok (.return_, 1) := by decide +kernel
def x_Ar_rangeCheck (x0 : Int32) (x1 : Int32) (x2 : Int32) (σ0 : CST) (P : CST → Prop) : Prop := ((x1 ≤ x2 → ((0 ≤ x1 → ((x2 ≤ x0 → P σ0) ∧ (¬ x2 ≤ x0 → False))) ∧ (¬ 0 ≤ x1 → False))) ∧ (¬ x1 ≤ x2 → False))
set_option maxHeartbeats 4000000 in
set_option maxRecDepth 100000 in
theorem X_Ar_rangeCheck (l : Launch) (dC : Nat → ClassId) (dI : Nat → Nat → Nat) (ca : Nat → ClassId) (H0 : Heap) (σ0 : CST) (x0 : Int32) (x1 : Int32) (x2 : Int32) {P : CST → Prop} (hw : x_Ar_rangeCheck x0 x1 x2 σ0 P) : Met l g_Ar_rangeCheck (mW g_Ar_rangeCheck prog_37_method_30_code 3 none) ({ frames := 0, cells := σ0.2.2.2.2.1, slots := σ0.2.2.2.2.2.1, locals := 0 } : Room) (va_Pc [.int x0, .int x1, .int x2] (CPre (dC, dI) ca σ0 H0)) (va_Qv P (CB (dC, dI) ca σ0 H0) (cA σ0 H0.size)) σ0.2.2.2.2.1 σ0.2.2.2.2.2.1 (cA σ0 H0.size) := by
  refine C_ofv (by decide +kernel) rfl rfl rfl (Nat.le_of_ble_eq_true rfl) ?_
  intro p e s m below meth cx Q A ls C hnm hend hH0 h hl
  subst hH0
  have C0 := C
  obtain ⟨⟨hx, hb, hml, hown, hts⟩, hsub⟩ := C0
  obtain ⟨cells, e_cells⟩ : ∃ z : Nat, z = 0 := ⟨_, rfl⟩
  obtain ⟨slots, e_slots⟩ : ∃ z : Nat, z = 0 := ⟨_, rfl⟩
  have h : CH (dC, dI) A ca ({ frames := 0, cells := σ0.2.2.2.2.1, slots := σ0.2.2.2.2.2.1, locals := 0 } : Room) σ0.2.2.2.2.2.2 σ0 s s.heap [] cells slots := by rw [e_cells, e_slots]; exact h
  show W p l e ({ frames := 0, cells := σ0.2.2.2.2.1, slots := σ0.2.2.2.2.2.1, locals := 0 } : Room) s m ([.int x0, .int x1, .int x2] : List Value).toArray below meth cx s.heap [] 0 0 Q (F0 m 0 ls [])
  rw [show W p l e ({ frames := 0, cells := σ0.2.2.2.2.1, slots := σ0.2.2.2.2.2.1, locals := 0 } : Room) s m ([.int x0, .int x1, .int x2] : List Value).toArray below meth cx s.heap [] 0 0 Q (F0 m 0 ls []) = W p l e ({ frames := 0, cells := σ0.2.2.2.2.1, slots := σ0.2.2.2.2.2.1, locals := 0 } : Room) s m ([.int x0, .int x1, .int x2] : List Value).toArray below meth cx s.heap [] cells slots Q (F0 m 0 ls []) by rw [e_cells, e_slots]]
  have hl : lv_has ls 3 [(0, .int x0), (1, .int x1), (2, .int x2)] := hl
  unfold x_Ar_rangeCheck at hw
  refine lv_iload_n hx hb h_Ar_rangeCheck_0 rfl (lv_at hl 1 rfl) ?_
  refine lv_iload_n hx hb h_Ar_rangeCheck_1 rfl (lv_at hl 2 rfl) ?_
  refine lv_icmp_le (tgt := 46) hx hb h_Ar_rangeCheck_2 (by decide) (fun c1 => ?_) (fun c1 => ?_)
  · skip
    replace hw := hw.1 c1
    refine lv_iload_n hx hb h_Ar_rangeCheck_46 rfl (lv_at hl 1 rfl) ?_
    refine lv_if_ge (tgt := 59) hx hb h_Ar_rangeCheck_47 (by decide) (fun c2 => ?_) (fun c2 => ?_)
    · skip
      replace hw := hw.1 c2
      refine lv_iload_n hx hb h_Ar_rangeCheck_59 rfl (lv_at hl 2 rfl) ?_
      refine lv_iload_n hx hb h_Ar_rangeCheck_60 rfl (lv_at hl 0 rfl) ?_
      refine lv_icmp_le (tgt := 73) hx hb h_Ar_rangeCheck_61 (by decide) (fun c3 => ?_) (fun c3 => ?_)
      · skip
        replace hw := hw.1 c3
        exact hend σ0 _ _ _ _ _ _ hw h h_Ar_rangeCheck_73
      · skip
        replace hw := hw.2 c3
        exact hw.elim
    · skip
      replace hw := hw.2 c2
      exact hw.elim
  · skip
    replace hw := hw.2 c1
    exact hw.elim
abbrev g_Ar_fill : MethodName := ⟨"java/util/Arrays", "fill", "([JIIJ)V"⟩
theorem u_187 : (Cond.methodLink "java/util/Arrays" 13 ⟨"java/util/Arrays", "rangeCheck", "(III)V"⟩ : Cond) ∈ bigW := inB_6 117 (by decide +kernel) rfl
theorem u_188 : (Cond.static ⟨"java/util/Arrays", "rangeCheck", "(III)V"⟩ : Cond) ∈ bigW := inB_6 118 (by decide +kernel) rfl
theorem u_189 : (Cond.code ⟨"java/util/Arrays", "rangeCheck", "(III)V"⟩ prog_37_method_30_code 3 none : Cond) ∈ bigW := inB_6 119 rfl rfl
theorem h_Ar_fill_0 : decode prog_37_method_102_code 0 = .ok (.aload_n 0, 1) := by decide +kernel
theorem h_Ar_fill_1 : decode prog_37_method_102_code 1 = .ok (.arraylength, 1) := by decide +kernel
theorem h_Ar_fill_2 : decode prog_37_method_102_code 2 = .ok (.iload_n 1, 1) := by decide +kernel
theorem h_Ar_fill_3 : decode prog_37_method_102_code 3 = .ok (.iload_n 2, 1) := by decide +kernel
theorem h_Ar_fill_4 : decode prog_37_method_102_code 4 = .ok (.invokestatic 13, 3) := by decide +kernel
theorem h_Ar_fill_7 : decode prog_37_method_102_code 7 = .ok (.iload_n 1, 1) := by decide +kernel
theorem h_Ar_fill_8 : decode prog_37_method_102_code 8 = .ok (.istore 5, 2) := by decide +kernel
theorem h_Ar_fill_10 : decode prog_37_method_102_code 10 = .ok (.iload 5, 2) := by decide +kernel
theorem h_Ar_fill_12 : decode prog_37_method_102_code 12 = .ok (.iload_n 2, 1) := by decide +kernel
theorem h_Ar_fill_13 : decode prog_37_method_102_code 13 = .ok (.if_icmp .ge 14, 3) := by decide +kernel
theorem h_Ar_fill_16 : decode prog_37_method_102_code 16 = .ok (.aload_n 0, 1) := by decide +kernel
theorem h_Ar_fill_17 : decode prog_37_method_102_code 17 = .ok (.iload 5, 2) := by decide +kernel
theorem h_Ar_fill_19 : decode prog_37_method_102_code 19 = .ok (.lload_n 3, 1) := by decide +kernel
theorem h_Ar_fill_20 : decode prog_37_method_102_code 20 = .ok (.lastore, 1) := by decide +kernel
theorem h_Ar_fill_21 : decode prog_37_method_102_code 21 = .ok (.iinc 5 1, 3) := by decide +kernel
theorem h_Ar_fill_24 : decode prog_37_method_102_code 24 = .ok (.goto (-14), 3) := by decide +kernel
theorem h_Ar_fill_27 : decode prog_37_method_102_code 27 = .ok (.return_, 1) := by decide +kernel
def x_Ar_fill_10 (a0 : Nat) (P : CST → Prop) : Nat → Int32 → Int64 → Int32 → CST → Prop
  | 0, _, _, _, _ => False
  | n + 1, z2, z3, z5, σ => ((z2 ≤ z5 → P σ) ∧ (¬ z2 ≤ z5 → (∃ n3 : Nat, σ.1 a0 = some (22, n3) ∧ (vp_in z5 n3 ∧ (∀ σ5 : CST, σ5 = sL σ a0 (z5 : Int32).toNatClampNeg z3 → x_Ar_fill_10 a0 P n z2 z3 (z5 + 1) σ5)))))
def x_Ar_fill (a0 : Nat) (x1 : Int32) (x2 : Int32) (x3 : Int64) (σ0 : CST) (P : CST → Prop) : Prop := (∃ n7 : Nat, σ0.1 a0 = some (22, n7) ∧ (x_Ar_rangeCheck (Int32.ofNat n7) x1 x2 σ0 (fun σ8 => (∃ n9 : Nat, x_Ar_fill_10 a0 P n9 x2 x3 x1 σ8))))
set_option maxHeartbeats 4000000 in
set_option maxRecDepth 100000 in
theorem X_Ar_fill (l : Launch) (dC : Nat → ClassId) (dI : Nat → Nat → Nat) (ca : Nat → ClassId) (H0 : Heap) (σ0 : CST) (a0 : Nat) (x1 : Int32) (x2 : Int32) (x3 : Int64) {P : CST → Prop} (hw : x_Ar_fill a0 x1 x2 x3 σ0 P) : Met l g_Ar_fill (mW g_Ar_fill prog_37_method_102_code 6 none) ({ frames := 1, cells := σ0.2.2.2.2.1, slots := σ0.2.2.2.2.2.1, locals := 22 } : Room) (va_Pc [.ref a0, .int x1, .int x2, .long x3] (CPre (dC, dI) ca σ0 H0)) (va_Qv P (CB (dC, dI) ca σ0 H0) (cA σ0 H0.size)) σ0.2.2.2.2.1 σ0.2.2.2.2.2.1 (cA σ0 H0.size) := by
  refine C_ofv (by decide +kernel) rfl rfl rfl (Nat.le_of_ble_eq_true rfl) ?_
  intro p e s m below meth cx Q A ls C hnm hend hH0 h hl
  subst hH0
  have C0 := C
  obtain ⟨⟨hx, hb, hml, hown, hts⟩, hsub⟩ := C0
  obtain ⟨cells, e_cells⟩ : ∃ z : Nat, z = 0 := ⟨_, rfl⟩
  obtain ⟨slots, e_slots⟩ : ∃ z : Nat, z = 0 := ⟨_, rfl⟩
  have h : CH (dC, dI) A ca ({ frames := 1, cells := σ0.2.2.2.2.1, slots := σ0.2.2.2.2.2.1, locals := 22 } : Room) σ0.2.2.2.2.2.2 σ0 s s.heap [] cells slots := by rw [e_cells, e_slots]; exact h
  show W p l e ({ frames := 1, cells := σ0.2.2.2.2.1, slots := σ0.2.2.2.2.2.1, locals := 22 } : Room) s m ([.ref a0, .int x1, .int x2, .long x3] : List Value).toArray below meth cx s.heap [] 0 0 Q (F0 m 0 ls [])
  rw [show W p l e ({ frames := 1, cells := σ0.2.2.2.2.1, slots := σ0.2.2.2.2.2.1, locals := 22 } : Room) s m ([.ref a0, .int x1, .int x2, .long x3] : List Value).toArray below meth cx s.heap [] 0 0 Q (F0 m 0 ls []) = W p l e ({ frames := 1, cells := σ0.2.2.2.2.1, slots := σ0.2.2.2.2.2.1, locals := 22 } : Room) s m ([.ref a0, .int x1, .int x2, .long x3] : List Value).toArray below meth cx s.heap [] cells slots Q (F0 m 0 ls []) by rw [e_cells, e_slots]]
  have K_10 : ∀ (n : Nat), ∀ (z2 : Int32) (z3 : Int64) (z5 : Int32) (σ : CST) (H : Heap) (locs : List Loc) (cells slots : Nat) (ls : Array Slot), x_Ar_fill_10 a0 P n z2 z3 z5 σ → CH (dC, dI) A ca ({ frames := 1, cells := σ0.2.2.2.2.1, slots := σ0.2.2.2.2.2.1, locals := 22 } : Room) σ0.2.2.2.2.2.2 σ s H locs cells slots → lv_has ls 6 [(0, .ref a0), (2, .int z2), (3, .long z3), (5, .int z5)] → W p l e ({ frames := 1, cells := σ0.2.2.2.2.1, slots := σ0.2.2.2.2.2.1, locals := 22 } : Room) s m ([.ref a0, .int x1, .int x2, .long x3] : List Value).toArray below meth cx H locs cells slots Q (F0 m 10 ls []) := by
    intro  n
    induction n with
    | zero => intro z2 z3 z5 σ H locs cells slots ls hw h hl; unfold x_Ar_fill_10 at hw; exact hw.elim
    | succ n ih =>
      intro z2 z3 z5 σ H locs cells slots ls hw h hl
      unfold x_Ar_fill_10 at hw
      refine lv_iload hx hb h_Ar_fill_10 (lv_at hl 3 rfl) ?_
      refine lv_iload_n hx hb h_Ar_fill_12 rfl (lv_at hl 1 rfl) ?_
      refine lv_icmp_ge (tgt := 27) hx hb h_Ar_fill_13 (by decide) (fun c1 => ?_) (fun c1 => ?_)
      · skip
        replace hw := hw.1 c1
        exact hend σ _ _ _ _ _ _ hw h h_Ar_fill_27
      · skip
        replace hw := hw.2 c1
        refine lv_aload_n hx hb h_Ar_fill_16 rfl (lv_at hl 0 rfl) ?_
        refine lv_iload hx hb h_Ar_fill_17 (lv_at hl 3 rfl) ?_
        refine lv_lload_n hx hb h_Ar_fill_19 rfl (lv_at hl 2 rfl) ?_
        obtain ⟨n3, g2, hw⟩ := hw
        obtain ⟨g4, hw⟩ := hw
        refine C_last C h g2 g4 h_Ar_fill_20 (fun H locs h => ?_)
        obtain ⟨σ5, e_σ5⟩ : ∃ z : CST, z = sL σ a0 (z5 : Int32).toNatClampNeg z3 := ⟨_, rfl⟩
        rw [← e_σ5] at h
        replace hw := hw σ5 e_σ5
        refine lv_iinc (v := (z5 + 1)) (lv' := [(5, .int (z5 + 1)), (0, .ref a0), (2, .int z2), (3, .long z3)]) hx hb h_Ar_fill_21 hl (k := 3) rfl (rfl) (by decide) rfl (fun ls hl => ?_)
        refine lv_goto (tgt := 10) hx hb h_Ar_fill_24 (by decide) ?_
        exact ih z2 z3 (z5 + 1) σ5 _ _ _ _ _ hw h (lv_sub hl [1, 2, 3, 0] rfl)
  have hl : lv_has ls 6 [(0, .ref a0), (1, .int x1), (2, .int x2), (3, .long x3)] := hl
  unfold x_Ar_fill at hw
  refine lv_aload_n hx hb h_Ar_fill_0 rfl (lv_at hl 0 rfl) ?_
  obtain ⟨n7, g6, hw⟩ := hw
  refine C_alen C h 22 2 rfl (by decide) g6 h_Ar_fill_1 ?_
  refine lv_iload_n hx hb h_Ar_fill_2 rfl (lv_at hl 1 rfl) ?_
  refine lv_iload_n hx hb h_Ar_fill_3 rfl (lv_at hl 2 rfl) ?_
  refine C_callSv (As := [.int (Int32.ofNat n7), .int x1, .int x2]) (rest := []) C h (X_Ar_rangeCheck l dC dI ca s.heap σ0 (Int32.ofNat n7) x1 x2 hw) (va_cwS 3 hts (gS hsub u_187 u_188 u_46 u_189) rfl rfl rfl (by decide +kernel) ⟨(Nat.le_of_ble_eq_true rfl), (Nat.le_of_ble_eq_true rfl)⟩) rfl hl.1 (Nat.le_of_ble_eq_true rfl) h_Ar_fill_4 (fun σ8 H locs cells slots hw9 h9 => ?_)
  clear hw h; have hw := hw9; have h := h9; clear hw9 h9
  refine W.eq (g2 := F0 m 7 ls []) rfl ?_
  refine lv_iload_n hx hb h_Ar_fill_7 rfl (lv_at hl 1 rfl) ?_
  refine lv_istore (lv' := [(5, .int x1), (0, .ref a0), (1, .int x1), (2, .int x2), (3, .long x3)]) hx hb h_Ar_fill_8 hl (by decide) rfl (fun ls hl => ?_)
  obtain ⟨n9, hw⟩ := hw
  exact K_10 n9 x2 x3 x1 σ8 _ _ _ _ _ hw h (lv_sub hl [1, 3, 4, 0] rfl)
abbrev g_H_make : MethodName := ⟨"MapFramer$Heap", "make", "(II)I"⟩
theorem u_190 : (Cond.fieldLink "MapFramer$Heap" 20 "MapFramer$Heap" "made" "I" : Cond) ∈ bigW := inB_1 104 (by decide +kernel) rfl
theorem u_191 : (Cond.methodLink "MapFramer$Heap" 24 ⟨"java/util/Arrays", "fill", "([JIIJ)V"⟩ : Cond) ∈ bigW := inB_8 14 (by decide +kernel) rfl
theorem u_192 : (Cond.static ⟨"java/util/Arrays", "fill", "([JIIJ)V"⟩ : Cond) ∈ bigW := inB_8 15 (by decide +kernel) rfl
theorem u_193 : (Cond.code ⟨"java/util/Arrays", "fill", "([JIIJ)V"⟩ prog_37_method_102_code 6 none : Cond) ∈ bigW := inB_8 16 rfl rfl
theorem h_H_make_0 : decode prog_5_method_2_code 0 = .ok (.aload_n 0, 1) := by decide +kernel
theorem h_H_make_1 : decode prog_5_method_2_code 1 = .ok (.getfield 20, 3) := by decide +kernel
theorem h_H_make_4 : decode prog_5_method_2_code 4 = .ok (.sipush 150, 3) := by decide +kernel
theorem h_H_make_7 : decode prog_5_method_2_code 7 = .ok (.if_icmp .ge 13, 3) := by decide +kernel
theorem h_H_make_10 : decode prog_5_method_2_code 10 = .ok (.iload_n 2, 1) := by decide +kernel
theorem h_H_make_11 : decode prog_5_method_2_code 11 = .ok (.ifCond .lt 9, 3) := by decide +kernel
theorem h_H_make_14 : decode prog_5_method_2_code 14 = .ok (.iload_n 2, 1) := by decide +kernel
theorem h_H_make_15 : decode prog_5_method_2_code 15 = .ok (.bipush 24, 2) := by decide +kernel
theorem h_H_make_17 : decode prog_5_method_2_code 17 = .ok (.if_icmp .le 5, 3) := by decide +kernel
theorem h_H_make_20 : decode prog_5_method_2_code 20 = .ok (.iconst 0, 1) := by decide +kernel
theorem h_H_make_21 : decode prog_5_method_2_code 21 = .ok (.ireturn, 1) := by decide +kernel
theorem h_H_make_22 : decode prog_5_method_2_code 22 = .ok (.aload_n 0, 1) := by decide +kernel
theorem h_H_make_23 : decode prog_5_method_2_code 23 = .ok (.getfield 9, 3) := by decide +kernel
theorem h_H_make_26 : decode prog_5_method_2_code 26 = .ok (.aload_n 0, 1) := by decide +kernel
theorem h_H_make_27 : decode prog_5_method_2_code 27 = .ok (.getfield 20, 3) := by decide +kernel
theorem h_H_make_30 : decode prog_5_method_2_code 30 = .ok (.iload_n 1, 1) := by decide +kernel
theorem h_H_make_31 : decode prog_5_method_2_code 31 = .ok (.iastore, 1) := by decide +kernel
theorem h_H_make_32 : decode prog_5_method_2_code 32 = .ok (.aload_n 0, 1) := by decide +kernel
theorem h_H_make_33 : decode prog_5_method_2_code 33 = .ok (.getfield 13, 3) := by decide +kernel
theorem h_H_make_36 : decode prog_5_method_2_code 36 = .ok (.aload_n 0, 1) := by decide +kernel
theorem h_H_make_37 : decode prog_5_method_2_code 37 = .ok (.getfield 20, 3) := by decide +kernel
theorem h_H_make_40 : decode prog_5_method_2_code 40 = .ok (.iload_n 2, 1) := by decide +kernel
theorem h_H_make_41 : decode prog_5_method_2_code 41 = .ok (.iastore, 1) := by decide +kernel
theorem h_H_make_42 : decode prog_5_method_2_code 42 = .ok (.aload_n 0, 1) := by decide +kernel
theorem h_H_make_43 : decode prog_5_method_2_code 43 = .ok (.getfield 16, 3) := by decide +kernel
theorem h_H_make_46 : decode prog_5_method_2_code 46 = .ok (.aload_n 0, 1) := by decide +kernel
theorem h_H_make_47 : decode prog_5_method_2_code 47 = .ok (.getfield 20, 3) := by decide +kernel
theorem h_H_make_50 : decode prog_5_method_2_code 50 = .ok (.bipush 24, 2) := by decide +kernel
theorem h_H_make_52 : decode prog_5_method_2_code 52 = .ok (.imul, 1) := by decide +kernel
theorem h_H_make_53 : decode prog_5_method_2_code 53 = .ok (.aload_n 0, 1) := by decide +kernel
theorem h_H_make_54 : decode prog_5_method_2_code 54 = .ok (.getfield 20, 3) := by decide +kernel
theorem h_H_make_57 : decode prog_5_method_2_code 57 = .ok (.bipush 24, 2) := by decide +kernel
theorem h_H_make_59 : decode prog_5_method_2_code 59 = .ok (.imul, 1) := by decide +kernel
theorem h_H_make_60 : decode prog_5_method_2_code 60 = .ok (.iload_n 2, 1) := by decide +kernel
theorem h_H_make_61 : decode prog_5_method_2_code 61 = .ok (.iadd, 1) := by decide +kernel
theorem h_H_make_62 : decode prog_5_method_2_code 62 = .ok (.lconst 0, 1) := by decide +kernel
theorem h_H_make_63 : decode prog_5_method_2_code 63 = .ok (.invokestatic 24, 3) := by decide +kernel
theorem h_H_make_66 : decode prog_5_method_2_code 66 = .ok (.aload_n 0, 1) := by decide +kernel
theorem h_H_make_67 : decode prog_5_method_2_code 67 = .ok (.dup, 1) := by decide +kernel
theorem h_H_make_68 : decode prog_5_method_2_code 68 = .ok (.getfield 20, 3) := by decide +kernel
theorem h_H_make_71 : decode prog_5_method_2_code 71 = .ok (.iconst 1, 1) := by decide +kernel
theorem h_H_make_72 : decode prog_5_method_2_code 72 = .ok (.iadd, 1) := by decide +kernel
theorem h_H_make_73 : decode prog_5_method_2_code 73 = .ok (.putfield 20, 3) := by decide +kernel
theorem h_H_make_76 : decode prog_5_method_2_code 76 = .ok (.aload_n 0, 1) := by decide +kernel
theorem h_H_make_77 : decode prog_5_method_2_code 77 = .ok (.getfield 20, 3) := by decide +kernel
theorem h_H_make_80 : decode prog_5_method_2_code 80 = .ok (.ireturn, 1) := by decide +kernel
def x_H_make (a0 : Nat) (x1 : Int32) (x2 : Int32) (σ0 : CST) (P : Int32 → CST → Prop) : Prop := σ0.1 a0 = some (1, 0) ∧ (((150 ≤ (σ0.2.1 a0 3) → P (0 : Int32) σ0) ∧ (¬ 150 ≤ (σ0.2.1 a0 3) → ((x2 < 0 → P (0 : Int32) σ0) ∧ (¬ x2 < 0 → ((x2 ≤ 24 → ∀ b5 : Option Nat, b5 = (σ0.2.2.2.1 a0 0) → (∃ r6 : Nat, b5 = some r6 ∧ ((∃ n8 : Nat, σ0.1 r6 = some (20, n8) ∧ (vp_in (σ0.2.1 a0 3) n8 ∧ (∀ σ10 : CST, σ10 = sI σ0 r6 ((σ0.2.1 a0 3) : Int32).toNatClampNeg x1 → σ10.1 a0 = some (1, 0) ∧ (∀ b12 : Option Nat, b12 = (σ10.2.2.2.1 a0 1) → (∃ r13 : Nat, b12 = some r13 ∧ ((∃ n15 : Nat, σ10.1 r13 = some (20, n15) ∧ (vp_in (σ10.2.1 a0 3) n15 ∧ (∀ σ17 : CST, σ17 = sI σ10 r13 ((σ10.2.1 a0 3) : Int32).toNatClampNeg x2 → σ17.1 a0 = some (1, 0) ∧ (∀ b19 : Option Nat, b19 = (σ17.2.2.2.1 a0 2) → (∃ r20 : Nat, b19 = some r20 ∧ (x_Ar_fill r20 ((σ17.2.1 a0 3) * 24) (((σ17.2.1 a0 3) * 24) + x2) (0 : Int64) σ17 (fun σ21 => σ21.1 a0 = some (1, 0) ∧ (∀ σ24 : CST, σ24 = sI σ21 a0 3 ((σ21.2.1 a0 3) + 1) → σ24.1 a0 = some (1, 0) ∧ (P (σ24.2.1 a0 3) σ24)))))))))))))))))) ∧ (¬ x2 ≤ 24 → P (0 : Int32) σ0)))))))
set_option maxHeartbeats 4000000 in
set_option maxRecDepth 100000 in
theorem X_H_make (l : Launch) (dC : Nat → ClassId) (dI : Nat → Nat → Nat) (ca : Nat → ClassId) (H0 : Heap) (σ0 : CST) (a0 : Nat) (x1 : Int32) (x2 : Int32) {P : Int32 → CST → Prop} (hw : x_H_make a0 x1 x2 σ0 P) : Met l g_H_make (mW g_H_make prog_5_method_2_code 3 (some .int)) ({ frames := 2, cells := σ0.2.2.2.2.1, slots := σ0.2.2.2.2.2.1, locals := 47 } : Room) (va_Pc [.ref a0, .int x1, .int x2] (CPre (dC, dI) ca σ0 H0)) (va_Qi P (CB (dC, dI) ca σ0 H0) (cA σ0 H0.size)) σ0.2.2.2.2.1 σ0.2.2.2.2.2.1 (cA σ0 H0.size) := by
  refine C_ofi (by decide +kernel) rfl rfl rfl (Nat.le_of_ble_eq_true rfl) ?_
  intro p e s m below meth cx Q A ls C hnm hend hH0 h hl
  subst hH0
  have C0 := C
  obtain ⟨⟨hx, hb, hml, hown, hts⟩, hsub⟩ := C0
  obtain ⟨cells, e_cells⟩ : ∃ z : Nat, z = 0 := ⟨_, rfl⟩
  obtain ⟨slots, e_slots⟩ : ∃ z : Nat, z = 0 := ⟨_, rfl⟩
  have h : CH (dC, dI) A ca ({ frames := 2, cells := σ0.2.2.2.2.1, slots := σ0.2.2.2.2.2.1, locals := 47 } : Room) σ0.2.2.2.2.2.2 σ0 s s.heap [] cells slots := by rw [e_cells, e_slots]; exact h
  show W p l e ({ frames := 2, cells := σ0.2.2.2.2.1, slots := σ0.2.2.2.2.2.1, locals := 47 } : Room) s m ([.ref a0, .int x1, .int x2] : List Value).toArray below meth cx s.heap [] 0 0 Q (F0 m 0 ls [])
  rw [show W p l e ({ frames := 2, cells := σ0.2.2.2.2.1, slots := σ0.2.2.2.2.2.1, locals := 47 } : Room) s m ([.ref a0, .int x1, .int x2] : List Value).toArray below meth cx s.heap [] 0 0 Q (F0 m 0 ls []) = W p l e ({ frames := 2, cells := σ0.2.2.2.2.1, slots := σ0.2.2.2.2.2.1, locals := 47 } : Room) s m ([.ref a0, .int x1, .int x2] : List Value).toArray below meth cx s.heap [] cells slots Q (F0 m 0 ls []) by rw [e_cells, e_slots]]
  have hl : lv_has ls 3 [(0, .ref a0), (1, .int x1), (2, .int x2)] := hl
  unfold x_H_make at hw
  refine lv_aload_n hx hb h_H_make_0 rfl (lv_at hl 0 rfl) ?_
  obtain ⟨g1, hw⟩ := hw
  refine C_get C h 1 3 (v := .int (σ0.2.1 a0 3)) g1 rfl (Cn := R_H) (T := T_H) (N := 4) rfl (by decide) rfl uw_H (by decide) u_190 (fun _ q => q) h_H_make_1 ?_
  refine lv_sipush (v := 150) hx hb h_H_make_4 (by decide) ?_
  refine lv_icmp_ge (tgt := 20) hx hb h_H_make_7 (by decide) (fun c2 => ?_) (fun c2 => ?_)
  · skip
    replace hw := hw.1 c2
    refine lv_iconst (v := 0) hx hb h_H_make_20 (by decide) ?_
    exact hend (0 : Int32) σ0 _ _ _ _ _ _ hw h h_H_make_21
  · skip
    replace hw := hw.2 c2
    refine lv_iload_n hx hb h_H_make_10 rfl (lv_at hl 2 rfl) ?_
    refine lv_if_lt (tgt := 20) hx hb h_H_make_11 (by decide) (fun c3 => ?_) (fun c3 => ?_)
    · skip
      replace hw := hw.1 c3
      refine lv_iconst (v := 0) hx hb h_H_make_20 (by decide) ?_
      exact hend (0 : Int32) σ0 _ _ _ _ _ _ hw h h_H_make_21
    · skip
      replace hw := hw.2 c3
      refine lv_iload_n hx hb h_H_make_14 rfl (lv_at hl 2 rfl) ?_
      refine lv_bipush (v := 24) hx hb h_H_make_15 (by decide) ?_
      refine lv_icmp_le (tgt := 22) hx hb h_H_make_17 (by decide) (fun c4 => ?_) (fun c4 => ?_)
      · skip
        replace hw := hw.1 c4
        refine lv_aload_n hx hb h_H_make_22 rfl (lv_at hl 0 rfl) ?_
        refine C_get C h 1 0 (v := va_rf (σ0.2.2.2.1 a0 0)) g1 rfl (Cn := R_H) (T := T_H) (N := 4) rfl (by decide) rfl uw_H (by decide) u_184 (fun _ q => q) h_H_make_23 ?_
        refine lv_topq (fun b5 e_b5 => ?_)
        replace hw := hw b5 e_b5
        refine lv_aload_n hx hb h_H_make_26 rfl (lv_at hl 0 rfl) ?_
        refine C_get C h 1 3 (v := .int (σ0.2.1 a0 3)) g1 rfl (Cn := R_H) (T := T_H) (N := 4) rfl (by decide) rfl uw_H (by decide) u_190 (fun _ q => q) h_H_make_27 ?_
        refine lv_iload_n hx hb h_H_make_30 rfl (lv_at hl 1 rfl) ?_
        obtain ⟨r6, e_r6, hw⟩ := hw
        subst e_r6
        have hl : lv_has ls 3 [(0, .ref a0), (1, .int x1), (2, .int x2)] := hl
        refine W.eq (g2 := F0 m 31 ls [.int x1, .int (σ0.2.1 a0 3), .ref r6]) rfl ?_
        obtain ⟨n8, g7, hw⟩ := hw
        obtain ⟨g9, hw⟩ := hw
        refine C_iast C h g7 g9 h_H_make_31 (fun H locs h => ?_)
        obtain ⟨σ10, e_σ10⟩ : ∃ z : CST, z = sI σ0 r6 ((σ0.2.1 a0 3) : Int32).toNatClampNeg x1 := ⟨_, rfl⟩
        rw [← e_σ10] at h
        replace hw := hw σ10 e_σ10
        refine lv_aload_n hx hb h_H_make_32 rfl (lv_at hl 0 rfl) ?_
        obtain ⟨g11, hw⟩ := hw
        refine C_get C h 1 1 (v := va_rf (σ10.2.2.2.1 a0 1)) g11 rfl (Cn := R_H) (T := T_H) (N := 4) rfl (by decide) rfl uw_H (by decide) u_185 (fun _ q => q) h_H_make_33 ?_
        refine lv_topq (fun b12 e_b12 => ?_)
        replace hw := hw b12 e_b12
        refine lv_aload_n hx hb h_H_make_36 rfl (lv_at hl 0 rfl) ?_
        refine C_get C h 1 3 (v := .int (σ10.2.1 a0 3)) g11 rfl (Cn := R_H) (T := T_H) (N := 4) rfl (by decide) rfl uw_H (by decide) u_190 (fun _ q => q) h_H_make_37 ?_
        refine lv_iload_n hx hb h_H_make_40 rfl (lv_at hl 2 rfl) ?_
        obtain ⟨r13, e_r13, hw⟩ := hw
        subst e_r13
        have hl : lv_has ls 3 [(0, .ref a0), (1, .int x1), (2, .int x2)] := hl
        refine W.eq (g2 := F0 m 41 ls [.int x2, .int (σ10.2.1 a0 3), .ref r13]) rfl ?_
        obtain ⟨n15, g14, hw⟩ := hw
        obtain ⟨g16, hw⟩ := hw
        refine C_iast C h g14 g16 h_H_make_41 (fun H locs h => ?_)
        obtain ⟨σ17, e_σ17⟩ : ∃ z : CST, z = sI σ10 r13 ((σ10.2.1 a0 3) : Int32).toNatClampNeg x2 := ⟨_, rfl⟩
        rw [← e_σ17] at h
        replace hw := hw σ17 e_σ17
        refine lv_aload_n hx hb h_H_make_42 rfl (lv_at hl 0 rfl) ?_
        obtain ⟨g18, hw⟩ := hw
        refine C_get C h 1 2 (v := va_rf (σ17.2.2.2.1 a0 2)) g18 rfl (Cn := R_H) (T := T_H) (N := 4) rfl (by decide) rfl uw_H (by decide) u_186 (fun _ q => q) h_H_make_43 ?_
        refine lv_topq (fun b19 e_b19 => ?_)
        replace hw := hw b19 e_b19
        refine lv_aload_n hx hb h_H_make_46 rfl (lv_at hl 0 rfl) ?_
        refine C_get C h 1 3 (v := .int (σ17.2.1 a0 3)) g18 rfl (Cn := R_H) (T := T_H) (N := 4) rfl (by decide) rfl uw_H (by decide) u_190 (fun _ q => q) h_H_make_47 ?_
        refine lv_bipush (v := 24) hx hb h_H_make_50 (by decide) ?_
        refine lv_imul hx hb h_H_make_52 ?_
        refine lv_aload_n hx hb h_H_make_53 rfl (lv_at hl 0 rfl) ?_
        refine C_get C h 1 3 (v := .int (σ17.2.1 a0 3)) g18 rfl (Cn := R_H) (T := T_H) (N := 4) rfl (by decide) rfl uw_H (by decide) u_190 (fun _ q => q) h_H_make_54 ?_
        refine lv_bipush (v := 24) hx hb h_H_make_57 (by decide) ?_
        refine lv_imul hx hb h_H_make_59 ?_
        refine lv_iload_n hx hb h_H_make_60 rfl (lv_at hl 2 rfl) ?_
        refine lv_iadd hx hb h_H_make_61 ?_
        refine lv_lconst (v := 0) hx hb h_H_make_62 (by decide) ?_
        obtain ⟨r20, e_r20, hw⟩ := hw
        subst e_r20
        have hl : lv_has ls 3 [(0, .ref a0), (1, .int x1), (2, .int x2)] := hl
        refine W.eq (g2 := F0 m 63 ls [.long 0, .int (((σ17.2.1 a0 3) * 24) + x2), .int ((σ17.2.1 a0 3) * 24), .ref r20]) rfl ?_
        refine C_callSv (As := [.ref r20, .int ((σ17.2.1 a0 3) * 24), .int (((σ17.2.1 a0 3) * 24) + x2), .long 0]) (rest := []) C h (X_Ar_fill l dC dI ca H σ17 r20 ((σ17.2.1 a0 3) * 24) (((σ17.2.1 a0 3) * 24) + x2) (0 : Int64) hw) (va_cwS 4 hts (gS hsub u_191 u_192 u_46 u_193) rfl rfl rfl (by decide +kernel) ⟨(Nat.le_of_ble_eq_true rfl), (Nat.le_of_ble_eq_true rfl)⟩) rfl hl.1 (Nat.le_of_ble_eq_true rfl) h_H_make_63 (fun σ21 H locs cells slots hw9 h9 => ?_)
        clear hw h; have hw := hw9; have h := h9; clear hw9 h9
        refine W.eq (g2 := F0 m 66 ls []) rfl ?_
        refine lv_aload_n hx hb h_H_make_66 rfl (lv_at hl 0 rfl) ?_
        refine lv_dup hx hb h_H_make_67 rfl ?_
        obtain ⟨g23, hw⟩ := hw
        refine C_get C h 1 3 (v := .int (σ21.2.1 a0 3)) g23 rfl (Cn := R_H) (T := T_H) (N := 4) rfl (by decide) rfl uw_H (by decide) u_190 (fun _ q => q) h_H_make_68 ?_
        refine lv_iconst (v := 1) hx hb h_H_make_71 (by decide) ?_
        refine lv_iadd hx hb h_H_make_72 ?_
        refine C_puti C h 1 3 g23 (Cn := R_H) (T := T_H) (N := 4) rfl (by decide) rfl uw_H tok_H nm_H (by decide) rfl u_190 (fun _ q => q) (Or.inl rfl) (by decide +kernel) h_H_make_73 (fun H locs h => ?_)
        obtain ⟨σ24, e_σ24⟩ : ∃ z : CST, z = sI σ21 a0 3 ((σ21.2.1 a0 3) + 1) := ⟨_, rfl⟩
        rw [← e_σ24] at h
        replace hw := hw σ24 e_σ24
        refine lv_aload_n hx hb h_H_make_76 rfl (lv_at hl 0 rfl) ?_
        obtain ⟨g25, hw⟩ := hw
        refine C_get C h 1 3 (v := .int (σ24.2.1 a0 3)) g25 rfl (Cn := R_H) (T := T_H) (N := 4) rfl (by decide) rfl uw_H (by decide) u_190 (fun _ q => q) h_H_make_77 ?_
        exact hend (σ24.2.1 a0 3) σ24 _ _ _ _ _ _ hw h h_H_make_80
      · skip
        replace hw := hw.2 c4
        refine lv_iconst (v := 0) hx hb h_H_make_20 (by decide) ?_
        exact hend (0 : Int32) σ0 _ _ _ _ _ _ hw h h_H_make_21
abbrev g_H_typeOf : MethodName := ⟨"MapFramer$Heap", "typeOf", "(I)I"⟩
theorem h_H_typeOf_0 : decode prog_5_method_3_code 0 = .ok (.iload_n 1, 1) := by decide +kernel
theorem h_H_typeOf_1 : decode prog_5_method_3_code 1 = .ok (.iconst 1, 1) := by decide +kernel
theorem h_H_typeOf_2 : decode prog_5_method_3_code 2 = .ok (.if_icmp .lt 22, 3) := by decide +kernel
theorem h_H_typeOf_5 : decode prog_5_method_3_code 5 = .ok (.iload_n 1, 1) := by decide +kernel
theorem h_H_typeOf_6 : decode prog_5_method_3_code 6 = .ok (.aload_n 0, 1) := by decide +kernel
theorem h_H_typeOf_7 : decode prog_5_method_3_code 7 = .ok (.getfield 20, 3) := by decide +kernel
theorem h_H_typeOf_10 : decode prog_5_method_3_code 10 = .ok (.if_icmp .gt 14, 3) := by decide +kernel
theorem h_H_typeOf_13 : decode prog_5_method_3_code 13 = .ok (.aload_n 0, 1) := by decide +kernel
theorem h_H_typeOf_14 : decode prog_5_method_3_code 14 = .ok (.getfield 9, 3) := by decide +kernel
theorem h_H_typeOf_17 : decode prog_5_method_3_code 17 = .ok (.iload_n 1, 1) := by decide +kernel
theorem h_H_typeOf_18 : decode prog_5_method_3_code 18 = .ok (.iconst 1, 1) := by decide +kernel
theorem h_H_typeOf_19 : decode prog_5_method_3_code 19 = .ok (.isub, 1) := by decide +kernel
theorem h_H_typeOf_20 : decode prog_5_method_3_code 20 = .ok (.iaload, 1) := by decide +kernel
theorem h_H_typeOf_21 : decode prog_5_method_3_code 21 = .ok (.goto 4, 3) := by decide +kernel
theorem h_H_typeOf_24 : decode prog_5_method_3_code 24 = .ok (.iconst 5, 1) := by decide +kernel
theorem h_H_typeOf_25 : decode prog_5_method_3_code 25 = .ok (.ireturn, 1) := by decide +kernel
def x_H_typeOf (a0 : Nat) (x1 : Int32) (σ0 : CST) (P : Int32 → CST → Prop) : Prop := ((x1 < 1 → P (5 : Int32) σ0) ∧ (¬ x1 < 1 → σ0.1 a0 = some (1, 0) ∧ ((((σ0.2.1 a0 3) < x1 → P (5 : Int32) σ0) ∧ (¬ (σ0.2.1 a0 3) < x1 → ∀ b4 : Option Nat, b4 = (σ0.2.2.2.1 a0 0) → (∃ r5 : Nat, b4 = some r5 ∧ ((∃ n7 : Nat, σ0.1 r5 = some (20, n7) ∧ (vp_in (x1 - 1) n7 ∧ (∀ b9 : Int32, b9 = (σ0.2.1 r5 ((x1 - 1) : Int32).toNatClampNeg) → P b9 σ0))))))))))
set_option maxHeartbeats 4000000 in
set_option maxRecDepth 100000 in
theorem X_H_typeOf (l : Launch) (dC : Nat → ClassId) (dI : Nat → Nat → Nat) (ca : Nat → ClassId) (H0 : Heap) (σ0 : CST) (a0 : Nat) (x1 : Int32) {P : Int32 → CST → Prop} (hw : x_H_typeOf a0 x1 σ0 P) : Met l g_H_typeOf (mW g_H_typeOf prog_5_method_3_code 2 (some .int)) ({ frames := 0, cells := σ0.2.2.2.2.1, slots := σ0.2.2.2.2.2.1, locals := 0 } : Room) (va_Pc [.ref a0, .int x1] (CPre (dC, dI) ca σ0 H0)) (va_Qi P (CB (dC, dI) ca σ0 H0) (cA σ0 H0.size)) σ0.2.2.2.2.1 σ0.2.2.2.2.2.1 (cA σ0 H0.size) := by
  refine C_ofi (by decide +kernel) rfl rfl rfl (Nat.le_of_ble_eq_true rfl) ?_
  intro p e s m below meth cx Q A ls C hnm hend hH0 h hl
  subst hH0
  have C0 := C
  obtain ⟨⟨hx, hb, hml, hown, hts⟩, hsub⟩ := C0
  obtain ⟨cells, e_cells⟩ : ∃ z : Nat, z = 0 := ⟨_, rfl⟩
  obtain ⟨slots, e_slots⟩ : ∃ z : Nat, z = 0 := ⟨_, rfl⟩
  have h : CH (dC, dI) A ca ({ frames := 0, cells := σ0.2.2.2.2.1, slots := σ0.2.2.2.2.2.1, locals := 0 } : Room) σ0.2.2.2.2.2.2 σ0 s s.heap [] cells slots := by rw [e_cells, e_slots]; exact h
  show W p l e ({ frames := 0, cells := σ0.2.2.2.2.1, slots := σ0.2.2.2.2.2.1, locals := 0 } : Room) s m ([.ref a0, .int x1] : List Value).toArray below meth cx s.heap [] 0 0 Q (F0 m 0 ls [])
  rw [show W p l e ({ frames := 0, cells := σ0.2.2.2.2.1, slots := σ0.2.2.2.2.2.1, locals := 0 } : Room) s m ([.ref a0, .int x1] : List Value).toArray below meth cx s.heap [] 0 0 Q (F0 m 0 ls []) = W p l e ({ frames := 0, cells := σ0.2.2.2.2.1, slots := σ0.2.2.2.2.2.1, locals := 0 } : Room) s m ([.ref a0, .int x1] : List Value).toArray below meth cx s.heap [] cells slots Q (F0 m 0 ls []) by rw [e_cells, e_slots]]
  have hl : lv_has ls 2 [(0, .ref a0), (1, .int x1)] := hl
  unfold x_H_typeOf at hw
  refine lv_iload_n hx hb h_H_typeOf_0 rfl (lv_at hl 1 rfl) ?_
  refine lv_iconst (v := 1) hx hb h_H_typeOf_1 (by decide) ?_
  refine lv_icmp_lt (tgt := 24) hx hb h_H_typeOf_2 (by decide) (fun c1 => ?_) (fun c1 => ?_)
  · skip
    replace hw := hw.1 c1
    refine lv_iconst (v := 5) hx hb h_H_typeOf_24 (by decide) ?_
    exact hend (5 : Int32) σ0 _ _ _ _ _ _ hw h h_H_typeOf_25
  · skip
    replace hw := hw.2 c1
    refine lv_iload_n hx hb h_H_typeOf_5 rfl (lv_at hl 1 rfl) ?_
    refine lv_aload_n hx hb h_H_typeOf_6 rfl (lv_at hl 0 rfl) ?_
    obtain ⟨g2, hw⟩ := hw
    refine C_get C h 1 3 (v := .int (σ0.2.1 a0 3)) g2 rfl (Cn := R_H) (T := T_H) (N := 4) rfl (by decide) rfl uw_H (by decide) u_190 (fun _ q => q) h_H_typeOf_7 ?_
    refine lv_icmp_gt (tgt := 24) hx hb h_H_typeOf_10 (by decide) (fun c3 => ?_) (fun c3 => ?_)
    · skip
      replace hw := hw.1 c3
      refine lv_iconst (v := 5) hx hb h_H_typeOf_24 (by decide) ?_
      exact hend (5 : Int32) σ0 _ _ _ _ _ _ hw h h_H_typeOf_25
    · skip
      replace hw := hw.2 c3
      refine lv_aload_n hx hb h_H_typeOf_13 rfl (lv_at hl 0 rfl) ?_
      refine C_get C h 1 0 (v := va_rf (σ0.2.2.2.1 a0 0)) g2 rfl (Cn := R_H) (T := T_H) (N := 4) rfl (by decide) rfl uw_H (by decide) u_184 (fun _ q => q) h_H_typeOf_14 ?_
      refine lv_topq (fun b4 e_b4 => ?_)
      replace hw := hw b4 e_b4
      refine lv_iload_n hx hb h_H_typeOf_17 rfl (lv_at hl 1 rfl) ?_
      refine lv_iconst (v := 1) hx hb h_H_typeOf_18 (by decide) ?_
      refine lv_isub hx hb h_H_typeOf_19 ?_
      obtain ⟨r5, e_r5, hw⟩ := hw
      subst e_r5
      have hl : lv_has ls 2 [(0, .ref a0), (1, .int x1)] := hl
      refine W.eq (g2 := F0 m 20 ls [.int (x1 - 1), .ref r5]) rfl ?_
      obtain ⟨n7, g6, hw⟩ := hw
      obtain ⟨g8, hw⟩ := hw
      refine C_iald C h g6 g8 h_H_typeOf_20 ?_
      refine lv_topi (fun b9 e_b9 => ?_)
      replace hw := hw b9 e_b9
      refine lv_goto (tgt := 25) hx hb h_H_typeOf_21 (by decide) ?_
      exact hend b9 σ0 _ _ _ _ _ _ hw h h_H_typeOf_25
abbrev g_H_lengthOf : MethodName := ⟨"MapFramer$Heap", "lengthOf", "(I)I"⟩
theorem h_H_lengthOf_0 : decode prog_5_method_4_code 0 = .ok (.iload_n 1, 1) := by decide +kernel
theorem h_H_lengthOf_1 : decode prog_5_method_4_code 1 = .ok (.iconst 1, 1) := by decide +kernel
theorem h_H_lengthOf_2 : decode prog_5_method_4_code 2 = .ok (.if_icmp .lt 22, 3) := by decide +kernel
theorem h_H_lengthOf_5 : decode prog_5_method_4_code 5 = .ok (.iload_n 1, 1) := by decide +kernel
theorem h_H_lengthOf_6 : decode prog_5_method_4_code 6 = .ok (.aload_n 0, 1) := by decide +kernel
theorem h_H_lengthOf_7 : decode prog_5_method_4_code 7 = .ok (.getfield 20, 3) := by decide +kernel
theorem h_H_lengthOf_10 : decode prog_5_method_4_code 10 = .ok (.if_icmp .gt 14, 3) := by decide +kernel
theorem h_H_lengthOf_13 : decode prog_5_method_4_code 13 = .ok (.aload_n 0, 1) := by decide +kernel
theorem h_H_lengthOf_14 : decode prog_5_method_4_code 14 = .ok (.getfield 13, 3) := by decide +kernel
theorem h_H_lengthOf_17 : decode prog_5_method_4_code 17 = .ok (.iload_n 1, 1) := by decide +kernel
theorem h_H_lengthOf_18 : decode prog_5_method_4_code 18 = .ok (.iconst 1, 1) := by decide +kernel
theorem h_H_lengthOf_19 : decode prog_5_method_4_code 19 = .ok (.isub, 1) := by decide +kernel
theorem h_H_lengthOf_20 : decode prog_5_method_4_code 20 = .ok (.iaload, 1) := by decide +kernel
theorem h_H_lengthOf_21 : decode prog_5_method_4_code 21 = .ok (.goto 4, 3) := by decide +kernel
theorem h_H_lengthOf_24 : decode prog_5_method_4_code 24 = .ok (.iconst 0, 1) := by decide +kernel
theorem h_H_lengthOf_25 : decode prog_5_method_4_code 25 = .ok (.ireturn, 1) := by decide +kernel
def x_H_lengthOf (a0 : Nat) (x1 : Int32) (σ0 : CST) (P : Int32 → CST → Prop) : Prop := ((x1 < 1 → P (0 : Int32) σ0) ∧ (¬ x1 < 1 → σ0.1 a0 = some (1, 0) ∧ ((((σ0.2.1 a0 3) < x1 → P (0 : Int32) σ0) ∧ (¬ (σ0.2.1 a0 3) < x1 → ∀ b4 : Option Nat, b4 = (σ0.2.2.2.1 a0 1) → (∃ r5 : Nat, b4 = some r5 ∧ ((∃ n7 : Nat, σ0.1 r5 = some (20, n7) ∧ (vp_in (x1 - 1) n7 ∧ (∀ b9 : Int32, b9 = (σ0.2.1 r5 ((x1 - 1) : Int32).toNatClampNeg) → P b9 σ0))))))))))
set_option maxHeartbeats 4000000 in
set_option maxRecDepth 100000 in
theorem X_H_lengthOf (l : Launch) (dC : Nat → ClassId) (dI : Nat → Nat → Nat) (ca : Nat → ClassId) (H0 : Heap) (σ0 : CST) (a0 : Nat) (x1 : Int32) {P : Int32 → CST → Prop} (hw : x_H_lengthOf a0 x1 σ0 P) : Met l g_H_lengthOf (mW g_H_lengthOf prog_5_method_4_code 2 (some .int)) ({ frames := 0, cells := σ0.2.2.2.2.1, slots := σ0.2.2.2.2.2.1, locals := 0 } : Room) (va_Pc [.ref a0, .int x1] (CPre (dC, dI) ca σ0 H0)) (va_Qi P (CB (dC, dI) ca σ0 H0) (cA σ0 H0.size)) σ0.2.2.2.2.1 σ0.2.2.2.2.2.1 (cA σ0 H0.size) := by
  refine C_ofi (by decide +kernel) rfl rfl rfl (Nat.le_of_ble_eq_true rfl) ?_
  intro p e s m below meth cx Q A ls C hnm hend hH0 h hl
  subst hH0
  have C0 := C
  obtain ⟨⟨hx, hb, hml, hown, hts⟩, hsub⟩ := C0
  obtain ⟨cells, e_cells⟩ : ∃ z : Nat, z = 0 := ⟨_, rfl⟩
  obtain ⟨slots, e_slots⟩ : ∃ z : Nat, z = 0 := ⟨_, rfl⟩
  have h : CH (dC, dI) A ca ({ frames := 0, cells := σ0.2.2.2.2.1, slots := σ0.2.2.2.2.2.1, locals := 0 } : Room) σ0.2.2.2.2.2.2 σ0 s s.heap [] cells slots := by rw [e_cells, e_slots]; exact h
  show W p l e ({ frames := 0, cells := σ0.2.2.2.2.1, slots := σ0.2.2.2.2.2.1, locals := 0 } : Room) s m ([.ref a0, .int x1] : List Value).toArray below meth cx s.heap [] 0 0 Q (F0 m 0 ls [])
  rw [show W p l e ({ frames := 0, cells := σ0.2.2.2.2.1, slots := σ0.2.2.2.2.2.1, locals := 0 } : Room) s m ([.ref a0, .int x1] : List Value).toArray below meth cx s.heap [] 0 0 Q (F0 m 0 ls []) = W p l e ({ frames := 0, cells := σ0.2.2.2.2.1, slots := σ0.2.2.2.2.2.1, locals := 0 } : Room) s m ([.ref a0, .int x1] : List Value).toArray below meth cx s.heap [] cells slots Q (F0 m 0 ls []) by rw [e_cells, e_slots]]
  have hl : lv_has ls 2 [(0, .ref a0), (1, .int x1)] := hl
  unfold x_H_lengthOf at hw
  refine lv_iload_n hx hb h_H_lengthOf_0 rfl (lv_at hl 1 rfl) ?_
  refine lv_iconst (v := 1) hx hb h_H_lengthOf_1 (by decide) ?_
  refine lv_icmp_lt (tgt := 24) hx hb h_H_lengthOf_2 (by decide) (fun c1 => ?_) (fun c1 => ?_)
  · skip
    replace hw := hw.1 c1
    refine lv_iconst (v := 0) hx hb h_H_lengthOf_24 (by decide) ?_
    exact hend (0 : Int32) σ0 _ _ _ _ _ _ hw h h_H_lengthOf_25
  · skip
    replace hw := hw.2 c1
    refine lv_iload_n hx hb h_H_lengthOf_5 rfl (lv_at hl 1 rfl) ?_
    refine lv_aload_n hx hb h_H_lengthOf_6 rfl (lv_at hl 0 rfl) ?_
    obtain ⟨g2, hw⟩ := hw
    refine C_get C h 1 3 (v := .int (σ0.2.1 a0 3)) g2 rfl (Cn := R_H) (T := T_H) (N := 4) rfl (by decide) rfl uw_H (by decide) u_190 (fun _ q => q) h_H_lengthOf_7 ?_
    refine lv_icmp_gt (tgt := 24) hx hb h_H_lengthOf_10 (by decide) (fun c3 => ?_) (fun c3 => ?_)
    · skip
      replace hw := hw.1 c3
      refine lv_iconst (v := 0) hx hb h_H_lengthOf_24 (by decide) ?_
      exact hend (0 : Int32) σ0 _ _ _ _ _ _ hw h h_H_lengthOf_25
    · skip
      replace hw := hw.2 c3
      refine lv_aload_n hx hb h_H_lengthOf_13 rfl (lv_at hl 0 rfl) ?_
      refine C_get C h 1 1 (v := va_rf (σ0.2.2.2.1 a0 1)) g2 rfl (Cn := R_H) (T := T_H) (N := 4) rfl (by decide) rfl uw_H (by decide) u_185 (fun _ q => q) h_H_lengthOf_14 ?_
      refine lv_topq (fun b4 e_b4 => ?_)
      replace hw := hw b4 e_b4
      refine lv_iload_n hx hb h_H_lengthOf_17 rfl (lv_at hl 1 rfl) ?_
      refine lv_iconst (v := 1) hx hb h_H_lengthOf_18 (by decide) ?_
      refine lv_isub hx hb h_H_lengthOf_19 ?_
      obtain ⟨r5, e_r5, hw⟩ := hw
      subst e_r5
      have hl : lv_has ls 2 [(0, .ref a0), (1, .int x1)] := hl
      refine W.eq (g2 := F0 m 20 ls [.int (x1 - 1), .ref r5]) rfl ?_
      obtain ⟨n7, g6, hw⟩ := hw
      obtain ⟨g8, hw⟩ := hw
      refine C_iald C h g6 g8 h_H_lengthOf_20 ?_
      refine lv_topi (fun b9 e_b9 => ?_)
      replace hw := hw b9 e_b9
      refine lv_goto (tgt := 25) hx hb h_H_lengthOf_21 (by decide) ?_
      exact hend b9 σ0 _ _ _ _ _ _ hw h h_H_lengthOf_25
abbrev g_H_hasValue : MethodName := ⟨"MapFramer$Heap", "hasValue", "(II)Z"⟩
theorem u_194 : (Cond.methodLink "MapFramer$Heap" 32 ⟨"MapFramer$Heap", "lengthOf", "(I)I"⟩ : Cond) ∈ bigW := inB_7 147 (by decide +kernel) rfl
theorem u_195 : (Cond.instanceMethod ⟨"MapFramer$Heap", "lengthOf", "(I)I"⟩ : Cond) ∈ bigW := inB_7 148 (by decide +kernel) rfl
theorem u_196 : (Cond.selects "MapFramer$Heap" ⟨"MapFramer$Heap", "lengthOf", "(I)I"⟩ ⟨"MapFramer$Heap", "lengthOf", "(I)I"⟩ : Cond) ∈ bigW := inB_7 149 (by decide +kernel) rfl
theorem u_197 : (Cond.initialized "MapFramer$Heap" : Cond) ∈ bigW := inB_1 4 (by decide +kernel) rfl
theorem u_198 : (Cond.code ⟨"MapFramer$Heap", "lengthOf", "(I)I"⟩ prog_5_method_4_code 2 (some .int) : Cond) ∈ bigW := inB_7 150 rfl rfl
theorem h_H_hasValue_0 : decode prog_5_method_5_code 0 = .ok (.iload_n 2, 1) := by decide +kernel
theorem h_H_hasValue_1 : decode prog_5_method_5_code 1 = .ok (.ifCond .lt 16, 3) := by decide +kernel
theorem h_H_hasValue_4 : decode prog_5_method_5_code 4 = .ok (.iload_n 2, 1) := by decide +kernel
theorem h_H_hasValue_5 : decode prog_5_method_5_code 5 = .ok (.aload_n 0, 1) := by decide +kernel
theorem h_H_hasValue_6 : decode prog_5_method_5_code 6 = .ok (.iload_n 1, 1) := by decide +kernel
theorem h_H_hasValue_7 : decode prog_5_method_5_code 7 = .ok (.invokevirtual 32, 3) := by decide +kernel
theorem h_H_hasValue_10 : decode prog_5_method_5_code 10 = .ok (.if_icmp .ge 7, 3) := by decide +kernel
theorem h_H_hasValue_13 : decode prog_5_method_5_code 13 = .ok (.iconst 1, 1) := by decide +kernel
theorem h_H_hasValue_14 : decode prog_5_method_5_code 14 = .ok (.goto 4, 3) := by decide +kernel
theorem h_H_hasValue_17 : decode prog_5_method_5_code 17 = .ok (.iconst 0, 1) := by decide +kernel
theorem h_H_hasValue_18 : decode prog_5_method_5_code 18 = .ok (.ireturn, 1) := by decide +kernel
def x_H_hasValue (a0 : Nat) (x1 : Int32) (x2 : Int32) (σ0 : CST) (P : Int32 → CST → Prop) : Prop := ((x2 < 0 → P (0 : Int32) σ0) ∧ (¬ x2 < 0 → σ0.1 a0 = some (1, 0) ∧ (x_H_lengthOf a0 x1 σ0 (fun r4 σ3 => ((r4 ≤ x2 → P (0 : Int32) σ3) ∧ (¬ r4 ≤ x2 → P (1 : Int32) σ3))))))
set_option maxHeartbeats 4000000 in
set_option maxRecDepth 100000 in
theorem X_H_hasValue (l : Launch) (dC : Nat → ClassId) (dI : Nat → Nat → Nat) (ca : Nat → ClassId) (H0 : Heap) (σ0 : CST) (a0 : Nat) (x1 : Int32) (x2 : Int32) {P : Int32 → CST → Prop} (hw : x_H_hasValue a0 x1 x2 σ0 P) : Met l g_H_hasValue (mW g_H_hasValue prog_5_method_5_code 3 (some .boolean)) ({ frames := 1, cells := σ0.2.2.2.2.1, slots := σ0.2.2.2.2.2.1, locals := 21 } : Room) (va_Pc [.ref a0, .int x1, .int x2] (CPre (dC, dI) ca σ0 H0)) (va_Qi P (CB (dC, dI) ca σ0 H0) (cA σ0 H0.size)) σ0.2.2.2.2.1 σ0.2.2.2.2.2.1 (cA σ0 H0.size) := by
  refine C_ofz (by decide +kernel) rfl rfl rfl (Nat.le_of_ble_eq_true rfl) ?_
  intro p e s m below meth cx Q A ls C hnm hend hH0 h hl
  subst hH0
  have C0 := C
  obtain ⟨⟨hx, hb, hml, hown, hts⟩, hsub⟩ := C0
  obtain ⟨cells, e_cells⟩ : ∃ z : Nat, z = 0 := ⟨_, rfl⟩
  obtain ⟨slots, e_slots⟩ : ∃ z : Nat, z = 0 := ⟨_, rfl⟩
  have h : CH (dC, dI) A ca ({ frames := 1, cells := σ0.2.2.2.2.1, slots := σ0.2.2.2.2.2.1, locals := 21 } : Room) σ0.2.2.2.2.2.2 σ0 s s.heap [] cells slots := by rw [e_cells, e_slots]; exact h
  show W p l e ({ frames := 1, cells := σ0.2.2.2.2.1, slots := σ0.2.2.2.2.2.1, locals := 21 } : Room) s m ([.ref a0, .int x1, .int x2] : List Value).toArray below meth cx s.heap [] 0 0 Q (F0 m 0 ls [])
  rw [show W p l e ({ frames := 1, cells := σ0.2.2.2.2.1, slots := σ0.2.2.2.2.2.1, locals := 21 } : Room) s m ([.ref a0, .int x1, .int x2] : List Value).toArray below meth cx s.heap [] 0 0 Q (F0 m 0 ls []) = W p l e ({ frames := 1, cells := σ0.2.2.2.2.1, slots := σ0.2.2.2.2.2.1, locals := 21 } : Room) s m ([.ref a0, .int x1, .int x2] : List Value).toArray below meth cx s.heap [] cells slots Q (F0 m 0 ls []) by rw [e_cells, e_slots]]
  have hl : lv_has ls 3 [(0, .ref a0), (1, .int x1), (2, .int x2)] := hl
  unfold x_H_hasValue at hw
  refine lv_iload_n hx hb h_H_hasValue_0 rfl (lv_at hl 2 rfl) ?_
  refine lv_if_lt (tgt := 17) hx hb h_H_hasValue_1 (by decide) (fun c1 => ?_) (fun c1 => ?_)
  · skip
    replace hw := hw.1 c1
    refine lv_iconst (v := 0) hx hb h_H_hasValue_17 (by decide) ?_
    exact hend (0 : Int32) σ0 _ _ _ _ _ _ rfl hw h h_H_hasValue_18
  · skip
    replace hw := hw.2 c1
    refine lv_iload_n hx hb h_H_hasValue_4 rfl (lv_at hl 2 rfl) ?_
    refine lv_aload_n hx hb h_H_hasValue_5 rfl (lv_at hl 0 rfl) ?_
    refine lv_iload_n hx hb h_H_hasValue_6 rfl (lv_at hl 1 rfl) ?_
    obtain ⟨g2, hw⟩ := hw
    refine C_callVi (As := [.int x1]) (rest := [.int x2]) C h (ci := 1) (Cn := R_H) (T := T_H) (N := 4) g2 rfl (by decide) (X_H_lengthOf l dC dI ca s.heap σ0 a0 x1 hw) (cwV 1 hts (gV hsub u_194 u_195 u_196 u_197 u_198) rfl rfl rfl (by decide +kernel) ⟨(Nat.le_of_ble_eq_true rfl), (Nat.le_of_ble_eq_true rfl)⟩) rfl hl.1 (Nat.le_of_ble_eq_true rfl) h_H_hasValue_7 (fun r4 σ3 H locs cells slots hw9 h9 => ?_)
    clear hw h; have hw := hw9; have h := h9; clear hw9 h9
    refine W.eq (g2 := F0 m 10 ls [.int r4, .int x2]) rfl ?_
    refine lv_icmp_ge (tgt := 17) hx hb h_H_hasValue_10 (by decide) (fun c5 => ?_) (fun c5 => ?_)
    · skip
      replace hw := hw.1 c5
      refine lv_iconst (v := 0) hx hb h_H_hasValue_17 (by decide) ?_
      exact hend (0 : Int32) σ3 _ _ _ _ _ _ rfl hw h h_H_hasValue_18
    · skip
      replace hw := hw.2 c5
      refine lv_iconst (v := 1) hx hb h_H_hasValue_13 (by decide) ?_
      refine lv_goto (tgt := 18) hx hb h_H_hasValue_14 (by decide) ?_
      exact hend (1 : Int32) σ3 _ _ _ _ _ _ rfl hw h h_H_hasValue_18
abbrev g_H_valueAt : MethodName := ⟨"MapFramer$Heap", "valueAt", "(II)J"⟩
theorem u_199 : (Cond.methodLink "MapFramer$Heap" 36 ⟨"MapFramer$Heap", "hasValue", "(II)Z"⟩ : Cond) ∈ bigW := inB_7 155 (by decide +kernel) rfl
theorem u_200 : (Cond.instanceMethod ⟨"MapFramer$Heap", "hasValue", "(II)Z"⟩ : Cond) ∈ bigW := inB_7 144 (by decide +kernel) rfl
theorem u_201 : (Cond.selects "MapFramer$Heap" ⟨"MapFramer$Heap", "hasValue", "(II)Z"⟩ ⟨"MapFramer$Heap", "hasValue", "(II)Z"⟩ : Cond) ∈ bigW := inB_7 145 (by decide +kernel) rfl
theorem u_202 : (Cond.code ⟨"MapFramer$Heap", "hasValue", "(II)Z"⟩ prog_5_method_5_code 3 (some .boolean) : Cond) ∈ bigW := inB_7 146 rfl rfl
theorem h_H_valueAt_0 : decode prog_5_method_6_code 0 = .ok (.aload_n 0, 1) := by decide +kernel
theorem h_H_valueAt_1 : decode prog_5_method_6_code 1 = .ok (.iload_n 1, 1) := by decide +kernel
theorem h_H_valueAt_2 : decode prog_5_method_6_code 2 = .ok (.iload_n 2, 1) := by decide +kernel
theorem h_H_valueAt_3 : decode prog_5_method_6_code 3 = .ok (.invokevirtual 36, 3) := by decide +kernel
theorem h_H_valueAt_6 : decode prog_5_method_6_code 6 = .ok (.ifCond .eq 19, 3) := by decide +kernel
theorem h_H_valueAt_9 : decode prog_5_method_6_code 9 = .ok (.aload_n 0, 1) := by decide +kernel
theorem h_H_valueAt_10 : decode prog_5_method_6_code 10 = .ok (.getfield 16, 3) := by decide +kernel
theorem h_H_valueAt_13 : decode prog_5_method_6_code 13 = .ok (.iload_n 1, 1) := by decide +kernel
theorem h_H_valueAt_14 : decode prog_5_method_6_code 14 = .ok (.iconst 1, 1) := by decide +kernel
theorem h_H_valueAt_15 : decode prog_5_method_6_code 15 = .ok (.isub, 1) := by decide +kernel
theorem h_H_valueAt_16 : decode prog_5_method_6_code 16 = .ok (.bipush 24, 2) := by decide +kernel
theorem h_H_valueAt_18 : decode prog_5_method_6_code 18 = .ok (.imul, 1) := by decide +kernel
theorem h_H_valueAt_19 : decode prog_5_method_6_code 19 = .ok (.iload_n 2, 1) := by decide +kernel
theorem h_H_valueAt_20 : decode prog_5_method_6_code 20 = .ok (.iadd, 1) := by decide +kernel
theorem h_H_valueAt_21 : decode prog_5_method_6_code 21 = .ok (.laload, 1) := by decide +kernel
theorem h_H_valueAt_22 : decode prog_5_method_6_code 22 = .ok (.goto 4, 3) := by decide +kernel
theorem h_H_valueAt_25 : decode prog_5_method_6_code 25 = .ok (.lconst 0, 1) := by decide +kernel
theorem h_H_valueAt_26 : decode prog_5_method_6_code 26 = .ok (.lreturn, 1) := by decide +kernel
def x_H_valueAt (a0 : Nat) (x1 : Int32) (x2 : Int32) (σ0 : CST) (P : Int64 → CST → Prop) : Prop := σ0.1 a0 = some (1, 0) ∧ (x_H_hasValue a0 x1 x2 σ0 (fun r3 σ2 => ((r3 = 0 → P 0 σ2) ∧ (¬ r3 = 0 → σ2.1 a0 = some (1, 0) ∧ (∀ b6 : Option Nat, b6 = (σ2.2.2.2.1 a0 2) → (∃ r7 : Nat, b6 = some r7 ∧ ((∃ n9 : Nat, σ2.1 r7 = some (22, n9) ∧ (vp_in (((x1 - 1) * 24) + x2) n9 ∧ (∀ b11 : Int64, b11 = (σ2.2.2.1 r7 ((((x1 - 1) * 24) + x2) : Int32).toNatClampNeg) → P b11 σ2))))))))))
set_option maxHeartbeats 4000000 in
set_option maxRecDepth 100000 in
theorem X_H_valueAt (l : Launch) (dC : Nat → ClassId) (dI : Nat → Nat → Nat) (ca : Nat → ClassId) (H0 : Heap) (σ0 : CST) (a0 : Nat) (x1 : Int32) (x2 : Int32) {P : Int64 → CST → Prop} (hw : x_H_valueAt a0 x1 x2 σ0 P) : Met l g_H_valueAt (mW g_H_valueAt prog_5_method_6_code 3 (some .long)) ({ frames := 2, cells := σ0.2.2.2.2.1, slots := σ0.2.2.2.2.2.1, locals := 43 } : Room) (va_Pc [.ref a0, .int x1, .int x2] (CPre (dC, dI) ca σ0 H0)) (va_Ql P (CB (dC, dI) ca σ0 H0) (cA σ0 H0.size)) σ0.2.2.2.2.1 σ0.2.2.2.2.2.1 (cA σ0 H0.size) := by
  refine C_ofl (by decide +kernel) rfl rfl rfl (Nat.le_of_ble_eq_true rfl) ?_
  intro p e s m below meth cx Q A ls C hnm hend hH0 h hl
  subst hH0
  have C0 := C
  obtain ⟨⟨hx, hb, hml, hown, hts⟩, hsub⟩ := C0
  obtain ⟨cells, e_cells⟩ : ∃ z : Nat, z = 0 := ⟨_, rfl⟩
  obtain ⟨slots, e_slots⟩ : ∃ z : Nat, z = 0 := ⟨_, rfl⟩
  have h : CH (dC, dI) A ca ({ frames := 2, cells := σ0.2.2.2.2.1, slots := σ0.2.2.2.2.2.1, locals := 43 } : Room) σ0.2.2.2.2.2.2 σ0 s s.heap [] cells slots := by rw [e_cells, e_slots]; exact h
  show W p l e ({ frames := 2, cells := σ0.2.2.2.2.1, slots := σ0.2.2.2.2.2.1, locals := 43 } : Room) s m ([.ref a0, .int x1, .int x2] : List Value).toArray below meth cx s.heap [] 0 0 Q (F0 m 0 ls [])
  rw [show W p l e ({ frames := 2, cells := σ0.2.2.2.2.1, slots := σ0.2.2.2.2.2.1, locals := 43 } : Room) s m ([.ref a0, .int x1, .int x2] : List Value).toArray below meth cx s.heap [] 0 0 Q (F0 m 0 ls []) = W p l e ({ frames := 2, cells := σ0.2.2.2.2.1, slots := σ0.2.2.2.2.2.1, locals := 43 } : Room) s m ([.ref a0, .int x1, .int x2] : List Value).toArray below meth cx s.heap [] cells slots Q (F0 m 0 ls []) by rw [e_cells, e_slots]]
  have hl : lv_has ls 3 [(0, .ref a0), (1, .int x1), (2, .int x2)] := hl
  unfold x_H_valueAt at hw
  refine lv_aload_n hx hb h_H_valueAt_0 rfl (lv_at hl 0 rfl) ?_
  refine lv_iload_n hx hb h_H_valueAt_1 rfl (lv_at hl 1 rfl) ?_
  refine lv_iload_n hx hb h_H_valueAt_2 rfl (lv_at hl 2 rfl) ?_
  obtain ⟨g1, hw⟩ := hw
  refine C_callVi (As := [.int x1, .int x2]) (rest := []) C h (ci := 1) (Cn := R_H) (T := T_H) (N := 4) g1 rfl (by decide) (X_H_hasValue l dC dI ca s.heap σ0 a0 x1 x2 hw) (cwV 2 hts (gV hsub u_199 u_200 u_201 u_197 u_202) rfl rfl rfl (by decide +kernel) ⟨(Nat.le_of_ble_eq_true rfl), (Nat.le_of_ble_eq_true rfl)⟩) rfl hl.1 (Nat.le_of_ble_eq_true rfl) h_H_valueAt_3 (fun r3 σ2 H locs cells slots hw9 h9 => ?_)
  clear hw h; have hw := hw9; have h := h9; clear hw9 h9
  refine W.eq (g2 := F0 m 6 ls [.int r3]) rfl ?_
  refine lv_if_eq (tgt := 25) hx hb h_H_valueAt_6 (by decide) (fun c4 => ?_) (fun c4 => ?_)
  · skip
    replace hw := hw.1 c4
    refine lv_lconst (v := 0) hx hb h_H_valueAt_25 (by decide) ?_
    exact hend 0 σ2 _ _ _ _ _ _ hw h h_H_valueAt_26
  · skip
    replace hw := hw.2 c4
    refine lv_aload_n hx hb h_H_valueAt_9 rfl (lv_at hl 0 rfl) ?_
    obtain ⟨g5, hw⟩ := hw
    refine C_get C h 1 2 (v := va_rf (σ2.2.2.2.1 a0 2)) g5 rfl (Cn := R_H) (T := T_H) (N := 4) rfl (by decide) rfl uw_H (by decide) u_186 (fun _ q => q) h_H_valueAt_10 ?_
    refine lv_topq (fun b6 e_b6 => ?_)
    replace hw := hw b6 e_b6
    refine lv_iload_n hx hb h_H_valueAt_13 rfl (lv_at hl 1 rfl) ?_
    refine lv_iconst (v := 1) hx hb h_H_valueAt_14 (by decide) ?_
    refine lv_isub hx hb h_H_valueAt_15 ?_
    refine lv_bipush (v := 24) hx hb h_H_valueAt_16 (by decide) ?_
    refine lv_imul hx hb h_H_valueAt_18 ?_
    refine lv_iload_n hx hb h_H_valueAt_19 rfl (lv_at hl 2 rfl) ?_
    refine lv_iadd hx hb h_H_valueAt_20 ?_
    obtain ⟨r7, e_r7, hw⟩ := hw
    subst e_r7
    have hl : lv_has ls 3 [(0, .ref a0), (1, .int x1), (2, .int x2)] := hl
    refine W.eq (g2 := F0 m 21 ls [.int (((x1 - 1) * 24) + x2), .ref r7]) rfl ?_
    obtain ⟨n9, g8, hw⟩ := hw
    obtain ⟨g10, hw⟩ := hw
    refine C_lald C h g8 g10 h_H_valueAt_21 ?_
    refine lv_topl (fun b11 e_b11 => ?_)
    replace hw := hw b11 e_b11
    refine lv_goto (tgt := 26) hx hb h_H_valueAt_22 (by decide) ?_
    exact hend b11 σ2 _ _ _ _ _ _ hw h h_H_valueAt_26
abbrev g_H_setValue : MethodName := ⟨"MapFramer$Heap", "setValue", "(IIJ)V"⟩
theorem h_H_setValue_0 : decode prog_5_method_7_code 0 = .ok (.aload_n 0, 1) := by decide +kernel
theorem h_H_setValue_1 : decode prog_5_method_7_code 1 = .ok (.iload_n 1, 1) := by decide +kernel
theorem h_H_setValue_2 : decode prog_5_method_7_code 2 = .ok (.iload_n 2, 1) := by decide +kernel
theorem h_H_setValue_3 : decode prog_5_method_7_code 3 = .ok (.invokevirtual 36, 3) := by decide +kernel
theorem h_H_setValue_6 : decode prog_5_method_7_code 6 = .ok (.ifCond .eq 17, 3) := by decide +kernel
theorem h_H_setValue_9 : decode prog_5_method_7_code 9 = .ok (.aload_n 0, 1) := by decide +kernel
theorem h_H_setValue_10 : decode prog_5_method_7_code 10 = .ok (.getfield 16, 3) := by decide +kernel
theorem h_H_setValue_13 : decode prog_5_method_7_code 13 = .ok (.iload_n 1, 1) := by decide +kernel
theorem h_H_setValue_14 : decode prog_5_method_7_code 14 = .ok (.iconst 1, 1) := by decide +kernel
theorem h_H_setValue_15 : decode prog_5_method_7_code 15 = .ok (.isub, 1) := by decide +kernel
theorem h_H_setValue_16 : decode prog_5_method_7_code 16 = .ok (.bipush 24, 2) := by decide +kernel
theorem h_H_setValue_18 : decode prog_5_method_7_code 18 = .ok (.imul, 1) := by decide +kernel
theorem h_H_setValue_19 : decode prog_5_method_7_code 19 = .ok (.iload_n 2, 1) := by decide +kernel
theorem h_H_setValue_20 : decode prog_5_method_7_code 20 = .ok (.iadd, 1) := by decide +kernel
theorem h_H_setValue_21 : decode prog_5_method_7_code 21 = .ok (.lload_n 3, 1) := by decide +kernel
theorem h_H_setValue_22 : decode prog_5_method_7_code 22 = .ok (.lastore, 1) := by decide +kernel
theorem h_H_setValue_23 : decode prog_5_method_7_code 23 = .ok (.return_, 1) := by decide +kernel
def x_H_setValue (a0 : Nat) (x1 : Int32) (x2 : Int32) (x3 : Int64) (σ0 : CST) (P : CST → Prop) : Prop := σ0.1 a0 = some (1, 0) ∧ (x_H_hasValue a0 x1 x2 σ0 (fun r3 σ2 => ((r3 = 0 → P σ2) ∧ (¬ r3 = 0 → σ2.1 a0 = some (1, 0) ∧ (∀ b6 : Option Nat, b6 = (σ2.2.2.2.1 a0 2) → (∃ r7 : Nat, b6 = some r7 ∧ ((∃ n9 : Nat, σ2.1 r7 = some (22, n9) ∧ (vp_in (((x1 - 1) * 24) + x2) n9 ∧ (∀ σ11 : CST, σ11 = sL σ2 r7 ((((x1 - 1) * 24) + x2) : Int32).toNatClampNeg x3 → P σ11))))))))))
set_option maxHeartbeats 4000000 in
set_option maxRecDepth 100000 in
theorem X_H_setValue (l : Launch) (dC : Nat → ClassId) (dI : Nat → Nat → Nat) (ca : Nat → ClassId) (H0 : Heap) (σ0 : CST) (a0 : Nat) (x1 : Int32) (x2 : Int32) (x3 : Int64) {P : CST → Prop} (hw : x_H_setValue a0 x1 x2 x3 σ0 P) : Met l g_H_setValue (mW g_H_setValue prog_5_method_7_code 5 none) ({ frames := 2, cells := σ0.2.2.2.2.1, slots := σ0.2.2.2.2.2.1, locals := 43 } : Room) (va_Pc [.ref a0, .int x1, .int x2, .long x3] (CPre (dC, dI) ca σ0 H0)) (va_Qv P (CB (dC, dI) ca σ0 H0) (cA σ0 H0.size)) σ0.2.2.2.2.1 σ0.2.2.2.2.2.1 (cA σ0 H0.size) := by
  refine C_ofv (by decide +kernel) rfl rfl rfl (Nat.le_of_ble_eq_true rfl) ?_
  intro p e s m below meth cx Q A ls C hnm hend hH0 h hl
  subst hH0
  have C0 := C
  obtain ⟨⟨hx, hb, hml, hown, hts⟩, hsub⟩ := C0
  obtain ⟨cells, e_cells⟩ : ∃ z : Nat, z = 0 := ⟨_, rfl⟩
  obtain ⟨slots, e_slots⟩ : ∃ z : Nat, z = 0 := ⟨_, rfl⟩
  have h : CH (dC, dI) A ca ({ frames := 2, cells := σ0.2.2.2.2.1, slots := σ0.2.2.2.2.2.1, locals := 43 } : Room) σ0.2.2.2.2.2.2 σ0 s s.heap [] cells slots := by rw [e_cells, e_slots]; exact h
  show W p l e ({ frames := 2, cells := σ0.2.2.2.2.1, slots := σ0.2.2.2.2.2.1, locals := 43 } : Room) s m ([.ref a0, .int x1, .int x2, .long x3] : List Value).toArray below meth cx s.heap [] 0 0 Q (F0 m 0 ls [])
  rw [show W p l e ({ frames := 2, cells := σ0.2.2.2.2.1, slots := σ0.2.2.2.2.2.1, locals := 43 } : Room) s m ([.ref a0, .int x1, .int x2, .long x3] : List Value).toArray below meth cx s.heap [] 0 0 Q (F0 m 0 ls []) = W p l e ({ frames := 2, cells := σ0.2.2.2.2.1, slots := σ0.2.2.2.2.2.1, locals := 43 } : Room) s m ([.ref a0, .int x1, .int x2, .long x3] : List Value).toArray below meth cx s.heap [] cells slots Q (F0 m 0 ls []) by rw [e_cells, e_slots]]
  have hl : lv_has ls 5 [(0, .ref a0), (1, .int x1), (2, .int x2), (3, .long x3)] := hl
  unfold x_H_setValue at hw
  refine lv_aload_n hx hb h_H_setValue_0 rfl (lv_at hl 0 rfl) ?_
  refine lv_iload_n hx hb h_H_setValue_1 rfl (lv_at hl 1 rfl) ?_
  refine lv_iload_n hx hb h_H_setValue_2 rfl (lv_at hl 2 rfl) ?_
  obtain ⟨g1, hw⟩ := hw
  refine C_callVi (As := [.int x1, .int x2]) (rest := []) C h (ci := 1) (Cn := R_H) (T := T_H) (N := 4) g1 rfl (by decide) (X_H_hasValue l dC dI ca s.heap σ0 a0 x1 x2 hw) (cwV 2 hts (gV hsub u_199 u_200 u_201 u_197 u_202) rfl rfl rfl (by decide +kernel) ⟨(Nat.le_of_ble_eq_true rfl), (Nat.le_of_ble_eq_true rfl)⟩) rfl hl.1 (Nat.le_of_ble_eq_true rfl) h_H_setValue_3 (fun r3 σ2 H locs cells slots hw9 h9 => ?_)
  clear hw h; have hw := hw9; have h := h9; clear hw9 h9
  refine W.eq (g2 := F0 m 6 ls [.int r3]) rfl ?_
  refine lv_if_eq (tgt := 23) hx hb h_H_setValue_6 (by decide) (fun c4 => ?_) (fun c4 => ?_)
  · skip
    replace hw := hw.1 c4
    exact hend σ2 _ _ _ _ _ _ hw h h_H_setValue_23
  · skip
    replace hw := hw.2 c4
    refine lv_aload_n hx hb h_H_setValue_9 rfl (lv_at hl 0 rfl) ?_
    obtain ⟨g5, hw⟩ := hw
    refine C_get C h 1 2 (v := va_rf (σ2.2.2.2.1 a0 2)) g5 rfl (Cn := R_H) (T := T_H) (N := 4) rfl (by decide) rfl uw_H (by decide) u_186 (fun _ q => q) h_H_setValue_10 ?_
    refine lv_topq (fun b6 e_b6 => ?_)
    replace hw := hw b6 e_b6
    refine lv_iload_n hx hb h_H_setValue_13 rfl (lv_at hl 1 rfl) ?_
    refine lv_iconst (v := 1) hx hb h_H_setValue_14 (by decide) ?_
    refine lv_isub hx hb h_H_setValue_15 ?_
    refine lv_bipush (v := 24) hx hb h_H_setValue_16 (by decide) ?_
    refine lv_imul hx hb h_H_setValue_18 ?_
    refine lv_iload_n hx hb h_H_setValue_19 rfl (lv_at hl 2 rfl) ?_
    refine lv_iadd hx hb h_H_setValue_20 ?_
    refine lv_lload_n hx hb h_H_setValue_21 rfl (lv_at hl 3 rfl) ?_
    obtain ⟨r7, e_r7, hw⟩ := hw
    subst e_r7
    have hl : lv_has ls 5 [(0, .ref a0), (1, .int x1), (2, .int x2), (3, .long x3)] := hl
    refine W.eq (g2 := F0 m 22 ls [.long x3, .int (((x1 - 1) * 24) + x2), .ref r7]) rfl ?_
    obtain ⟨n9, g8, hw⟩ := hw
    obtain ⟨g10, hw⟩ := hw
    refine C_last C h g8 g10 h_H_setValue_22 (fun H locs h => ?_)
    obtain ⟨σ11, e_σ11⟩ : ∃ z : CST, z = sL σ2 r7 ((((x1 - 1) * 24) + x2) : Int32).toNatClampNeg x3 := ⟨_, rfl⟩
    rw [← e_σ11] at h
    replace hw := hw σ11 e_σ11
    exact hend σ11 _ _ _ _ _ _ hw h h_H_setValue_23
abbrev g_K_init : MethodName := ⟨"MapFramer$Machine", "<init>", "()V"⟩
theorem u_203 : (Cond.fieldLink "MapFramer$Machine" 26 "MapFramer$Machine" "calls" "[LMapFramer$Call;" : Cond) ∈ bigW := inB_1 146 (by decide +kernel) rfl
theorem u_204 : (Cond.classLink "MapFramer$Machine" 24 "MapFramer$Call" : Cond) ∈ bigW := inB_1 117 (by decide +kernel) rfl
theorem u_205 : (Cond.instantiable "MapFramer$Call" 5 : Cond) ∈ bigW := inB_1 119 (by decide +kernel) rfl
theorem u_206 : (Cond.code ⟨"MapFramer$Call", "<init>", "()V"⟩ prog_2_method_1_code 1 none : Cond) ∈ bigW := inB_1 122 rfl rfl
theorem u_207 : (Cond.instanceMethod ⟨"MapFramer$Call", "<init>", "()V"⟩ : Cond) ∈ bigW := inB_1 121 (by decide +kernel) rfl
theorem u_208 : (Cond.methodLink "MapFramer$Machine" 3 ⟨"java/lang/Object", "<init>", "()V"⟩ : Cond) ∈ bigW := inB_1 94 (by decide +kernel) rfl
theorem u_209 : (Cond.classLink "MapFramer$Machine" 9 "MapFramer$Heap" : Cond) ∈ bigW := inB_1 95 (by decide +kernel) rfl
theorem u_210 : (Cond.instantiable "MapFramer$Heap" 4 : Cond) ∈ bigW := inB_1 96 (by decide +kernel) rfl
theorem u_211 : (Cond.code ⟨"MapFramer$Heap", "<init>", "()V"⟩ prog_5_method_1_code 1 none : Cond) ∈ bigW := inB_1 99 rfl rfl
theorem u_212 : (Cond.instanceMethod ⟨"MapFramer$Heap", "<init>", "()V"⟩ : Cond) ∈ bigW := inB_1 98 (by decide +kernel) rfl
theorem u_213 : (Cond.fieldLink "MapFramer$Machine" 12 "MapFramer$Machine" "heap" "LMapFramer$Heap;" : Cond) ∈ bigW := inB_1 143 (by decide +kernel) rfl
theorem u_214 : (Cond.fieldLink "MapFramer$Machine" 20 "MapFramer$Machine" "statics" "[J" : Cond) ∈ bigW := inB_1 145 (by decide +kernel) rfl
theorem u_215 : (Cond.fieldLink "MapFramer$Machine" 30 "MapFramer$Machine" "outcome" "I" : Cond) ∈ bigW := inB_1 155 (by decide +kernel) rfl
theorem u_216 : (Cond.fieldLink "MapFramer$Machine" 34 "MapFramer$Machine" "thrownClass" "I" : Cond) ∈ bigW := inB_1 159 (by decide +kernel) rfl
theorem h_K_init_0 : decode prog_6_method_1_code 0 = .ok (.aload_n 0, 1) := by decide +kernel
theorem h_K_init_1 : decode prog_6_method_1_code 1 = .ok (.invokespecial 3, 3) := by decide +kernel
theorem h_K_init_4 : decode prog_6_method_1_code 4 = .ok (.aload_n 0, 1) := by decide +kernel
theorem h_K_init_5 : decode prog_6_method_1_code 5 = .ok (.new 9, 3) := by decide +kernel
theorem h_K_init_8 : decode prog_6_method_1_code 8 = .ok (.dup, 1) := by decide +kernel
theorem h_K_init_9 : decode prog_6_method_1_code 9 = .ok (.invokespecial 11, 3) := by decide +kernel
theorem h_K_init_12 : decode prog_6_method_1_code 12 = .ok (.putfield 12, 3) := by decide +kernel
theorem h_K_init_15 : decode prog_6_method_1_code 15 = .ok (.aload_n 0, 1) := by decide +kernel
theorem h_K_init_16 : decode prog_6_method_1_code 16 = .ok (.bipush 16, 2) := by decide +kernel
theorem h_K_init_18 : decode prog_6_method_1_code 18 = .ok (.newarray .long, 2) := by decide +kernel
theorem h_K_init_20 : decode prog_6_method_1_code 20 = .ok (.putfield 20, 3) := by decide +kernel
theorem h_K_init_23 : decode prog_6_method_1_code 23 = .ok (.aload_n 0, 1) := by decide +kernel
theorem h_K_init_24 : decode prog_6_method_1_code 24 = .ok (.bipush 24, 2) := by decide +kernel
theorem h_K_init_26 : decode prog_6_method_1_code 26 = .ok (.anewarray 24, 3) := by decide +kernel
theorem h_K_init_29 : decode prog_6_method_1_code 29 = .ok (.putfield 26, 3) := by decide +kernel
theorem h_K_init_32 : decode prog_6_method_1_code 32 = .ok (.aload_n 0, 1) := by decide +kernel
theorem h_K_init_33 : decode prog_6_method_1_code 33 = .ok (.iconst (-1), 1) := by decide +kernel
theorem h_K_init_34 : decode prog_6_method_1_code 34 = .ok (.putfield 30, 3) := by decide +kernel
theorem h_K_init_37 : decode prog_6_method_1_code 37 = .ok (.aload_n 0, 1) := by decide +kernel
theorem h_K_init_38 : decode prog_6_method_1_code 38 = .ok (.iconst (-1), 1) := by decide +kernel
theorem h_K_init_39 : decode prog_6_method_1_code 39 = .ok (.putfield 34, 3) := by decide +kernel
theorem h_K_init_42 : decode prog_6_method_1_code 42 = .ok (.iconst 0, 1) := by decide +kernel
theorem h_K_init_43 : decode prog_6_method_1_code 43 = .ok (.istore_n 1, 1) := by decide +kernel
theorem h_K_init_44 : decode prog_6_method_1_code 44 = .ok (.iload_n 1, 1) := by decide +kernel
theorem h_K_init_45 : decode prog_6_method_1_code 45 = .ok (.bipush 24, 2) := by decide +kernel
theorem h_K_init_47 : decode prog_6_method_1_code 47 = .ok (.if_icmp .ge 22, 3) := by decide +kernel
theorem h_K_init_50 : decode prog_6_method_1_code 50 = .ok (.aload_n 0, 1) := by decide +kernel
theorem h_K_init_51 : decode prog_6_method_1_code 51 = .ok (.getfield 26, 3) := by decide +kernel
theorem h_K_init_54 : decode prog_6_method_1_code 54 = .ok (.iload_n 1, 1) := by decide +kernel
theorem h_K_init_55 : decode prog_6_method_1_code 55 = .ok (.new 24, 3) := by decide +kernel
theorem h_K_init_58 : decode prog_6_method_1_code 58 = .ok (.dup, 1) := by decide +kernel
theorem h_K_init_59 : decode prog_6_method_1_code 59 = .ok (.invokespecial 37, 3) := by decide +kernel
theorem h_K_init_62 : decode prog_6_method_1_code 62 = .ok (.aastore, 1) := by decide +kernel
theorem h_K_init_63 : decode prog_6_method_1_code 63 = .ok (.iinc 1 1, 3) := by decide +kernel
theorem h_K_init_66 : decode prog_6_method_1_code 66 = .ok (.goto (-22), 3) := by decide +kernel
theorem h_K_init_69 : decode prog_6_method_1_code 69 = .ok (.return_, 1) := by decide +kernel
def x_K_init_44 (a0 : Nat) (P : CST → Prop) : Nat → Int32 → CST → Prop
  | 0, _, _ => False
  | n + 1, z1, σ => ((24 ≤ z1 → P σ) ∧ (¬ 24 ≤ z1 → σ.1 a0 = some (2, 0) ∧ (∀ b3 : Option Nat, b3 = (σ.2.2.2.1 a0 2) → (1 ≤ σ.2.2.2.2.1 ∧ 5 ≤ σ.2.2.2.2.2.1 ∧ ∀ q4 : Nat, σ.1 q4 = none → q4 ≠ σ.2.2.2.2.2.2.1 → ∀ σ8 : CST, σ8 = nw σ q4 0 0 5 → x_C_init q4 σ8 (fun σ9 => (∃ r11 : Nat, b3 = some r11 ∧ ((∃ n13 : Nat, σ9.1 r11 = some (26, n13) ∧ (σ9.1 q4 = some (0, 0) ∧ (vp_in z1 n13 ∧ (∀ σ16 : CST, σ16 = sR σ9 r11 (z1 : Int32).toNatClampNeg (some q4) → x_K_init_44 a0 P n (z1 + 1) σ16)))))))))))
def x_K_init (a0 : Nat) (σ0 : CST) (P : CST → Prop) : Prop := (1 ≤ σ0.2.2.2.2.1 ∧ 4 ≤ σ0.2.2.2.2.2.1 ∧ ∀ q17 : Nat, σ0.1 q17 = none → q17 ≠ σ0.2.2.2.2.2.2.1 → ∀ σ21 : CST, σ21 = nw σ0 q17 1 0 4 → x_H_init q17 σ21 (fun σ22 => σ22.1 a0 = some (2, 0) ∧ (∀ σ25 : CST, σ25 = sR σ22 a0 0 (some q17) → (¬ (16 : Int32) < 0 ∧ (16 : Int32).toNatClampNeg ≤ 60000000 ∧ 1 ≤ σ25.2.2.2.2.1 ∧ (16 : Int32).toNatClampNeg ≤ σ25.2.2.2.2.2.1 ∧ ∀ q26 : Nat, σ25.1 q26 = none → q26 ≠ σ25.2.2.2.2.2.2.1 → ∀ σ32 : CST, σ32 = nw σ25 q26 22 (16 : Int32).toNatClampNeg (16 : Int32).toNatClampNeg → σ32.1 a0 = some (2, 0) ∧ (∀ σ34 : CST, σ34 = sR σ32 a0 1 (some q26) → (¬ (24 : Int32) < 0 ∧ (24 : Int32).toNatClampNeg ≤ 60000000 ∧ 1 ≤ σ34.2.2.2.2.1 ∧ (24 : Int32).toNatClampNeg ≤ σ34.2.2.2.2.2.1 ∧ ∀ q35 : Nat, σ34.1 q35 = none → q35 ≠ σ34.2.2.2.2.2.2.1 → ∀ σ41 : CST, σ41 = nw σ34 q35 26 (24 : Int32).toNatClampNeg (24 : Int32).toNatClampNeg → σ41.1 a0 = some (2, 0) ∧ (∀ σ43 : CST, σ43 = sR σ41 a0 2 (some q35) → σ43.1 a0 = some (2, 0) ∧ (∀ σ45 : CST, σ45 = sI σ43 a0 11 ((-1) : Int32) → σ45.1 a0 = some (2, 0) ∧ (∀ σ47 : CST, σ47 = sI σ45 a0 13 ((-1) : Int32) → (∃ n9 : Nat, x_K_init_44 a0 P n9 0 σ47))))))))))
set_option maxHeartbeats 4000000 in
set_option maxRecDepth 100000 in
theorem X_K_init (l : Launch) (dC : Nat → ClassId) (dI : Nat → Nat → Nat) (ca : Nat → ClassId) (H0 : Heap) (σ0 : CST) (a0 : Nat) {P : CST → Prop} (hw : x_K_init a0 σ0 P) : Met l g_K_init (mW g_K_init prog_6_method_1_code 2 none) ({ frames := 2, cells := σ0.2.2.2.2.1, slots := σ0.2.2.2.2.2.1, locals := 32 } : Room) (va_Pc [.ref a0] (CPre (dC, dI) ca σ0 H0)) (va_Qv P (CB (dC, dI) ca σ0 H0) (cA σ0 H0.size)) σ0.2.2.2.2.1 σ0.2.2.2.2.2.1 (cA σ0 H0.size) := by
  refine C_ofv (by decide +kernel) rfl rfl rfl (Nat.le_of_ble_eq_true rfl) ?_
  intro p e s m below meth cx Q A ls C hnm hend hH0 h hl
  subst hH0
  have C0 := C
  obtain ⟨⟨hx, hb, hml, hown, hts⟩, hsub⟩ := C0
  obtain ⟨cells, e_cells⟩ : ∃ z : Nat, z = 0 := ⟨_, rfl⟩
  obtain ⟨slots, e_slots⟩ : ∃ z : Nat, z = 0 := ⟨_, rfl⟩
  have h : CH (dC, dI) A ca ({ frames := 2, cells := σ0.2.2.2.2.1, slots := σ0.2.2.2.2.2.1, locals := 32 } : Room) σ0.2.2.2.2.2.2 σ0 s s.heap [] cells slots := by rw [e_cells, e_slots]; exact h
  show W p l e ({ frames := 2, cells := σ0.2.2.2.2.1, slots := σ0.2.2.2.2.2.1, locals := 32 } : Room) s m ([.ref a0] : List Value).toArray below meth cx s.heap [] 0 0 Q (F0 m 0 ls [])
  rw [show W p l e ({ frames := 2, cells := σ0.2.2.2.2.1, slots := σ0.2.2.2.2.2.1, locals := 32 } : Room) s m ([.ref a0] : List Value).toArray below meth cx s.heap [] 0 0 Q (F0 m 0 ls []) = W p l e ({ frames := 2, cells := σ0.2.2.2.2.1, slots := σ0.2.2.2.2.2.1, locals := 32 } : Room) s m ([.ref a0] : List Value).toArray below meth cx s.heap [] cells slots Q (F0 m 0 ls []) by rw [e_cells, e_slots]]
  have K_44 : ∀ (n : Nat), ∀ (z1 : Int32) (σ : CST) (H : Heap) (locs : List Loc) (cells slots : Nat) (ls : Array Slot), x_K_init_44 a0 P n z1 σ → CH (dC, dI) A ca ({ frames := 2, cells := σ0.2.2.2.2.1, slots := σ0.2.2.2.2.2.1, locals := 32 } : Room) σ0.2.2.2.2.2.2 σ s H locs cells slots → lv_has ls 2 [(0, .ref a0), (1, .int z1)] → W p l e ({ frames := 2, cells := σ0.2.2.2.2.1, slots := σ0.2.2.2.2.2.1, locals := 32 } : Room) s m ([.ref a0] : List Value).toArray below meth cx H locs cells slots Q (F0 m 44 ls []) := by
    intro  n
    induction n with
    | zero => intro z1 σ H locs cells slots ls hw h hl; unfold x_K_init_44 at hw; exact hw.elim
    | succ n ih =>
      intro z1 σ H locs cells slots ls hw h hl
      unfold x_K_init_44 at hw
      refine lv_iload_n hx hb h_K_init_44 rfl (lv_at hl 1 rfl) ?_
      refine lv_bipush (v := 24) hx hb h_K_init_45 (by decide) ?_
      refine lv_icmp_ge (tgt := 69) hx hb h_K_init_47 (by decide) (fun c1 => ?_) (fun c1 => ?_)
      · skip
        replace hw := hw.1 c1
        exact hend σ _ _ _ _ _ _ hw h h_K_init_69
      · skip
        replace hw := hw.2 c1
        refine lv_aload_n hx hb h_K_init_50 rfl (lv_at hl 0 rfl) ?_
        obtain ⟨g2, hw⟩ := hw
        refine C_get C h 2 2 (v := va_rf (σ.2.2.2.1 a0 2)) g2 rfl (Cn := R_K) (T := T_K) (N := 14) rfl (by decide) rfl uw_K (by decide) u_203 (fun _ q => q) h_K_init_51 ?_
        refine lv_topq (fun b3 e_b3 => ?_)
        replace hw := hw b3 e_b3
        refine lv_iload_n hx hb h_K_init_54 rfl (lv_at hl 1 rfl) ?_
        obtain ⟨g5, g6, hw⟩ := hw
        refine C_new C h 0 (Cn := R_C) (T := T_C) (N := 5) rfl (by decide) uw_C tok_C (cdf_C rfl rfl rfl) u_204 u_205 u_12 g5 g6 h_K_init_55 (fun q4 H g7 hz9 h => ?_)
        replace hw := hw q4 g7 hz9
        obtain ⟨σ8, e_σ8⟩ : ∃ z : CST, z = nw σ q4 0 0 5 := ⟨_, rfl⟩
        rw [← e_σ8] at h
        replace hw := hw σ8 e_σ8
        generalize cells + 1 = cells at h ⊢
        generalize slots + 5 = slots at h ⊢
        refine lv_dup hx hb h_K_init_58 rfl ?_
        refine C_callNv (As := []) (rest := [.ref q4, .int z1, va_rf b3]) C h (X_C_init l dC dI ca H σ8 q4 hw) ⟨va_cnB 0 hts (gC hsub u_206) rfl rfl rfl h.2.2.2.2.1.2.1.2.2.2.2.2.1.2.1 (hts _ (hsub _ u_12)) (by decide +kernel) ⟨(Nat.le_of_ble_eq_true rfl), (Nat.le_of_ble_eq_true rfl)⟩, rfl, (hts _ (hsub _ u_207))⟩ rfl hl.1 (by simp only [List.map_cons, List.map_nil, List.sum_cons, List.sum_nil, cq_cat]; exact Nat.le_of_ble_eq_true rfl) h_K_init_59 (fun σ9 H locs cells slots hw9 h9 => ?_)
        clear hw h; have hw := hw9; have h := h9; clear hw9 h9
        refine W.eq (g2 := F0 m 62 ls [.ref q4, .int z1, va_rf b3]) rfl ?_
        obtain ⟨r11, e_r11, hw⟩ := hw
        subst e_r11
        have hl : lv_has ls 2 [(0, .ref a0), (1, .int z1)] := hl
        refine W.eq (g2 := F0 m 62 ls [.ref q4, .int z1, .ref r11]) rfl ?_
        obtain ⟨n13, g12, hw⟩ := hw
        obtain ⟨g14, hw⟩ := hw
        obtain ⟨g15, hw⟩ := hw
        refine C_aast C h 26 5 (r := (R_C, T_C, 5)) rfl g14 rfl (by decide) (by decide) g12 g15 h_K_init_62 (fun H locs h => ?_)
        obtain ⟨σ16, e_σ16⟩ : ∃ z : CST, z = sR σ9 r11 (z1 : Int32).toNatClampNeg (some q4) := ⟨_, rfl⟩
        rw [← e_σ16] at h
        replace hw := hw σ16 e_σ16
        refine lv_iinc (v := (z1 + 1)) (lv' := [(1, .int (z1 + 1)), (0, .ref a0)]) hx hb h_K_init_63 hl (k := 1) rfl (rfl) (by decide) rfl (fun ls hl => ?_)
        refine lv_goto (tgt := 44) hx hb h_K_init_66 (by decide) ?_
        exact ih (z1 + 1) σ16 _ _ _ _ _ hw h (lv_sub hl [1, 0] rfl)
  have hl : lv_has ls 2 [(0, .ref a0)] := hl
  unfold x_K_init at hw
  refine lv_aload_n hx hb h_K_init_0 rfl (lv_at hl 0 rfl) ?_
  refine W.objInit hx hb hown (hts _ (hsub _ u_208)) (hts _ (hsub _ u_1)) (hts _ (hsub _ u_2)) rfl (by rw [hml]; exact hl.1) rfl h_K_init_1 (Nat.le_of_ble_eq_true rfl) (Nat.le_of_ble_eq_true rfl) ?_
  refine W.eq (g2 := F0 m 4 ls []) rfl ?_
  refine lv_aload_n hx hb h_K_init_4 rfl (lv_at hl 0 rfl) ?_
  obtain ⟨g18, g19, hw⟩ := hw
  refine C_new C h 1 (Cn := R_H) (T := T_H) (N := 4) rfl (by decide) uw_H tok_H (cdf_H rfl rfl rfl) u_209 u_210 u_197 g18 g19 h_K_init_5 (fun q17 H g20 hz9 h => ?_)
  replace hw := hw q17 g20 hz9
  obtain ⟨σ21, e_σ21⟩ : ∃ z : CST, z = nw σ0 q17 1 0 4 := ⟨_, rfl⟩
  rw [← e_σ21] at h
  replace hw := hw σ21 e_σ21
  generalize cells + 1 = cells at h ⊢
  generalize slots + 4 = slots at h ⊢
  refine lv_dup hx hb h_K_init_8 rfl ?_
  refine C_callNv (As := []) (rest := [.ref q17, .ref a0]) C h (X_H_init l dC dI ca H σ21 q17 hw) ⟨va_cnB 0 hts (gC hsub u_211) rfl rfl rfl h.2.2.2.2.1.2.1.2.2.2.2.2.1.1 (hts _ (hsub _ u_197)) (by decide +kernel) ⟨(Nat.le_of_ble_eq_true rfl), (Nat.le_of_ble_eq_true rfl)⟩, rfl, (hts _ (hsub _ u_212))⟩ rfl hl.1 (Nat.le_of_ble_eq_true rfl) h_K_init_9 (fun σ22 H locs cells slots hw9 h9 => ?_)
  clear hw h; have hw := hw9; have h := h9; clear hw9 h9
  refine W.eq (g2 := F0 m 12 ls [.ref q17, .ref a0]) rfl ?_
  obtain ⟨g24, hw⟩ := hw
  refine C_putr C h 2 0 (v := (some q17)) (ty := (.object "MapFramer$Heap")) g24 (Cn := R_K) (T := T_K) (N := 14) rfl (by decide) rfl uw_K tok_K nm_K (by decide) rfl u_213 (fun _ q => q) (Or.inr ⟨rfl, hnm, rfl⟩) (by decide +kernel) ck_o h_K_init_12 (fun H locs h => ?_)
  obtain ⟨σ25, e_σ25⟩ : ∃ z : CST, z = sR σ22 a0 0 (some q17) := ⟨_, rfl⟩
  rw [← e_σ25] at h
  replace hw := hw σ25 e_σ25
  refine lv_aload_n hx hb h_K_init_15 rfl (lv_at hl 0 rfl) ?_
  refine lv_bipush (v := 16) hx hb h_K_init_16 (by decide) ?_
  obtain ⟨g30, g31, g27, g28, hw⟩ := hw
  refine C_newal C h u_3 g30 rfl g31 g27 g28 h_K_init_18 (fun q26 H g29 hz9 h => ?_)
  replace hw := hw q26 g29 hz9
  obtain ⟨σ32, e_σ32⟩ : ∃ z : CST, z = nw σ25 q26 22 (16 : Int32).toNatClampNeg (16 : Int32).toNatClampNeg := ⟨_, rfl⟩
  rw [← e_σ32] at h
  replace hw := hw σ32 e_σ32
  generalize cells + 1 = cells at h ⊢
  generalize slots + (16 : Int32).toNatClampNeg = slots at h ⊢
  obtain ⟨g33, hw⟩ := hw
  refine C_putr C h 2 1 (v := (some q26)) (ty := (.array .long)) g33 (Cn := R_K) (T := T_K) (N := 14) rfl (by decide) rfl uw_K tok_K nm_K (by decide) rfl u_214 (fun _ q => q) (Or.inr ⟨rfl, hnm, rfl⟩) (by decide +kernel) ck_a h_K_init_20 (fun H locs h => ?_)
  obtain ⟨σ34, e_σ34⟩ : ∃ z : CST, z = sR σ32 a0 1 (some q26) := ⟨_, rfl⟩
  rw [← e_σ34] at h
  replace hw := hw σ34 e_σ34
  refine lv_aload_n hx hb h_K_init_23 rfl (lv_at hl 0 rfl) ?_
  refine lv_bipush (v := 24) hx hb h_K_init_24 (by decide) ?_
  obtain ⟨g39, g40, g36, g37, hw⟩ := hw
  refine C_anew C h 26 5 rfl (by decide) u_204 h.2.2.2.2.1.2.1.2.2.2.2.2.1.2.2.2.1 g39 rfl g40 g36 g37 h_K_init_26 (fun q35 H g38 hz9 h => ?_)
  replace hw := hw q35 g38 hz9
  obtain ⟨σ41, e_σ41⟩ : ∃ z : CST, z = nw σ34 q35 26 (24 : Int32).toNatClampNeg (24 : Int32).toNatClampNeg := ⟨_, rfl⟩
  rw [← e_σ41] at h
  replace hw := hw σ41 e_σ41
  generalize cells + 1 = cells at h ⊢
  generalize slots + (24 : Int32).toNatClampNeg = slots at h ⊢
  obtain ⟨g42, hw⟩ := hw
  refine C_putr C h 2 2 (v := (some q35)) (ty := (.array (.object "MapFramer$Call"))) g42 (Cn := R_K) (T := T_K) (N := 14) rfl (by decide) rfl uw_K tok_K nm_K (by decide) rfl u_203 (fun _ q => q) (Or.inr ⟨rfl, hnm, rfl⟩) (by decide +kernel) ck_a h_K_init_29 (fun H locs h => ?_)
  obtain ⟨σ43, e_σ43⟩ : ∃ z : CST, z = sR σ41 a0 2 (some q35) := ⟨_, rfl⟩
  rw [← e_σ43] at h
  replace hw := hw σ43 e_σ43
  refine lv_aload_n hx hb h_K_init_32 rfl (lv_at hl 0 rfl) ?_
  refine lv_iconst (v := (-1)) hx hb h_K_init_33 (by decide) ?_
  obtain ⟨g44, hw⟩ := hw
  refine C_puti C h 2 11 g44 (Cn := R_K) (T := T_K) (N := 14) rfl (by decide) rfl uw_K tok_K nm_K (by decide) rfl u_215 (fun _ q => q) (Or.inl rfl) (by decide +kernel) h_K_init_34 (fun H locs h => ?_)
  obtain ⟨σ45, e_σ45⟩ : ∃ z : CST, z = sI σ43 a0 11 ((-1) : Int32) := ⟨_, rfl⟩
  rw [← e_σ45] at h
  replace hw := hw σ45 e_σ45
  refine lv_aload_n hx hb h_K_init_37 rfl (lv_at hl 0 rfl) ?_
  refine lv_iconst (v := (-1)) hx hb h_K_init_38 (by decide) ?_
  obtain ⟨g46, hw⟩ := hw
  refine C_puti C h 2 13 g46 (Cn := R_K) (T := T_K) (N := 14) rfl (by decide) rfl uw_K tok_K nm_K (by decide) rfl u_216 (fun _ q => q) (Or.inl rfl) (by decide +kernel) h_K_init_39 (fun H locs h => ?_)
  obtain ⟨σ47, e_σ47⟩ : ∃ z : CST, z = sI σ45 a0 13 ((-1) : Int32) := ⟨_, rfl⟩
  rw [← e_σ47] at h
  replace hw := hw σ47 e_σ47
  refine lv_iconst (v := 0) hx hb h_K_init_42 (by decide) ?_
  refine lv_istore_n (i := 1) (lv' := [(1, .int 0), (0, .ref a0)]) hx hb h_K_init_43 rfl hl (by decide) rfl (fun ls hl => ?_)
  obtain ⟨n9, hw⟩ := hw
  exact K_44 n9 0 σ47 _ _ _ _ _ hw h (lv_sub hl [1, 0] rfl)
abbrev g_Ar_fill2 : MethodName := ⟨"java/util/Arrays", "fill", "([JJ)V"⟩
theorem h_Ar_fill2_0 : decode prog_37_method_101_code 0 = .ok (.iconst 0, 1) := by decide +kernel
theorem h_Ar_fill2_1 : decode prog_37_method_101_code 1 = .ok (.istore_n 3, 1) := by decide +kernel
theorem h_Ar_fill2_2 : decode prog_37_method_101_code 2 = .ok (.aload_n 0, 1) := by decide +kernel
theorem h_Ar_fill2_3 : decode prog_37_method_101_code 3 = .ok (.arraylength, 1) := by decide +kernel
theorem h_Ar_fill2_4 : decode prog_37_method_101_code 4 = .ok (.istore 4, 2) := by decide +kernel
theorem h_Ar_fill2_6 : decode prog_37_method_101_code 6 = .ok (.iload_n 3, 1) := by decide +kernel
theorem h_Ar_fill2_7 : decode prog_37_method_101_code 7 = .ok (.iload 4, 2) := by decide +kernel
theorem h_Ar_fill2_9 : decode prog_37_method_101_code 9 = .ok (.if_icmp .ge 13, 3) := by decide +kernel
theorem h_Ar_fill2_12 : decode prog_37_method_101_code 12 = .ok (.aload_n 0, 1) := by decide +kernel
theorem h_Ar_fill2_13 : decode prog_37_method_101_code 13 = .ok (.iload_n 3, 1) := by decide +kernel
theorem h_Ar_fill2_14 : decode prog_37_method_101_code 14 = .ok (.lload_n 1, 1) := by decide +kernel
theorem h_Ar_fill2_15 : decode prog_37_method_101_code 15 = .ok (.lastore, 1) := by decide +kernel
theorem h_Ar_fill2_16 : decode prog_37_method_101_code 16 = .ok (.iinc 3 1, 3) := by decide +kernel
theorem h_Ar_fill2_19 : decode prog_37_method_101_code 19 = .ok (.goto (-13), 3) := by decide +kernel
theorem h_Ar_fill2_22 : decode prog_37_method_101_code 22 = .ok (.return_, 1) := by decide +kernel
def x_Ar_fill2_6 (a0 : Nat) (P : CST → Prop) : Nat → Int64 → Int32 → Int32 → CST → Prop
  | 0, _, _, _, _ => False
  | n + 1, z1, z3, z4, σ => ((z4 ≤ z3 → P σ) ∧ (¬ z4 ≤ z3 → (∃ n3 : Nat, σ.1 a0 = some (22, n3) ∧ (vp_in z3 n3 ∧ (∀ σ5 : CST, σ5 = sL σ a0 (z3 : Int32).toNatClampNeg z1 → x_Ar_fill2_6 a0 P n z1 (z3 + 1) z4 σ5)))))
def x_Ar_fill2 (a0 : Nat) (x1 : Int64) (σ0 : CST) (P : CST → Prop) : Prop := (∃ n7 : Nat, σ0.1 a0 = some (22, n7) ∧ ((∃ n9 : Nat, x_Ar_fill2_6 a0 P n9 x1 0 (Int32.ofNat n7) σ0)))
set_option maxHeartbeats 4000000 in
set_option maxRecDepth 100000 in
theorem X_Ar_fill2 (l : Launch) (dC : Nat → ClassId) (dI : Nat → Nat → Nat) (ca : Nat → ClassId) (H0 : Heap) (σ0 : CST) (a0 : Nat) (x1 : Int64) {P : CST → Prop} (hw : x_Ar_fill2 a0 x1 σ0 P) : Met l g_Ar_fill2 (mW g_Ar_fill2 prog_37_method_101_code 5 none) ({ frames := 0, cells := σ0.2.2.2.2.1, slots := σ0.2.2.2.2.2.1, locals := 0 } : Room) (va_Pc [.ref a0, .long x1] (CPre (dC, dI) ca σ0 H0)) (va_Qv P (CB (dC, dI) ca σ0 H0) (cA σ0 H0.size)) σ0.2.2.2.2.1 σ0.2.2.2.2.2.1 (cA σ0 H0.size) := by
  refine C_ofv (by decide +kernel) rfl rfl rfl (Nat.le_of_ble_eq_true rfl) ?_
  intro p e s m below meth cx Q A ls C hnm hend hH0 h hl
  subst hH0
  have C0 := C
  obtain ⟨⟨hx, hb, hml, hown, hts⟩, hsub⟩ := C0
  obtain ⟨cells, e_cells⟩ : ∃ z : Nat, z = 0 := ⟨_, rfl⟩
  obtain ⟨slots, e_slots⟩ : ∃ z : Nat, z = 0 := ⟨_, rfl⟩
  have h : CH (dC, dI) A ca ({ frames := 0, cells := σ0.2.2.2.2.1, slots := σ0.2.2.2.2.2.1, locals := 0 } : Room) σ0.2.2.2.2.2.2 σ0 s s.heap [] cells slots := by rw [e_cells, e_slots]; exact h
  show W p l e ({ frames := 0, cells := σ0.2.2.2.2.1, slots := σ0.2.2.2.2.2.1, locals := 0 } : Room) s m ([.ref a0, .long x1] : List Value).toArray below meth cx s.heap [] 0 0 Q (F0 m 0 ls [])
  rw [show W p l e ({ frames := 0, cells := σ0.2.2.2.2.1, slots := σ0.2.2.2.2.2.1, locals := 0 } : Room) s m ([.ref a0, .long x1] : List Value).toArray below meth cx s.heap [] 0 0 Q (F0 m 0 ls []) = W p l e ({ frames := 0, cells := σ0.2.2.2.2.1, slots := σ0.2.2.2.2.2.1, locals := 0 } : Room) s m ([.ref a0, .long x1] : List Value).toArray below meth cx s.heap [] cells slots Q (F0 m 0 ls []) by rw [e_cells, e_slots]]
  have K_6 : ∀ (n : Nat), ∀ (z1 : Int64) (z3 : Int32) (z4 : Int32) (σ : CST) (H : Heap) (locs : List Loc) (cells slots : Nat) (ls : Array Slot), x_Ar_fill2_6 a0 P n z1 z3 z4 σ → CH (dC, dI) A ca ({ frames := 0, cells := σ0.2.2.2.2.1, slots := σ0.2.2.2.2.2.1, locals := 0 } : Room) σ0.2.2.2.2.2.2 σ s H locs cells slots → lv_has ls 5 [(0, .ref a0), (1, .long z1), (3, .int z3), (4, .int z4)] → W p l e ({ frames := 0, cells := σ0.2.2.2.2.1, slots := σ0.2.2.2.2.2.1, locals := 0 } : Room) s m ([.ref a0, .long x1] : List Value).toArray below meth cx H locs cells slots Q (F0 m 6 ls []) := by
    intro  n
    induction n with
    | zero => intro z1 z3 z4 σ H locs cells slots ls hw h hl; unfold x_Ar_fill2_6 at hw; exact hw.elim
    | succ n ih =>
      intro z1 z3 z4 σ H locs cells slots ls hw h hl
      unfold x_Ar_fill2_6 at hw
      refine lv_iload_n hx hb h_Ar_fill2_6 rfl (lv_at hl 2 rfl) ?_
      refine lv_iload hx hb h_Ar_fill2_7 (lv_at hl 3 rfl) ?_
      refine lv_icmp_ge (tgt := 22) hx hb h_Ar_fill2_9 (by decide) (fun c1 => ?_) (fun c1 => ?_)
      · skip
        replace hw := hw.1 c1
        exact hend σ _ _ _ _ _ _ hw h h_Ar_fill2_22
      · skip
        replace hw := hw.2 c1
        refine lv_aload_n hx hb h_Ar_fill2_12 rfl (lv_at hl 0 rfl) ?_
        refine lv_iload_n hx hb h_Ar_fill2_13 rfl (lv_at hl 2 rfl) ?_
        refine lv_lload_n hx hb h_Ar_fill2_14 rfl (lv_at hl 1 rfl) ?_
        obtain ⟨n3, g2, hw⟩ := hw
        obtain ⟨g4, hw⟩ := hw
        refine C_last C h g2 g4 h_Ar_fill2_15 (fun H locs h => ?_)
        obtain ⟨σ5, e_σ5⟩ : ∃ z : CST, z = sL σ a0 (z3 : Int32).toNatClampNeg z1 := ⟨_, rfl⟩
        rw [← e_σ5] at h
        replace hw := hw σ5 e_σ5
        refine lv_iinc (v := (z3 + 1)) (lv' := [(3, .int (z3 + 1)), (0, .ref a0), (1, .long z1), (4, .int z4)]) hx hb h_Ar_fill2_16 hl (k := 2) rfl (rfl) (by decide) rfl (fun ls hl => ?_)
        refine lv_goto (tgt := 6) hx hb h_Ar_fill2_19 (by decide) ?_
        exact ih z1 (z3 + 1) z4 σ5 _ _ _ _ _ hw h (lv_sub hl [1, 2, 0, 3] rfl)
  have hl : lv_has ls 5 [(0, .ref a0), (1, .long x1)] := hl
  unfold x_Ar_fill2 at hw
  refine lv_iconst (v := 0) hx hb h_Ar_fill2_0 (by decide) ?_
  refine lv_istore_n (i := 3) (lv' := [(3, .int 0), (0, .ref a0), (1, .long x1)]) hx hb h_Ar_fill2_1 rfl hl (by decide) rfl (fun ls hl => ?_)
  refine lv_aload_n hx hb h_Ar_fill2_2 rfl (lv_at hl 1 rfl) ?_
  obtain ⟨n7, g6, hw⟩ := hw
  refine C_alen C h 22 2 rfl (by decide) g6 h_Ar_fill2_3 ?_
  refine lv_istore (lv' := [(4, .int (Int32.ofNat n7)), (3, .int 0), (0, .ref a0), (1, .long x1)]) hx hb h_Ar_fill2_4 hl (by decide) rfl (fun ls hl => ?_)
  obtain ⟨n9, hw⟩ := hw
  exact K_6 n9 x1 0 (Int32.ofNat n7) σ0 _ _ _ _ _ hw h (lv_sub hl [2, 3, 1, 0] rfl)
abbrev g_K_setArguments : MethodName := ⟨"MapFramer$Machine", "setArguments", "(LMapFramer$Call;JJ)V"⟩
theorem u_217 : (Cond.methodLink "MapFramer$Machine" 102 ⟨"MapFramer$Call", "setLocal", "(IJ)V"⟩ : Cond) ∈ bigW := inB_7 101 (by decide +kernel) rfl
theorem u_218 : (Cond.instanceMethod ⟨"MapFramer$Call", "setLocal", "(IJ)V"⟩ : Cond) ∈ bigW := inB_7 102 (by decide +kernel) rfl
theorem u_219 : (Cond.selects "MapFramer$Call" ⟨"MapFramer$Call", "setLocal", "(IJ)V"⟩ ⟨"MapFramer$Call", "setLocal", "(IJ)V"⟩ : Cond) ∈ bigW := inB_7 103 (by decide +kernel) rfl
theorem u_220 : (Cond.code ⟨"MapFramer$Call", "setLocal", "(IJ)V"⟩ prog_2_method_9_code 4 none : Cond) ∈ bigW := inB_7 104 rfl rfl
theorem u_221 : (Cond.methodLink "MapFramer$Machine" 106 ⟨"MapFramer$World", "width", "(I)I"⟩ : Cond) ∈ bigW := inB_7 105 (by decide +kernel) rfl
theorem u_222 : (Cond.fieldLink "MapFramer$Machine" 80 "MapFramer$Call" "method" "LMapFramer$Method;" : Cond) ∈ bigW := inB_1 125 (by decide +kernel) rfl
theorem u_223 : (Cond.fieldLink "MapFramer$Machine" 98 "MapFramer$Method" "arguments" "[I" : Cond) ∈ bigW := inB_2 158 (by decide +kernel) rfl
theorem h_K_setArguments_0 : decode prog_6_method_3_code 0 = .ok (.aload_n 0, 1) := by decide +kernel
theorem h_K_setArguments_1 : decode prog_6_method_3_code 1 = .ok (.getfield 80, 3) := by decide +kernel
theorem h_K_setArguments_4 : decode prog_6_method_3_code 4 = .ok (.getfield 98, 3) := by decide +kernel
theorem h_K_setArguments_7 : decode prog_6_method_3_code 7 = .ok (.astore 5, 2) := by decide +kernel
theorem h_K_setArguments_9 : decode prog_6_method_3_code 9 = .ok (.iconst 0, 1) := by decide +kernel
theorem h_K_setArguments_10 : decode prog_6_method_3_code 10 = .ok (.istore 6, 2) := by decide +kernel
theorem h_K_setArguments_12 : decode prog_6_method_3_code 12 = .ok (.iconst 0, 1) := by decide +kernel
theorem h_K_setArguments_13 : decode prog_6_method_3_code 13 = .ok (.istore 7, 2) := by decide +kernel
theorem h_K_setArguments_15 : decode prog_6_method_3_code 15 = .ok (.iload 7, 2) := by decide +kernel
theorem h_K_setArguments_17 : decode prog_6_method_3_code 17 = .ok (.aload 5, 2) := by decide +kernel
theorem h_K_setArguments_19 : decode prog_6_method_3_code 19 = .ok (.arraylength, 1) := by decide +kernel
theorem h_K_setArguments_20 : decode prog_6_method_3_code 20 = .ok (.if_icmp .ge 68, 3) := by decide +kernel
theorem h_K_setArguments_23 : decode prog_6_method_3_code 23 = .ok (.iload 7, 2) := by decide +kernel
theorem h_K_setArguments_25 : decode prog_6_method_3_code 25 = .ok (.ifCond .ne 7, 3) := by decide +kernel
theorem h_K_setArguments_28 : decode prog_6_method_3_code 28 = .ok (.lload_n 1, 1) := by decide +kernel
theorem h_K_setArguments_29 : decode prog_6_method_3_code 29 = .ok (.goto 14, 3) := by decide +kernel
theorem h_K_setArguments_32 : decode prog_6_method_3_code 32 = .ok (.iload 7, 2) := by decide +kernel
theorem h_K_setArguments_34 : decode prog_6_method_3_code 34 = .ok (.iconst 1, 1) := by decide +kernel
theorem h_K_setArguments_35 : decode prog_6_method_3_code 35 = .ok (.if_icmp .ne 7, 3) := by decide +kernel
theorem h_K_setArguments_38 : decode prog_6_method_3_code 38 = .ok (.lload_n 3, 1) := by decide +kernel
theorem h_K_setArguments_39 : decode prog_6_method_3_code 39 = .ok (.goto 4, 3) := by decide +kernel
theorem h_K_setArguments_42 : decode prog_6_method_3_code 42 = .ok (.lconst 0, 1) := by decide +kernel
theorem h_K_setArguments_43 : decode prog_6_method_3_code 43 = .ok (.lstore 8, 2) := by decide +kernel
theorem h_K_setArguments_45 : decode prog_6_method_3_code 45 = .ok (.aload_n 0, 1) := by decide +kernel
theorem h_K_setArguments_46 : decode prog_6_method_3_code 46 = .ok (.iload 6, 2) := by decide +kernel
theorem h_K_setArguments_48 : decode prog_6_method_3_code 48 = .ok (.aload 5, 2) := by decide +kernel
theorem h_K_setArguments_50 : decode prog_6_method_3_code 50 = .ok (.iload 7, 2) := by decide +kernel
theorem h_K_setArguments_52 : decode prog_6_method_3_code 52 = .ok (.iaload, 1) := by decide +kernel
theorem h_K_setArguments_53 : decode prog_6_method_3_code 53 = .ok (.iconst 1, 1) := by decide +kernel
theorem h_K_setArguments_54 : decode prog_6_method_3_code 54 = .ok (.if_icmp .ne 10, 3) := by decide +kernel
theorem h_K_setArguments_57 : decode prog_6_method_3_code 57 = .ok (.lload 8, 2) := by decide +kernel
theorem h_K_setArguments_59 : decode prog_6_method_3_code 59 = .ok (.l2i, 1) := by decide +kernel
theorem h_K_setArguments_60 : decode prog_6_method_3_code 60 = .ok (.i2l, 1) := by decide +kernel
theorem h_K_setArguments_61 : decode prog_6_method_3_code 61 = .ok (.goto 5, 3) := by decide +kernel
theorem h_K_setArguments_64 : decode prog_6_method_3_code 64 = .ok (.lload 8, 2) := by decide +kernel
theorem h_K_setArguments_66 : decode prog_6_method_3_code 66 = .ok (.invokevirtual 102, 3) := by decide +kernel
theorem h_K_setArguments_69 : decode prog_6_method_3_code 69 = .ok (.iload 6, 2) := by decide +kernel
theorem h_K_setArguments_71 : decode prog_6_method_3_code 71 = .ok (.aload 5, 2) := by decide +kernel
theorem h_K_setArguments_73 : decode prog_6_method_3_code 73 = .ok (.iload 7, 2) := by decide +kernel
theorem h_K_setArguments_75 : decode prog_6_method_3_code 75 = .ok (.iaload, 1) := by decide +kernel
theorem h_K_setArguments_76 : decode prog_6_method_3_code 76 = .ok (.invokestatic 106, 3) := by decide +kernel
theorem h_K_setArguments_79 : decode prog_6_method_3_code 79 = .ok (.iadd, 1) := by decide +kernel
theorem h_K_setArguments_80 : decode prog_6_method_3_code 80 = .ok (.istore 6, 2) := by decide +kernel
theorem h_K_setArguments_82 : decode prog_6_method_3_code 82 = .ok (.iinc 7 1, 3) := by decide +kernel
theorem h_K_setArguments_85 : decode prog_6_method_3_code 85 = .ok (.goto (-70), 3) := by decide +kernel
theorem h_K_setArguments_88 : decode prog_6_method_3_code 88 = .ok (.return_, 1) := by decide +kernel
def x_K_setArguments_66 (a0 : Nat) (K15 : Int64 → Int64 → Option Nat → Int32 → Int32 → CST → Prop) (P : CST → Prop) (z1 : Int64) (z3 : Int64) (z5 : Option Nat) (z6 : Int32) (z7 : Int32) (s0 : Int64) (s1 : Int32) (σ : CST) : Prop := σ.1 a0 = some (0, 0) ∧ (x_C_setLocal a0 s1 s0 σ (fun σ2 => (∃ r4 : Nat, z5 = some r4 ∧ ((∃ n6 : Nat, σ2.1 r4 = some (20, n6) ∧ (vp_in z7 n6 ∧ (∀ b8 : Int32, b8 = (σ2.2.1 r4 (z7 : Int32).toNatClampNeg) → x_W_width b8 σ2 (fun r10 σ9 => K15 z1 z3 (some r4) (z6 + r10) (z7 + 1) σ9))))))))
def x_K_setArguments_43 (a0 : Nat) (K15 : Int64 → Int64 → Option Nat → Int32 → Int32 → CST → Prop) (P : CST → Prop) (z1 : Int64) (z3 : Int64) (z5 : Option Nat) (z6 : Int32) (z7 : Int32) (s0 : Int64) (σ : CST) : Prop := (∃ r11 : Nat, z5 = some r11 ∧ ((∃ n13 : Nat, σ.1 r11 = some (20, n13) ∧ (vp_in z7 n13 ∧ (∀ b15 : Int32, b15 = (σ.2.1 r11 (z7 : Int32).toNatClampNeg) → ((b15 = 1 → x_K_setArguments_66 a0 K15 P z1 z3 (some r11) z6 z7 ((((s0 : Int64).toInt32) : Int32).toInt64) z6 σ) ∧ (¬ b15 = 1 → x_K_setArguments_66 a0 K15 P z1 z3 (some r11) z6 z7 s0 z6 σ)))))))
def x_K_setArguments_15 (a0 : Nat) (P : CST → Prop) : Nat → Int64 → Int64 → Option Nat → Int32 → Int32 → CST → Prop
  | 0, _, _, _, _, _, _ => False
  | n + 1, z1, z3, z5, z6, z7, σ => (∃ r17 : Nat, z5 = some r17 ∧ ((∃ n19 : Nat, σ.1 r17 = some (20, n19) ∧ ((((Int32.ofNat n19) ≤ z7 → P σ) ∧ (¬ (Int32.ofNat n19) ≤ z7 → ((z7 = 0 → x_K_setArguments_43 a0 (x_K_setArguments_15 a0 P n) P z1 z3 (some r17) z6 z7 z1 σ) ∧ (¬ z7 = 0 → ((z7 = 1 → x_K_setArguments_43 a0 (x_K_setArguments_15 a0 P n) P z1 z3 (some r17) z6 z7 z3 σ) ∧ (¬ z7 = 1 → x_K_setArguments_43 a0 (x_K_setArguments_15 a0 P n) P z1 z3 (some r17) z6 z7 0 σ))))))))))
def x_K_setArguments (a0 : Nat) (x1 : Int64) (x3 : Int64) (σ0 : CST) (P : CST → Prop) : Prop := σ0.1 a0 = some (0, 0) ∧ (∀ b24 : Option Nat, b24 = (σ0.2.2.2.1 a0 0) → (∃ r25 : Nat, b24 = some r25 ∧ (σ0.1 r25 = some (5, 0) ∧ (∀ b27 : Option Nat, b27 = (σ0.2.2.2.1 r25 0) → (∃ n9 : Nat, x_K_setArguments_15 a0 P n9 x1 x3 b27 0 0 σ0)))))
set_option maxHeartbeats 4000000 in
set_option maxRecDepth 100000 in
theorem X_K_setArguments (l : Launch) (dC : Nat → ClassId) (dI : Nat → Nat → Nat) (ca : Nat → ClassId) (H0 : Heap) (σ0 : CST) (a0 : Nat) (x1 : Int64) (x3 : Int64) {P : CST → Prop} (hw : x_K_setArguments a0 x1 x3 σ0 P) : Met l g_K_setArguments (mW g_K_setArguments prog_6_method_3_code 10 none) ({ frames := 1, cells := σ0.2.2.2.2.1, slots := σ0.2.2.2.2.2.1, locals := 23 } : Room) (va_Pc [.ref a0, .long x1, .long x3] (CPre (dC, dI) ca σ0 H0)) (va_Qv P (CB (dC, dI) ca σ0 H0) (cA σ0 H0.size)) σ0.2.2.2.2.1 σ0.2.2.2.2.2.1 (cA σ0 H0.size) := by
  refine C_ofv (by decide +kernel) rfl rfl rfl (Nat.le_of_ble_eq_true rfl) ?_
  intro p e s m below meth cx Q A ls C hnm hend hH0 h hl
  subst hH0
  have C0 := C
  obtain ⟨⟨hx, hb, hml, hown, hts⟩, hsub⟩ := C0
  obtain ⟨cells, e_cells⟩ : ∃ z : Nat, z = 0 := ⟨_, rfl⟩
  obtain ⟨slots, e_slots⟩ : ∃ z : Nat, z = 0 := ⟨_, rfl⟩
  have h : CH (dC, dI) A ca ({ frames := 1, cells := σ0.2.2.2.2.1, slots := σ0.2.2.2.2.2.1, locals := 23 } : Room) σ0.2.2.2.2.2.2 σ0 s s.heap [] cells slots := by rw [e_cells, e_slots]; exact h
  show W p l e ({ frames := 1, cells := σ0.2.2.2.2.1, slots := σ0.2.2.2.2.2.1, locals := 23 } : Room) s m ([.ref a0, .long x1, .long x3] : List Value).toArray below meth cx s.heap [] 0 0 Q (F0 m 0 ls [])
  rw [show W p l e ({ frames := 1, cells := σ0.2.2.2.2.1, slots := σ0.2.2.2.2.2.1, locals := 23 } : Room) s m ([.ref a0, .long x1, .long x3] : List Value).toArray below meth cx s.heap [] 0 0 Q (F0 m 0 ls []) = W p l e ({ frames := 1, cells := σ0.2.2.2.2.1, slots := σ0.2.2.2.2.2.1, locals := 23 } : Room) s m ([.ref a0, .long x1, .long x3] : List Value).toArray below meth cx s.heap [] cells slots Q (F0 m 0 ls []) by rw [e_cells, e_slots]]
  have K_66 : ∀ (K15 : Int64 → Int64 → Option Nat → Int32 → Int32 → CST → Prop) (hK15 : ∀ (z1 : Int64) (z3 : Int64) (z5 : Option Nat) (z6 : Int32) (z7 : Int32) (σ : CST) (H : Heap) (locs : List Loc) (cells slots : Nat) (ls : Array Slot), K15 z1 z3 z5 z6 z7 σ → CH (dC, dI) A ca ({ frames := 1, cells := σ0.2.2.2.2.1, slots := σ0.2.2.2.2.2.1, locals := 23 } : Room) σ0.2.2.2.2.2.2 σ s H locs cells slots → lv_has ls 10 [(0, .ref a0), (1, .long z1), (3, .long z3), (5, va_rf z5), (6, .int z6), (7, .int z7)] → W p l e ({ frames := 1, cells := σ0.2.2.2.2.1, slots := σ0.2.2.2.2.2.1, locals := 23 } : Room) s m ([.ref a0, .long x1, .long x3] : List Value).toArray below meth cx H locs cells slots Q (F0 m 15 ls [])), ∀ (z1 : Int64) (z3 : Int64) (z5 : Option Nat) (z6 : Int32) (z7 : Int32) (s0 : Int64) (s1 : Int32) (σ : CST) (H : Heap) (locs : List Loc) (cells slots : Nat) (ls : Array Slot), x_K_setArguments_66 a0 K15 P z1 z3 z5 z6 z7 s0 s1 σ → CH (dC, dI) A ca ({ frames := 1, cells := σ0.2.2.2.2.1, slots := σ0.2.2.2.2.2.1, locals := 23 } : Room) σ0.2.2.2.2.2.2 σ s H locs cells slots → lv_has ls 10 [(0, .ref a0), (1, .long z1), (3, .long z3), (5, va_rf z5), (6, .int z6), (7, .int z7)] → W p l e ({ frames := 1, cells := σ0.2.2.2.2.1, slots := σ0.2.2.2.2.2.1, locals := 23 } : Room) s m ([.ref a0, .long x1, .long x3] : List Value).toArray below meth cx H locs cells slots Q (F0 m 66 ls [.long s0, .int s1, .ref a0]) := by
    intro K15 hK15 z1 z3 z5 z6 z7 s0 s1 σ H locs cells slots ls hw h hl
    unfold x_K_setArguments_66 at hw
    obtain ⟨g1, hw⟩ := hw
    refine C_callVv (As := [.int s1, .long s0]) (rest := []) C h (ci := 0) (Cn := R_C) (T := T_C) (N := 5) g1 rfl (by decide) (X_C_setLocal l dC dI ca H σ a0 s1 s0 hw) (cwV 2 hts (gV hsub u_217 u_218 u_219 u_12 u_220) rfl rfl rfl (by decide +kernel) ⟨(Nat.le_of_ble_eq_true rfl), (Nat.le_of_ble_eq_true rfl)⟩) rfl hl.1 (Nat.le_of_ble_eq_true rfl) h_K_setArguments_66 (fun σ2 H locs cells slots hw9 h9 => ?_)
    clear hw h; have hw := hw9; have h := h9; clear hw9 h9
    refine W.eq (g2 := F0 m 69 ls []) rfl ?_
    refine lv_iload hx hb h_K_setArguments_69 (lv_at hl 4 rfl) ?_
    refine cq_aload hx hb h_K_setArguments_71 (lv_at hl 3 rfl) ?_
    refine lv_iload hx hb h_K_setArguments_73 (lv_at hl 5 rfl) ?_
    obtain ⟨r4, e_r4, hw⟩ := hw
    subst e_r4
    have hl : lv_has ls 10 [(0, .ref a0), (1, .long z1), (3, .long z3), (5, .ref r4), (6, .int z6), (7, .int z7)] := hl
    refine W.eq (g2 := F0 m 75 ls [.int z7, .ref r4, .int z6]) rfl ?_
    obtain ⟨n6, g5, hw⟩ := hw
    obtain ⟨g7, hw⟩ := hw
    refine C_iald C h g5 g7 h_K_setArguments_75 ?_
    refine lv_topi (fun b8 e_b8 => ?_)
    replace hw := hw b8 e_b8
    refine C_callSi (As := [.int b8]) (rest := [.int z6]) C h (X_W_width l dC dI ca H σ2 b8 hw) (va_cwS 1 hts (gS hsub u_221 u_50 u_51 u_52) rfl rfl rfl (by decide +kernel) ⟨(Nat.le_of_ble_eq_true rfl), (Nat.le_of_ble_eq_true rfl)⟩) rfl hl.1 (Nat.le_of_ble_eq_true rfl) h_K_setArguments_76 (fun r10 σ9 H locs cells slots hw9 h9 => ?_)
    clear hw h; have hw := hw9; have h := h9; clear hw9 h9
    refine W.eq (g2 := F0 m 79 ls [.int r10, .int z6]) rfl ?_
    refine lv_iadd hx hb h_K_setArguments_79 ?_
    refine lv_istore (lv' := [(6, .int (z6 + r10)), (0, .ref a0), (1, .long z1), (3, .long z3), (5, .ref r4), (7, .int z7)]) hx hb h_K_setArguments_80 hl (by decide) rfl (fun ls hl => ?_)
    refine lv_iinc (v := (z7 + 1)) (lv' := [(7, .int (z7 + 1)), (6, .int (z6 + r10)), (0, .ref a0), (1, .long z1), (3, .long z3), (5, .ref r4)]) hx hb h_K_setArguments_82 hl (k := 5) rfl (rfl) (by decide) rfl (fun ls hl => ?_)
    refine lv_goto (tgt := 15) hx hb h_K_setArguments_85 (by decide) ?_
    exact hK15 z1 z3 (some r4) (z6 + r10) (z7 + 1) σ9 _ _ _ _ _ hw h (lv_sub hl [2, 3, 4, 5, 1, 0] rfl)
  have K_43 : ∀ (K15 : Int64 → Int64 → Option Nat → Int32 → Int32 → CST → Prop) (hK15 : ∀ (z1 : Int64) (z3 : Int64) (z5 : Option Nat) (z6 : Int32) (z7 : Int32) (σ : CST) (H : Heap) (locs : List Loc) (cells slots : Nat) (ls : Array Slot), K15 z1 z3 z5 z6 z7 σ → CH (dC, dI) A ca ({ frames := 1, cells := σ0.2.2.2.2.1, slots := σ0.2.2.2.2.2.1, locals := 23 } : Room) σ0.2.2.2.2.2.2 σ s H locs cells slots → lv_has ls 10 [(0, .ref a0), (1, .long z1), (3, .long z3), (5, va_rf z5), (6, .int z6), (7, .int z7)] → W p l e ({ frames := 1, cells := σ0.2.2.2.2.1, slots := σ0.2.2.2.2.2.1, locals := 23 } : Room) s m ([.ref a0, .long x1, .long x3] : List Value).toArray below meth cx H locs cells slots Q (F0 m 15 ls [])), ∀ (z1 : Int64) (z3 : Int64) (z5 : Option Nat) (z6 : Int32) (z7 : Int32) (s0 : Int64) (σ : CST) (H : Heap) (locs : List Loc) (cells slots : Nat) (ls : Array Slot), x_K_setArguments_43 a0 K15 P z1 z3 z5 z6 z7 s0 σ → CH (dC, dI) A ca ({ frames := 1, cells := σ0.2.2.2.2.1, slots := σ0.2.2.2.2.2.1, locals := 23 } : Room) σ0.2.2.2.2.2.2 σ s H locs cells slots → lv_has ls 10 [(0, .ref a0), (1, .long z1), (3, .long z3), (5, va_rf z5), (6, .int z6), (7, .int z7)] → W p l e ({ frames := 1, cells := σ0.2.2.2.2.1, slots := σ0.2.2.2.2.2.1, locals := 23 } : Room) s m ([.ref a0, .long x1, .long x3] : List Value).toArray below meth cx H locs cells slots Q (F0 m 43 ls [.long s0]) := by
    intro K15 hK15 z1 z3 z5 z6 z7 s0 σ H locs cells slots ls hw h hl
    unfold x_K_setArguments_43 at hw
    refine lv_lstore (lv' := [(8, .long s0), (0, .ref a0), (1, .long z1), (3, .long z3), (5, va_rf z5), (6, .int z6), (7, .int z7)]) hx hb h_K_setArguments_43 hl (by decide) rfl (fun ls hl => ?_)
    refine lv_aload_n hx hb h_K_setArguments_45 rfl (lv_at hl 1 rfl) ?_
    refine lv_iload hx hb h_K_setArguments_46 (lv_at hl 5 rfl) ?_
    refine cq_aload hx hb h_K_setArguments_48 (lv_at hl 4 rfl) ?_
    refine lv_iload hx hb h_K_setArguments_50 (lv_at hl 6 rfl) ?_
    obtain ⟨r11, e_r11, hw⟩ := hw
    subst e_r11
    have hl : lv_has ls 10 [(8, .long s0), (0, .ref a0), (1, .long z1), (3, .long z3), (5, .ref r11), (6, .int z6), (7, .int z7)] := hl
    refine W.eq (g2 := F0 m 52 ls [.int z7, .ref r11, .int z6, .ref a0]) rfl ?_
    obtain ⟨n13, g12, hw⟩ := hw
    obtain ⟨g14, hw⟩ := hw
    refine C_iald C h g12 g14 h_K_setArguments_52 ?_
    refine lv_topi (fun b15 e_b15 => ?_)
    replace hw := hw b15 e_b15
    refine lv_iconst (v := 1) hx hb h_K_setArguments_53 (by decide) ?_
    refine lv_icmp_ne (tgt := 64) hx hb h_K_setArguments_54 (by decide) (fun c16 => ?_) (fun c16 => ?_)
    · skip
      replace hw := hw.2 c16
      refine lv_lload hx hb h_K_setArguments_64 (lv_at hl 0 rfl) ?_
      exact K_66 _ hK15 z1 z3 (some r11) z6 z7 s0 z6 σ _ _ _ _ _ hw h (lv_sub hl [1, 2, 3, 4, 5, 6] rfl)
    · skip
      replace hw := hw.1 c16
      refine lv_lload hx hb h_K_setArguments_57 (lv_at hl 0 rfl) ?_
      refine lv_l2i (v := (s0 : Int64).toInt32) hx hb h_K_setArguments_59 rfl ?_
      refine lv_i2l (v := (((s0 : Int64).toInt32) : Int32).toInt64) hx hb h_K_setArguments_60 rfl ?_
      refine lv_goto (tgt := 66) hx hb h_K_setArguments_61 (by decide) ?_
      exact K_66 _ hK15 z1 z3 (some r11) z6 z7 ((((s0 : Int64).toInt32) : Int32).toInt64) z6 σ _ _ _ _ _ hw h (lv_sub hl [1, 2, 3, 4, 5, 6] rfl)
  have K_15 : ∀ (n : Nat), ∀ (z1 : Int64) (z3 : Int64) (z5 : Option Nat) (z6 : Int32) (z7 : Int32) (σ : CST) (H : Heap) (locs : List Loc) (cells slots : Nat) (ls : Array Slot), x_K_setArguments_15 a0 P n z1 z3 z5 z6 z7 σ → CH (dC, dI) A ca ({ frames := 1, cells := σ0.2.2.2.2.1, slots := σ0.2.2.2.2.2.1, locals := 23 } : Room) σ0.2.2.2.2.2.2 σ s H locs cells slots → lv_has ls 10 [(0, .ref a0), (1, .long z1), (3, .long z3), (5, va_rf z5), (6, .int z6), (7, .int z7)] → W p l e ({ frames := 1, cells := σ0.2.2.2.2.1, slots := σ0.2.2.2.2.2.1, locals := 23 } : Room) s m ([.ref a0, .long x1, .long x3] : List Value).toArray below meth cx H locs cells slots Q (F0 m 15 ls []) := by
    intro  n
    induction n with
    | zero => intro z1 z3 z5 z6 z7 σ H locs cells slots ls hw h hl; unfold x_K_setArguments_15 at hw; exact hw.elim
    | succ n ih =>
      intro z1 z3 z5 z6 z7 σ H locs cells slots ls hw h hl
      unfold x_K_setArguments_15 at hw
      refine lv_iload hx hb h_K_setArguments_15 (lv_at hl 5 rfl) ?_
      refine cq_aload hx hb h_K_setArguments_17 (lv_at hl 3 rfl) ?_
      obtain ⟨r17, e_r17, hw⟩ := hw
      subst e_r17
      have hl : lv_has ls 10 [(0, .ref a0), (1, .long z1), (3, .long z3), (5, .ref r17), (6, .int z6), (7, .int z7)] := hl
      refine W.eq (g2 := F0 m 19 ls [.ref r17, .int z7]) rfl ?_
      obtain ⟨n19, g18, hw⟩ := hw
      refine C_alen C h 20 0 rfl (by decide) g18 h_K_setArguments_19 ?_
      refine lv_icmp_ge (tgt := 88) hx hb h_K_setArguments_20 (by decide) (fun c20 => ?_) (fun c20 => ?_)
      · skip
        replace hw := hw.1 c20
        exact hend σ _ _ _ _ _ _ hw h h_K_setArguments_88
      · skip
        replace hw := hw.2 c20
        refine lv_iload hx hb h_K_setArguments_23 (lv_at hl 5 rfl) ?_
        refine lv_if_ne (tgt := 32) hx hb h_K_setArguments_25 (by decide) (fun c21 => ?_) (fun c21 => ?_)
        · skip
          replace hw := hw.2 c21
          refine lv_iload hx hb h_K_setArguments_32 (lv_at hl 5 rfl) ?_
          refine lv_iconst (v := 1) hx hb h_K_setArguments_34 (by decide) ?_
          refine lv_icmp_ne (tgt := 42) hx hb h_K_setArguments_35 (by decide) (fun c22 => ?_) (fun c22 => ?_)
          · skip
            replace hw := hw.2 c22
            refine lv_lconst (v := 0) hx hb h_K_setArguments_42 (by decide) ?_
            exact K_43 _ ih z1 z3 (some r17) z6 z7 0 σ _ _ _ _ _ hw h (lv_sub hl [0, 1, 2, 3, 4, 5] rfl)
          · skip
            replace hw := hw.1 c22
            refine lv_lload_n hx hb h_K_setArguments_38 rfl (lv_at hl 2 rfl) ?_
            refine lv_goto (tgt := 43) hx hb h_K_setArguments_39 (by decide) ?_
            exact K_43 _ ih z1 z3 (some r17) z6 z7 z3 σ _ _ _ _ _ hw h (lv_sub hl [0, 1, 2, 3, 4, 5] rfl)
        · skip
          replace hw := hw.1 c21
          refine lv_lload_n hx hb h_K_setArguments_28 rfl (lv_at hl 1 rfl) ?_
          refine lv_goto (tgt := 43) hx hb h_K_setArguments_29 (by decide) ?_
          exact K_43 _ ih z1 z3 (some r17) z6 z7 z1 σ _ _ _ _ _ hw h (lv_sub hl [0, 1, 2, 3, 4, 5] rfl)
  have hl : lv_has ls 10 [(0, .ref a0), (1, .long x1), (3, .long x3)] := hl
  unfold x_K_setArguments at hw
  refine lv_aload_n hx hb h_K_setArguments_0 rfl (lv_at hl 0 rfl) ?_
  obtain ⟨g23, hw⟩ := hw
  refine C_get C h 0 0 (v := va_rf (σ0.2.2.2.1 a0 0)) g23 rfl (Cn := R_C) (T := T_C) (N := 5) rfl (by decide) rfl uw_C (by decide) u_222 (fun _ q => q) h_K_setArguments_1 ?_
  refine lv_topq (fun b24 e_b24 => ?_)
  replace hw := hw b24 e_b24
  obtain ⟨r25, e_r25, hw⟩ := hw
  subst e_r25
  have hl : lv_has ls 10 [(0, .ref a0), (1, .long x1), (3, .long x3)] := hl
  refine W.eq (g2 := F0 m 4 ls [.ref r25]) rfl ?_
  obtain ⟨g26, hw⟩ := hw
  refine C_get C h 5 0 (v := va_rf (σ0.2.2.2.1 r25 0)) g26 rfl (Cn := R_E) (T := T_E) (N := 13) rfl (by decide) rfl uw_E (by decide) u_223 (fun _ q => q) h_K_setArguments_4 ?_
  refine lv_topq (fun b27 e_b27 => ?_)
  replace hw := hw b27 e_b27
  refine cq_astore (lv' := [(5, va_rf b27), (0, .ref a0), (1, .long x1), (3, .long x3)]) hx hb h_K_setArguments_7 hl (by decide) rfl (fun ls hl => ?_)
  refine lv_iconst (v := 0) hx hb h_K_setArguments_9 (by decide) ?_
  refine lv_istore (lv' := [(6, .int 0), (5, va_rf b27), (0, .ref a0), (1, .long x1), (3, .long x3)]) hx hb h_K_setArguments_10 hl (by decide) (by simp [cq_cat]) (fun ls hl => ?_)
  refine lv_iconst (v := 0) hx hb h_K_setArguments_12 (by decide) ?_
  refine lv_istore (lv' := [(7, .int 0), (6, .int 0), (5, va_rf b27), (0, .ref a0), (1, .long x1), (3, .long x3)]) hx hb h_K_setArguments_13 hl (by decide) rfl (fun ls hl => ?_)
  obtain ⟨n9, hw⟩ := hw
  exact K_15 n9 x1 x3 b27 0 0 σ0 _ _ _ _ _ hw h (lv_sub hl [3, 4, 5, 2, 1, 0] rfl)
