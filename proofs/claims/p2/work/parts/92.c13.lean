abbrev g_Ve_markBehind : MethodName := ⟨"MapFramer$Verifier", "markBehind", "([ZI)V"⟩
theorem u_836 : (Cond.methodLink "MapFramer$Verifier" 253 ⟨"MapFramer$Verifier", "mark", "([ZI)V"⟩ : Cond) ∈ bigW := inB_6 171 (by decide +kernel) rfl
theorem u_837 : (Cond.static ⟨"MapFramer$Verifier", "mark", "([ZI)V"⟩ : Cond) ∈ bigW := inB_6 172 (by decide +kernel) rfl
theorem u_838 : (Cond.code ⟨"MapFramer$Verifier", "mark", "([ZI)V"⟩ prog_11_method_21_code 2 none : Cond) ∈ bigW := inB_6 173 rfl rfl
theorem h_Ve_markBehind_0 : decode prog_11_method_20_code 0 = .ok (.aload_n 0, 1) := by decide +kernel
theorem h_Ve_markBehind_1 : decode prog_11_method_20_code 1 = .ok (.getfield 15, 3) := by decide +kernel
theorem h_Ve_markBehind_4 : decode prog_11_method_20_code 4 = .ok (.getfield 28, 3) := by decide +kernel
theorem h_Ve_markBehind_7 : decode prog_11_method_20_code 7 = .ok (.iload_n 2, 1) := by decide +kernel
theorem h_Ve_markBehind_8 : decode prog_11_method_20_code 8 = .ok (.iaload, 1) := by decide +kernel
theorem h_Ve_markBehind_9 : decode prog_11_method_20_code 9 = .ok (.istore_n 3, 1) := by decide +kernel
theorem h_Ve_markBehind_10 : decode prog_11_method_20_code 10 = .ok (.iload_n 3, 1) := by decide +kernel
theorem h_Ve_markBehind_11 : decode prog_11_method_20_code 11 = .ok (.invokestatic 114, 3) := by decide +kernel
theorem h_Ve_markBehind_14 : decode prog_11_method_20_code 14 = .ok (.ifCond .eq 15, 3) := by decide +kernel
theorem h_Ve_markBehind_17 : decode prog_11_method_20_code 17 = .ok (.aload_n 1, 1) := by decide +kernel
theorem h_Ve_markBehind_18 : decode prog_11_method_20_code 18 = .ok (.aload_n 0, 1) := by decide +kernel
theorem h_Ve_markBehind_19 : decode prog_11_method_20_code 19 = .ok (.getfield 15, 3) := by decide +kernel
theorem h_Ve_markBehind_22 : decode prog_11_method_20_code 22 = .ok (.iload_n 2, 1) := by decide +kernel
theorem h_Ve_markBehind_23 : decode prog_11_method_20_code 23 = .ok (.invokevirtual 117, 3) := by decide +kernel
theorem h_Ve_markBehind_26 : decode prog_11_method_20_code 26 = .ok (.invokestatic 253, 3) := by decide +kernel
theorem h_Ve_markBehind_29 : decode prog_11_method_20_code 29 = .ok (.iload_n 3, 1) := by decide +kernel
theorem h_Ve_markBehind_30 : decode prog_11_method_20_code 30 = .ok (.invokestatic 187, 3) := by decide +kernel
theorem h_Ve_markBehind_33 : decode prog_11_method_20_code 33 = .ok (.ifCond .eq 13, 3) := by decide +kernel
theorem h_Ve_markBehind_36 : decode prog_11_method_20_code 36 = .ok (.aload_n 1, 1) := by decide +kernel
theorem h_Ve_markBehind_37 : decode prog_11_method_20_code 37 = .ok (.iload_n 2, 1) := by decide +kernel
theorem h_Ve_markBehind_38 : decode prog_11_method_20_code 38 = .ok (.iload_n 3, 1) := by decide +kernel
theorem h_Ve_markBehind_39 : decode prog_11_method_20_code 39 = .ok (.invokestatic 70, 3) := by decide +kernel
theorem h_Ve_markBehind_42 : decode prog_11_method_20_code 42 = .ok (.iadd, 1) := by decide +kernel
theorem h_Ve_markBehind_43 : decode prog_11_method_20_code 43 = .ok (.invokestatic 253, 3) := by decide +kernel
theorem h_Ve_markBehind_46 : decode prog_11_method_20_code 46 = .ok (.return_, 1) := by decide +kernel
def x_Ve_markBehind_29 (a0 : Nat) (a1 : Nat) (P : CST → Prop) (z2 : Int32) (z3 : Int32) (σ : CST) : Prop := x_Op_endsFlow z3 σ (fun r2 σ1 => ((r2 = 0 → P σ1) ∧ (¬ r2 = 0 → x_Op_length z3 σ1 (fun r5 σ4 => x_Ve_mark a1 (z2 + r5) σ4 (fun σ6 => P σ6)))))
def x_Ve_markBehind (a0 : Nat) (a1 : Nat) (x2 : Int32) (σ0 : CST) (P : CST → Prop) : Prop := σ0.1 a0 = some (10, 0) ∧ (∀ b9 : Option Nat, b9 = (σ0.2.2.2.1 a0 1) → (∃ r10 : Nat, b9 = some r10 ∧ (σ0.1 r10 = some (5, 0) ∧ (∀ b12 : Option Nat, b12 = (σ0.2.2.2.1 r10 2) → (∃ r13 : Nat, b12 = some r13 ∧ ((∃ n15 : Nat, σ0.1 r13 = some (20, n15) ∧ (vp_in x2 n15 ∧ (∀ b17 : Int32, b17 = (σ0.2.1 r13 (x2 : Int32).toNatClampNeg) → x_Op_isBranch b17 σ0 (fun r19 σ18 => ((r19 = 0 → x_Ve_markBehind_29 a0 a1 P x2 b17 σ18) ∧ (¬ r19 = 0 → σ18.1 a0 = some (10, 0) ∧ (∀ b22 : Option Nat, b22 = (σ18.2.2.2.1 a0 1) → (∃ r23 : Nat, b22 = some r23 ∧ (σ18.1 r23 = some (5, 0) ∧ (x_E_branchPlace r23 x2 σ18 (fun r26 σ25 => x_Ve_mark a1 r26 σ25 (fun σ27 => x_Ve_markBehind_29 a0 a1 P x2 b17 σ27))))))))))))))))))
set_option maxHeartbeats 4000000 in
set_option maxRecDepth 100000 in
theorem X_Ve_markBehind (l : Launch) (dC : Nat → ClassId) (dI : Nat → Nat → Nat) (ca : Nat → ClassId) (H0 : Heap) (σ0 : CST) (a0 : Nat) (a1 : Nat) (x2 : Int32) {P : CST → Prop} (hw : x_Ve_markBehind a0 a1 x2 σ0 P) : Met l g_Ve_markBehind (mW g_Ve_markBehind prog_11_method_20_code 4 none) ({ frames := 3, cells := σ0.2.2.2.2.1, slots := σ0.2.2.2.2.2.1, locals := 63 } : Room) (va_Pc [.ref a0, .ref a1, .int x2] (CPre (dC, dI) ca σ0 H0)) (va_Qv P (CB (dC, dI) ca σ0 H0) (cA σ0 H0.size)) σ0.2.2.2.2.1 σ0.2.2.2.2.2.1 (cA σ0 H0.size) := by
  refine C_ofv (by decide +kernel) rfl rfl rfl (Nat.le_of_ble_eq_true rfl) ?_
  intro p e s m below meth cx Q A ls C hnm hend hH0 h hl
  subst hH0
  have C0 := C
  obtain ⟨⟨hx, hb, hml, hown, hts⟩, hsub⟩ := C0
  obtain ⟨cells, e_cells⟩ : ∃ z : Nat, z = 0 := ⟨_, rfl⟩
  obtain ⟨slots, e_slots⟩ : ∃ z : Nat, z = 0 := ⟨_, rfl⟩
  have h : CH (dC, dI) A ca ({ frames := 3, cells := σ0.2.2.2.2.1, slots := σ0.2.2.2.2.2.1, locals := 63 } : Room) σ0.2.2.2.2.2.2 σ0 s s.heap [] cells slots := by rw [e_cells, e_slots]; exact h
  show W p l e ({ frames := 3, cells := σ0.2.2.2.2.1, slots := σ0.2.2.2.2.2.1, locals := 63 } : Room) s m ([.ref a0, .ref a1, .int x2] : List Value).toArray below meth cx s.heap [] 0 0 Q (F0 m 0 ls [])
  rw [show W p l e ({ frames := 3, cells := σ0.2.2.2.2.1, slots := σ0.2.2.2.2.2.1, locals := 63 } : Room) s m ([.ref a0, .ref a1, .int x2] : List Value).toArray below meth cx s.heap [] 0 0 Q (F0 m 0 ls []) = W p l e ({ frames := 3, cells := σ0.2.2.2.2.1, slots := σ0.2.2.2.2.2.1, locals := 63 } : Room) s m ([.ref a0, .ref a1, .int x2] : List Value).toArray below meth cx s.heap [] cells slots Q (F0 m 0 ls []) by rw [e_cells, e_slots]]
  have K_29 : ∀ (u9 : Unit), ∀ (z2 : Int32) (z3 : Int32) (σ : CST) (H : Heap) (locs : List Loc) (cells slots : Nat) (ls : Array Slot), x_Ve_markBehind_29 a0 a1 P z2 z3 σ → CH (dC, dI) A ca ({ frames := 3, cells := σ0.2.2.2.2.1, slots := σ0.2.2.2.2.2.1, locals := 63 } : Room) σ0.2.2.2.2.2.2 σ s H locs cells slots → lv_has ls 4 [(1, .ref a1), (2, .int z2), (3, .int z3)] → W p l e ({ frames := 3, cells := σ0.2.2.2.2.1, slots := σ0.2.2.2.2.2.1, locals := 63 } : Room) s m ([.ref a0, .ref a1, .int x2] : List Value).toArray below meth cx H locs cells slots Q (F0 m 29 ls []) := by
    intro u9 z2 z3 σ H locs cells slots ls hw h hl
    unfold x_Ve_markBehind_29 at hw
    refine lv_iload_n hx hb h_Ve_markBehind_29 rfl (lv_at hl 2 rfl) ?_
    refine C_callSi (As := [.int z3]) (rest := []) C h (X_Op_endsFlow l dC dI ca H σ z3 hw) (va_cwS 1 hts (gS hsub u_784 u_629 u_327 u_630) rfl rfl rfl (by decide +kernel) ⟨(Nat.le_of_ble_eq_true rfl), (Nat.le_of_ble_eq_true rfl)⟩) rfl hl.1 (Nat.le_of_ble_eq_true rfl) h_Ve_markBehind_30 (fun r2 σ1 H locs cells slots hw9 h9 => ?_)
    clear hw h; have hw := hw9; have h := h9; clear hw9 h9
    refine W.eq (g2 := F0 m 33 ls [.int r2]) rfl ?_
    refine lv_if_eq (tgt := 46) hx hb h_Ve_markBehind_33 (by decide) (fun c3 => ?_) (fun c3 => ?_)
    · skip
      replace hw := hw.1 c3
      exact hend σ1 _ _ _ _ _ _ hw h h_Ve_markBehind_46
    · skip
      replace hw := hw.2 c3
      refine lv_aload_n hx hb h_Ve_markBehind_36 rfl (lv_at hl 0 rfl) ?_
      refine lv_iload_n hx hb h_Ve_markBehind_37 rfl (lv_at hl 1 rfl) ?_
      refine lv_iload_n hx hb h_Ve_markBehind_38 rfl (lv_at hl 2 rfl) ?_
      refine C_callSi (As := [.int z3]) (rest := [.int z2, .ref a1]) C h (X_Op_length l dC dI ca H σ1 z3 hw) (va_cwS 1 hts (gS hsub u_736 u_326 u_327 u_328) rfl rfl rfl (by decide +kernel) ⟨(Nat.le_of_ble_eq_true rfl), (Nat.le_of_ble_eq_true rfl)⟩) rfl hl.1 (Nat.le_of_ble_eq_true rfl) h_Ve_markBehind_39 (fun r5 σ4 H locs cells slots hw9 h9 => ?_)
      clear hw h; have hw := hw9; have h := h9; clear hw9 h9
      refine W.eq (g2 := F0 m 42 ls [.int r5, .int z2, .ref a1]) rfl ?_
      refine lv_iadd hx hb h_Ve_markBehind_42 ?_
      refine C_callSv (As := [.ref a1, .int (z2 + r5)]) (rest := []) C h (X_Ve_mark l dC dI ca H σ4 a1 (z2 + r5) hw) (va_cwS 2 hts (gS hsub u_836 u_837 u_726 u_838) rfl rfl rfl (by decide +kernel) ⟨(Nat.le_of_ble_eq_true rfl), (Nat.le_of_ble_eq_true rfl)⟩) rfl hl.1 (Nat.le_of_ble_eq_true rfl) h_Ve_markBehind_43 (fun σ6 H locs cells slots hw9 h9 => ?_)
      clear hw h; have hw := hw9; have h := h9; clear hw9 h9
      refine W.eq (g2 := F0 m 46 ls []) rfl ?_
      exact hend σ6 _ _ _ _ _ _ hw h h_Ve_markBehind_46
  have hl : lv_has ls 4 [(0, .ref a0), (1, .ref a1), (2, .int x2)] := hl
  unfold x_Ve_markBehind at hw
  refine lv_aload_n hx hb h_Ve_markBehind_0 rfl (lv_at hl 0 rfl) ?_
  obtain ⟨g8, hw⟩ := hw
  refine C_get C h 10 1 (v := va_rf (σ0.2.2.2.1 a0 1)) g8 rfl (Cn := R_Ve) (T := T_Ve) (N := 10) rfl (by decide) rfl uw_Ve (by decide) u_681 (fun _ q => q) h_Ve_markBehind_1 ?_
  refine lv_topq (fun b9 e_b9 => ?_)
  replace hw := hw b9 e_b9
  obtain ⟨r10, e_r10, hw⟩ := hw
  subst e_r10
  have hl : lv_has ls 4 [(0, .ref a0), (1, .ref a1), (2, .int x2)] := hl
  refine W.eq (g2 := F0 m 4 ls [.ref r10]) rfl ?_
  obtain ⟨g11, hw⟩ := hw
  refine C_get C h 5 2 (v := va_rf (σ0.2.2.2.1 r10 2)) g11 rfl (Cn := R_E) (T := T_E) (N := 13) rfl (by decide) rfl uw_E (by decide) u_688 (fun _ q => q) h_Ve_markBehind_4 ?_
  refine lv_topq (fun b12 e_b12 => ?_)
  replace hw := hw b12 e_b12
  refine lv_iload_n hx hb h_Ve_markBehind_7 rfl (lv_at hl 2 rfl) ?_
  obtain ⟨r13, e_r13, hw⟩ := hw
  subst e_r13
  have hl : lv_has ls 4 [(0, .ref a0), (1, .ref a1), (2, .int x2)] := hl
  refine W.eq (g2 := F0 m 8 ls [.int x2, .ref r13]) rfl ?_
  obtain ⟨n15, g14, hw⟩ := hw
  obtain ⟨g16, hw⟩ := hw
  refine C_iald C h g14 g16 h_Ve_markBehind_8 ?_
  refine lv_topi (fun b17 e_b17 => ?_)
  replace hw := hw b17 e_b17
  refine lv_istore_n (i := 3) (lv' := [(3, .int b17), (0, .ref a0), (1, .ref a1), (2, .int x2)]) hx hb h_Ve_markBehind_9 rfl hl (by decide) rfl (fun ls hl => ?_)
  refine lv_iload_n hx hb h_Ve_markBehind_10 rfl (lv_at hl 0 rfl) ?_
  refine C_callSi (As := [.int b17]) (rest := []) C h (X_Op_isBranch l dC dI ca s.heap σ0 b17 hw) (va_cwS 1 hts (gS hsub u_742 u_379 u_327 u_380) rfl rfl rfl (by decide +kernel) ⟨(Nat.le_of_ble_eq_true rfl), (Nat.le_of_ble_eq_true rfl)⟩) rfl hl.1 (Nat.le_of_ble_eq_true rfl) h_Ve_markBehind_11 (fun r19 σ18 H locs cells slots hw9 h9 => ?_)
  clear hw h; have hw := hw9; have h := h9; clear hw9 h9
  refine W.eq (g2 := F0 m 14 ls [.int r19]) rfl ?_
  refine lv_if_eq (tgt := 29) hx hb h_Ve_markBehind_14 (by decide) (fun c20 => ?_) (fun c20 => ?_)
  · skip
    replace hw := hw.1 c20
    exact K_29 () x2 b17 σ18 _ _ _ _ _ hw h (lv_sub hl [2, 3, 0] rfl)
  · skip
    replace hw := hw.2 c20
    refine lv_aload_n hx hb h_Ve_markBehind_17 rfl (lv_at hl 2 rfl) ?_
    refine lv_aload_n hx hb h_Ve_markBehind_18 rfl (lv_at hl 1 rfl) ?_
    obtain ⟨g21, hw⟩ := hw
    refine C_get C h 10 1 (v := va_rf (σ18.2.2.2.1 a0 1)) g21 rfl (Cn := R_Ve) (T := T_Ve) (N := 10) rfl (by decide) rfl uw_Ve (by decide) u_681 (fun _ q => q) h_Ve_markBehind_19 ?_
    refine lv_topq (fun b22 e_b22 => ?_)
    replace hw := hw b22 e_b22
    refine lv_iload_n hx hb h_Ve_markBehind_22 rfl (lv_at hl 3 rfl) ?_
    obtain ⟨r23, e_r23, hw⟩ := hw
    subst e_r23
    have hl : lv_has ls 4 [(3, .int b17), (0, .ref a0), (1, .ref a1), (2, .int x2)] := hl
    refine W.eq (g2 := F0 m 23 ls [.int x2, .ref r23, .ref a1]) rfl ?_
    obtain ⟨g24, hw⟩ := hw
    refine C_callVi (As := [.int x2]) (rest := [.ref a1]) C h (ci := 5) (Cn := R_E) (T := T_E) (N := 13) g24 rfl (by decide) (X_E_branchPlace l dC dI ca H σ18 r23 x2 hw) (cwV 1 hts (gV hsub u_743 u_313 u_314 u_229 u_315) rfl rfl rfl (by decide +kernel) ⟨(Nat.le_of_ble_eq_true rfl), (Nat.le_of_ble_eq_true rfl)⟩) rfl hl.1 (Nat.le_of_ble_eq_true rfl) h_Ve_markBehind_23 (fun r26 σ25 H locs cells slots hw9 h9 => ?_)
    clear hw h; have hw := hw9; have h := h9; clear hw9 h9
    refine W.eq (g2 := F0 m 26 ls [.int r26, .ref a1]) rfl ?_
    refine C_callSv (As := [.ref a1, .int r26]) (rest := []) C h (X_Ve_mark l dC dI ca H σ25 a1 r26 hw) (va_cwS 2 hts (gS hsub u_836 u_837 u_726 u_838) rfl rfl rfl (by decide +kernel) ⟨(Nat.le_of_ble_eq_true rfl), (Nat.le_of_ble_eq_true rfl)⟩) rfl hl.1 (Nat.le_of_ble_eq_true rfl) h_Ve_markBehind_26 (fun σ27 H locs cells slots hw9 h9 => ?_)
    clear hw h; have hw := hw9; have h := h9; clear hw9 h9
    refine W.eq (g2 := F0 m 29 ls []) rfl ?_
    exact K_29 () x2 b17 σ27 _ _ _ _ _ hw h (lv_sub hl [2, 3, 0] rfl)
abbrev g_Ve_writeFrames : MethodName := ⟨"MapFramer$Verifier", "writeFrames", "()V"⟩
theorem u_839 : (Cond.methodLink "MapFramer$Verifier" 267 ⟨"MapFramer$FrameWriter", "written", "()[I"⟩ : Cond) ∈ bigW := inB_7 11 (by decide +kernel) rfl
theorem u_840 : (Cond.instanceMethod ⟨"MapFramer$FrameWriter", "written", "()[I"⟩ : Cond) ∈ bigW := inB_7 12 (by decide +kernel) rfl
theorem u_841 : (Cond.selects "MapFramer$FrameWriter" ⟨"MapFramer$FrameWriter", "written", "()[I"⟩ ⟨"MapFramer$FrameWriter", "written", "()[I"⟩ : Cond) ∈ bigW := inB_7 13 (by decide +kernel) rfl
theorem u_842 : (Cond.code ⟨"MapFramer$FrameWriter", "written", "()[I"⟩ prog_3_method_2_code 1 (some (.array .int)) : Cond) ∈ bigW := inB_7 14 rfl rfl
theorem u_843 : (Cond.fieldLink "MapFramer$Verifier" 271 "MapFramer$Method" "frames" "[I" : Cond) ∈ bigW := inB_2 187 (by decide +kernel) rfl
theorem u_844 : (Cond.methodLink "MapFramer$Verifier" 261 ⟨"MapFramer$FrameWriter", "write", "(ILMapFramer$State;)V"⟩ : Cond) ∈ bigW := inB_6 210 (by decide +kernel) rfl
theorem u_845 : (Cond.instanceMethod ⟨"MapFramer$FrameWriter", "write", "(ILMapFramer$State;)V"⟩ : Cond) ∈ bigW := inB_6 211 (by decide +kernel) rfl
theorem u_846 : (Cond.selects "MapFramer$FrameWriter" ⟨"MapFramer$FrameWriter", "write", "(ILMapFramer$State;)V"⟩ ⟨"MapFramer$FrameWriter", "write", "(ILMapFramer$State;)V"⟩ : Cond) ∈ bigW := inB_6 212 (by decide +kernel) rfl
theorem u_847 : (Cond.code ⟨"MapFramer$FrameWriter", "write", "(ILMapFramer$State;)V"⟩ prog_3_method_3_code 4 none : Cond) ∈ bigW := inB_6 213 rfl rfl
theorem u_848 : (Cond.fieldLink "MapFramer$Verifier" 264 "MapFramer$Method" "frameCount" "I" : Cond) ∈ bigW := inB_2 189 (by decide +kernel) rfl
theorem u_849 : (Cond.classLink "MapFramer$Verifier" 256 "MapFramer$FrameWriter" : Cond) ∈ bigW := inB_6 174 (by decide +kernel) rfl
theorem u_850 : (Cond.instantiable "MapFramer$FrameWriter" 9 : Cond) ∈ bigW := inB_6 175 (by decide +kernel) rfl
theorem u_851 : (Cond.code ⟨"MapFramer$FrameWriter", "<init>", "(LMapFramer$Method;)V"⟩ prog_3_method_1_code 2 none : Cond) ∈ bigW := inB_6 178 rfl rfl
theorem u_852 : (Cond.methodLink "MapFramer$Verifier" 258 ⟨"MapFramer$FrameWriter", "<init>", "(LMapFramer$Method;)V"⟩ : Cond) ∈ bigW := inB_6 176 (by decide +kernel) rfl
theorem u_853 : (Cond.instanceMethod ⟨"MapFramer$FrameWriter", "<init>", "(LMapFramer$Method;)V"⟩ : Cond) ∈ bigW := inB_6 177 (by decide +kernel) rfl
theorem u_854 : (Cond.methodLink "MapFramer$Verifier" 249 ⟨"MapFramer$Verifier", "markBehind", "([ZI)V"⟩ : Cond) ∈ bigW := inB_6 167 (by decide +kernel) rfl
theorem u_855 : (Cond.instanceMethod ⟨"MapFramer$Verifier", "markBehind", "([ZI)V"⟩ : Cond) ∈ bigW := inB_6 169 (by decide +kernel) rfl
theorem u_856 : (Cond.selects "MapFramer$Verifier" ⟨"MapFramer$Verifier", "markBehind", "([ZI)V"⟩ ⟨"MapFramer$Verifier", "markBehind", "([ZI)V"⟩ : Cond) ∈ bigW := inS (y := ⟨"MapFramer$Verifier", "markBehind", "([ZI)V"⟩) (n := 10) (List.mem_of_getElem? (i := 44) (by decide +kernel))
theorem u_857 : (Cond.code ⟨"MapFramer$Verifier", "markBehind", "([ZI)V"⟩ prog_11_method_20_code 4 none : Cond) ∈ bigW := inB_6 170 rfl rfl
theorem h_Ve_writeFrames_0 : decode prog_11_method_19_code 0 = .ok (.aload_n 0, 1) := by decide +kernel
theorem h_Ve_writeFrames_1 : decode prog_11_method_19_code 1 = .ok (.getfield 15, 3) := by decide +kernel
theorem h_Ve_writeFrames_4 : decode prog_11_method_19_code 4 = .ok (.getfield 28, 3) := by decide +kernel
theorem h_Ve_writeFrames_7 : decode prog_11_method_19_code 7 = .ok (.arraylength, 1) := by decide +kernel
theorem h_Ve_writeFrames_8 : decode prog_11_method_19_code 8 = .ok (.newarray .boolean, 2) := by decide +kernel
theorem h_Ve_writeFrames_10 : decode prog_11_method_19_code 10 = .ok (.astore_n 1, 1) := by decide +kernel
theorem h_Ve_writeFrames_11 : decode prog_11_method_19_code 11 = .ok (.iconst 0, 1) := by decide +kernel
theorem h_Ve_writeFrames_12 : decode prog_11_method_19_code 12 = .ok (.istore_n 2, 1) := by decide +kernel
theorem h_Ve_writeFrames_13 : decode prog_11_method_19_code 13 = .ok (.iload_n 2, 1) := by decide +kernel
theorem h_Ve_writeFrames_14 : decode prog_11_method_19_code 14 = .ok (.aload_n 1, 1) := by decide +kernel
theorem h_Ve_writeFrames_15 : decode prog_11_method_19_code 15 = .ok (.arraylength, 1) := by decide +kernel
theorem h_Ve_writeFrames_16 : decode prog_11_method_19_code 16 = .ok (.if_icmp .ge 24, 3) := by decide +kernel
theorem h_Ve_writeFrames_19 : decode prog_11_method_19_code 19 = .ok (.aload_n 0, 1) := by decide +kernel
theorem h_Ve_writeFrames_20 : decode prog_11_method_19_code 20 = .ok (.getfield 34, 3) := by decide +kernel
theorem h_Ve_writeFrames_23 : decode prog_11_method_19_code 23 = .ok (.iload_n 2, 1) := by decide +kernel
theorem h_Ve_writeFrames_24 : decode prog_11_method_19_code 24 = .ok (.baload, 1) := by decide +kernel
theorem h_Ve_writeFrames_25 : decode prog_11_method_19_code 25 = .ok (.ifCond .eq 9, 3) := by decide +kernel
theorem h_Ve_writeFrames_28 : decode prog_11_method_19_code 28 = .ok (.aload_n 0, 1) := by decide +kernel
theorem h_Ve_writeFrames_29 : decode prog_11_method_19_code 29 = .ok (.aload_n 1, 1) := by decide +kernel
theorem h_Ve_writeFrames_30 : decode prog_11_method_19_code 30 = .ok (.iload_n 2, 1) := by decide +kernel
theorem h_Ve_writeFrames_31 : decode prog_11_method_19_code 31 = .ok (.invokevirtual 249, 3) := by decide +kernel
theorem h_Ve_writeFrames_34 : decode prog_11_method_19_code 34 = .ok (.iinc 2 1, 3) := by decide +kernel
theorem h_Ve_writeFrames_37 : decode prog_11_method_19_code 37 = .ok (.goto (-24), 3) := by decide +kernel
theorem h_Ve_writeFrames_40 : decode prog_11_method_19_code 40 = .ok (.iconst 0, 1) := by decide +kernel
theorem h_Ve_writeFrames_41 : decode prog_11_method_19_code 41 = .ok (.istore_n 2, 1) := by decide +kernel
theorem h_Ve_writeFrames_42 : decode prog_11_method_19_code 42 = .ok (.iload_n 2, 1) := by decide +kernel
theorem h_Ve_writeFrames_43 : decode prog_11_method_19_code 43 = .ok (.aload_n 0, 1) := by decide +kernel
theorem h_Ve_writeFrames_44 : decode prog_11_method_19_code 44 = .ok (.getfield 15, 3) := by decide +kernel
theorem h_Ve_writeFrames_47 : decode prog_11_method_19_code 47 = .ok (.getfield 123, 3) := by decide +kernel
theorem h_Ve_writeFrames_50 : decode prog_11_method_19_code 50 = .ok (.invokevirtual 127, 3) := by decide +kernel
theorem h_Ve_writeFrames_53 : decode prog_11_method_19_code 53 = .ok (.if_icmp .ge 30, 3) := by decide +kernel
theorem h_Ve_writeFrames_56 : decode prog_11_method_19_code 56 = .ok (.aload_n 1, 1) := by decide +kernel
theorem h_Ve_writeFrames_57 : decode prog_11_method_19_code 57 = .ok (.aload_n 0, 1) := by decide +kernel
theorem h_Ve_writeFrames_58 : decode prog_11_method_19_code 58 = .ok (.getfield 15, 3) := by decide +kernel
theorem h_Ve_writeFrames_61 : decode prog_11_method_19_code 61 = .ok (.getfield 123, 3) := by decide +kernel
theorem h_Ve_writeFrames_64 : decode prog_11_method_19_code 64 = .ok (.iload_n 2, 1) := by decide +kernel
theorem h_Ve_writeFrames_65 : decode prog_11_method_19_code 65 = .ok (.invokevirtual 133, 3) := by decide +kernel
theorem h_Ve_writeFrames_68 : decode prog_11_method_19_code 68 = .ok (.checkcast 137, 3) := by decide +kernel
theorem h_Ve_writeFrames_71 : decode prog_11_method_19_code 71 = .ok (.getfield 145, 3) := by decide +kernel
theorem h_Ve_writeFrames_74 : decode prog_11_method_19_code 74 = .ok (.invokestatic 253, 3) := by decide +kernel
theorem h_Ve_writeFrames_77 : decode prog_11_method_19_code 77 = .ok (.iinc 2 1, 3) := by decide +kernel
theorem h_Ve_writeFrames_80 : decode prog_11_method_19_code 80 = .ok (.goto (-38), 3) := by decide +kernel
theorem h_Ve_writeFrames_83 : decode prog_11_method_19_code 83 = .ok (.new 256, 3) := by decide +kernel
theorem h_Ve_writeFrames_86 : decode prog_11_method_19_code 86 = .ok (.dup, 1) := by decide +kernel
theorem h_Ve_writeFrames_87 : decode prog_11_method_19_code 87 = .ok (.aload_n 0, 1) := by decide +kernel
theorem h_Ve_writeFrames_88 : decode prog_11_method_19_code 88 = .ok (.getfield 15, 3) := by decide +kernel
theorem h_Ve_writeFrames_91 : decode prog_11_method_19_code 91 = .ok (.invokespecial 258, 3) := by decide +kernel
theorem h_Ve_writeFrames_94 : decode prog_11_method_19_code 94 = .ok (.astore_n 2, 1) := by decide +kernel
theorem h_Ve_writeFrames_95 : decode prog_11_method_19_code 95 = .ok (.iconst 0, 1) := by decide +kernel
theorem h_Ve_writeFrames_96 : decode prog_11_method_19_code 96 = .ok (.istore_n 3, 1) := by decide +kernel
theorem h_Ve_writeFrames_97 : decode prog_11_method_19_code 97 = .ok (.iload_n 3, 1) := by decide +kernel
theorem h_Ve_writeFrames_98 : decode prog_11_method_19_code 98 = .ok (.aload_n 1, 1) := by decide +kernel
theorem h_Ve_writeFrames_99 : decode prog_11_method_19_code 99 = .ok (.arraylength, 1) := by decide +kernel
theorem h_Ve_writeFrames_100 : decode prog_11_method_19_code 100 = .ok (.if_icmp .ge 39, 3) := by decide +kernel
theorem h_Ve_writeFrames_103 : decode prog_11_method_19_code 103 = .ok (.aload_n 1, 1) := by decide +kernel
theorem h_Ve_writeFrames_104 : decode prog_11_method_19_code 104 = .ok (.iload_n 3, 1) := by decide +kernel
theorem h_Ve_writeFrames_105 : decode prog_11_method_19_code 105 = .ok (.baload, 1) := by decide +kernel
theorem h_Ve_writeFrames_106 : decode prog_11_method_19_code 106 = .ok (.ifCond .eq 27, 3) := by decide +kernel
theorem h_Ve_writeFrames_109 : decode prog_11_method_19_code 109 = .ok (.aload_n 2, 1) := by decide +kernel
theorem h_Ve_writeFrames_110 : decode prog_11_method_19_code 110 = .ok (.iload_n 3, 1) := by decide +kernel
theorem h_Ve_writeFrames_111 : decode prog_11_method_19_code 111 = .ok (.aload_n 0, 1) := by decide +kernel
theorem h_Ve_writeFrames_112 : decode prog_11_method_19_code 112 = .ok (.getfield 43, 3) := by decide +kernel
theorem h_Ve_writeFrames_115 : decode prog_11_method_19_code 115 = .ok (.iload_n 3, 1) := by decide +kernel
theorem h_Ve_writeFrames_116 : decode prog_11_method_19_code 116 = .ok (.aaload, 1) := by decide +kernel
theorem h_Ve_writeFrames_117 : decode prog_11_method_19_code 117 = .ok (.invokevirtual 261, 3) := by decide +kernel
theorem h_Ve_writeFrames_120 : decode prog_11_method_19_code 120 = .ok (.aload_n 0, 1) := by decide +kernel
theorem h_Ve_writeFrames_121 : decode prog_11_method_19_code 121 = .ok (.getfield 15, 3) := by decide +kernel
theorem h_Ve_writeFrames_124 : decode prog_11_method_19_code 124 = .ok (.dup, 1) := by decide +kernel
theorem h_Ve_writeFrames_125 : decode prog_11_method_19_code 125 = .ok (.getfield 264, 3) := by decide +kernel
theorem h_Ve_writeFrames_128 : decode prog_11_method_19_code 128 = .ok (.iconst 1, 1) := by decide +kernel
theorem h_Ve_writeFrames_129 : decode prog_11_method_19_code 129 = .ok (.iadd, 1) := by decide +kernel
theorem h_Ve_writeFrames_130 : decode prog_11_method_19_code 130 = .ok (.putfield 264, 3) := by decide +kernel
theorem h_Ve_writeFrames_133 : decode prog_11_method_19_code 133 = .ok (.iinc 3 1, 3) := by decide +kernel
theorem h_Ve_writeFrames_136 : decode prog_11_method_19_code 136 = .ok (.goto (-39), 3) := by decide +kernel
theorem h_Ve_writeFrames_139 : decode prog_11_method_19_code 139 = .ok (.aload_n 0, 1) := by decide +kernel
theorem h_Ve_writeFrames_140 : decode prog_11_method_19_code 140 = .ok (.getfield 15, 3) := by decide +kernel
theorem h_Ve_writeFrames_143 : decode prog_11_method_19_code 143 = .ok (.aload_n 2, 1) := by decide +kernel
theorem h_Ve_writeFrames_144 : decode prog_11_method_19_code 144 = .ok (.invokevirtual 267, 3) := by decide +kernel
theorem h_Ve_writeFrames_147 : decode prog_11_method_19_code 147 = .ok (.putfield 271, 3) := by decide +kernel
theorem h_Ve_writeFrames_150 : decode prog_11_method_19_code 150 = .ok (.return_, 1) := by decide +kernel
def x_Ve_writeFrames_34 (a0 : Nat) (K13 : Option Nat → Int32 → CST → Prop) (P : CST → Prop) (z1 : Option Nat) (z2 : Int32) (σ : CST) : Prop := K13 z1 (z2 + 1) σ
def x_Ve_writeFrames_133 (a0 : Nat) (K97 : Option Nat → Option Nat → Int32 → CST → Prop) (P : CST → Prop) (z1 : Option Nat) (z2 : Option Nat) (z3 : Int32) (σ : CST) : Prop := K97 z1 z2 (z3 + 1) σ
def x_Ve_writeFrames_97 (a0 : Nat) (P : CST → Prop) : Nat → Option Nat → Option Nat → Int32 → CST → Prop
  | 0, _, _, _, _ => False
  | n + 1, z1, z2, z3, σ => (∃ r1 : Nat, z1 = some r1 ∧ ((∃ n3 : Nat, σ.1 r1 = some (21, n3) ∧ ((((Int32.ofNat n3) ≤ z3 → σ.1 a0 = some (10, 0) ∧ (∀ b6 : Option Nat, b6 = (σ.2.2.2.1 a0 1) → (∃ r7 : Nat, z2 = some r7 ∧ (σ.1 r7 = some (11, 0) ∧ (x_Fw_written r7 σ (fun r10 σ9 => (∃ r11 : Nat, b6 = some r11 ∧ (σ9.1 r11 = some (5, 0) ∧ (∀ σ13 : CST, σ13 = sR σ9 r11 10 r10 → P σ13))))))))) ∧ (¬ (Int32.ofNat n3) ≤ z3 → vp_in z3 n3 ∧ (∀ b15 : Int32, b15 = (σ.2.1 r1 (z3 : Int32).toNatClampNeg) → ((b15 = 0 → x_Ve_writeFrames_133 a0 (x_Ve_writeFrames_97 a0 P n) P (some r1) z2 z3 σ) ∧ (¬ b15 = 0 → σ.1 a0 = some (10, 0) ∧ (∀ b18 : Option Nat, b18 = (σ.2.2.2.1 a0 6) → (∃ r19 : Nat, b18 = some r19 ∧ ((∃ n21 : Nat, σ.1 r19 = some (25, n21) ∧ (vp_in z3 n21 ∧ (∀ b23 : Option Nat, b23 = (σ.2.2.2.1 r19 (z3 : Int32).toNatClampNeg) → ((b23 = none → (∃ r26 : Nat, z2 = some r26 ∧ (σ.1 r26 = some (11, 0) ∧ (x_Fw_write_n r26 z3 σ (fun σ28 => σ28.1 a0 = some (10, 0) ∧ (∀ b31 : Option Nat, b31 = (σ28.2.2.2.1 a0 1) → (∃ r32 : Nat, b31 = some r32 ∧ (σ28.1 r32 = some (5, 0) ∧ (∀ σ34 : CST, σ34 = sI σ28 r32 11 ((σ28.2.1 r32 11) + 1) → x_Ve_writeFrames_133 a0 (x_Ve_writeFrames_97 a0 P n) P (some r1) (some r26) z3 σ34))))))))) ∧ (∀ r25 : Nat, b23 = some r25 → (∃ r35 : Nat, z2 = some r35 ∧ (σ.1 r35 = some (11, 0) ∧ (x_Fw_write r35 z3 r25 σ (fun σ37 => σ37.1 a0 = some (10, 0) ∧ (∀ b40 : Option Nat, b40 = (σ37.2.2.2.1 a0 1) → (∃ r41 : Nat, b40 = some r41 ∧ (σ37.1 r41 = some (5, 0) ∧ (∀ σ43 : CST, σ43 = sI σ37 r41 11 ((σ37.2.1 r41 11) + 1) → x_Ve_writeFrames_133 a0 (x_Ve_writeFrames_97 a0 P n) P (some r1) (some r35) z3 σ43)))))))))))))))))))))))))
def x_Ve_writeFrames_42 (a0 : Nat) (P : CST → Prop) : Nat → Option Nat → Int32 → CST → Prop
  | 0, _, _, _ => False
  | n + 1, z1, z2, σ => σ.1 a0 = some (10, 0) ∧ (∀ b45 : Option Nat, b45 = (σ.2.2.2.1 a0 1) → (∃ r46 : Nat, b45 = some r46 ∧ (σ.1 r46 = some (5, 0) ∧ (∀ b48 : Option Nat, b48 = (σ.2.2.2.1 r46 5) → (∃ r49 : Nat, b48 = some r49 ∧ (σ.1 r49 = some (6, 0) ∧ (x_AL_size r49 σ (fun r52 σ51 => ((r52 ≤ z2 → (1 ≤ σ51.2.2.2.2.1 ∧ 9 ≤ σ51.2.2.2.2.2.1 ∧ ∀ q54 : Nat, σ51.1 q54 = none → q54 ≠ σ51.2.2.2.2.2.2.1 → ∀ σ58 : CST, σ58 = nw σ51 q54 11 0 9 → σ58.1 a0 = some (10, 0) ∧ (∀ b60 : Option Nat, b60 = (σ58.2.2.2.1 a0 1) → (∃ r61 : Nat, b60 = some r61 ∧ (x_Fw_init q54 r61 σ58 (fun σ62 => (∃ n9 : Nat, x_Ve_writeFrames_97 a0 P n9 z1 (some q54) 0 σ62))))))) ∧ (¬ r52 ≤ z2 → σ51.1 a0 = some (10, 0) ∧ (∀ b65 : Option Nat, b65 = (σ51.2.2.2.1 a0 1) → (∃ r66 : Nat, b65 = some r66 ∧ (σ51.1 r66 = some (5, 0) ∧ (∀ b68 : Option Nat, b68 = (σ51.2.2.2.1 r66 5) → (∃ r69 : Nat, b68 = some r69 ∧ (σ51.1 r69 = some (6, 0) ∧ (x_AL_get r69 z2 σ51 (fun r72 σ71 => ((r72 = none → False) ∧ (∀ r74 : Nat, r72 = some r74 → σ71.1 r74 = some (7, 0) ∧ ((∃ r76 : Nat, z1 = some r76 ∧ (x_Ve_mark r76 (σ71.2.1 r74 2) σ71 (fun σ77 => x_Ve_writeFrames_42 a0 P n (some r76) (z2 + 1) σ77))))))))))))))))))))))))
def x_Ve_writeFrames_13 (a0 : Nat) (P : CST → Prop) : Nat → Option Nat → Int32 → CST → Prop
  | 0, _, _, _ => False
  | n + 1, z1, z2, σ => (∃ r79 : Nat, z1 = some r79 ∧ ((∃ n81 : Nat, σ.1 r79 = some (21, n81) ∧ ((((Int32.ofNat n81) ≤ z2 → (∃ n9 : Nat, x_Ve_writeFrames_42 a0 P n9 (some r79) 0 σ)) ∧ (¬ (Int32.ofNat n81) ≤ z2 → σ.1 a0 = some (10, 0) ∧ (∀ b84 : Option Nat, b84 = (σ.2.2.2.1 a0 3) → (∃ r85 : Nat, b84 = some r85 ∧ ((∃ n87 : Nat, σ.1 r85 = some (21, n87) ∧ (vp_in z2 n87 ∧ (∀ b89 : Int32, b89 = (σ.2.1 r85 (z2 : Int32).toNatClampNeg) → ((b89 = 0 → x_Ve_writeFrames_34 a0 (x_Ve_writeFrames_13 a0 P n) P (some r79) z2 σ) ∧ (¬ b89 = 0 → x_Ve_markBehind a0 r79 z2 σ (fun σ91 => x_Ve_writeFrames_34 a0 (x_Ve_writeFrames_13 a0 P n) P (some r79) z2 σ91)))))))))))))))
def x_Ve_writeFrames (a0 : Nat) (σ0 : CST) (P : CST → Prop) : Prop := σ0.1 a0 = some (10, 0) ∧ (∀ b94 : Option Nat, b94 = (σ0.2.2.2.1 a0 1) → (∃ r95 : Nat, b94 = some r95 ∧ (σ0.1 r95 = some (5, 0) ∧ (∀ b97 : Option Nat, b97 = (σ0.2.2.2.1 r95 2) → (∃ r98 : Nat, b97 = some r98 ∧ ((∃ n100 : Nat, σ0.1 r98 = some (20, n100) ∧ ((¬ ((Int32.ofNat n100) : Int32) < 0 ∧ ((Int32.ofNat n100) : Int32).toNatClampNeg ≤ 60000000 ∧ 1 ≤ σ0.2.2.2.2.1 ∧ ((Int32.ofNat n100) : Int32).toNatClampNeg ≤ σ0.2.2.2.2.2.1 ∧ ∀ q101 : Nat, σ0.1 q101 = none → q101 ≠ σ0.2.2.2.2.2.2.1 → ∀ σ107 : CST, σ107 = nw σ0 q101 21 ((Int32.ofNat n100) : Int32).toNatClampNeg ((Int32.ofNat n100) : Int32).toNatClampNeg → (∃ n9 : Nat, x_Ve_writeFrames_13 a0 P n9 (some q101) 0 σ107))))))))))
set_option maxHeartbeats 4000000 in
set_option maxRecDepth 100000 in
theorem X_Ve_writeFrames (l : Launch) (dC : Nat → ClassId) (dI : Nat → Nat → Nat) (ca : Nat → ClassId) (H0 : Heap) (σ0 : CST) (a0 : Nat) {P : CST → Prop} (hw : x_Ve_writeFrames a0 σ0 P) : Met l g_Ve_writeFrames (mW g_Ve_writeFrames prog_11_method_19_code 4 none) ({ frames := 7, cells := σ0.2.2.2.2.1, slots := σ0.2.2.2.2.2.1, locals := 234 } : Room) (va_Pc [.ref a0] (CPre (dC, dI) ca σ0 H0)) (va_Qv P (CB (dC, dI) ca σ0 H0) (cA σ0 H0.size)) σ0.2.2.2.2.1 σ0.2.2.2.2.2.1 (cA σ0 H0.size) := by
  refine C_ofv (by decide +kernel) rfl rfl rfl (Nat.le_of_ble_eq_true rfl) ?_
  intro p e s m below meth cx Q A ls C hnm hend hH0 h hl
  subst hH0
  have C0 := C
  obtain ⟨⟨hx, hb, hml, hown, hts⟩, hsub⟩ := C0
  obtain ⟨cells, e_cells⟩ : ∃ z : Nat, z = 0 := ⟨_, rfl⟩
  obtain ⟨slots, e_slots⟩ : ∃ z : Nat, z = 0 := ⟨_, rfl⟩
  have h : CH (dC, dI) A ca ({ frames := 7, cells := σ0.2.2.2.2.1, slots := σ0.2.2.2.2.2.1, locals := 234 } : Room) σ0.2.2.2.2.2.2 σ0 s s.heap [] cells slots := by rw [e_cells, e_slots]; exact h
  show W p l e ({ frames := 7, cells := σ0.2.2.2.2.1, slots := σ0.2.2.2.2.2.1, locals := 234 } : Room) s m ([.ref a0] : List Value).toArray below meth cx s.heap [] 0 0 Q (F0 m 0 ls [])
  rw [show W p l e ({ frames := 7, cells := σ0.2.2.2.2.1, slots := σ0.2.2.2.2.2.1, locals := 234 } : Room) s m ([.ref a0] : List Value).toArray below meth cx s.heap [] 0 0 Q (F0 m 0 ls []) = W p l e ({ frames := 7, cells := σ0.2.2.2.2.1, slots := σ0.2.2.2.2.2.1, locals := 234 } : Room) s m ([.ref a0] : List Value).toArray below meth cx s.heap [] cells slots Q (F0 m 0 ls []) by rw [e_cells, e_slots]]
  have K_34 : ∀ (K13 : Option Nat → Int32 → CST → Prop) (hK13 : ∀ (z1 : Option Nat) (z2 : Int32) (σ : CST) (H : Heap) (locs : List Loc) (cells slots : Nat) (ls : Array Slot), K13 z1 z2 σ → CH (dC, dI) A ca ({ frames := 7, cells := σ0.2.2.2.2.1, slots := σ0.2.2.2.2.2.1, locals := 234 } : Room) σ0.2.2.2.2.2.2 σ s H locs cells slots → lv_has ls 4 [(0, .ref a0), (1, va_rf z1), (2, .int z2)] → W p l e ({ frames := 7, cells := σ0.2.2.2.2.1, slots := σ0.2.2.2.2.2.1, locals := 234 } : Room) s m ([.ref a0] : List Value).toArray below meth cx H locs cells slots Q (F0 m 13 ls [])), ∀ (z1 : Option Nat) (z2 : Int32) (σ : CST) (H : Heap) (locs : List Loc) (cells slots : Nat) (ls : Array Slot), x_Ve_writeFrames_34 a0 K13 P z1 z2 σ → CH (dC, dI) A ca ({ frames := 7, cells := σ0.2.2.2.2.1, slots := σ0.2.2.2.2.2.1, locals := 234 } : Room) σ0.2.2.2.2.2.2 σ s H locs cells slots → lv_has ls 4 [(0, .ref a0), (1, va_rf z1), (2, .int z2)] → W p l e ({ frames := 7, cells := σ0.2.2.2.2.1, slots := σ0.2.2.2.2.2.1, locals := 234 } : Room) s m ([.ref a0] : List Value).toArray below meth cx H locs cells slots Q (F0 m 34 ls []) := by
    intro K13 hK13 z1 z2 σ H locs cells slots ls hw h hl
    unfold x_Ve_writeFrames_34 at hw
    refine lv_iinc (v := (z2 + 1)) (lv' := [(2, .int (z2 + 1)), (0, .ref a0), (1, va_rf z1)]) hx hb h_Ve_writeFrames_34 hl (k := 2) rfl (rfl) (by decide) (by simp [cq_cat]) (fun ls hl => ?_)
    refine lv_goto (tgt := 13) hx hb h_Ve_writeFrames_37 (by decide) ?_
    exact hK13 z1 (z2 + 1) σ _ _ _ _ _ hw h (lv_sub hl [1, 2, 0] rfl)
  have K_133 : ∀ (K97 : Option Nat → Option Nat → Int32 → CST → Prop) (hK97 : ∀ (z1 : Option Nat) (z2 : Option Nat) (z3 : Int32) (σ : CST) (H : Heap) (locs : List Loc) (cells slots : Nat) (ls : Array Slot), K97 z1 z2 z3 σ → CH (dC, dI) A ca ({ frames := 7, cells := σ0.2.2.2.2.1, slots := σ0.2.2.2.2.2.1, locals := 234 } : Room) σ0.2.2.2.2.2.2 σ s H locs cells slots → lv_has ls 4 [(0, .ref a0), (1, va_rf z1), (2, va_rf z2), (3, .int z3)] → W p l e ({ frames := 7, cells := σ0.2.2.2.2.1, slots := σ0.2.2.2.2.2.1, locals := 234 } : Room) s m ([.ref a0] : List Value).toArray below meth cx H locs cells slots Q (F0 m 97 ls [])), ∀ (z1 : Option Nat) (z2 : Option Nat) (z3 : Int32) (σ : CST) (H : Heap) (locs : List Loc) (cells slots : Nat) (ls : Array Slot), x_Ve_writeFrames_133 a0 K97 P z1 z2 z3 σ → CH (dC, dI) A ca ({ frames := 7, cells := σ0.2.2.2.2.1, slots := σ0.2.2.2.2.2.1, locals := 234 } : Room) σ0.2.2.2.2.2.2 σ s H locs cells slots → lv_has ls 4 [(0, .ref a0), (1, va_rf z1), (2, va_rf z2), (3, .int z3)] → W p l e ({ frames := 7, cells := σ0.2.2.2.2.1, slots := σ0.2.2.2.2.2.1, locals := 234 } : Room) s m ([.ref a0] : List Value).toArray below meth cx H locs cells slots Q (F0 m 133 ls []) := by
    intro K97 hK97 z1 z2 z3 σ H locs cells slots ls hw h hl
    unfold x_Ve_writeFrames_133 at hw
    refine lv_iinc (v := (z3 + 1)) (lv' := [(3, .int (z3 + 1)), (0, .ref a0), (1, va_rf z1), (2, va_rf z2)]) hx hb h_Ve_writeFrames_133 hl (k := 3) rfl (rfl) (by decide) (by simp [cq_cat]) (fun ls hl => ?_)
    refine lv_goto (tgt := 97) hx hb h_Ve_writeFrames_136 (by decide) ?_
    exact hK97 z1 z2 (z3 + 1) σ _ _ _ _ _ hw h (lv_sub hl [1, 2, 3, 0] rfl)
  have K_97 : ∀ (n : Nat), ∀ (z1 : Option Nat) (z2 : Option Nat) (z3 : Int32) (σ : CST) (H : Heap) (locs : List Loc) (cells slots : Nat) (ls : Array Slot), x_Ve_writeFrames_97 a0 P n z1 z2 z3 σ → CH (dC, dI) A ca ({ frames := 7, cells := σ0.2.2.2.2.1, slots := σ0.2.2.2.2.2.1, locals := 234 } : Room) σ0.2.2.2.2.2.2 σ s H locs cells slots → lv_has ls 4 [(0, .ref a0), (1, va_rf z1), (2, va_rf z2), (3, .int z3)] → W p l e ({ frames := 7, cells := σ0.2.2.2.2.1, slots := σ0.2.2.2.2.2.1, locals := 234 } : Room) s m ([.ref a0] : List Value).toArray below meth cx H locs cells slots Q (F0 m 97 ls []) := by
    intro  n
    induction n with
    | zero => intro z1 z2 z3 σ H locs cells slots ls hw h hl; unfold x_Ve_writeFrames_97 at hw; exact hw.elim
    | succ n ih =>
      intro z1 z2 z3 σ H locs cells slots ls hw h hl
      unfold x_Ve_writeFrames_97 at hw
      refine lv_iload_n hx hb h_Ve_writeFrames_97 rfl (lv_at hl 3 rfl) ?_
      refine cq_aload_n hx hb h_Ve_writeFrames_98 rfl (lv_at hl 1 rfl) ?_
      obtain ⟨r1, e_r1, hw⟩ := hw
      subst e_r1
      have hl : lv_has ls 4 [(0, .ref a0), (1, .ref r1), (2, va_rf z2), (3, .int z3)] := hl
      refine W.eq (g2 := F0 m 99 ls [.ref r1, .int z3]) rfl ?_
      obtain ⟨n3, g2, hw⟩ := hw
      refine C_alen C h 21 1 rfl (by decide) g2 h_Ve_writeFrames_99 ?_
      refine lv_icmp_ge (tgt := 139) hx hb h_Ve_writeFrames_100 (by decide) (fun c4 => ?_) (fun c4 => ?_)
      · skip
        replace hw := hw.1 c4
        refine lv_aload_n hx hb h_Ve_writeFrames_139 rfl (lv_at hl 0 rfl) ?_
        obtain ⟨g5, hw⟩ := hw
        refine C_get C h 10 1 (v := va_rf (σ.2.2.2.1 a0 1)) g5 rfl (Cn := R_Ve) (T := T_Ve) (N := 10) rfl (by decide) rfl uw_Ve (by decide) u_681 (fun _ q => q) h_Ve_writeFrames_140 ?_
        refine lv_topq (fun b6 e_b6 => ?_)
        replace hw := hw b6 e_b6
        refine cq_aload_n hx hb h_Ve_writeFrames_143 rfl (lv_at hl 2 rfl) ?_
        obtain ⟨r7, e_r7, hw⟩ := hw
        subst e_r7
        have hl : lv_has ls 4 [(0, .ref a0), (1, .ref r1), (2, .ref r7), (3, .int z3)] := hl
        refine W.eq (g2 := F0 m 144 ls [.ref r7, va_rf b6]) rfl ?_
        obtain ⟨g8, hw⟩ := hw
        refine C_callVq (As := []) (rest := [va_rf b6]) C h (ci := 11) (Cn := R_Fw) (T := T_Fw) (N := 9) g8 rfl (by decide) (X_Fw_written l dC dI ca H σ r7 hw) (cwV 0 hts (gV hsub u_839 u_840 u_841 u_57 u_842) rfl rfl rfl (by decide +kernel) ⟨(Nat.le_of_ble_eq_true rfl), (Nat.le_of_ble_eq_true rfl)⟩) rfl hl.1 (by simp only [List.map_cons, List.map_nil, List.sum_cons, List.sum_nil, cq_cat]; exact Nat.le_of_ble_eq_true rfl) h_Ve_writeFrames_144 (fun r10 σ9 H locs cells slots hw9 h9 => ?_)
        clear hw h; have hw := hw9; have h := h9; clear hw9 h9
        refine W.eq (g2 := F0 m 147 ls [va_rf r10, va_rf b6]) rfl ?_
        obtain ⟨r11, e_r11, hw⟩ := hw
        subst e_r11
        have hl : lv_has ls 4 [(0, .ref a0), (1, .ref r1), (2, .ref r7), (3, .int z3)] := hl
        refine W.eq (g2 := F0 m 147 ls [va_rf r10, .ref r11]) rfl ?_
        obtain ⟨g12, hw⟩ := hw
        refine C_putr C h 5 10 (v := r10) (ty := (.array .int)) g12 (Cn := R_E) (T := T_E) (N := 13) rfl (by decide) rfl uw_E tok_E nm_E (by decide) rfl u_843 (fun _ q => q) (Or.inl rfl) (by decide +kernel) ck_a h_Ve_writeFrames_147 (fun H locs h => ?_)
        obtain ⟨σ13, e_σ13⟩ : ∃ z : CST, z = sR σ9 r11 10 r10 := ⟨_, rfl⟩
        rw [← e_σ13] at h
        replace hw := hw σ13 e_σ13
        exact hend σ13 _ _ _ _ _ _ hw h h_Ve_writeFrames_150
      · skip
        replace hw := hw.2 c4
        refine lv_aload_n hx hb h_Ve_writeFrames_103 rfl (lv_at hl 1 rfl) ?_
        refine lv_iload_n hx hb h_Ve_writeFrames_104 rfl (lv_at hl 3 rfl) ?_
        obtain ⟨g14, hw⟩ := hw
        refine C_zald C h g2 g14 h_Ve_writeFrames_105 ?_
        refine lv_topi (fun b15 e_b15 => ?_)
        replace hw := hw b15 e_b15
        refine lv_if_eq (tgt := 133) hx hb h_Ve_writeFrames_106 (by decide) (fun c16 => ?_) (fun c16 => ?_)
        · skip
          replace hw := hw.1 c16
          exact K_133 _ ih (some r1) z2 z3 σ _ _ _ _ _ hw h (lv_sub hl [0, 1, 2, 3] rfl)
        · skip
          replace hw := hw.2 c16
          refine cq_aload_n hx hb h_Ve_writeFrames_109 rfl (lv_at hl 2 rfl) ?_
          refine lv_iload_n hx hb h_Ve_writeFrames_110 rfl (lv_at hl 3 rfl) ?_
          refine lv_aload_n hx hb h_Ve_writeFrames_111 rfl (lv_at hl 0 rfl) ?_
          obtain ⟨g17, hw⟩ := hw
          refine C_get C h 10 6 (v := va_rf (σ.2.2.2.1 a0 6)) g17 rfl (Cn := R_Ve) (T := T_Ve) (N := 10) rfl (by decide) rfl uw_Ve (by decide) u_693 (fun _ q => q) h_Ve_writeFrames_112 ?_
          refine lv_topq (fun b18 e_b18 => ?_)
          replace hw := hw b18 e_b18
          refine lv_iload_n hx hb h_Ve_writeFrames_115 rfl (lv_at hl 3 rfl) ?_
          obtain ⟨r19, e_r19, hw⟩ := hw
          subst e_r19
          have hl : lv_has ls 4 [(0, .ref a0), (1, .ref r1), (2, va_rf z2), (3, .int z3)] := hl
          refine W.eq (g2 := F0 m 116 ls [.int z3, .ref r19, .int z3, va_rf z2]) rfl ?_
          obtain ⟨n21, g20, hw⟩ := hw
          obtain ⟨g22, hw⟩ := hw
          refine C_aald C h 25 4 rfl (by decide) g20 g22 h_Ve_writeFrames_116 ?_
          refine lv_topq (fun b23 e_b23 => ?_)
          replace hw := hw b23 e_b23
          rcases cq_or b23 with c24 | ⟨r25, c24⟩
          · subst c24
            replace hw := hw.1 rfl
            have hl : lv_has ls 4 [(0, .ref a0), (1, .ref r1), (2, va_rf z2), (3, .int z3)] := hl
            refine W.eq (g2 := F0 m 117 ls [.null, .int z3, va_rf z2]) rfl ?_
            obtain ⟨r26, e_r26, hw⟩ := hw
            subst e_r26
            have hl : lv_has ls 4 [(0, .ref a0), (1, .ref r1), (2, .ref r26), (3, .int z3)] := hl
            refine W.eq (g2 := F0 m 117 ls [.null, .int z3, .ref r26]) rfl ?_
            obtain ⟨g27, hw⟩ := hw
            refine C_callVv (As := [.int z3, .null]) (rest := []) C h (ci := 11) (Cn := R_Fw) (T := T_Fw) (N := 9) g27 rfl (by decide) (X_Fw_write_n l dC dI ca H σ r26 z3 hw) (cwV 2 hts (gV hsub u_844 u_845 u_846 u_57 u_847) rfl rfl rfl (by decide +kernel) ⟨(Nat.le_of_ble_eq_true rfl), (Nat.le_of_ble_eq_true rfl)⟩) rfl hl.1 (Nat.le_of_ble_eq_true rfl) h_Ve_writeFrames_117 (fun σ28 H locs cells slots hw9 h9 => ?_)
            clear hw h; have hw := hw9; have h := h9; clear hw9 h9
            refine W.eq (g2 := F0 m 120 ls []) rfl ?_
            refine lv_aload_n hx hb h_Ve_writeFrames_120 rfl (lv_at hl 0 rfl) ?_
            obtain ⟨g30, hw⟩ := hw
            refine C_get C h 10 1 (v := va_rf (σ28.2.2.2.1 a0 1)) g30 rfl (Cn := R_Ve) (T := T_Ve) (N := 10) rfl (by decide) rfl uw_Ve (by decide) u_681 (fun _ q => q) h_Ve_writeFrames_121 ?_
            refine lv_topq (fun b31 e_b31 => ?_)
            replace hw := hw b31 e_b31
            refine lv_dup hx hb h_Ve_writeFrames_124 (cq_cat _) ?_
            obtain ⟨r32, e_r32, hw⟩ := hw
            subst e_r32
            have hl : lv_has ls 4 [(0, .ref a0), (1, .ref r1), (2, .ref r26), (3, .int z3)] := hl
            refine W.eq (g2 := F0 m 125 ls [.ref r32, .ref r32]) rfl ?_
            obtain ⟨g33, hw⟩ := hw
            refine C_get C h 5 11 (v := .int (σ28.2.1 r32 11)) g33 rfl (Cn := R_E) (T := T_E) (N := 13) rfl (by decide) rfl uw_E (by decide) u_848 (fun _ q => q) h_Ve_writeFrames_125 ?_
            refine lv_iconst (v := 1) hx hb h_Ve_writeFrames_128 (by decide) ?_
            refine lv_iadd hx hb h_Ve_writeFrames_129 ?_
            refine C_puti C h 5 11 g33 (Cn := R_E) (T := T_E) (N := 13) rfl (by decide) rfl uw_E tok_E nm_E (by decide) rfl u_848 (fun _ q => q) (Or.inl rfl) (by decide +kernel) h_Ve_writeFrames_130 (fun H locs h => ?_)
            obtain ⟨σ34, e_σ34⟩ : ∃ z : CST, z = sI σ28 r32 11 ((σ28.2.1 r32 11) + 1) := ⟨_, rfl⟩
            rw [← e_σ34] at h
            replace hw := hw σ34 e_σ34
            exact K_133 _ ih (some r1) (some r26) z3 σ34 _ _ _ _ _ hw h (lv_sub hl [0, 1, 2, 3] rfl)
          · subst c24
            replace hw := hw.2 r25 rfl
            have hl : lv_has ls 4 [(0, .ref a0), (1, .ref r1), (2, va_rf z2), (3, .int z3)] := hl
            refine W.eq (g2 := F0 m 117 ls [.ref r25, .int z3, va_rf z2]) rfl ?_
            obtain ⟨r35, e_r35, hw⟩ := hw
            subst e_r35
            have hl : lv_has ls 4 [(0, .ref a0), (1, .ref r1), (2, .ref r35), (3, .int z3)] := hl
            refine W.eq (g2 := F0 m 117 ls [.ref r25, .int z3, .ref r35]) rfl ?_
            obtain ⟨g36, hw⟩ := hw
            refine C_callVv (As := [.int z3, .ref r25]) (rest := []) C h (ci := 11) (Cn := R_Fw) (T := T_Fw) (N := 9) g36 rfl (by decide) (X_Fw_write l dC dI ca H σ r35 z3 r25 hw) (cwV 2 hts (gV hsub u_844 u_845 u_846 u_57 u_847) rfl rfl rfl (by decide +kernel) ⟨(Nat.le_of_ble_eq_true rfl), (Nat.le_of_ble_eq_true rfl)⟩) rfl hl.1 (Nat.le_of_ble_eq_true rfl) h_Ve_writeFrames_117 (fun σ37 H locs cells slots hw9 h9 => ?_)
            clear hw h; have hw := hw9; have h := h9; clear hw9 h9
            refine W.eq (g2 := F0 m 120 ls []) rfl ?_
            refine lv_aload_n hx hb h_Ve_writeFrames_120 rfl (lv_at hl 0 rfl) ?_
            obtain ⟨g39, hw⟩ := hw
            refine C_get C h 10 1 (v := va_rf (σ37.2.2.2.1 a0 1)) g39 rfl (Cn := R_Ve) (T := T_Ve) (N := 10) rfl (by decide) rfl uw_Ve (by decide) u_681 (fun _ q => q) h_Ve_writeFrames_121 ?_
            refine lv_topq (fun b40 e_b40 => ?_)
            replace hw := hw b40 e_b40
            refine lv_dup hx hb h_Ve_writeFrames_124 (cq_cat _) ?_
            obtain ⟨r41, e_r41, hw⟩ := hw
            subst e_r41
            have hl : lv_has ls 4 [(0, .ref a0), (1, .ref r1), (2, .ref r35), (3, .int z3)] := hl
            refine W.eq (g2 := F0 m 125 ls [.ref r41, .ref r41]) rfl ?_
            obtain ⟨g42, hw⟩ := hw
            refine C_get C h 5 11 (v := .int (σ37.2.1 r41 11)) g42 rfl (Cn := R_E) (T := T_E) (N := 13) rfl (by decide) rfl uw_E (by decide) u_848 (fun _ q => q) h_Ve_writeFrames_125 ?_
            refine lv_iconst (v := 1) hx hb h_Ve_writeFrames_128 (by decide) ?_
            refine lv_iadd hx hb h_Ve_writeFrames_129 ?_
            refine C_puti C h 5 11 g42 (Cn := R_E) (T := T_E) (N := 13) rfl (by decide) rfl uw_E tok_E nm_E (by decide) rfl u_848 (fun _ q => q) (Or.inl rfl) (by decide +kernel) h_Ve_writeFrames_130 (fun H locs h => ?_)
            obtain ⟨σ43, e_σ43⟩ : ∃ z : CST, z = sI σ37 r41 11 ((σ37.2.1 r41 11) + 1) := ⟨_, rfl⟩
            rw [← e_σ43] at h
            replace hw := hw σ43 e_σ43
            exact K_133 _ ih (some r1) (some r35) z3 σ43 _ _ _ _ _ hw h (lv_sub hl [0, 1, 2, 3] rfl)
  have K_42 : ∀ (n : Nat), ∀ (z1 : Option Nat) (z2 : Int32) (σ : CST) (H : Heap) (locs : List Loc) (cells slots : Nat) (ls : Array Slot), x_Ve_writeFrames_42 a0 P n z1 z2 σ → CH (dC, dI) A ca ({ frames := 7, cells := σ0.2.2.2.2.1, slots := σ0.2.2.2.2.2.1, locals := 234 } : Room) σ0.2.2.2.2.2.2 σ s H locs cells slots → lv_has ls 4 [(0, .ref a0), (1, va_rf z1), (2, .int z2)] → W p l e ({ frames := 7, cells := σ0.2.2.2.2.1, slots := σ0.2.2.2.2.2.1, locals := 234 } : Room) s m ([.ref a0] : List Value).toArray below meth cx H locs cells slots Q (F0 m 42 ls []) := by
    intro  n
    induction n with
    | zero => intro z1 z2 σ H locs cells slots ls hw h hl; unfold x_Ve_writeFrames_42 at hw; exact hw.elim
    | succ n ih =>
      intro z1 z2 σ H locs cells slots ls hw h hl
      unfold x_Ve_writeFrames_42 at hw
      refine lv_iload_n hx hb h_Ve_writeFrames_42 rfl (lv_at hl 2 rfl) ?_
      refine lv_aload_n hx hb h_Ve_writeFrames_43 rfl (lv_at hl 0 rfl) ?_
      obtain ⟨g44, hw⟩ := hw
      refine C_get C h 10 1 (v := va_rf (σ.2.2.2.1 a0 1)) g44 rfl (Cn := R_Ve) (T := T_Ve) (N := 10) rfl (by decide) rfl uw_Ve (by decide) u_681 (fun _ q => q) h_Ve_writeFrames_44 ?_
      refine lv_topq (fun b45 e_b45 => ?_)
      replace hw := hw b45 e_b45
      obtain ⟨r46, e_r46, hw⟩ := hw
      subst e_r46
      have hl : lv_has ls 4 [(0, .ref a0), (1, va_rf z1), (2, .int z2)] := hl
      refine W.eq (g2 := F0 m 47 ls [.ref r46, .int z2]) rfl ?_
      obtain ⟨g47, hw⟩ := hw
      refine C_get C h 5 5 (v := va_rf (σ.2.2.2.1 r46 5)) g47 rfl (Cn := R_E) (T := T_E) (N := 13) rfl (by decide) rfl uw_E (by decide) u_751 (fun _ q => q) h_Ve_writeFrames_47 ?_
      refine lv_topq (fun b48 e_b48 => ?_)
      replace hw := hw b48 e_b48
      obtain ⟨r49, e_r49, hw⟩ := hw
      subst e_r49
      have hl : lv_has ls 4 [(0, .ref a0), (1, va_rf z1), (2, .int z2)] := hl
      refine W.eq (g2 := F0 m 50 ls [.ref r49, .int z2]) rfl ?_
      obtain ⟨g50, hw⟩ := hw
      refine C_callVi (As := []) (rest := [.int z2]) C h (ci := 6) (Cn := R_A) (T := T_A) (N := 3) g50 rfl (by decide) (X_AL_size l dC dI ca H σ r49 hw) (cwV 0 hts (gV hsub u_752 u_180 u_181 u_117 u_182) rfl rfl rfl (by decide +kernel) ⟨(Nat.le_of_ble_eq_true rfl), (Nat.le_of_ble_eq_true rfl)⟩) rfl hl.1 (Nat.le_of_ble_eq_true rfl) h_Ve_writeFrames_50 (fun r52 σ51 H locs cells slots hw9 h9 => ?_)
      clear hw h; have hw := hw9; have h := h9; clear hw9 h9
      refine W.eq (g2 := F0 m 53 ls [.int r52, .int z2]) rfl ?_
      refine lv_icmp_ge (tgt := 83) hx hb h_Ve_writeFrames_53 (by decide) (fun c53 => ?_) (fun c53 => ?_)
      · skip
        replace hw := hw.1 c53
        obtain ⟨g55, g56, hw⟩ := hw
        refine C_new C h 11 (Cn := R_Fw) (T := T_Fw) (N := 9) rfl (by decide) uw_Fw tok_Fw (cdf_Fw rfl rfl rfl) u_849 u_850 u_57 g55 g56 h_Ve_writeFrames_83 (fun q54 H g57 hz9 h => ?_)
        replace hw := hw q54 g57 hz9
        obtain ⟨σ58, e_σ58⟩ : ∃ z : CST, z = nw σ51 q54 11 0 9 := ⟨_, rfl⟩
        rw [← e_σ58] at h
        replace hw := hw σ58 e_σ58
        generalize cells + 1 = cells at h ⊢
        generalize slots + 9 = slots at h ⊢
        refine lv_dup hx hb h_Ve_writeFrames_86 rfl ?_
        refine lv_aload_n hx hb h_Ve_writeFrames_87 rfl (lv_at hl 0 rfl) ?_
        obtain ⟨g59, hw⟩ := hw
        refine C_get C h 10 1 (v := va_rf (σ58.2.2.2.1 a0 1)) g59 rfl (Cn := R_Ve) (T := T_Ve) (N := 10) rfl (by decide) rfl uw_Ve (by decide) u_681 (fun _ q => q) h_Ve_writeFrames_88 ?_
        refine lv_topq (fun b60 e_b60 => ?_)
        replace hw := hw b60 e_b60
        obtain ⟨r61, e_r61, hw⟩ := hw
        subst e_r61
        have hl : lv_has ls 4 [(0, .ref a0), (1, va_rf z1), (2, .int z2)] := hl
        refine W.eq (g2 := F0 m 91 ls [.ref r61, .ref q54, .ref q54]) rfl ?_
        refine C_callIv (As := [.ref r61]) (rest := [.ref q54]) C h (X_Fw_init l dC dI ca H σ58 q54 r61 hw) (cwI 1 hts (gC hsub u_851) rfl rfl rfl (hts _ (hsub _ u_57)) (hts _ (hsub _ u_852)) (hts _ (hsub _ u_853)) rfl (by decide +kernel) ⟨(Nat.le_of_ble_eq_true rfl), (Nat.le_of_ble_eq_true rfl)⟩) rfl hl.1 (Nat.le_of_ble_eq_true rfl) h_Ve_writeFrames_91 (fun σ62 H locs cells slots hw9 h9 => ?_)
        clear hw h; have hw := hw9; have h := h9; clear hw9 h9
        refine W.eq (g2 := F0 m 94 ls [.ref q54]) rfl ?_
        refine lv_astore_n (i := 2) (lv' := [(2, .ref q54), (0, .ref a0), (1, va_rf z1)]) hx hb h_Ve_writeFrames_94 rfl hl (by decide) (by simp [cq_cat]) (fun ls hl => ?_)
        refine lv_iconst (v := 0) hx hb h_Ve_writeFrames_95 (by decide) ?_
        refine lv_istore_n (i := 3) (lv' := [(3, .int 0), (2, .ref q54), (0, .ref a0), (1, va_rf z1)]) hx hb h_Ve_writeFrames_96 rfl hl (by decide) rfl (fun ls hl => ?_)
        obtain ⟨n9, hw⟩ := hw
        exact K_97 n9 z1 (some q54) 0 σ62 _ _ _ _ _ hw h (lv_sub hl [2, 3, 1, 0] rfl)
      · skip
        replace hw := hw.2 c53
        refine cq_aload_n hx hb h_Ve_writeFrames_56 rfl (lv_at hl 1 rfl) ?_
        refine lv_aload_n hx hb h_Ve_writeFrames_57 rfl (lv_at hl 0 rfl) ?_
        obtain ⟨g64, hw⟩ := hw
        refine C_get C h 10 1 (v := va_rf (σ51.2.2.2.1 a0 1)) g64 rfl (Cn := R_Ve) (T := T_Ve) (N := 10) rfl (by decide) rfl uw_Ve (by decide) u_681 (fun _ q => q) h_Ve_writeFrames_58 ?_
        refine lv_topq (fun b65 e_b65 => ?_)
        replace hw := hw b65 e_b65
        obtain ⟨r66, e_r66, hw⟩ := hw
        subst e_r66
        have hl : lv_has ls 4 [(0, .ref a0), (1, va_rf z1), (2, .int z2)] := hl
        refine W.eq (g2 := F0 m 61 ls [.ref r66, va_rf z1]) rfl ?_
        obtain ⟨g67, hw⟩ := hw
        refine C_get C h 5 5 (v := va_rf (σ51.2.2.2.1 r66 5)) g67 rfl (Cn := R_E) (T := T_E) (N := 13) rfl (by decide) rfl uw_E (by decide) u_751 (fun _ q => q) h_Ve_writeFrames_61 ?_
        refine lv_topq (fun b68 e_b68 => ?_)
        replace hw := hw b68 e_b68
        refine lv_iload_n hx hb h_Ve_writeFrames_64 rfl (lv_at hl 2 rfl) ?_
        obtain ⟨r69, e_r69, hw⟩ := hw
        subst e_r69
        have hl : lv_has ls 4 [(0, .ref a0), (1, va_rf z1), (2, .int z2)] := hl
        refine W.eq (g2 := F0 m 65 ls [.int z2, .ref r69, va_rf z1]) rfl ?_
        obtain ⟨g70, hw⟩ := hw
        refine C_callVq (As := [.int z2]) (rest := [va_rf z1]) C h (ci := 6) (Cn := R_A) (T := T_A) (N := 3) g70 rfl (by decide) (X_AL_get l dC dI ca H σ51 r69 z2 hw) (cwV 1 hts (gV hsub u_753 u_172 u_173 u_117 u_174) rfl rfl rfl (by decide +kernel) ⟨(Nat.le_of_ble_eq_true rfl), (Nat.le_of_ble_eq_true rfl)⟩) rfl hl.1 (by simp only [List.map_cons, List.map_nil, List.sum_cons, List.sum_nil, cq_cat]; exact Nat.le_of_ble_eq_true rfl) h_Ve_writeFrames_65 (fun r72 σ71 H locs cells slots hw9 h9 => ?_)
        clear hw h; have hw := hw9; have h := h9; clear hw9 h9
        refine W.eq (g2 := F0 m 68 ls [va_rf r72, va_rf z1]) rfl ?_
        rcases cq_or r72 with c73 | ⟨r74, c73⟩
        · subst c73
          replace hw := hw.1 rfl
          have hl : lv_has ls 4 [(0, .ref a0), (1, va_rf z1), (2, .int z2)] := hl
          refine W.eq (g2 := F0 m 68 ls [.null, va_rf z1]) rfl ?_
          refine lv_castN hx hb h_Ve_writeFrames_68 ?_
          exact hw.elim
        · subst c73
          replace hw := hw.2 r74 rfl
          have hl : lv_has ls 4 [(0, .ref a0), (1, va_rf z1), (2, .int z2)] := hl
          refine W.eq (g2 := F0 m 68 ls [.ref r74, va_rf z1]) rfl ?_
          obtain ⟨g75, hw⟩ := hw
          refine C_cast C h 7 (Cn := R_Ha) (T := T_Ha) (N := 4) rfl (by decide) u_754 g75 h_Ve_writeFrames_68 ?_
          refine C_get C h 7 2 (v := .int (σ71.2.1 r74 2)) g75 rfl (Cn := R_Ha) (T := T_Ha) (N := 4) rfl (by decide) rfl uw_Ha (by decide) u_750 (fun _ q => q) h_Ve_writeFrames_71 ?_
          obtain ⟨r76, e_r76, hw⟩ := hw
          subst e_r76
          have hl : lv_has ls 4 [(0, .ref a0), (1, .ref r76), (2, .int z2)] := hl
          refine W.eq (g2 := F0 m 74 ls [.int (σ71.2.1 r74 2), .ref r76]) rfl ?_
          refine C_callSv (As := [.ref r76, .int (σ71.2.1 r74 2)]) (rest := []) C h (X_Ve_mark l dC dI ca H σ71 r76 (σ71.2.1 r74 2) hw) (va_cwS 2 hts (gS hsub u_836 u_837 u_726 u_838) rfl rfl rfl (by decide +kernel) ⟨(Nat.le_of_ble_eq_true rfl), (Nat.le_of_ble_eq_true rfl)⟩) rfl hl.1 (Nat.le_of_ble_eq_true rfl) h_Ve_writeFrames_74 (fun σ77 H locs cells slots hw9 h9 => ?_)
          clear hw h; have hw := hw9; have h := h9; clear hw9 h9
          refine W.eq (g2 := F0 m 77 ls []) rfl ?_
          refine lv_iinc (v := (z2 + 1)) (lv' := [(2, .int (z2 + 1)), (0, .ref a0), (1, .ref r76)]) hx hb h_Ve_writeFrames_77 hl (k := 2) rfl (rfl) (by decide) rfl (fun ls hl => ?_)
          refine lv_goto (tgt := 42) hx hb h_Ve_writeFrames_80 (by decide) ?_
          exact ih (some r76) (z2 + 1) σ77 _ _ _ _ _ hw h (lv_sub hl [1, 2, 0] rfl)
  have K_13 : ∀ (n : Nat), ∀ (z1 : Option Nat) (z2 : Int32) (σ : CST) (H : Heap) (locs : List Loc) (cells slots : Nat) (ls : Array Slot), x_Ve_writeFrames_13 a0 P n z1 z2 σ → CH (dC, dI) A ca ({ frames := 7, cells := σ0.2.2.2.2.1, slots := σ0.2.2.2.2.2.1, locals := 234 } : Room) σ0.2.2.2.2.2.2 σ s H locs cells slots → lv_has ls 4 [(0, .ref a0), (1, va_rf z1), (2, .int z2)] → W p l e ({ frames := 7, cells := σ0.2.2.2.2.1, slots := σ0.2.2.2.2.2.1, locals := 234 } : Room) s m ([.ref a0] : List Value).toArray below meth cx H locs cells slots Q (F0 m 13 ls []) := by
    intro  n
    induction n with
    | zero => intro z1 z2 σ H locs cells slots ls hw h hl; unfold x_Ve_writeFrames_13 at hw; exact hw.elim
    | succ n ih =>
      intro z1 z2 σ H locs cells slots ls hw h hl
      unfold x_Ve_writeFrames_13 at hw
      refine lv_iload_n hx hb h_Ve_writeFrames_13 rfl (lv_at hl 2 rfl) ?_
      refine cq_aload_n hx hb h_Ve_writeFrames_14 rfl (lv_at hl 1 rfl) ?_
      obtain ⟨r79, e_r79, hw⟩ := hw
      subst e_r79
      have hl : lv_has ls 4 [(0, .ref a0), (1, .ref r79), (2, .int z2)] := hl
      refine W.eq (g2 := F0 m 15 ls [.ref r79, .int z2]) rfl ?_
      obtain ⟨n81, g80, hw⟩ := hw
      refine C_alen C h 21 1 rfl (by decide) g80 h_Ve_writeFrames_15 ?_
      refine lv_icmp_ge (tgt := 40) hx hb h_Ve_writeFrames_16 (by decide) (fun c82 => ?_) (fun c82 => ?_)
      · skip
        replace hw := hw.1 c82
        refine lv_iconst (v := 0) hx hb h_Ve_writeFrames_40 (by decide) ?_
        refine lv_istore_n (i := 2) (lv' := [(2, .int 0), (0, .ref a0), (1, .ref r79)]) hx hb h_Ve_writeFrames_41 rfl hl (by decide) rfl (fun ls hl => ?_)
        obtain ⟨n9, hw⟩ := hw
        exact K_42 n9 (some r79) 0 σ _ _ _ _ _ hw h (lv_sub hl [1, 2, 0] rfl)
      · skip
        replace hw := hw.2 c82
        refine lv_aload_n hx hb h_Ve_writeFrames_19 rfl (lv_at hl 0 rfl) ?_
        obtain ⟨g83, hw⟩ := hw
        refine C_get C h 10 3 (v := va_rf (σ.2.2.2.1 a0 3)) g83 rfl (Cn := R_Ve) (T := T_Ve) (N := 10) rfl (by decide) rfl uw_Ve (by decide) u_690 (fun _ q => q) h_Ve_writeFrames_20 ?_
        refine lv_topq (fun b84 e_b84 => ?_)
        replace hw := hw b84 e_b84
        refine lv_iload_n hx hb h_Ve_writeFrames_23 rfl (lv_at hl 2 rfl) ?_
        obtain ⟨r85, e_r85, hw⟩ := hw
        subst e_r85
        have hl : lv_has ls 4 [(0, .ref a0), (1, .ref r79), (2, .int z2)] := hl
        refine W.eq (g2 := F0 m 24 ls [.int z2, .ref r85]) rfl ?_
        obtain ⟨n87, g86, hw⟩ := hw
        obtain ⟨g88, hw⟩ := hw
        refine C_zald C h g86 g88 h_Ve_writeFrames_24 ?_
        refine lv_topi (fun b89 e_b89 => ?_)
        replace hw := hw b89 e_b89
        refine lv_if_eq (tgt := 34) hx hb h_Ve_writeFrames_25 (by decide) (fun c90 => ?_) (fun c90 => ?_)
        · skip
          replace hw := hw.1 c90
          exact K_34 _ ih (some r79) z2 σ _ _ _ _ _ hw h (lv_sub hl [0, 1, 2] rfl)
        · skip
          replace hw := hw.2 c90
          refine lv_aload_n hx hb h_Ve_writeFrames_28 rfl (lv_at hl 0 rfl) ?_
          refine lv_aload_n hx hb h_Ve_writeFrames_29 rfl (lv_at hl 1 rfl) ?_
          refine lv_iload_n hx hb h_Ve_writeFrames_30 rfl (lv_at hl 2 rfl) ?_
          refine C_callVv (As := [.ref r79, .int z2]) (rest := []) C h (ci := 10) (Cn := R_Ve) (T := T_Ve) (N := 10) g83 rfl (by decide) (X_Ve_markBehind l dC dI ca H σ a0 r79 z2 hw) (cwV 2 hts (gV hsub u_854 u_855 u_856 u_726 u_857) rfl rfl rfl (by decide +kernel) ⟨(Nat.le_of_ble_eq_true rfl), (Nat.le_of_ble_eq_true rfl)⟩) rfl hl.1 (Nat.le_of_ble_eq_true rfl) h_Ve_writeFrames_31 (fun σ91 H locs cells slots hw9 h9 => ?_)
          clear hw h; have hw := hw9; have h := h9; clear hw9 h9
          refine W.eq (g2 := F0 m 34 ls []) rfl ?_
          exact K_34 _ ih (some r79) z2 σ91 _ _ _ _ _ hw h (lv_sub hl [0, 1, 2] rfl)
  have hl : lv_has ls 4 [(0, .ref a0)] := hl
  unfold x_Ve_writeFrames at hw
  refine lv_aload_n hx hb h_Ve_writeFrames_0 rfl (lv_at hl 0 rfl) ?_
  obtain ⟨g93, hw⟩ := hw
  refine C_get C h 10 1 (v := va_rf (σ0.2.2.2.1 a0 1)) g93 rfl (Cn := R_Ve) (T := T_Ve) (N := 10) rfl (by decide) rfl uw_Ve (by decide) u_681 (fun _ q => q) h_Ve_writeFrames_1 ?_
  refine lv_topq (fun b94 e_b94 => ?_)
  replace hw := hw b94 e_b94
  obtain ⟨r95, e_r95, hw⟩ := hw
  subst e_r95
  have hl : lv_has ls 4 [(0, .ref a0)] := hl
  refine W.eq (g2 := F0 m 4 ls [.ref r95]) rfl ?_
  obtain ⟨g96, hw⟩ := hw
  refine C_get C h 5 2 (v := va_rf (σ0.2.2.2.1 r95 2)) g96 rfl (Cn := R_E) (T := T_E) (N := 13) rfl (by decide) rfl uw_E (by decide) u_688 (fun _ q => q) h_Ve_writeFrames_4 ?_
  refine lv_topq (fun b97 e_b97 => ?_)
  replace hw := hw b97 e_b97
  obtain ⟨r98, e_r98, hw⟩ := hw
  subst e_r98
  have hl : lv_has ls 4 [(0, .ref a0)] := hl
  refine W.eq (g2 := F0 m 7 ls [.ref r98]) rfl ?_
  obtain ⟨n100, g99, hw⟩ := hw
  refine C_alen C h 20 0 rfl (by decide) g99 h_Ve_writeFrames_7 ?_
  obtain ⟨g105, g106, g102, g103, hw⟩ := hw
  refine C_newaz C h u_689 g105 rfl g106 g102 g103 h_Ve_writeFrames_8 (fun q101 H g104 hz9 h => ?_)
  replace hw := hw q101 g104 hz9
  obtain ⟨σ107, e_σ107⟩ : ∃ z : CST, z = nw σ0 q101 21 ((Int32.ofNat n100) : Int32).toNatClampNeg ((Int32.ofNat n100) : Int32).toNatClampNeg := ⟨_, rfl⟩
  rw [← e_σ107] at h
  replace hw := hw σ107 e_σ107
  generalize cells + 1 = cells at h ⊢
  generalize slots + ((Int32.ofNat n100) : Int32).toNatClampNeg = slots at h ⊢
  refine lv_astore_n (i := 1) (lv' := [(1, .ref q101), (0, .ref a0)]) hx hb h_Ve_writeFrames_10 rfl hl (by decide) rfl (fun ls hl => ?_)
  refine lv_iconst (v := 0) hx hb h_Ve_writeFrames_11 (by decide) ?_
  refine lv_istore_n (i := 2) (lv' := [(2, .int 0), (1, .ref q101), (0, .ref a0)]) hx hb h_Ve_writeFrames_12 rfl hl (by decide) rfl (fun ls hl => ?_)
  obtain ⟨n9, hw⟩ := hw
  exact K_13 n9 (some q101) 0 σ107 _ _ _ _ _ hw h (lv_sub hl [2, 1, 0] rfl)
abbrev g_W_init : MethodName := ⟨"MapFramer$World", "<init>", "()V"⟩
theorem u_858 : (Cond.methodLink "MapFramer$World" 3 ⟨"java/lang/Object", "<init>", "()V"⟩ : Cond) ∈ bigW := inB_1 50 (by decide +kernel) rfl
theorem u_859 : (Cond.classLink "MapFramer$World" 31 "MapFramer$Method" : Cond) ∈ bigW := inB_1 51 (by decide +kernel) rfl
theorem h_W_init_0 : decode prog_12_method_1_code 0 = .ok (.aload_n 0, 1) := by decide +kernel
theorem h_W_init_1 : decode prog_12_method_1_code 1 = .ok (.invokespecial 3, 3) := by decide +kernel
theorem h_W_init_4 : decode prog_12_method_1_code 4 = .ok (.aload_n 0, 1) := by decide +kernel
theorem h_W_init_5 : decode prog_12_method_1_code 5 = .ok (.bipush 16, 2) := by decide +kernel
theorem h_W_init_7 : decode prog_12_method_1_code 7 = .ok (.newarray .int, 2) := by decide +kernel
theorem h_W_init_9 : decode prog_12_method_1_code 9 = .ok (.putfield 11, 3) := by decide +kernel
theorem h_W_init_12 : decode prog_12_method_1_code 12 = .ok (.aload_n 0, 1) := by decide +kernel
theorem h_W_init_13 : decode prog_12_method_1_code 13 = .ok (.bipush 16, 2) := by decide +kernel
theorem h_W_init_15 : decode prog_12_method_1_code 15 = .ok (.newarray .int, 2) := by decide +kernel
theorem h_W_init_17 : decode prog_12_method_1_code 17 = .ok (.putfield 15, 3) := by decide +kernel
theorem h_W_init_20 : decode prog_12_method_1_code 20 = .ok (.aload_n 0, 1) := by decide +kernel
theorem h_W_init_21 : decode prog_12_method_1_code 21 = .ok (.bipush 16, 2) := by decide +kernel
theorem h_W_init_23 : decode prog_12_method_1_code 23 = .ok (.newarray .boolean, 2) := by decide +kernel
theorem h_W_init_25 : decode prog_12_method_1_code 25 = .ok (.putfield 18, 3) := by decide +kernel
theorem h_W_init_28 : decode prog_12_method_1_code 28 = .ok (.aload_n 0, 1) := by decide +kernel
theorem h_W_init_29 : decode prog_12_method_1_code 29 = .ok (.bipush 16, 2) := by decide +kernel
theorem h_W_init_31 : decode prog_12_method_1_code 31 = .ok (.newarray .int, 2) := by decide +kernel
theorem h_W_init_33 : decode prog_12_method_1_code 33 = .ok (.putfield 22, 3) := by decide +kernel
theorem h_W_init_36 : decode prog_12_method_1_code 36 = .ok (.aload_n 0, 1) := by decide +kernel
theorem h_W_init_37 : decode prog_12_method_1_code 37 = .ok (.bipush 16, 2) := by decide +kernel
theorem h_W_init_39 : decode prog_12_method_1_code 39 = .ok (.newarray .int, 2) := by decide +kernel
theorem h_W_init_41 : decode prog_12_method_1_code 41 = .ok (.putfield 25, 3) := by decide +kernel
theorem h_W_init_44 : decode prog_12_method_1_code 44 = .ok (.aload_n 0, 1) := by decide +kernel
theorem h_W_init_45 : decode prog_12_method_1_code 45 = .ok (.bipush 16, 2) := by decide +kernel
theorem h_W_init_47 : decode prog_12_method_1_code 47 = .ok (.newarray .boolean, 2) := by decide +kernel
theorem h_W_init_49 : decode prog_12_method_1_code 49 = .ok (.putfield 28, 3) := by decide +kernel
theorem h_W_init_52 : decode prog_12_method_1_code 52 = .ok (.aload_n 0, 1) := by decide +kernel
theorem h_W_init_53 : decode prog_12_method_1_code 53 = .ok (.bipush 8, 2) := by decide +kernel
theorem h_W_init_55 : decode prog_12_method_1_code 55 = .ok (.anewarray 31, 3) := by decide +kernel
theorem h_W_init_58 : decode prog_12_method_1_code 58 = .ok (.putfield 33, 3) := by decide +kernel
theorem h_W_init_61 : decode prog_12_method_1_code 61 = .ok (.aload_n 0, 1) := by decide +kernel
theorem h_W_init_62 : decode prog_12_method_1_code 62 = .ok (.getfield 11, 3) := by decide +kernel
theorem h_W_init_65 : decode prog_12_method_1_code 65 = .ok (.iconst 0, 1) := by decide +kernel
theorem h_W_init_66 : decode prog_12_method_1_code 66 = .ok (.iconst (-1), 1) := by decide +kernel
theorem h_W_init_67 : decode prog_12_method_1_code 67 = .ok (.iastore, 1) := by decide +kernel
theorem h_W_init_68 : decode prog_12_method_1_code 68 = .ok (.aload_n 0, 1) := by decide +kernel
theorem h_W_init_69 : decode prog_12_method_1_code 69 = .ok (.getfield 15, 3) := by decide +kernel
theorem h_W_init_72 : decode prog_12_method_1_code 72 = .ok (.iconst 0, 1) := by decide +kernel
theorem h_W_init_73 : decode prog_12_method_1_code 73 = .ok (.iconst 1, 1) := by decide +kernel
theorem h_W_init_74 : decode prog_12_method_1_code 74 = .ok (.iastore, 1) := by decide +kernel
theorem h_W_init_75 : decode prog_12_method_1_code 75 = .ok (.aload_n 0, 1) := by decide +kernel
theorem h_W_init_76 : decode prog_12_method_1_code 76 = .ok (.getfield 11, 3) := by decide +kernel
theorem h_W_init_79 : decode prog_12_method_1_code 79 = .ok (.iconst 1, 1) := by decide +kernel
theorem h_W_init_80 : decode prog_12_method_1_code 80 = .ok (.iconst 0, 1) := by decide +kernel
theorem h_W_init_81 : decode prog_12_method_1_code 81 = .ok (.iastore, 1) := by decide +kernel
theorem h_W_init_82 : decode prog_12_method_1_code 82 = .ok (.aload_n 0, 1) := by decide +kernel
theorem h_W_init_83 : decode prog_12_method_1_code 83 = .ok (.getfield 15, 3) := by decide +kernel
theorem h_W_init_86 : decode prog_12_method_1_code 86 = .ok (.iconst 1, 1) := by decide +kernel
theorem h_W_init_87 : decode prog_12_method_1_code 87 = .ok (.iconst 3, 1) := by decide +kernel
theorem h_W_init_88 : decode prog_12_method_1_code 88 = .ok (.iastore, 1) := by decide +kernel
theorem h_W_init_89 : decode prog_12_method_1_code 89 = .ok (.aload_n 0, 1) := by decide +kernel
theorem h_W_init_90 : decode prog_12_method_1_code 90 = .ok (.iconst 2, 1) := by decide +kernel
theorem h_W_init_91 : decode prog_12_method_1_code 91 = .ok (.putfield 37, 3) := by decide +kernel
theorem h_W_init_94 : decode prog_12_method_1_code 94 = .ok (.return_, 1) := by decide +kernel
def x_W_init (a0 : Nat) (σ0 : CST) (P : CST → Prop) : Prop := (¬ (16 : Int32) < 0 ∧ (16 : Int32).toNatClampNeg ≤ 60000000 ∧ 1 ≤ σ0.2.2.2.2.1 ∧ (16 : Int32).toNatClampNeg ≤ σ0.2.2.2.2.2.1 ∧ ∀ q1 : Nat, σ0.1 q1 = none → q1 ≠ σ0.2.2.2.2.2.2.1 → ∀ σ7 : CST, σ7 = nw σ0 q1 20 (16 : Int32).toNatClampNeg (16 : Int32).toNatClampNeg → σ7.1 a0 = some (3, 0) ∧ (∀ σ9 : CST, σ9 = sR σ7 a0 0 (some q1) → (¬ (16 : Int32) < 0 ∧ (16 : Int32).toNatClampNeg ≤ 60000000 ∧ 1 ≤ σ9.2.2.2.2.1 ∧ (16 : Int32).toNatClampNeg ≤ σ9.2.2.2.2.2.1 ∧ ∀ q10 : Nat, σ9.1 q10 = none → q10 ≠ σ9.2.2.2.2.2.2.1 → ∀ σ16 : CST, σ16 = nw σ9 q10 20 (16 : Int32).toNatClampNeg (16 : Int32).toNatClampNeg → σ16.1 a0 = some (3, 0) ∧ (∀ σ18 : CST, σ18 = sR σ16 a0 1 (some q10) → (¬ (16 : Int32) < 0 ∧ (16 : Int32).toNatClampNeg ≤ 60000000 ∧ 1 ≤ σ18.2.2.2.2.1 ∧ (16 : Int32).toNatClampNeg ≤ σ18.2.2.2.2.2.1 ∧ ∀ q19 : Nat, σ18.1 q19 = none → q19 ≠ σ18.2.2.2.2.2.2.1 → ∀ σ25 : CST, σ25 = nw σ18 q19 21 (16 : Int32).toNatClampNeg (16 : Int32).toNatClampNeg → σ25.1 a0 = some (3, 0) ∧ (∀ σ27 : CST, σ27 = sR σ25 a0 2 (some q19) → (¬ (16 : Int32) < 0 ∧ (16 : Int32).toNatClampNeg ≤ 60000000 ∧ 1 ≤ σ27.2.2.2.2.1 ∧ (16 : Int32).toNatClampNeg ≤ σ27.2.2.2.2.2.1 ∧ ∀ q28 : Nat, σ27.1 q28 = none → q28 ≠ σ27.2.2.2.2.2.2.1 → ∀ σ34 : CST, σ34 = nw σ27 q28 20 (16 : Int32).toNatClampNeg (16 : Int32).toNatClampNeg → σ34.1 a0 = some (3, 0) ∧ (∀ σ36 : CST, σ36 = sR σ34 a0 4 (some q28) → (¬ (16 : Int32) < 0 ∧ (16 : Int32).toNatClampNeg ≤ 60000000 ∧ 1 ≤ σ36.2.2.2.2.1 ∧ (16 : Int32).toNatClampNeg ≤ σ36.2.2.2.2.2.1 ∧ ∀ q37 : Nat, σ36.1 q37 = none → q37 ≠ σ36.2.2.2.2.2.2.1 → ∀ σ43 : CST, σ43 = nw σ36 q37 20 (16 : Int32).toNatClampNeg (16 : Int32).toNatClampNeg → σ43.1 a0 = some (3, 0) ∧ (∀ σ45 : CST, σ45 = sR σ43 a0 5 (some q37) → (¬ (16 : Int32) < 0 ∧ (16 : Int32).toNatClampNeg ≤ 60000000 ∧ 1 ≤ σ45.2.2.2.2.1 ∧ (16 : Int32).toNatClampNeg ≤ σ45.2.2.2.2.2.1 ∧ ∀ q46 : Nat, σ45.1 q46 = none → q46 ≠ σ45.2.2.2.2.2.2.1 → ∀ σ52 : CST, σ52 = nw σ45 q46 21 (16 : Int32).toNatClampNeg (16 : Int32).toNatClampNeg → σ52.1 a0 = some (3, 0) ∧ (∀ σ54 : CST, σ54 = sR σ52 a0 6 (some q46) → (¬ (8 : Int32) < 0 ∧ (8 : Int32).toNatClampNeg ≤ 60000000 ∧ 1 ≤ σ54.2.2.2.2.1 ∧ (8 : Int32).toNatClampNeg ≤ σ54.2.2.2.2.2.1 ∧ ∀ q55 : Nat, σ54.1 q55 = none → q55 ≠ σ54.2.2.2.2.2.2.1 → ∀ σ61 : CST, σ61 = nw σ54 q55 24 (8 : Int32).toNatClampNeg (8 : Int32).toNatClampNeg → σ61.1 a0 = some (3, 0) ∧ (∀ σ63 : CST, σ63 = sR σ61 a0 8 (some q55) → σ63.1 a0 = some (3, 0) ∧ (∀ b65 : Option Nat, b65 = (σ63.2.2.2.1 a0 0) → (∃ r66 : Nat, b65 = some r66 ∧ ((∃ n68 : Nat, σ63.1 r66 = some (20, n68) ∧ (vp_in 0 n68 ∧ (∀ σ70 : CST, σ70 = sI σ63 r66 (0 : Int32).toNatClampNeg ((-1) : Int32) → σ70.1 a0 = some (3, 0) ∧ (∀ b72 : Option Nat, b72 = (σ70.2.2.2.1 a0 1) → (∃ r73 : Nat, b72 = some r73 ∧ ((∃ n75 : Nat, σ70.1 r73 = some (20, n75) ∧ (vp_in 0 n75 ∧ (∀ σ77 : CST, σ77 = sI σ70 r73 (0 : Int32).toNatClampNeg (1 : Int32) → σ77.1 a0 = some (3, 0) ∧ (∀ b79 : Option Nat, b79 = (σ77.2.2.2.1 a0 0) → (∃ r80 : Nat, b79 = some r80 ∧ ((∃ n82 : Nat, σ77.1 r80 = some (20, n82) ∧ (vp_in 1 n82 ∧ (∀ σ84 : CST, σ84 = sI σ77 r80 (1 : Int32).toNatClampNeg (0 : Int32) → σ84.1 a0 = some (3, 0) ∧ (∀ b86 : Option Nat, b86 = (σ84.2.2.2.1 a0 1) → (∃ r87 : Nat, b86 = some r87 ∧ ((∃ n89 : Nat, σ84.1 r87 = some (20, n89) ∧ (vp_in 1 n89 ∧ (∀ σ91 : CST, σ91 = sI σ84 r87 (1 : Int32).toNatClampNeg (3 : Int32) → σ91.1 a0 = some (3, 0) ∧ (∀ σ93 : CST, σ93 = sI σ91 a0 3 (2 : Int32) → P σ93)))))))))))))))))))))))))))))))))))))))
set_option maxHeartbeats 4000000 in
set_option maxRecDepth 100000 in
theorem X_W_init (l : Launch) (dC : Nat → ClassId) (dI : Nat → Nat → Nat) (ca : Nat → ClassId) (H0 : Heap) (σ0 : CST) (a0 : Nat) {P : CST → Prop} (hw : x_W_init a0 σ0 P) : Met l g_W_init (mW g_W_init prog_12_method_1_code 1 none) ({ frames := 1, cells := σ0.2.2.2.2.1, slots := σ0.2.2.2.2.2.1, locals := 12 } : Room) (va_Pc [.ref a0] (CPre (dC, dI) ca σ0 H0)) (va_Qv P (CB (dC, dI) ca σ0 H0) (cA σ0 H0.size)) σ0.2.2.2.2.1 σ0.2.2.2.2.2.1 (cA σ0 H0.size) := by
  refine C_ofv (by decide +kernel) rfl rfl rfl (Nat.le_of_ble_eq_true rfl) ?_
  intro p e s m below meth cx Q A ls C hnm hend hH0 h hl
  subst hH0
  have C0 := C
  obtain ⟨⟨hx, hb, hml, hown, hts⟩, hsub⟩ := C0
  obtain ⟨cells, e_cells⟩ : ∃ z : Nat, z = 0 := ⟨_, rfl⟩
  obtain ⟨slots, e_slots⟩ : ∃ z : Nat, z = 0 := ⟨_, rfl⟩
  have h : CH (dC, dI) A ca ({ frames := 1, cells := σ0.2.2.2.2.1, slots := σ0.2.2.2.2.2.1, locals := 12 } : Room) σ0.2.2.2.2.2.2 σ0 s s.heap [] cells slots := by rw [e_cells, e_slots]; exact h
  show W p l e ({ frames := 1, cells := σ0.2.2.2.2.1, slots := σ0.2.2.2.2.2.1, locals := 12 } : Room) s m ([.ref a0] : List Value).toArray below meth cx s.heap [] 0 0 Q (F0 m 0 ls [])
  rw [show W p l e ({ frames := 1, cells := σ0.2.2.2.2.1, slots := σ0.2.2.2.2.2.1, locals := 12 } : Room) s m ([.ref a0] : List Value).toArray below meth cx s.heap [] 0 0 Q (F0 m 0 ls []) = W p l e ({ frames := 1, cells := σ0.2.2.2.2.1, slots := σ0.2.2.2.2.2.1, locals := 12 } : Room) s m ([.ref a0] : List Value).toArray below meth cx s.heap [] cells slots Q (F0 m 0 ls []) by rw [e_cells, e_slots]]
  have hl : lv_has ls 1 [(0, .ref a0)] := hl
  unfold x_W_init at hw
  refine lv_aload_n hx hb h_W_init_0 rfl (lv_at hl 0 rfl) ?_
  refine W.objInit hx hb hown (hts _ (hsub _ u_858)) (hts _ (hsub _ u_1)) (hts _ (hsub _ u_2)) rfl (by rw [hml]; exact hl.1) rfl h_W_init_1 (Nat.le_of_ble_eq_true rfl) (Nat.le_of_ble_eq_true rfl) ?_
  refine W.eq (g2 := F0 m 4 ls []) rfl ?_
  refine lv_aload_n hx hb h_W_init_4 rfl (lv_at hl 0 rfl) ?_
  refine lv_bipush (v := 16) hx hb h_W_init_5 (by decide) ?_
  obtain ⟨g5, g6, g2, g3, hw⟩ := hw
  refine C_newai C h u_19 g5 rfl g6 g2 g3 h_W_init_7 (fun q1 H g4 hz9 h => ?_)
  replace hw := hw q1 g4 hz9
  obtain ⟨σ7, e_σ7⟩ : ∃ z : CST, z = nw σ0 q1 20 (16 : Int32).toNatClampNeg (16 : Int32).toNatClampNeg := ⟨_, rfl⟩
  rw [← e_σ7] at h
  replace hw := hw σ7 e_σ7
  generalize cells + 1 = cells at h ⊢
  generalize slots + (16 : Int32).toNatClampNeg = slots at h ⊢
  obtain ⟨g8, hw⟩ := hw
  refine C_putr C h 3 0 (v := (some q1)) (ty := (.array .int)) g8 (Cn := R_W) (T := T_W) (N := 10) rfl (by decide) rfl uw_W tok_W nm_W (by decide) rfl u_507 (fun _ q => q) (Or.inr ⟨rfl, hnm, rfl⟩) (by decide +kernel) ck_a h_W_init_9 (fun H locs h => ?_)
  obtain ⟨σ9, e_σ9⟩ : ∃ z : CST, z = sR σ7 a0 0 (some q1) := ⟨_, rfl⟩
  rw [← e_σ9] at h
  replace hw := hw σ9 e_σ9
  refine lv_aload_n hx hb h_W_init_12 rfl (lv_at hl 0 rfl) ?_
  refine lv_bipush (v := 16) hx hb h_W_init_13 (by decide) ?_
  obtain ⟨g14, g15, g11, g12, hw⟩ := hw
  refine C_newai C h u_19 g14 rfl g15 g11 g12 h_W_init_15 (fun q10 H g13 hz9 h => ?_)
  replace hw := hw q10 g13 hz9
  obtain ⟨σ16, e_σ16⟩ : ∃ z : CST, z = nw σ9 q10 20 (16 : Int32).toNatClampNeg (16 : Int32).toNatClampNeg := ⟨_, rfl⟩
  rw [← e_σ16] at h
  replace hw := hw σ16 e_σ16
  generalize cells + 1 = cells at h ⊢
  generalize slots + (16 : Int32).toNatClampNeg = slots at h ⊢
  obtain ⟨g17, hw⟩ := hw
  refine C_putr C h 3 1 (v := (some q10)) (ty := (.array .int)) g17 (Cn := R_W) (T := T_W) (N := 10) rfl (by decide) rfl uw_W tok_W nm_W (by decide) rfl u_271 (fun _ q => q) (Or.inr ⟨rfl, hnm, rfl⟩) (by decide +kernel) ck_a h_W_init_17 (fun H locs h => ?_)
  obtain ⟨σ18, e_σ18⟩ : ∃ z : CST, z = sR σ16 a0 1 (some q10) := ⟨_, rfl⟩
  rw [← e_σ18] at h
  replace hw := hw σ18 e_σ18
  refine lv_aload_n hx hb h_W_init_20 rfl (lv_at hl 0 rfl) ?_
  refine lv_bipush (v := 16) hx hb h_W_init_21 (by decide) ?_
  obtain ⟨g23, g24, g20, g21, hw⟩ := hw
  refine C_newaz C h u_689 g23 rfl g24 g20 g21 h_W_init_23 (fun q19 H g22 hz9 h => ?_)
  replace hw := hw q19 g22 hz9
  obtain ⟨σ25, e_σ25⟩ : ∃ z : CST, z = nw σ18 q19 21 (16 : Int32).toNatClampNeg (16 : Int32).toNatClampNeg := ⟨_, rfl⟩
  rw [← e_σ25] at h
  replace hw := hw σ25 e_σ25
  generalize cells + 1 = cells at h ⊢
  generalize slots + (16 : Int32).toNatClampNeg = slots at h ⊢
  obtain ⟨g26, hw⟩ := hw
  refine C_putr C h 3 2 (v := (some q19)) (ty := (.array .boolean)) g26 (Cn := R_W) (T := T_W) (N := 10) rfl (by decide) rfl uw_W tok_W nm_W (by decide) rfl u_276 (fun _ q => q) (Or.inr ⟨rfl, hnm, rfl⟩) (by decide +kernel) ck_a h_W_init_25 (fun H locs h => ?_)
  obtain ⟨σ27, e_σ27⟩ : ∃ z : CST, z = sR σ25 a0 2 (some q19) := ⟨_, rfl⟩
  rw [← e_σ27] at h
  replace hw := hw σ27 e_σ27
  refine lv_aload_n hx hb h_W_init_28 rfl (lv_at hl 0 rfl) ?_
  refine lv_bipush (v := 16) hx hb h_W_init_29 (by decide) ?_
  obtain ⟨g32, g33, g29, g30, hw⟩ := hw
  refine C_newai C h u_19 g32 rfl g33 g29 g30 h_W_init_31 (fun q28 H g31 hz9 h => ?_)
  replace hw := hw q28 g31 hz9
  obtain ⟨σ34, e_σ34⟩ : ∃ z : CST, z = nw σ27 q28 20 (16 : Int32).toNatClampNeg (16 : Int32).toNatClampNeg := ⟨_, rfl⟩
  rw [← e_σ34] at h
  replace hw := hw σ34 e_σ34
  generalize cells + 1 = cells at h ⊢
  generalize slots + (16 : Int32).toNatClampNeg = slots at h ⊢
  obtain ⟨g35, hw⟩ := hw
  refine C_putr C h 3 4 (v := (some q28)) (ty := (.array .int)) g35 (Cn := R_W) (T := T_W) (N := 10) rfl (by decide) rfl uw_W tok_W nm_W (by decide) rfl u_593 (fun _ q => q) (Or.inr ⟨rfl, hnm, rfl⟩) (by decide +kernel) ck_a h_W_init_33 (fun H locs h => ?_)
  obtain ⟨σ36, e_σ36⟩ : ∃ z : CST, z = sR σ34 a0 4 (some q28) := ⟨_, rfl⟩
  rw [← e_σ36] at h
  replace hw := hw σ36 e_σ36
  refine lv_aload_n hx hb h_W_init_36 rfl (lv_at hl 0 rfl) ?_
  refine lv_bipush (v := 16) hx hb h_W_init_37 (by decide) ?_
  obtain ⟨g41, g42, g38, g39, hw⟩ := hw
  refine C_newai C h u_19 g41 rfl g42 g38 g39 h_W_init_39 (fun q37 H g40 hz9 h => ?_)
  replace hw := hw q37 g40 hz9
  obtain ⟨σ43, e_σ43⟩ : ∃ z : CST, z = nw σ36 q37 20 (16 : Int32).toNatClampNeg (16 : Int32).toNatClampNeg := ⟨_, rfl⟩
  rw [← e_σ43] at h
  replace hw := hw σ43 e_σ43
  generalize cells + 1 = cells at h ⊢
  generalize slots + (16 : Int32).toNatClampNeg = slots at h ⊢
  obtain ⟨g44, hw⟩ := hw
  refine C_putr C h 3 5 (v := (some q37)) (ty := (.array .int)) g44 (Cn := R_W) (T := T_W) (N := 10) rfl (by decide) rfl uw_W tok_W nm_W (by decide) rfl u_332 (fun _ q => q) (Or.inr ⟨rfl, hnm, rfl⟩) (by decide +kernel) ck_a h_W_init_41 (fun H locs h => ?_)
  obtain ⟨σ45, e_σ45⟩ : ∃ z : CST, z = sR σ43 a0 5 (some q37) := ⟨_, rfl⟩
  rw [← e_σ45] at h
  replace hw := hw σ45 e_σ45
  refine lv_aload_n hx hb h_W_init_44 rfl (lv_at hl 0 rfl) ?_
  refine lv_bipush (v := 16) hx hb h_W_init_45 (by decide) ?_
  obtain ⟨g50, g51, g47, g48, hw⟩ := hw
  refine C_newaz C h u_689 g50 rfl g51 g47 g48 h_W_init_47 (fun q46 H g49 hz9 h => ?_)
  replace hw := hw q46 g49 hz9
  obtain ⟨σ52, e_σ52⟩ : ∃ z : CST, z = nw σ45 q46 21 (16 : Int32).toNatClampNeg (16 : Int32).toNatClampNeg := ⟨_, rfl⟩
  rw [← e_σ52] at h
  replace hw := hw σ52 e_σ52
  generalize cells + 1 = cells at h ⊢
  generalize slots + (16 : Int32).toNatClampNeg = slots at h ⊢
  obtain ⟨g53, hw⟩ := hw
  refine C_putr C h 3 6 (v := (some q46)) (ty := (.array .boolean)) g53 (Cn := R_W) (T := T_W) (N := 10) rfl (by decide) rfl uw_W tok_W nm_W (by decide) rfl u_703 (fun _ q => q) (Or.inr ⟨rfl, hnm, rfl⟩) (by decide +kernel) ck_a h_W_init_49 (fun H locs h => ?_)
  obtain ⟨σ54, e_σ54⟩ : ∃ z : CST, z = sR σ52 a0 6 (some q46) := ⟨_, rfl⟩
  rw [← e_σ54] at h
  replace hw := hw σ54 e_σ54
  refine lv_aload_n hx hb h_W_init_52 rfl (lv_at hl 0 rfl) ?_
  refine lv_bipush (v := 8) hx hb h_W_init_53 (by decide) ?_
  obtain ⟨g59, g60, g56, g57, hw⟩ := hw
  refine C_anew C h 24 3 rfl (by decide) u_859 h.2.2.2.2.1.2.1.2.2.2.2.2.1.2.2.1 g59 rfl g60 g56 g57 h_W_init_55 (fun q55 H g58 hz9 h => ?_)
  replace hw := hw q55 g58 hz9
  obtain ⟨σ61, e_σ61⟩ : ∃ z : CST, z = nw σ54 q55 24 (8 : Int32).toNatClampNeg (8 : Int32).toNatClampNeg := ⟨_, rfl⟩
  rw [← e_σ61] at h
  replace hw := hw σ61 e_σ61
  generalize cells + 1 = cells at h ⊢
  generalize slots + (8 : Int32).toNatClampNeg = slots at h ⊢
  obtain ⟨g62, hw⟩ := hw
  refine C_putr C h 3 8 (v := (some q55)) (ty := (.array (.object "MapFramer$Method"))) g62 (Cn := R_W) (T := T_W) (N := 10) rfl (by decide) rfl uw_W tok_W nm_W (by decide) rfl u_338 (fun _ q => q) (Or.inr ⟨rfl, hnm, rfl⟩) (by decide +kernel) ck_a h_W_init_58 (fun H locs h => ?_)
  obtain ⟨σ63, e_σ63⟩ : ∃ z : CST, z = sR σ61 a0 8 (some q55) := ⟨_, rfl⟩
  rw [← e_σ63] at h
  replace hw := hw σ63 e_σ63
  refine lv_aload_n hx hb h_W_init_61 rfl (lv_at hl 0 rfl) ?_
  obtain ⟨g64, hw⟩ := hw
  refine C_get C h 3 0 (v := va_rf (σ63.2.2.2.1 a0 0)) g64 rfl (Cn := R_W) (T := T_W) (N := 10) rfl (by decide) rfl uw_W (by decide) u_507 (fun _ q => q) h_W_init_62 ?_
  refine lv_topq (fun b65 e_b65 => ?_)
  replace hw := hw b65 e_b65
  refine lv_iconst (v := 0) hx hb h_W_init_65 (by decide) ?_
  refine lv_iconst (v := (-1)) hx hb h_W_init_66 (by decide) ?_
  obtain ⟨r66, e_r66, hw⟩ := hw
  subst e_r66
  have hl : lv_has ls 1 [(0, .ref a0)] := hl
  refine W.eq (g2 := F0 m 67 ls [.int (-1), .int 0, .ref r66]) rfl ?_
  obtain ⟨n68, g67, hw⟩ := hw
  obtain ⟨g69, hw⟩ := hw
  refine C_iast C h g67 g69 h_W_init_67 (fun H locs h => ?_)
  obtain ⟨σ70, e_σ70⟩ : ∃ z : CST, z = sI σ63 r66 (0 : Int32).toNatClampNeg ((-1) : Int32) := ⟨_, rfl⟩
  rw [← e_σ70] at h
  replace hw := hw σ70 e_σ70
  refine lv_aload_n hx hb h_W_init_68 rfl (lv_at hl 0 rfl) ?_
  obtain ⟨g71, hw⟩ := hw
  refine C_get C h 3 1 (v := va_rf (σ70.2.2.2.1 a0 1)) g71 rfl (Cn := R_W) (T := T_W) (N := 10) rfl (by decide) rfl uw_W (by decide) u_271 (fun _ q => q) h_W_init_69 ?_
  refine lv_topq (fun b72 e_b72 => ?_)
  replace hw := hw b72 e_b72
  refine lv_iconst (v := 0) hx hb h_W_init_72 (by decide) ?_
  refine lv_iconst (v := 1) hx hb h_W_init_73 (by decide) ?_
  obtain ⟨r73, e_r73, hw⟩ := hw
  subst e_r73
  have hl : lv_has ls 1 [(0, .ref a0)] := hl
  refine W.eq (g2 := F0 m 74 ls [.int 1, .int 0, .ref r73]) rfl ?_
  obtain ⟨n75, g74, hw⟩ := hw
  obtain ⟨g76, hw⟩ := hw
  refine C_iast C h g74 g76 h_W_init_74 (fun H locs h => ?_)
  obtain ⟨σ77, e_σ77⟩ : ∃ z : CST, z = sI σ70 r73 (0 : Int32).toNatClampNeg (1 : Int32) := ⟨_, rfl⟩
  rw [← e_σ77] at h
  replace hw := hw σ77 e_σ77
  refine lv_aload_n hx hb h_W_init_75 rfl (lv_at hl 0 rfl) ?_
  obtain ⟨g78, hw⟩ := hw
  refine C_get C h 3 0 (v := va_rf (σ77.2.2.2.1 a0 0)) g78 rfl (Cn := R_W) (T := T_W) (N := 10) rfl (by decide) rfl uw_W (by decide) u_507 (fun _ q => q) h_W_init_76 ?_
  refine lv_topq (fun b79 e_b79 => ?_)
  replace hw := hw b79 e_b79
  refine lv_iconst (v := 1) hx hb h_W_init_79 (by decide) ?_
  refine lv_iconst (v := 0) hx hb h_W_init_80 (by decide) ?_
  obtain ⟨r80, e_r80, hw⟩ := hw
  subst e_r80
  have hl : lv_has ls 1 [(0, .ref a0)] := hl
  refine W.eq (g2 := F0 m 81 ls [.int 0, .int 1, .ref r80]) rfl ?_
  obtain ⟨n82, g81, hw⟩ := hw
  obtain ⟨g83, hw⟩ := hw
  refine C_iast C h g81 g83 h_W_init_81 (fun H locs h => ?_)
  obtain ⟨σ84, e_σ84⟩ : ∃ z : CST, z = sI σ77 r80 (1 : Int32).toNatClampNeg (0 : Int32) := ⟨_, rfl⟩
  rw [← e_σ84] at h
  replace hw := hw σ84 e_σ84
  refine lv_aload_n hx hb h_W_init_82 rfl (lv_at hl 0 rfl) ?_
  obtain ⟨g85, hw⟩ := hw
  refine C_get C h 3 1 (v := va_rf (σ84.2.2.2.1 a0 1)) g85 rfl (Cn := R_W) (T := T_W) (N := 10) rfl (by decide) rfl uw_W (by decide) u_271 (fun _ q => q) h_W_init_83 ?_
  refine lv_topq (fun b86 e_b86 => ?_)
  replace hw := hw b86 e_b86
  refine lv_iconst (v := 1) hx hb h_W_init_86 (by decide) ?_
  refine lv_iconst (v := 3) hx hb h_W_init_87 (by decide) ?_
  obtain ⟨r87, e_r87, hw⟩ := hw
  subst e_r87
  have hl : lv_has ls 1 [(0, .ref a0)] := hl
  refine W.eq (g2 := F0 m 88 ls [.int 3, .int 1, .ref r87]) rfl ?_
  obtain ⟨n89, g88, hw⟩ := hw
  obtain ⟨g90, hw⟩ := hw
  refine C_iast C h g88 g90 h_W_init_88 (fun H locs h => ?_)
  obtain ⟨σ91, e_σ91⟩ : ∃ z : CST, z = sI σ84 r87 (1 : Int32).toNatClampNeg (3 : Int32) := ⟨_, rfl⟩
  rw [← e_σ91] at h
  replace hw := hw σ91 e_σ91
  refine lv_aload_n hx hb h_W_init_89 rfl (lv_at hl 0 rfl) ?_
  refine lv_iconst (v := 2) hx hb h_W_init_90 (by decide) ?_
  obtain ⟨g92, hw⟩ := hw
  refine C_puti C h 3 3 g92 (Cn := R_W) (T := T_W) (N := 10) rfl (by decide) rfl uw_W tok_W nm_W (by decide) rfl u_704 (fun _ q => q) (Or.inl rfl) (by decide +kernel) h_W_init_91 (fun H locs h => ?_)
  obtain ⟨σ93, e_σ93⟩ : ∃ z : CST, z = sI σ91 a0 3 (2 : Int32) := ⟨_, rfl⟩
  rw [← e_σ93] at h
  replace hw := hw σ93 e_σ93
  exact hend σ93 _ _ _ _ _ _ hw h h_W_init_94
abbrev g_W_addClass : MethodName := ⟨"MapFramer$World", "addClass", "(IZ)I"⟩
theorem h_W_addClass_0 : decode prog_12_method_2_code 0 = .ok (.aload_n 0, 1) := by decide +kernel
theorem h_W_addClass_1 : decode prog_12_method_2_code 1 = .ok (.getfield 11, 3) := by decide +kernel
theorem h_W_addClass_4 : decode prog_12_method_2_code 4 = .ok (.aload_n 0, 1) := by decide +kernel
theorem h_W_addClass_5 : decode prog_12_method_2_code 5 = .ok (.getfield 37, 3) := by decide +kernel
theorem h_W_addClass_8 : decode prog_12_method_2_code 8 = .ok (.iload_n 1, 1) := by decide +kernel
theorem h_W_addClass_9 : decode prog_12_method_2_code 9 = .ok (.iastore, 1) := by decide +kernel
theorem h_W_addClass_10 : decode prog_12_method_2_code 10 = .ok (.aload_n 0, 1) := by decide +kernel
theorem h_W_addClass_11 : decode prog_12_method_2_code 11 = .ok (.getfield 15, 3) := by decide +kernel
theorem h_W_addClass_14 : decode prog_12_method_2_code 14 = .ok (.aload_n 0, 1) := by decide +kernel
theorem h_W_addClass_15 : decode prog_12_method_2_code 15 = .ok (.getfield 37, 3) := by decide +kernel
theorem h_W_addClass_18 : decode prog_12_method_2_code 18 = .ok (.aload_n 0, 1) := by decide +kernel
theorem h_W_addClass_19 : decode prog_12_method_2_code 19 = .ok (.getfield 15, 3) := by decide +kernel
theorem h_W_addClass_22 : decode prog_12_method_2_code 22 = .ok (.iload_n 1, 1) := by decide +kernel
theorem h_W_addClass_23 : decode prog_12_method_2_code 23 = .ok (.iaload, 1) := by decide +kernel
theorem h_W_addClass_24 : decode prog_12_method_2_code 24 = .ok (.iconst 1, 1) := by decide +kernel
theorem h_W_addClass_25 : decode prog_12_method_2_code 25 = .ok (.aload_n 0, 1) := by decide +kernel
theorem h_W_addClass_26 : decode prog_12_method_2_code 26 = .ok (.getfield 37, 3) := by decide +kernel
theorem h_W_addClass_29 : decode prog_12_method_2_code 29 = .ok (.ishl, 1) := by decide +kernel
theorem h_W_addClass_30 : decode prog_12_method_2_code 30 = .ok (.ior, 1) := by decide +kernel
theorem h_W_addClass_31 : decode prog_12_method_2_code 31 = .ok (.iastore, 1) := by decide +kernel
theorem h_W_addClass_32 : decode prog_12_method_2_code 32 = .ok (.aload_n 0, 1) := by decide +kernel
theorem h_W_addClass_33 : decode prog_12_method_2_code 33 = .ok (.getfield 18, 3) := by decide +kernel
theorem h_W_addClass_36 : decode prog_12_method_2_code 36 = .ok (.aload_n 0, 1) := by decide +kernel
theorem h_W_addClass_37 : decode prog_12_method_2_code 37 = .ok (.getfield 37, 3) := by decide +kernel
theorem h_W_addClass_40 : decode prog_12_method_2_code 40 = .ok (.iload_n 2, 1) := by decide +kernel
theorem h_W_addClass_41 : decode prog_12_method_2_code 41 = .ok (.bastore, 1) := by decide +kernel
theorem h_W_addClass_42 : decode prog_12_method_2_code 42 = .ok (.aload_n 0, 1) := by decide +kernel
theorem h_W_addClass_43 : decode prog_12_method_2_code 43 = .ok (.dup, 1) := by decide +kernel
theorem h_W_addClass_44 : decode prog_12_method_2_code 44 = .ok (.getfield 37, 3) := by decide +kernel
theorem h_W_addClass_47 : decode prog_12_method_2_code 47 = .ok (.iconst 1, 1) := by decide +kernel
theorem h_W_addClass_48 : decode prog_12_method_2_code 48 = .ok (.iadd, 1) := by decide +kernel
theorem h_W_addClass_49 : decode prog_12_method_2_code 49 = .ok (.putfield 37, 3) := by decide +kernel
theorem h_W_addClass_52 : decode prog_12_method_2_code 52 = .ok (.aload_n 0, 1) := by decide +kernel
theorem h_W_addClass_53 : decode prog_12_method_2_code 53 = .ok (.getfield 37, 3) := by decide +kernel
theorem h_W_addClass_56 : decode prog_12_method_2_code 56 = .ok (.iconst 1, 1) := by decide +kernel
theorem h_W_addClass_57 : decode prog_12_method_2_code 57 = .ok (.isub, 1) := by decide +kernel
theorem h_W_addClass_58 : decode prog_12_method_2_code 58 = .ok (.ireturn, 1) := by decide +kernel
def x_W_addClass (a0 : Nat) (x1 : Int32) (x2 : Int32) (σ0 : CST) (P : Int32 → CST → Prop) : Prop := σ0.1 a0 = some (3, 0) ∧ (∀ b2 : Option Nat, b2 = (σ0.2.2.2.1 a0 0) → (∃ r3 : Nat, b2 = some r3 ∧ ((∃ n5 : Nat, σ0.1 r3 = some (20, n5) ∧ (vp_in (σ0.2.1 a0 3) n5 ∧ (∀ σ7 : CST, σ7 = sI σ0 r3 ((σ0.2.1 a0 3) : Int32).toNatClampNeg x1 → σ7.1 a0 = some (3, 0) ∧ (∀ b9 : Option Nat, b9 = (σ7.2.2.2.1 a0 1) → ∀ b10 : Option Nat, b10 = (σ7.2.2.2.1 a0 1) → (∃ r11 : Nat, b10 = some r11 ∧ ((∃ n13 : Nat, σ7.1 r11 = some (20, n13) ∧ (vp_in x1 n13 ∧ (∀ b15 : Int32, b15 = (σ7.2.1 r11 (x1 : Int32).toNatClampNeg) → ∀ b16 : Int32, b16 = ((1 : Int32) <<< (((σ7.2.1 a0 3) : Int32) &&& 31)) → ∀ b17 : Int32, b17 = (b15 ||| b16) → (∃ r18 : Nat, b9 = some r18 ∧ ((∃ n20 : Nat, σ7.1 r18 = some (20, n20) ∧ (vp_in (σ7.2.1 a0 3) n20 ∧ (∀ σ22 : CST, σ22 = sI σ7 r18 ((σ7.2.1 a0 3) : Int32).toNatClampNeg b17 → σ22.1 a0 = some (3, 0) ∧ (∀ b24 : Option Nat, b24 = (σ22.2.2.2.1 a0 2) → (∃ r25 : Nat, b24 = some r25 ∧ ((∃ n27 : Nat, σ22.1 r25 = some (21, n27) ∧ (vp_in (σ22.2.1 a0 3) n27 ∧ (∀ σ29 : CST, σ29 = sI σ22 r25 ((σ22.2.1 a0 3) : Int32).toNatClampNeg (vp_nar .boolean x2) → σ29.1 a0 = some (3, 0) ∧ (∀ σ31 : CST, σ31 = sI σ29 a0 3 ((σ29.2.1 a0 3) + 1) → σ31.1 a0 = some (3, 0) ∧ (P ((σ31.2.1 a0 3) - 1) σ31)))))))))))))))))))))))))
set_option maxHeartbeats 4000000 in
set_option maxRecDepth 100000 in
theorem X_W_addClass (l : Launch) (dC : Nat → ClassId) (dI : Nat → Nat → Nat) (ca : Nat → ClassId) (H0 : Heap) (σ0 : CST) (a0 : Nat) (x1 : Int32) (x2 : Int32) {P : Int32 → CST → Prop} (hw : x_W_addClass a0 x1 x2 σ0 P) : Met l g_W_addClass (mW g_W_addClass prog_12_method_2_code 3 (some .int)) ({ frames := 0, cells := σ0.2.2.2.2.1, slots := σ0.2.2.2.2.2.1, locals := 0 } : Room) (va_Pc [.ref a0, .int x1, .int x2] (CPre (dC, dI) ca σ0 H0)) (va_Qi P (CB (dC, dI) ca σ0 H0) (cA σ0 H0.size)) σ0.2.2.2.2.1 σ0.2.2.2.2.2.1 (cA σ0 H0.size) := by
  refine C_ofi (by decide +kernel) rfl rfl rfl (Nat.le_of_ble_eq_true rfl) ?_
  intro p e s m below meth cx Q A ls C hnm hend hH0 h hl
  subst hH0
  have C0 := C
  obtain ⟨⟨hx, hb, hml, hown, hts⟩, hsub⟩ := C0
  obtain ⟨cells, e_cells⟩ : ∃ z : Nat, z = 0 := ⟨_, rfl⟩
  obtain ⟨slots, e_slots⟩ : ∃ z : Nat, z = 0 := ⟨_, rfl⟩
  have h : CH (dC, dI) A ca ({ frames := 0, cells := σ0.2.2.2.2.1, slots := σ0.2.2.2.2.2.1, locals := 0 } : Room) σ0.2.2.2.2.2.2 σ0 s s.heap [] cells slots := by rw [e_cells, e_slots]; exact h
  show W p l e ({ frames := 0, cells := σ0.2.2.2.2.1, slots := σ0.2.2.2.2.2.1, locals := 0 } : Room) s m ([.ref a0, .int x1, .int x2] : List Value).toArray below meth cx s.heap [] 0 0 Q (F0 m 0 ls [])
  rw [show W p l e ({ frames := 0, cells := σ0.2.2.2.2.1, slots := σ0.2.2.2.2.2.1, locals := 0 } : Room) s m ([.ref a0, .int x1, .int x2] : List Value).toArray below meth cx s.heap [] 0 0 Q (F0 m 0 ls []) = W p l e ({ frames := 0, cells := σ0.2.2.2.2.1, slots := σ0.2.2.2.2.2.1, locals := 0 } : Room) s m ([.ref a0, .int x1, .int x2] : List Value).toArray below meth cx s.heap [] cells slots Q (F0 m 0 ls []) by rw [e_cells, e_slots]]
  have hl : lv_has ls 3 [(0, .ref a0), (1, .int x1), (2, .int x2)] := hl
  unfold x_W_addClass at hw
  refine lv_aload_n hx hb h_W_addClass_0 rfl (lv_at hl 0 rfl) ?_
  obtain ⟨g1, hw⟩ := hw
  refine C_get C h 3 0 (v := va_rf (σ0.2.2.2.1 a0 0)) g1 rfl (Cn := R_W) (T := T_W) (N := 10) rfl (by decide) rfl uw_W (by decide) u_507 (fun _ q => q) h_W_addClass_1 ?_
  refine lv_topq (fun b2 e_b2 => ?_)
  replace hw := hw b2 e_b2
  refine lv_aload_n hx hb h_W_addClass_4 rfl (lv_at hl 0 rfl) ?_
  refine C_get C h 3 3 (v := .int (σ0.2.1 a0 3)) g1 rfl (Cn := R_W) (T := T_W) (N := 10) rfl (by decide) rfl uw_W (by decide) u_704 (fun _ q => q) h_W_addClass_5 ?_
  refine lv_iload_n hx hb h_W_addClass_8 rfl (lv_at hl 1 rfl) ?_
  obtain ⟨r3, e_r3, hw⟩ := hw
  subst e_r3
  have hl : lv_has ls 3 [(0, .ref a0), (1, .int x1), (2, .int x2)] := hl
  refine W.eq (g2 := F0 m 9 ls [.int x1, .int (σ0.2.1 a0 3), .ref r3]) rfl ?_
  obtain ⟨n5, g4, hw⟩ := hw
  obtain ⟨g6, hw⟩ := hw
  refine C_iast C h g4 g6 h_W_addClass_9 (fun H locs h => ?_)
  obtain ⟨σ7, e_σ7⟩ : ∃ z : CST, z = sI σ0 r3 ((σ0.2.1 a0 3) : Int32).toNatClampNeg x1 := ⟨_, rfl⟩
  rw [← e_σ7] at h
  replace hw := hw σ7 e_σ7
  refine lv_aload_n hx hb h_W_addClass_10 rfl (lv_at hl 0 rfl) ?_
  obtain ⟨g8, hw⟩ := hw
  refine C_get C h 3 1 (v := va_rf (σ7.2.2.2.1 a0 1)) g8 rfl (Cn := R_W) (T := T_W) (N := 10) rfl (by decide) rfl uw_W (by decide) u_271 (fun _ q => q) h_W_addClass_11 ?_
  refine lv_topq (fun b9 e_b9 => ?_)
  replace hw := hw b9 e_b9
  refine lv_aload_n hx hb h_W_addClass_14 rfl (lv_at hl 0 rfl) ?_
  refine C_get C h 3 3 (v := .int (σ7.2.1 a0 3)) g8 rfl (Cn := R_W) (T := T_W) (N := 10) rfl (by decide) rfl uw_W (by decide) u_704 (fun _ q => q) h_W_addClass_15 ?_
  refine lv_aload_n hx hb h_W_addClass_18 rfl (lv_at hl 0 rfl) ?_
  refine C_get C h 3 1 (v := va_rf (σ7.2.2.2.1 a0 1)) g8 rfl (Cn := R_W) (T := T_W) (N := 10) rfl (by decide) rfl uw_W (by decide) u_271 (fun _ q => q) h_W_addClass_19 ?_
  refine lv_topq (fun b10 e_b10 => ?_)
  replace hw := hw b10 e_b10
  refine lv_iload_n hx hb h_W_addClass_22 rfl (lv_at hl 1 rfl) ?_
  obtain ⟨r11, e_r11, hw⟩ := hw
  subst e_r11
  have hl : lv_has ls 3 [(0, .ref a0), (1, .int x1), (2, .int x2)] := hl
  refine W.eq (g2 := F0 m 23 ls [.int x1, .ref r11, .int (σ7.2.1 a0 3), va_rf b9]) rfl ?_
  obtain ⟨n13, g12, hw⟩ := hw
  obtain ⟨g14, hw⟩ := hw
  refine C_iald C h g12 g14 h_W_addClass_23 ?_
  refine lv_topi (fun b15 e_b15 => ?_)
  replace hw := hw b15 e_b15
  refine lv_iconst (v := 1) hx hb h_W_addClass_24 (by decide) ?_
  refine lv_aload_n hx hb h_W_addClass_25 rfl (lv_at hl 0 rfl) ?_
  refine C_get C h 3 3 (v := .int (σ7.2.1 a0 3)) g8 rfl (Cn := R_W) (T := T_W) (N := 10) rfl (by decide) rfl uw_W (by decide) u_704 (fun _ q => q) h_W_addClass_26 ?_
  refine lv_ishl hx hb h_W_addClass_29 ?_
  refine lv_topi (fun b16 e_b16 => ?_)
  replace hw := hw b16 e_b16
  refine lv_ior hx hb h_W_addClass_30 ?_
  refine lv_topi (fun b17 e_b17 => ?_)
  replace hw := hw b17 e_b17
  obtain ⟨r18, e_r18, hw⟩ := hw
  subst e_r18
  have hl : lv_has ls 3 [(0, .ref a0), (1, .int x1), (2, .int x2)] := hl
  refine W.eq (g2 := F0 m 31 ls [.int b17, .int (σ7.2.1 a0 3), .ref r18]) rfl ?_
  obtain ⟨n20, g19, hw⟩ := hw
  obtain ⟨g21, hw⟩ := hw
  refine C_iast C h g19 g21 h_W_addClass_31 (fun H locs h => ?_)
  obtain ⟨σ22, e_σ22⟩ : ∃ z : CST, z = sI σ7 r18 ((σ7.2.1 a0 3) : Int32).toNatClampNeg b17 := ⟨_, rfl⟩
  rw [← e_σ22] at h
  replace hw := hw σ22 e_σ22
  refine lv_aload_n hx hb h_W_addClass_32 rfl (lv_at hl 0 rfl) ?_
  obtain ⟨g23, hw⟩ := hw
  refine C_get C h 3 2 (v := va_rf (σ22.2.2.2.1 a0 2)) g23 rfl (Cn := R_W) (T := T_W) (N := 10) rfl (by decide) rfl uw_W (by decide) u_276 (fun _ q => q) h_W_addClass_33 ?_
  refine lv_topq (fun b24 e_b24 => ?_)
  replace hw := hw b24 e_b24
  refine lv_aload_n hx hb h_W_addClass_36 rfl (lv_at hl 0 rfl) ?_
  refine C_get C h 3 3 (v := .int (σ22.2.1 a0 3)) g23 rfl (Cn := R_W) (T := T_W) (N := 10) rfl (by decide) rfl uw_W (by decide) u_704 (fun _ q => q) h_W_addClass_37 ?_
  refine lv_iload_n hx hb h_W_addClass_40 rfl (lv_at hl 2 rfl) ?_
  obtain ⟨r25, e_r25, hw⟩ := hw
  subst e_r25
  have hl : lv_has ls 3 [(0, .ref a0), (1, .int x1), (2, .int x2)] := hl
  refine W.eq (g2 := F0 m 41 ls [.int x2, .int (σ22.2.1 a0 3), .ref r25]) rfl ?_
  obtain ⟨n27, g26, hw⟩ := hw
  obtain ⟨g28, hw⟩ := hw
  refine C_zast C h g26 g28 h_W_addClass_41 (fun H locs h => ?_)
  obtain ⟨σ29, e_σ29⟩ : ∃ z : CST, z = sI σ22 r25 ((σ22.2.1 a0 3) : Int32).toNatClampNeg (vp_nar .boolean x2) := ⟨_, rfl⟩
  rw [← e_σ29] at h
  replace hw := hw σ29 e_σ29
  refine lv_aload_n hx hb h_W_addClass_42 rfl (lv_at hl 0 rfl) ?_
  refine lv_dup hx hb h_W_addClass_43 rfl ?_
  obtain ⟨g30, hw⟩ := hw
  refine C_get C h 3 3 (v := .int (σ29.2.1 a0 3)) g30 rfl (Cn := R_W) (T := T_W) (N := 10) rfl (by decide) rfl uw_W (by decide) u_704 (fun _ q => q) h_W_addClass_44 ?_
  refine lv_iconst (v := 1) hx hb h_W_addClass_47 (by decide) ?_
  refine lv_iadd hx hb h_W_addClass_48 ?_
  refine C_puti C h 3 3 g30 (Cn := R_W) (T := T_W) (N := 10) rfl (by decide) rfl uw_W tok_W nm_W (by decide) rfl u_704 (fun _ q => q) (Or.inl rfl) (by decide +kernel) h_W_addClass_49 (fun H locs h => ?_)
  obtain ⟨σ31, e_σ31⟩ : ∃ z : CST, z = sI σ29 a0 3 ((σ29.2.1 a0 3) + 1) := ⟨_, rfl⟩
  rw [← e_σ31] at h
  replace hw := hw σ31 e_σ31
  refine lv_aload_n hx hb h_W_addClass_52 rfl (lv_at hl 0 rfl) ?_
  obtain ⟨g32, hw⟩ := hw
  refine C_get C h 3 3 (v := .int (σ31.2.1 a0 3)) g32 rfl (Cn := R_W) (T := T_W) (N := 10) rfl (by decide) rfl uw_W (by decide) u_704 (fun _ q => q) h_W_addClass_53 ?_
  refine lv_iconst (v := 1) hx hb h_W_addClass_56 (by decide) ?_
  refine lv_isub hx hb h_W_addClass_57 ?_
  exact hend ((σ31.2.1 a0 3) - 1) σ31 _ _ _ _ _ _ hw h h_W_addClass_58
abbrev g_W_addField : MethodName := ⟨"MapFramer$World", "addField", "(IIZ)I"⟩
theorem h_W_addField_0 : decode prog_12_method_3_code 0 = .ok (.aload_n 0, 1) := by decide +kernel
theorem h_W_addField_1 : decode prog_12_method_3_code 1 = .ok (.getfield 22, 3) := by decide +kernel
theorem h_W_addField_4 : decode prog_12_method_3_code 4 = .ok (.aload_n 0, 1) := by decide +kernel
theorem h_W_addField_5 : decode prog_12_method_3_code 5 = .ok (.getfield 41, 3) := by decide +kernel
theorem h_W_addField_8 : decode prog_12_method_3_code 8 = .ok (.iload_n 1, 1) := by decide +kernel
theorem h_W_addField_9 : decode prog_12_method_3_code 9 = .ok (.iastore, 1) := by decide +kernel
theorem h_W_addField_10 : decode prog_12_method_3_code 10 = .ok (.aload_n 0, 1) := by decide +kernel
theorem h_W_addField_11 : decode prog_12_method_3_code 11 = .ok (.getfield 25, 3) := by decide +kernel
theorem h_W_addField_14 : decode prog_12_method_3_code 14 = .ok (.aload_n 0, 1) := by decide +kernel
theorem h_W_addField_15 : decode prog_12_method_3_code 15 = .ok (.getfield 41, 3) := by decide +kernel
theorem h_W_addField_18 : decode prog_12_method_3_code 18 = .ok (.iload_n 2, 1) := by decide +kernel
theorem h_W_addField_19 : decode prog_12_method_3_code 19 = .ok (.iastore, 1) := by decide +kernel
theorem h_W_addField_20 : decode prog_12_method_3_code 20 = .ok (.aload_n 0, 1) := by decide +kernel
theorem h_W_addField_21 : decode prog_12_method_3_code 21 = .ok (.getfield 28, 3) := by decide +kernel
theorem h_W_addField_24 : decode prog_12_method_3_code 24 = .ok (.aload_n 0, 1) := by decide +kernel
theorem h_W_addField_25 : decode prog_12_method_3_code 25 = .ok (.getfield 41, 3) := by decide +kernel
theorem h_W_addField_28 : decode prog_12_method_3_code 28 = .ok (.iload_n 3, 1) := by decide +kernel
theorem h_W_addField_29 : decode prog_12_method_3_code 29 = .ok (.bastore, 1) := by decide +kernel
theorem h_W_addField_30 : decode prog_12_method_3_code 30 = .ok (.aload_n 0, 1) := by decide +kernel
theorem h_W_addField_31 : decode prog_12_method_3_code 31 = .ok (.dup, 1) := by decide +kernel
theorem h_W_addField_32 : decode prog_12_method_3_code 32 = .ok (.getfield 41, 3) := by decide +kernel
theorem h_W_addField_35 : decode prog_12_method_3_code 35 = .ok (.iconst 1, 1) := by decide +kernel
theorem h_W_addField_36 : decode prog_12_method_3_code 36 = .ok (.iadd, 1) := by decide +kernel
theorem h_W_addField_37 : decode prog_12_method_3_code 37 = .ok (.putfield 41, 3) := by decide +kernel
theorem h_W_addField_40 : decode prog_12_method_3_code 40 = .ok (.aload_n 0, 1) := by decide +kernel
theorem h_W_addField_41 : decode prog_12_method_3_code 41 = .ok (.getfield 41, 3) := by decide +kernel
theorem h_W_addField_44 : decode prog_12_method_3_code 44 = .ok (.iconst 1, 1) := by decide +kernel
theorem h_W_addField_45 : decode prog_12_method_3_code 45 = .ok (.isub, 1) := by decide +kernel
theorem h_W_addField_46 : decode prog_12_method_3_code 46 = .ok (.ireturn, 1) := by decide +kernel
def x_W_addField (a0 : Nat) (x1 : Int32) (x2 : Int32) (x3 : Int32) (σ0 : CST) (P : Int32 → CST → Prop) : Prop := σ0.1 a0 = some (3, 0) ∧ (∀ b2 : Option Nat, b2 = (σ0.2.2.2.1 a0 4) → (∃ r3 : Nat, b2 = some r3 ∧ ((∃ n5 : Nat, σ0.1 r3 = some (20, n5) ∧ (vp_in (σ0.2.1 a0 7) n5 ∧ (∀ σ7 : CST, σ7 = sI σ0 r3 ((σ0.2.1 a0 7) : Int32).toNatClampNeg x1 → σ7.1 a0 = some (3, 0) ∧ (∀ b9 : Option Nat, b9 = (σ7.2.2.2.1 a0 5) → (∃ r10 : Nat, b9 = some r10 ∧ ((∃ n12 : Nat, σ7.1 r10 = some (20, n12) ∧ (vp_in (σ7.2.1 a0 7) n12 ∧ (∀ σ14 : CST, σ14 = sI σ7 r10 ((σ7.2.1 a0 7) : Int32).toNatClampNeg x2 → σ14.1 a0 = some (3, 0) ∧ (∀ b16 : Option Nat, b16 = (σ14.2.2.2.1 a0 6) → (∃ r17 : Nat, b16 = some r17 ∧ ((∃ n19 : Nat, σ14.1 r17 = some (21, n19) ∧ (vp_in (σ14.2.1 a0 7) n19 ∧ (∀ σ21 : CST, σ21 = sI σ14 r17 ((σ14.2.1 a0 7) : Int32).toNatClampNeg (vp_nar .boolean x3) → σ21.1 a0 = some (3, 0) ∧ (∀ σ23 : CST, σ23 = sI σ21 a0 7 ((σ21.2.1 a0 7) + 1) → σ23.1 a0 = some (3, 0) ∧ (P ((σ23.2.1 a0 7) - 1) σ23))))))))))))))))))))
set_option maxHeartbeats 4000000 in
set_option maxRecDepth 100000 in
theorem X_W_addField (l : Launch) (dC : Nat → ClassId) (dI : Nat → Nat → Nat) (ca : Nat → ClassId) (H0 : Heap) (σ0 : CST) (a0 : Nat) (x1 : Int32) (x2 : Int32) (x3 : Int32) {P : Int32 → CST → Prop} (hw : x_W_addField a0 x1 x2 x3 σ0 P) : Met l g_W_addField (mW g_W_addField prog_12_method_3_code 4 (some .int)) ({ frames := 0, cells := σ0.2.2.2.2.1, slots := σ0.2.2.2.2.2.1, locals := 0 } : Room) (va_Pc [.ref a0, .int x1, .int x2, .int x3] (CPre (dC, dI) ca σ0 H0)) (va_Qi P (CB (dC, dI) ca σ0 H0) (cA σ0 H0.size)) σ0.2.2.2.2.1 σ0.2.2.2.2.2.1 (cA σ0 H0.size) := by
  refine C_ofi (by decide +kernel) rfl rfl rfl (Nat.le_of_ble_eq_true rfl) ?_
  intro p e s m below meth cx Q A ls C hnm hend hH0 h hl
  subst hH0
  have C0 := C
  obtain ⟨⟨hx, hb, hml, hown, hts⟩, hsub⟩ := C0
  obtain ⟨cells, e_cells⟩ : ∃ z : Nat, z = 0 := ⟨_, rfl⟩
  obtain ⟨slots, e_slots⟩ : ∃ z : Nat, z = 0 := ⟨_, rfl⟩
  have h : CH (dC, dI) A ca ({ frames := 0, cells := σ0.2.2.2.2.1, slots := σ0.2.2.2.2.2.1, locals := 0 } : Room) σ0.2.2.2.2.2.2 σ0 s s.heap [] cells slots := by rw [e_cells, e_slots]; exact h
  show W p l e ({ frames := 0, cells := σ0.2.2.2.2.1, slots := σ0.2.2.2.2.2.1, locals := 0 } : Room) s m ([.ref a0, .int x1, .int x2, .int x3] : List Value).toArray below meth cx s.heap [] 0 0 Q (F0 m 0 ls [])
  rw [show W p l e ({ frames := 0, cells := σ0.2.2.2.2.1, slots := σ0.2.2.2.2.2.1, locals := 0 } : Room) s m ([.ref a0, .int x1, .int x2, .int x3] : List Value).toArray below meth cx s.heap [] 0 0 Q (F0 m 0 ls []) = W p l e ({ frames := 0, cells := σ0.2.2.2.2.1, slots := σ0.2.2.2.2.2.1, locals := 0 } : Room) s m ([.ref a0, .int x1, .int x2, .int x3] : List Value).toArray below meth cx s.heap [] cells slots Q (F0 m 0 ls []) by rw [e_cells, e_slots]]
  have hl : lv_has ls 4 [(0, .ref a0), (1, .int x1), (2, .int x2), (3, .int x3)] := hl
  unfold x_W_addField at hw
  refine lv_aload_n hx hb h_W_addField_0 rfl (lv_at hl 0 rfl) ?_
  obtain ⟨g1, hw⟩ := hw
  refine C_get C h 3 4 (v := va_rf (σ0.2.2.2.1 a0 4)) g1 rfl (Cn := R_W) (T := T_W) (N := 10) rfl (by decide) rfl uw_W (by decide) u_593 (fun _ q => q) h_W_addField_1 ?_
  refine lv_topq (fun b2 e_b2 => ?_)
  replace hw := hw b2 e_b2
  refine lv_aload_n hx hb h_W_addField_4 rfl (lv_at hl 0 rfl) ?_
  refine C_get C h 3 7 (v := .int (σ0.2.1 a0 7)) g1 rfl (Cn := R_W) (T := T_W) (N := 10) rfl (by decide) rfl uw_W (by decide) u_331 (fun _ q => q) h_W_addField_5 ?_
  refine lv_iload_n hx hb h_W_addField_8 rfl (lv_at hl 1 rfl) ?_
  obtain ⟨r3, e_r3, hw⟩ := hw
  subst e_r3
  have hl : lv_has ls 4 [(0, .ref a0), (1, .int x1), (2, .int x2), (3, .int x3)] := hl
  refine W.eq (g2 := F0 m 9 ls [.int x1, .int (σ0.2.1 a0 7), .ref r3]) rfl ?_
  obtain ⟨n5, g4, hw⟩ := hw
  obtain ⟨g6, hw⟩ := hw
  refine C_iast C h g4 g6 h_W_addField_9 (fun H locs h => ?_)
  obtain ⟨σ7, e_σ7⟩ : ∃ z : CST, z = sI σ0 r3 ((σ0.2.1 a0 7) : Int32).toNatClampNeg x1 := ⟨_, rfl⟩
  rw [← e_σ7] at h
  replace hw := hw σ7 e_σ7
  refine lv_aload_n hx hb h_W_addField_10 rfl (lv_at hl 0 rfl) ?_
  obtain ⟨g8, hw⟩ := hw
  refine C_get C h 3 5 (v := va_rf (σ7.2.2.2.1 a0 5)) g8 rfl (Cn := R_W) (T := T_W) (N := 10) rfl (by decide) rfl uw_W (by decide) u_332 (fun _ q => q) h_W_addField_11 ?_
  refine lv_topq (fun b9 e_b9 => ?_)
  replace hw := hw b9 e_b9
  refine lv_aload_n hx hb h_W_addField_14 rfl (lv_at hl 0 rfl) ?_
  refine C_get C h 3 7 (v := .int (σ7.2.1 a0 7)) g8 rfl (Cn := R_W) (T := T_W) (N := 10) rfl (by decide) rfl uw_W (by decide) u_331 (fun _ q => q) h_W_addField_15 ?_
  refine lv_iload_n hx hb h_W_addField_18 rfl (lv_at hl 2 rfl) ?_
  obtain ⟨r10, e_r10, hw⟩ := hw
  subst e_r10
  have hl : lv_has ls 4 [(0, .ref a0), (1, .int x1), (2, .int x2), (3, .int x3)] := hl
  refine W.eq (g2 := F0 m 19 ls [.int x2, .int (σ7.2.1 a0 7), .ref r10]) rfl ?_
  obtain ⟨n12, g11, hw⟩ := hw
  obtain ⟨g13, hw⟩ := hw
  refine C_iast C h g11 g13 h_W_addField_19 (fun H locs h => ?_)
  obtain ⟨σ14, e_σ14⟩ : ∃ z : CST, z = sI σ7 r10 ((σ7.2.1 a0 7) : Int32).toNatClampNeg x2 := ⟨_, rfl⟩
  rw [← e_σ14] at h
  replace hw := hw σ14 e_σ14
  refine lv_aload_n hx hb h_W_addField_20 rfl (lv_at hl 0 rfl) ?_
  obtain ⟨g15, hw⟩ := hw
  refine C_get C h 3 6 (v := va_rf (σ14.2.2.2.1 a0 6)) g15 rfl (Cn := R_W) (T := T_W) (N := 10) rfl (by decide) rfl uw_W (by decide) u_703 (fun _ q => q) h_W_addField_21 ?_
  refine lv_topq (fun b16 e_b16 => ?_)
  replace hw := hw b16 e_b16
  refine lv_aload_n hx hb h_W_addField_24 rfl (lv_at hl 0 rfl) ?_
  refine C_get C h 3 7 (v := .int (σ14.2.1 a0 7)) g15 rfl (Cn := R_W) (T := T_W) (N := 10) rfl (by decide) rfl uw_W (by decide) u_331 (fun _ q => q) h_W_addField_25 ?_
  refine lv_iload_n hx hb h_W_addField_28 rfl (lv_at hl 3 rfl) ?_
  obtain ⟨r17, e_r17, hw⟩ := hw
  subst e_r17
  have hl : lv_has ls 4 [(0, .ref a0), (1, .int x1), (2, .int x2), (3, .int x3)] := hl
  refine W.eq (g2 := F0 m 29 ls [.int x3, .int (σ14.2.1 a0 7), .ref r17]) rfl ?_
  obtain ⟨n19, g18, hw⟩ := hw
  obtain ⟨g20, hw⟩ := hw
  refine C_zast C h g18 g20 h_W_addField_29 (fun H locs h => ?_)
  obtain ⟨σ21, e_σ21⟩ : ∃ z : CST, z = sI σ14 r17 ((σ14.2.1 a0 7) : Int32).toNatClampNeg (vp_nar .boolean x3) := ⟨_, rfl⟩
  rw [← e_σ21] at h
  replace hw := hw σ21 e_σ21
  refine lv_aload_n hx hb h_W_addField_30 rfl (lv_at hl 0 rfl) ?_
  refine lv_dup hx hb h_W_addField_31 rfl ?_
  obtain ⟨g22, hw⟩ := hw
  refine C_get C h 3 7 (v := .int (σ21.2.1 a0 7)) g22 rfl (Cn := R_W) (T := T_W) (N := 10) rfl (by decide) rfl uw_W (by decide) u_331 (fun _ q => q) h_W_addField_32 ?_
  refine lv_iconst (v := 1) hx hb h_W_addField_35 (by decide) ?_
  refine lv_iadd hx hb h_W_addField_36 ?_
  refine C_puti C h 3 7 g22 (Cn := R_W) (T := T_W) (N := 10) rfl (by decide) rfl uw_W tok_W nm_W (by decide) rfl u_331 (fun _ q => q) (Or.inl rfl) (by decide +kernel) h_W_addField_37 (fun H locs h => ?_)
  obtain ⟨σ23, e_σ23⟩ : ∃ z : CST, z = sI σ21 a0 7 ((σ21.2.1 a0 7) + 1) := ⟨_, rfl⟩
  rw [← e_σ23] at h
  replace hw := hw σ23 e_σ23
  refine lv_aload_n hx hb h_W_addField_40 rfl (lv_at hl 0 rfl) ?_
  obtain ⟨g24, hw⟩ := hw
  refine C_get C h 3 7 (v := .int (σ23.2.1 a0 7)) g24 rfl (Cn := R_W) (T := T_W) (N := 10) rfl (by decide) rfl uw_W (by decide) u_331 (fun _ q => q) h_W_addField_41 ?_
  refine lv_iconst (v := 1) hx hb h_W_addField_44 (by decide) ?_
  refine lv_isub hx hb h_W_addField_45 ?_
  exact hend ((σ23.2.1 a0 7) - 1) σ23 _ _ _ _ _ _ hw h h_W_addField_46
abbrev g_W_argumentType : MethodName := ⟨"MapFramer$World", "argumentType", "(II)I"⟩
theorem h_W_argumentType_0 : decode prog_12_method_5_code 0 = .ok (.iload_n 0, 1) := by decide +kernel
theorem h_W_argumentType_1 : decode prog_12_method_5_code 1 = .ok (.bipush 8, 2) := by decide +kernel
theorem h_W_argumentType_3 : decode prog_12_method_5_code 3 = .ok (.iload_n 1, 1) := by decide +kernel
theorem h_W_argumentType_4 : decode prog_12_method_5_code 4 = .ok (.imul, 1) := by decide +kernel
theorem h_W_argumentType_5 : decode prog_12_method_5_code 5 = .ok (.iushr, 1) := by decide +kernel
theorem h_W_argumentType_6 : decode prog_12_method_5_code 6 = .ok (.sipush 255, 3) := by decide +kernel
theorem h_W_argumentType_9 : decode prog_12_method_5_code 9 = .ok (.iand, 1) := by decide +kernel
theorem h_W_argumentType_10 : decode prog_12_method_5_code 10 = .ok (.ireturn, 1) := by decide +kernel
def x_W_argumentType (x0 : Int32) (x1 : Int32) (σ0 : CST) (P : Int32 → CST → Prop) : Prop := ∀ b1 : Int32, b1 = ((x0 : Int32).toUInt32 >>> ((((8 : Int32) * x1) : Int32).toUInt32 &&& Int32.toUInt32 31)).toInt32 → ∀ b2 : Int32, b2 = (b1 &&& 255) → P b2 σ0
set_option maxHeartbeats 4000000 in
set_option maxRecDepth 100000 in
theorem X_W_argumentType (l : Launch) (dC : Nat → ClassId) (dI : Nat → Nat → Nat) (ca : Nat → ClassId) (H0 : Heap) (σ0 : CST) (x0 : Int32) (x1 : Int32) {P : Int32 → CST → Prop} (hw : x_W_argumentType x0 x1 σ0 P) : Met l g_W_argumentType (mW g_W_argumentType prog_12_method_5_code 2 (some .int)) ({ frames := 0, cells := σ0.2.2.2.2.1, slots := σ0.2.2.2.2.2.1, locals := 0 } : Room) (va_Pc [.int x0, .int x1] (CPre (dC, dI) ca σ0 H0)) (va_Qi P (CB (dC, dI) ca σ0 H0) (cA σ0 H0.size)) σ0.2.2.2.2.1 σ0.2.2.2.2.2.1 (cA σ0 H0.size) := by
  refine C_ofi (by decide +kernel) rfl rfl rfl (Nat.le_of_ble_eq_true rfl) ?_
  intro p e s m below meth cx Q A ls C hnm hend hH0 h hl
  subst hH0
  have C0 := C
  obtain ⟨⟨hx, hb, hml, hown, hts⟩, hsub⟩ := C0
  obtain ⟨cells, e_cells⟩ : ∃ z : Nat, z = 0 := ⟨_, rfl⟩
  obtain ⟨slots, e_slots⟩ : ∃ z : Nat, z = 0 := ⟨_, rfl⟩
  have h : CH (dC, dI) A ca ({ frames := 0, cells := σ0.2.2.2.2.1, slots := σ0.2.2.2.2.2.1, locals := 0 } : Room) σ0.2.2.2.2.2.2 σ0 s s.heap [] cells slots := by rw [e_cells, e_slots]; exact h
  show W p l e ({ frames := 0, cells := σ0.2.2.2.2.1, slots := σ0.2.2.2.2.2.1, locals := 0 } : Room) s m ([.int x0, .int x1] : List Value).toArray below meth cx s.heap [] 0 0 Q (F0 m 0 ls [])
  rw [show W p l e ({ frames := 0, cells := σ0.2.2.2.2.1, slots := σ0.2.2.2.2.2.1, locals := 0 } : Room) s m ([.int x0, .int x1] : List Value).toArray below meth cx s.heap [] 0 0 Q (F0 m 0 ls []) = W p l e ({ frames := 0, cells := σ0.2.2.2.2.1, slots := σ0.2.2.2.2.2.1, locals := 0 } : Room) s m ([.int x0, .int x1] : List Value).toArray below meth cx s.heap [] cells slots Q (F0 m 0 ls []) by rw [e_cells, e_slots]]
  have hl : lv_has ls 2 [(0, .int x0), (1, .int x1)] := hl
  unfold x_W_argumentType at hw
  refine lv_iload_n hx hb h_W_argumentType_0 rfl (lv_at hl 0 rfl) ?_
  refine lv_bipush (v := 8) hx hb h_W_argumentType_1 (by decide) ?_
  refine lv_iload_n hx hb h_W_argumentType_3 rfl (lv_at hl 1 rfl) ?_
  refine lv_imul hx hb h_W_argumentType_4 ?_
  refine lv_iushr (v := ((x0 : Int32).toUInt32 >>> ((((8 : Int32) * x1) : Int32).toUInt32 &&& Int32.toUInt32 31)).toInt32) hx hb h_W_argumentType_5 rfl ?_
  refine lv_topi (fun b1 e_b1 => ?_)
  replace hw := hw b1 e_b1
  refine lv_sipush (v := 255) hx hb h_W_argumentType_6 (by decide) ?_
  refine lv_iand hx hb h_W_argumentType_9 ?_
  refine lv_topi (fun b2 e_b2 => ?_)
  replace hw := hw b2 e_b2
  exact hend b2 σ0 _ _ _ _ _ _ hw h h_W_argumentType_10
abbrev g_W_argumentCount : MethodName := ⟨"MapFramer$World", "argumentCount", "(I)I"⟩
theorem u_860 : (Cond.methodLink "MapFramer$World" 48 ⟨"MapFramer$World", "argumentType", "(II)I"⟩ : Cond) ∈ bigW := inB_2 111 (by decide +kernel) rfl
theorem u_861 : (Cond.static ⟨"MapFramer$World", "argumentType", "(II)I"⟩ : Cond) ∈ bigW := inB_2 112 (by decide +kernel) rfl
theorem u_862 : (Cond.code ⟨"MapFramer$World", "argumentType", "(II)I"⟩ prog_12_method_5_code 2 (some .int) : Cond) ∈ bigW := inB_2 113 rfl rfl
theorem h_W_argumentCount_0 : decode prog_12_method_6_code 0 = .ok (.iconst 0, 1) := by decide +kernel
theorem h_W_argumentCount_1 : decode prog_12_method_6_code 1 = .ok (.istore_n 1, 1) := by decide +kernel
theorem h_W_argumentCount_2 : decode prog_12_method_6_code 2 = .ok (.iload_n 1, 1) := by decide +kernel
theorem h_W_argumentCount_3 : decode prog_12_method_6_code 3 = .ok (.iconst 4, 1) := by decide +kernel
theorem h_W_argumentCount_4 : decode prog_12_method_6_code 4 = .ok (.if_icmp .ge 17, 3) := by decide +kernel
theorem h_W_argumentCount_7 : decode prog_12_method_6_code 7 = .ok (.iload_n 0, 1) := by decide +kernel
theorem h_W_argumentCount_8 : decode prog_12_method_6_code 8 = .ok (.iload_n 1, 1) := by decide +kernel
theorem h_W_argumentCount_9 : decode prog_12_method_6_code 9 = .ok (.invokestatic 48, 3) := by decide +kernel
theorem h_W_argumentCount_12 : decode prog_12_method_6_code 12 = .ok (.ifCond .eq 9, 3) := by decide +kernel
theorem h_W_argumentCount_15 : decode prog_12_method_6_code 15 = .ok (.iinc 1 1, 3) := by decide +kernel
theorem h_W_argumentCount_18 : decode prog_12_method_6_code 18 = .ok (.goto (-16), 3) := by decide +kernel
theorem h_W_argumentCount_21 : decode prog_12_method_6_code 21 = .ok (.iload_n 1, 1) := by decide +kernel
theorem h_W_argumentCount_22 : decode prog_12_method_6_code 22 = .ok (.ireturn, 1) := by decide +kernel
def x_W_argumentCount_2 (P : Int32 → CST → Prop) : Nat → Int32 → Int32 → CST → Prop
  | 0, _, _, _ => False
  | n + 1, z0, z1, σ => ((4 ≤ z1 → P z1 σ) ∧ (¬ 4 ≤ z1 → x_W_argumentType z0 z1 σ (fun r3 σ2 => ((r3 = 0 → P z1 σ2) ∧ (¬ r3 = 0 → x_W_argumentCount_2 P n z0 (z1 + 1) σ2)))))
def x_W_argumentCount (x0 : Int32) (σ0 : CST) (P : Int32 → CST → Prop) : Prop := (∃ n9 : Nat, x_W_argumentCount_2 P n9 x0 0 σ0)
set_option maxHeartbeats 4000000 in
set_option maxRecDepth 100000 in
theorem X_W_argumentCount (l : Launch) (dC : Nat → ClassId) (dI : Nat → Nat → Nat) (ca : Nat → ClassId) (H0 : Heap) (σ0 : CST) (x0 : Int32) {P : Int32 → CST → Prop} (hw : x_W_argumentCount x0 σ0 P) : Met l g_W_argumentCount (mW g_W_argumentCount prog_12_method_6_code 2 (some .int)) ({ frames := 1, cells := σ0.2.2.2.2.1, slots := σ0.2.2.2.2.2.1, locals := 21 } : Room) (va_Pc [.int x0] (CPre (dC, dI) ca σ0 H0)) (va_Qi P (CB (dC, dI) ca σ0 H0) (cA σ0 H0.size)) σ0.2.2.2.2.1 σ0.2.2.2.2.2.1 (cA σ0 H0.size) := by
  refine C_ofi (by decide +kernel) rfl rfl rfl (Nat.le_of_ble_eq_true rfl) ?_
  intro p e s m below meth cx Q A ls C hnm hend hH0 h hl
  subst hH0
  have C0 := C
  obtain ⟨⟨hx, hb, hml, hown, hts⟩, hsub⟩ := C0
  obtain ⟨cells, e_cells⟩ : ∃ z : Nat, z = 0 := ⟨_, rfl⟩
  obtain ⟨slots, e_slots⟩ : ∃ z : Nat, z = 0 := ⟨_, rfl⟩
  have h : CH (dC, dI) A ca ({ frames := 1, cells := σ0.2.2.2.2.1, slots := σ0.2.2.2.2.2.1, locals := 21 } : Room) σ0.2.2.2.2.2.2 σ0 s s.heap [] cells slots := by rw [e_cells, e_slots]; exact h
  show W p l e ({ frames := 1, cells := σ0.2.2.2.2.1, slots := σ0.2.2.2.2.2.1, locals := 21 } : Room) s m ([.int x0] : List Value).toArray below meth cx s.heap [] 0 0 Q (F0 m 0 ls [])
  rw [show W p l e ({ frames := 1, cells := σ0.2.2.2.2.1, slots := σ0.2.2.2.2.2.1, locals := 21 } : Room) s m ([.int x0] : List Value).toArray below meth cx s.heap [] 0 0 Q (F0 m 0 ls []) = W p l e ({ frames := 1, cells := σ0.2.2.2.2.1, slots := σ0.2.2.2.2.2.1, locals := 21 } : Room) s m ([.int x0] : List Value).toArray below meth cx s.heap [] cells slots Q (F0 m 0 ls []) by rw [e_cells, e_slots]]
  have K_2 : ∀ (n : Nat), ∀ (z0 : Int32) (z1 : Int32) (σ : CST) (H : Heap) (locs : List Loc) (cells slots : Nat) (ls : Array Slot), x_W_argumentCount_2 P n z0 z1 σ → CH (dC, dI) A ca ({ frames := 1, cells := σ0.2.2.2.2.1, slots := σ0.2.2.2.2.2.1, locals := 21 } : Room) σ0.2.2.2.2.2.2 σ s H locs cells slots → lv_has ls 2 [(0, .int z0), (1, .int z1)] → W p l e ({ frames := 1, cells := σ0.2.2.2.2.1, slots := σ0.2.2.2.2.2.1, locals := 21 } : Room) s m ([.int x0] : List Value).toArray below meth cx H locs cells slots Q (F0 m 2 ls []) := by
    intro  n
    induction n with
    | zero => intro z0 z1 σ H locs cells slots ls hw h hl; unfold x_W_argumentCount_2 at hw; exact hw.elim
    | succ n ih =>
      intro z0 z1 σ H locs cells slots ls hw h hl
      unfold x_W_argumentCount_2 at hw
      refine lv_iload_n hx hb h_W_argumentCount_2 rfl (lv_at hl 1 rfl) ?_
      refine lv_iconst (v := 4) hx hb h_W_argumentCount_3 (by decide) ?_
      refine lv_icmp_ge (tgt := 21) hx hb h_W_argumentCount_4 (by decide) (fun c1 => ?_) (fun c1 => ?_)
      · skip
        replace hw := hw.1 c1
        refine lv_iload_n hx hb h_W_argumentCount_21 rfl (lv_at hl 1 rfl) ?_
        exact hend z1 σ _ _ _ _ _ _ hw h h_W_argumentCount_22
      · skip
        replace hw := hw.2 c1
        refine lv_iload_n hx hb h_W_argumentCount_7 rfl (lv_at hl 0 rfl) ?_
        refine lv_iload_n hx hb h_W_argumentCount_8 rfl (lv_at hl 1 rfl) ?_
        refine C_callSi (As := [.int z0, .int z1]) (rest := []) C h (X_W_argumentType l dC dI ca H σ z0 z1 hw) (va_cwS 2 hts (gS hsub u_860 u_861 u_51 u_862) rfl rfl rfl (by decide +kernel) ⟨(Nat.le_of_ble_eq_true rfl), (Nat.le_of_ble_eq_true rfl)⟩) rfl hl.1 (Nat.le_of_ble_eq_true rfl) h_W_argumentCount_9 (fun r3 σ2 H locs cells slots hw9 h9 => ?_)
        clear hw h; have hw := hw9; have h := h9; clear hw9 h9
        refine W.eq (g2 := F0 m 12 ls [.int r3]) rfl ?_
        refine lv_if_eq (tgt := 21) hx hb h_W_argumentCount_12 (by decide) (fun c4 => ?_) (fun c4 => ?_)
        · skip
          replace hw := hw.1 c4
          refine lv_iload_n hx hb h_W_argumentCount_21 rfl (lv_at hl 1 rfl) ?_
          exact hend z1 σ2 _ _ _ _ _ _ hw h h_W_argumentCount_22
        · skip
          replace hw := hw.2 c4
          refine lv_iinc (v := (z1 + 1)) (lv' := [(1, .int (z1 + 1)), (0, .int z0)]) hx hb h_W_argumentCount_15 hl (k := 1) rfl (rfl) (by decide) rfl (fun ls hl => ?_)
          refine lv_goto (tgt := 2) hx hb h_W_argumentCount_18 (by decide) ?_
          exact ih z0 (z1 + 1) σ2 _ _ _ _ _ hw h (lv_sub hl [1, 0] rfl)
  have hl : lv_has ls 2 [(0, .int x0)] := hl
  unfold x_W_argumentCount at hw
  refine lv_iconst (v := 0) hx hb h_W_argumentCount_0 (by decide) ?_
  refine lv_istore_n (i := 1) (lv' := [(1, .int 0), (0, .int x0)]) hx hb h_W_argumentCount_1 rfl hl (by decide) rfl (fun ls hl => ?_)
  obtain ⟨n9, hw⟩ := hw
  exact K_2 n9 x0 0 σ0 _ _ _ _ _ hw h (lv_sub hl [1, 0] rfl)
abbrev g_W_addMethod : MethodName := ⟨"MapFramer$World", "addMethod", "(II)I"⟩
theorem u_863 : (Cond.instantiable "MapFramer$Method" 13 : Cond) ∈ bigW := inB_2 123 (by decide +kernel) rfl
theorem u_864 : (Cond.code ⟨"MapFramer$Method", "<init>", "([II)V"⟩ prog_7_method_1_code 3 none : Cond) ∈ bigW := inB_2 126 rfl rfl
theorem u_865 : (Cond.methodLink "MapFramer$World" 55 ⟨"MapFramer$Method", "<init>", "([II)V"⟩ : Cond) ∈ bigW := inB_2 124 (by decide +kernel) rfl
theorem u_866 : (Cond.instanceMethod ⟨"MapFramer$Method", "<init>", "([II)V"⟩ : Cond) ∈ bigW := inB_2 125 (by decide +kernel) rfl
theorem u_867 : (Cond.methodLink "MapFramer$World" 44 ⟨"MapFramer$World", "argumentCount", "(I)I"⟩ : Cond) ∈ bigW := inB_2 122 (by decide +kernel) rfl
theorem u_868 : (Cond.static ⟨"MapFramer$World", "argumentCount", "(I)I"⟩ : Cond) ∈ bigW := inB_2 109 (by decide +kernel) rfl
theorem u_869 : (Cond.code ⟨"MapFramer$World", "argumentCount", "(I)I"⟩ prog_12_method_6_code 2 (some .int) : Cond) ∈ bigW := inB_2 110 rfl rfl
theorem h_W_addMethod_0 : decode prog_12_method_4_code 0 = .ok (.iload_n 1, 1) := by decide +kernel
theorem h_W_addMethod_1 : decode prog_12_method_4_code 1 = .ok (.invokestatic 44, 3) := by decide +kernel
theorem h_W_addMethod_4 : decode prog_12_method_4_code 4 = .ok (.newarray .int, 2) := by decide +kernel
theorem h_W_addMethod_6 : decode prog_12_method_4_code 6 = .ok (.astore_n 3, 1) := by decide +kernel
theorem h_W_addMethod_7 : decode prog_12_method_4_code 7 = .ok (.iconst 0, 1) := by decide +kernel
theorem h_W_addMethod_8 : decode prog_12_method_4_code 8 = .ok (.istore 4, 2) := by decide +kernel
theorem h_W_addMethod_10 : decode prog_12_method_4_code 10 = .ok (.iload 4, 2) := by decide +kernel
theorem h_W_addMethod_12 : decode prog_12_method_4_code 12 = .ok (.aload_n 3, 1) := by decide +kernel
theorem h_W_addMethod_13 : decode prog_12_method_4_code 13 = .ok (.arraylength, 1) := by decide +kernel
theorem h_W_addMethod_14 : decode prog_12_method_4_code 14 = .ok (.if_icmp .ge 19, 3) := by decide +kernel
theorem h_W_addMethod_17 : decode prog_12_method_4_code 17 = .ok (.aload_n 3, 1) := by decide +kernel
theorem h_W_addMethod_18 : decode prog_12_method_4_code 18 = .ok (.iload 4, 2) := by decide +kernel
theorem h_W_addMethod_20 : decode prog_12_method_4_code 20 = .ok (.iload_n 1, 1) := by decide +kernel
theorem h_W_addMethod_21 : decode prog_12_method_4_code 21 = .ok (.iload 4, 2) := by decide +kernel
theorem h_W_addMethod_23 : decode prog_12_method_4_code 23 = .ok (.invokestatic 48, 3) := by decide +kernel
theorem h_W_addMethod_26 : decode prog_12_method_4_code 26 = .ok (.iastore, 1) := by decide +kernel
theorem h_W_addMethod_27 : decode prog_12_method_4_code 27 = .ok (.iinc 4 1, 3) := by decide +kernel
theorem h_W_addMethod_30 : decode prog_12_method_4_code 30 = .ok (.goto (-20), 3) := by decide +kernel
theorem h_W_addMethod_33 : decode prog_12_method_4_code 33 = .ok (.aload_n 0, 1) := by decide +kernel
theorem h_W_addMethod_34 : decode prog_12_method_4_code 34 = .ok (.getfield 33, 3) := by decide +kernel
theorem h_W_addMethod_37 : decode prog_12_method_4_code 37 = .ok (.aload_n 0, 1) := by decide +kernel
theorem h_W_addMethod_38 : decode prog_12_method_4_code 38 = .ok (.getfield 52, 3) := by decide +kernel
theorem h_W_addMethod_41 : decode prog_12_method_4_code 41 = .ok (.new 31, 3) := by decide +kernel
theorem h_W_addMethod_44 : decode prog_12_method_4_code 44 = .ok (.dup, 1) := by decide +kernel
theorem h_W_addMethod_45 : decode prog_12_method_4_code 45 = .ok (.aload_n 3, 1) := by decide +kernel
theorem h_W_addMethod_46 : decode prog_12_method_4_code 46 = .ok (.iload_n 2, 1) := by decide +kernel
theorem h_W_addMethod_47 : decode prog_12_method_4_code 47 = .ok (.invokespecial 55, 3) := by decide +kernel
theorem h_W_addMethod_50 : decode prog_12_method_4_code 50 = .ok (.aastore, 1) := by decide +kernel
theorem h_W_addMethod_51 : decode prog_12_method_4_code 51 = .ok (.aload_n 0, 1) := by decide +kernel
theorem h_W_addMethod_52 : decode prog_12_method_4_code 52 = .ok (.dup, 1) := by decide +kernel
theorem h_W_addMethod_53 : decode prog_12_method_4_code 53 = .ok (.getfield 52, 3) := by decide +kernel
theorem h_W_addMethod_56 : decode prog_12_method_4_code 56 = .ok (.iconst 1, 1) := by decide +kernel
theorem h_W_addMethod_57 : decode prog_12_method_4_code 57 = .ok (.iadd, 1) := by decide +kernel
theorem h_W_addMethod_58 : decode prog_12_method_4_code 58 = .ok (.putfield 52, 3) := by decide +kernel
theorem h_W_addMethod_61 : decode prog_12_method_4_code 61 = .ok (.aload_n 0, 1) := by decide +kernel
theorem h_W_addMethod_62 : decode prog_12_method_4_code 62 = .ok (.getfield 52, 3) := by decide +kernel
theorem h_W_addMethod_65 : decode prog_12_method_4_code 65 = .ok (.iconst 1, 1) := by decide +kernel
theorem h_W_addMethod_66 : decode prog_12_method_4_code 66 = .ok (.isub, 1) := by decide +kernel
theorem h_W_addMethod_67 : decode prog_12_method_4_code 67 = .ok (.ireturn, 1) := by decide +kernel
def x_W_addMethod_10 (a0 : Nat) (P : Int32 → CST → Prop) : Nat → Int32 → Int32 → Option Nat → Int32 → CST → Prop
  | 0, _, _, _, _, _ => False
  | n + 1, z1, z2, z3, z4, σ => (∃ r1 : Nat, z3 = some r1 ∧ ((∃ n3 : Nat, σ.1 r1 = some (20, n3) ∧ ((((Int32.ofNat n3) ≤ z4 → σ.1 a0 = some (3, 0) ∧ (∀ b6 : Option Nat, b6 = (σ.2.2.2.1 a0 8) → (1 ≤ σ.2.2.2.2.1 ∧ 13 ≤ σ.2.2.2.2.2.1 ∧ ∀ q7 : Nat, σ.1 q7 = none → q7 ≠ σ.2.2.2.2.2.2.1 → ∀ σ11 : CST, σ11 = nw σ q7 5 0 13 → x_E_init q7 r1 z2 σ11 (fun σ12 => (∃ r14 : Nat, b6 = some r14 ∧ ((∃ n16 : Nat, σ12.1 r14 = some (24, n16) ∧ (σ12.1 q7 = some (5, 0) ∧ (vp_in (σ.2.1 a0 9) n16 ∧ (∀ σ19 : CST, σ19 = sR σ12 r14 ((σ.2.1 a0 9) : Int32).toNatClampNeg (some q7) → σ19.1 a0 = some (3, 0) ∧ (∀ σ21 : CST, σ21 = sI σ19 a0 9 ((σ19.2.1 a0 9) + 1) → σ21.1 a0 = some (3, 0) ∧ (P ((σ21.2.1 a0 9) - 1) σ21)))))))))))) ∧ (¬ (Int32.ofNat n3) ≤ z4 → x_W_argumentType z1 z4 σ (fun r24 σ23 => (∃ n26 : Nat, σ23.1 r1 = some (20, n26) ∧ (vp_in z4 n26 ∧ (∀ σ28 : CST, σ28 = sI σ23 r1 (z4 : Int32).toNatClampNeg r24 → x_W_addMethod_10 a0 P n z1 z2 (some r1) (z4 + 1) σ28))))))))))
def x_W_addMethod (a0 : Nat) (x1 : Int32) (x2 : Int32) (σ0 : CST) (P : Int32 → CST → Prop) : Prop := x_W_argumentCount x1 σ0 (fun r30 σ29 => (¬ (r30 : Int32) < 0 ∧ (r30 : Int32).toNatClampNeg ≤ 60000000 ∧ 1 ≤ σ29.2.2.2.2.1 ∧ (r30 : Int32).toNatClampNeg ≤ σ29.2.2.2.2.2.1 ∧ ∀ q31 : Nat, σ29.1 q31 = none → q31 ≠ σ29.2.2.2.2.2.2.1 → ∀ σ37 : CST, σ37 = nw σ29 q31 20 (r30 : Int32).toNatClampNeg (r30 : Int32).toNatClampNeg → (∃ n9 : Nat, x_W_addMethod_10 a0 P n9 x1 x2 (some q31) 0 σ37)))
set_option maxHeartbeats 4000000 in
set_option maxRecDepth 100000 in
theorem X_W_addMethod (l : Launch) (dC : Nat → ClassId) (dI : Nat → Nat → Nat) (ca : Nat → ClassId) (H0 : Heap) (σ0 : CST) (a0 : Nat) (x1 : Int32) (x2 : Int32) {P : Int32 → CST → Prop} (hw : x_W_addMethod a0 x1 x2 σ0 P) : Met l g_W_addMethod (mW g_W_addMethod prog_12_method_4_code 5 (some .int)) ({ frames := 5, cells := σ0.2.2.2.2.1, slots := σ0.2.2.2.2.2.1, locals := 94 } : Room) (va_Pc [.ref a0, .int x1, .int x2] (CPre (dC, dI) ca σ0 H0)) (va_Qi P (CB (dC, dI) ca σ0 H0) (cA σ0 H0.size)) σ0.2.2.2.2.1 σ0.2.2.2.2.2.1 (cA σ0 H0.size) := by
  refine C_ofi (by decide +kernel) rfl rfl rfl (Nat.le_of_ble_eq_true rfl) ?_
  intro p e s m below meth cx Q A ls C hnm hend hH0 h hl
  subst hH0
  have C0 := C
  obtain ⟨⟨hx, hb, hml, hown, hts⟩, hsub⟩ := C0
  obtain ⟨cells, e_cells⟩ : ∃ z : Nat, z = 0 := ⟨_, rfl⟩
  obtain ⟨slots, e_slots⟩ : ∃ z : Nat, z = 0 := ⟨_, rfl⟩
  have h : CH (dC, dI) A ca ({ frames := 5, cells := σ0.2.2.2.2.1, slots := σ0.2.2.2.2.2.1, locals := 94 } : Room) σ0.2.2.2.2.2.2 σ0 s s.heap [] cells slots := by rw [e_cells, e_slots]; exact h
  show W p l e ({ frames := 5, cells := σ0.2.2.2.2.1, slots := σ0.2.2.2.2.2.1, locals := 94 } : Room) s m ([.ref a0, .int x1, .int x2] : List Value).toArray below meth cx s.heap [] 0 0 Q (F0 m 0 ls [])
  rw [show W p l e ({ frames := 5, cells := σ0.2.2.2.2.1, slots := σ0.2.2.2.2.2.1, locals := 94 } : Room) s m ([.ref a0, .int x1, .int x2] : List Value).toArray below meth cx s.heap [] 0 0 Q (F0 m 0 ls []) = W p l e ({ frames := 5, cells := σ0.2.2.2.2.1, slots := σ0.2.2.2.2.2.1, locals := 94 } : Room) s m ([.ref a0, .int x1, .int x2] : List Value).toArray below meth cx s.heap [] cells slots Q (F0 m 0 ls []) by rw [e_cells, e_slots]]
  have K_10 : ∀ (n : Nat), ∀ (z1 : Int32) (z2 : Int32) (z3 : Option Nat) (z4 : Int32) (σ : CST) (H : Heap) (locs : List Loc) (cells slots : Nat) (ls : Array Slot), x_W_addMethod_10 a0 P n z1 z2 z3 z4 σ → CH (dC, dI) A ca ({ frames := 5, cells := σ0.2.2.2.2.1, slots := σ0.2.2.2.2.2.1, locals := 94 } : Room) σ0.2.2.2.2.2.2 σ s H locs cells slots → lv_has ls 5 [(0, .ref a0), (1, .int z1), (2, .int z2), (3, va_rf z3), (4, .int z4)] → W p l e ({ frames := 5, cells := σ0.2.2.2.2.1, slots := σ0.2.2.2.2.2.1, locals := 94 } : Room) s m ([.ref a0, .int x1, .int x2] : List Value).toArray below meth cx H locs cells slots Q (F0 m 10 ls []) := by
    intro  n
    induction n with
    | zero => intro z1 z2 z3 z4 σ H locs cells slots ls hw h hl; unfold x_W_addMethod_10 at hw; exact hw.elim
    | succ n ih =>
      intro z1 z2 z3 z4 σ H locs cells slots ls hw h hl
      unfold x_W_addMethod_10 at hw
      refine lv_iload hx hb h_W_addMethod_10 (lv_at hl 4 rfl) ?_
      refine cq_aload_n hx hb h_W_addMethod_12 rfl (lv_at hl 3 rfl) ?_
      obtain ⟨r1, e_r1, hw⟩ := hw
      subst e_r1
      have hl : lv_has ls 5 [(0, .ref a0), (1, .int z1), (2, .int z2), (3, .ref r1), (4, .int z4)] := hl
      refine W.eq (g2 := F0 m 13 ls [.ref r1, .int z4]) rfl ?_
      obtain ⟨n3, g2, hw⟩ := hw
      refine C_alen C h 20 0 rfl (by decide) g2 h_W_addMethod_13 ?_
      refine lv_icmp_ge (tgt := 33) hx hb h_W_addMethod_14 (by decide) (fun c4 => ?_) (fun c4 => ?_)
      · skip
        replace hw := hw.1 c4
        refine lv_aload_n hx hb h_W_addMethod_33 rfl (lv_at hl 0 rfl) ?_
        obtain ⟨g5, hw⟩ := hw
        refine C_get C h 3 8 (v := va_rf (σ.2.2.2.1 a0 8)) g5 rfl (Cn := R_W) (T := T_W) (N := 10) rfl (by decide) rfl uw_W (by decide) u_338 (fun _ q => q) h_W_addMethod_34 ?_
        refine lv_topq (fun b6 e_b6 => ?_)
        replace hw := hw b6 e_b6
        refine lv_aload_n hx hb h_W_addMethod_37 rfl (lv_at hl 0 rfl) ?_
        refine C_get C h 3 9 (v := .int (σ.2.1 a0 9)) g5 rfl (Cn := R_W) (T := T_W) (N := 10) rfl (by decide) rfl uw_W (by decide) u_337 (fun _ q => q) h_W_addMethod_38 ?_
        obtain ⟨g8, g9, hw⟩ := hw
        refine C_new C h 5 (Cn := R_E) (T := T_E) (N := 13) rfl (by decide) uw_E tok_E (cdf_E rfl rfl rfl) u_859 u_863 u_229 g8 g9 h_W_addMethod_41 (fun q7 H g10 hz9 h => ?_)
        replace hw := hw q7 g10 hz9
        obtain ⟨σ11, e_σ11⟩ : ∃ z : CST, z = nw σ q7 5 0 13 := ⟨_, rfl⟩
        rw [← e_σ11] at h
        replace hw := hw σ11 e_σ11
        generalize cells + 1 = cells at h ⊢
        generalize slots + 13 = slots at h ⊢
        refine lv_dup hx hb h_W_addMethod_44 rfl ?_
        refine lv_aload_n hx hb h_W_addMethod_45 rfl (lv_at hl 3 rfl) ?_
        refine lv_iload_n hx hb h_W_addMethod_46 rfl (lv_at hl 2 rfl) ?_
        refine C_callIv (As := [.ref r1, .int z2]) (rest := [.ref q7, .int (σ.2.1 a0 9), va_rf b6]) C h (X_E_init l dC dI ca H σ11 q7 r1 z2 hw) (cwI 2 hts (gC hsub u_864) rfl rfl rfl (hts _ (hsub _ u_229)) (hts _ (hsub _ u_865)) (hts _ (hsub _ u_866)) rfl (by decide +kernel) ⟨(Nat.le_of_ble_eq_true rfl), (Nat.le_of_ble_eq_true rfl)⟩) rfl hl.1 (by simp only [List.map_cons, List.map_nil, List.sum_cons, List.sum_nil, cq_cat]; exact Nat.le_of_ble_eq_true rfl) h_W_addMethod_47 (fun σ12 H locs cells slots hw9 h9 => ?_)
        clear hw h; have hw := hw9; have h := h9; clear hw9 h9
        refine W.eq (g2 := F0 m 50 ls [.ref q7, .int (σ.2.1 a0 9), va_rf b6]) rfl ?_
        obtain ⟨r14, e_r14, hw⟩ := hw
        subst e_r14
        have hl : lv_has ls 5 [(0, .ref a0), (1, .int z1), (2, .int z2), (3, .ref r1), (4, .int z4)] := hl
        refine W.eq (g2 := F0 m 50 ls [.ref q7, .int (σ.2.1 a0 9), .ref r14]) rfl ?_
        obtain ⟨n16, g15, hw⟩ := hw
        obtain ⟨g17, hw⟩ := hw
        obtain ⟨g18, hw⟩ := hw
        refine C_aast C h 24 3 (r := (R_E, T_E, 13)) rfl g17 rfl (by decide) (by decide) g15 g18 h_W_addMethod_50 (fun H locs h => ?_)
        obtain ⟨σ19, e_σ19⟩ : ∃ z : CST, z = sR σ12 r14 ((σ.2.1 a0 9) : Int32).toNatClampNeg (some q7) := ⟨_, rfl⟩
        rw [← e_σ19] at h
        replace hw := hw σ19 e_σ19
        refine lv_aload_n hx hb h_W_addMethod_51 rfl (lv_at hl 0 rfl) ?_
        refine lv_dup hx hb h_W_addMethod_52 rfl ?_
        obtain ⟨g20, hw⟩ := hw
        refine C_get C h 3 9 (v := .int (σ19.2.1 a0 9)) g20 rfl (Cn := R_W) (T := T_W) (N := 10) rfl (by decide) rfl uw_W (by decide) u_337 (fun _ q => q) h_W_addMethod_53 ?_
        refine lv_iconst (v := 1) hx hb h_W_addMethod_56 (by decide) ?_
        refine lv_iadd hx hb h_W_addMethod_57 ?_
        refine C_puti C h 3 9 g20 (Cn := R_W) (T := T_W) (N := 10) rfl (by decide) rfl uw_W tok_W nm_W (by decide) rfl u_337 (fun _ q => q) (Or.inl rfl) (by decide +kernel) h_W_addMethod_58 (fun H locs h => ?_)
        obtain ⟨σ21, e_σ21⟩ : ∃ z : CST, z = sI σ19 a0 9 ((σ19.2.1 a0 9) + 1) := ⟨_, rfl⟩
        rw [← e_σ21] at h
        replace hw := hw σ21 e_σ21
        refine lv_aload_n hx hb h_W_addMethod_61 rfl (lv_at hl 0 rfl) ?_
        obtain ⟨g22, hw⟩ := hw
        refine C_get C h 3 9 (v := .int (σ21.2.1 a0 9)) g22 rfl (Cn := R_W) (T := T_W) (N := 10) rfl (by decide) rfl uw_W (by decide) u_337 (fun _ q => q) h_W_addMethod_62 ?_
        refine lv_iconst (v := 1) hx hb h_W_addMethod_65 (by decide) ?_
        refine lv_isub hx hb h_W_addMethod_66 ?_
        exact hend ((σ21.2.1 a0 9) - 1) σ21 _ _ _ _ _ _ hw h h_W_addMethod_67
      · skip
        replace hw := hw.2 c4
        refine lv_aload_n hx hb h_W_addMethod_17 rfl (lv_at hl 3 rfl) ?_
        refine lv_iload hx hb h_W_addMethod_18 (lv_at hl 4 rfl) ?_
        refine lv_iload_n hx hb h_W_addMethod_20 rfl (lv_at hl 1 rfl) ?_
        refine lv_iload hx hb h_W_addMethod_21 (lv_at hl 4 rfl) ?_
        refine C_callSi (As := [.int z1, .int z4]) (rest := [.int z4, .ref r1]) C h (X_W_argumentType l dC dI ca H σ z1 z4 hw) (va_cwS 2 hts (gS hsub u_860 u_861 u_51 u_862) rfl rfl rfl (by decide +kernel) ⟨(Nat.le_of_ble_eq_true rfl), (Nat.le_of_ble_eq_true rfl)⟩) rfl hl.1 (Nat.le_of_ble_eq_true rfl) h_W_addMethod_23 (fun r24 σ23 H locs cells slots hw9 h9 => ?_)
        clear hw h; have hw := hw9; have h := h9; clear hw9 h9
        refine W.eq (g2 := F0 m 26 ls [.int r24, .int z4, .ref r1]) rfl ?_
        obtain ⟨n26, g25, hw⟩ := hw
        obtain ⟨g27, hw⟩ := hw
        refine C_iast C h g25 g27 h_W_addMethod_26 (fun H locs h => ?_)
        obtain ⟨σ28, e_σ28⟩ : ∃ z : CST, z = sI σ23 r1 (z4 : Int32).toNatClampNeg r24 := ⟨_, rfl⟩
        rw [← e_σ28] at h
        replace hw := hw σ28 e_σ28
        refine lv_iinc (v := (z4 + 1)) (lv' := [(4, .int (z4 + 1)), (0, .ref a0), (1, .int z1), (2, .int z2), (3, .ref r1)]) hx hb h_W_addMethod_27 hl (k := 4) rfl (rfl) (by decide) rfl (fun ls hl => ?_)
        refine lv_goto (tgt := 10) hx hb h_W_addMethod_30 (by decide) ?_
        exact ih z1 z2 (some r1) (z4 + 1) σ28 _ _ _ _ _ hw h (lv_sub hl [1, 2, 3, 4, 0] rfl)
  have hl : lv_has ls 5 [(0, .ref a0), (1, .int x1), (2, .int x2)] := hl
  unfold x_W_addMethod at hw
  refine lv_iload_n hx hb h_W_addMethod_0 rfl (lv_at hl 1 rfl) ?_
  refine C_callSi (As := [.int x1]) (rest := []) C h (X_W_argumentCount l dC dI ca s.heap σ0 x1 hw) (va_cwS 1 hts (gS hsub u_867 u_868 u_51 u_869) rfl rfl rfl (by decide +kernel) ⟨(Nat.le_of_ble_eq_true rfl), (Nat.le_of_ble_eq_true rfl)⟩) rfl hl.1 (Nat.le_of_ble_eq_true rfl) h_W_addMethod_1 (fun r30 σ29 H locs cells slots hw9 h9 => ?_)
  clear hw h; have hw := hw9; have h := h9; clear hw9 h9
  refine W.eq (g2 := F0 m 4 ls [.int r30]) rfl ?_
  obtain ⟨g35, g36, g32, g33, hw⟩ := hw
  refine C_newai C h u_19 g35 rfl g36 g32 g33 h_W_addMethod_4 (fun q31 H g34 hz9 h => ?_)
  replace hw := hw q31 g34 hz9
  obtain ⟨σ37, e_σ37⟩ : ∃ z : CST, z = nw σ29 q31 20 (r30 : Int32).toNatClampNeg (r30 : Int32).toNatClampNeg := ⟨_, rfl⟩
  rw [← e_σ37] at h
  replace hw := hw σ37 e_σ37
  generalize cells + 1 = cells at h ⊢
  generalize slots + (r30 : Int32).toNatClampNeg = slots at h ⊢
  refine lv_astore_n (i := 3) (lv' := [(3, .ref q31), (0, .ref a0), (1, .int x1), (2, .int x2)]) hx hb h_W_addMethod_6 rfl hl (by decide) rfl (fun ls hl => ?_)
  refine lv_iconst (v := 0) hx hb h_W_addMethod_7 (by decide) ?_
  refine lv_istore (lv' := [(4, .int 0), (3, .ref q31), (0, .ref a0), (1, .int x1), (2, .int x2)]) hx hb h_W_addMethod_8 hl (by decide) rfl (fun ls hl => ?_)
  obtain ⟨n9, hw⟩ := hw
  exact K_10 n9 x1 x2 (some q31) 0 σ37 _ _ _ _ _ hw h (lv_sub hl [2, 3, 4, 1, 0] rfl)
abbrev g_W_isValueType : MethodName := ⟨"MapFramer$World", "isValueType", "(I)Z"⟩
theorem h_W_isValueType_0 : decode prog_12_method_11_code 0 = .ok (.iload_n 1, 1) := by decide +kernel
theorem h_W_isValueType_1 : decode prog_12_method_11_code 1 = .ok (.iconst 1, 1) := by decide +kernel
theorem h_W_isValueType_2 : decode prog_12_method_11_code 2 = .ok (.if_icmp .lt 8, 3) := by decide +kernel
theorem h_W_isValueType_5 : decode prog_12_method_11_code 5 = .ok (.iload_n 1, 1) := by decide +kernel
theorem h_W_isValueType_6 : decode prog_12_method_11_code 6 = .ok (.iconst 4, 1) := by decide +kernel
theorem h_W_isValueType_7 : decode prog_12_method_11_code 7 = .ok (.if_icmp .le 25, 3) := by decide +kernel
theorem h_W_isValueType_10 : decode prog_12_method_11_code 10 = .ok (.aload_n 0, 1) := by decide +kernel
theorem h_W_isValueType_11 : decode prog_12_method_11_code 11 = .ok (.iload_n 1, 1) := by decide +kernel
theorem h_W_isValueType_12 : decode prog_12_method_11_code 12 = .ok (.bipush 32, 2) := by decide +kernel
theorem h_W_isValueType_14 : decode prog_12_method_11_code 14 = .ok (.isub, 1) := by decide +kernel
theorem h_W_isValueType_15 : decode prog_12_method_11_code 15 = .ok (.invokevirtual 58, 3) := by decide +kernel
theorem h_W_isValueType_18 : decode prog_12_method_11_code 18 = .ok (.ifCond .ne 14, 3) := by decide +kernel
theorem h_W_isValueType_21 : decode prog_12_method_11_code 21 = .ok (.aload_n 0, 1) := by decide +kernel
theorem h_W_isValueType_22 : decode prog_12_method_11_code 22 = .ok (.iload_n 1, 1) := by decide +kernel
theorem h_W_isValueType_23 : decode prog_12_method_11_code 23 = .ok (.bipush 64, 2) := by decide +kernel
theorem h_W_isValueType_25 : decode prog_12_method_11_code 25 = .ok (.isub, 1) := by decide +kernel
theorem h_W_isValueType_26 : decode prog_12_method_11_code 26 = .ok (.invokevirtual 58, 3) := by decide +kernel
theorem h_W_isValueType_29 : decode prog_12_method_11_code 29 = .ok (.ifCond .eq 7, 3) := by decide +kernel
theorem h_W_isValueType_32 : decode prog_12_method_11_code 32 = .ok (.iconst 1, 1) := by decide +kernel
theorem h_W_isValueType_33 : decode prog_12_method_11_code 33 = .ok (.goto 4, 3) := by decide +kernel
theorem h_W_isValueType_36 : decode prog_12_method_11_code 36 = .ok (.iconst 0, 1) := by decide +kernel
theorem h_W_isValueType_37 : decode prog_12_method_11_code 37 = .ok (.ireturn, 1) := by decide +kernel
def x_W_isValueType_32 (a0 : Nat) (P : Int32 → CST → Prop) (σ : CST) : Prop := P (1 : Int32) σ
def x_W_isValueType_10 (a0 : Nat) (P : Int32 → CST → Prop) (z1 : Int32) (σ : CST) : Prop := σ.1 a0 = some (3, 0) ∧ (x_W_hasClass a0 (z1 - 32) σ (fun r3 σ2 => ((r3 = 0 → σ2.1 a0 = some (3, 0) ∧ (x_W_hasClass a0 (z1 - 64) σ2 (fun r7 σ6 => ((r7 = 0 → P (0 : Int32) σ6) ∧ (¬ r7 = 0 → x_W_isValueType_32 a0 P σ6))))) ∧ (¬ r3 = 0 → x_W_isValueType_32 a0 P σ2))))
def x_W_isValueType (a0 : Nat) (x1 : Int32) (σ0 : CST) (P : Int32 → CST → Prop) : Prop := ((x1 < 1 → x_W_isValueType_10 a0 P x1 σ0) ∧ (¬ x1 < 1 → ((x1 ≤ 4 → x_W_isValueType_32 a0 P σ0) ∧ (¬ x1 ≤ 4 → x_W_isValueType_10 a0 P x1 σ0))))
set_option maxHeartbeats 4000000 in
set_option maxRecDepth 100000 in
theorem X_W_isValueType (l : Launch) (dC : Nat → ClassId) (dI : Nat → Nat → Nat) (ca : Nat → ClassId) (H0 : Heap) (σ0 : CST) (a0 : Nat) (x1 : Int32) {P : Int32 → CST → Prop} (hw : x_W_isValueType a0 x1 σ0 P) : Met l g_W_isValueType (mW g_W_isValueType prog_12_method_11_code 2 (some .boolean)) ({ frames := 1, cells := σ0.2.2.2.2.1, slots := σ0.2.2.2.2.2.1, locals := 21 } : Room) (va_Pc [.ref a0, .int x1] (CPre (dC, dI) ca σ0 H0)) (va_Qi P (CB (dC, dI) ca σ0 H0) (cA σ0 H0.size)) σ0.2.2.2.2.1 σ0.2.2.2.2.2.1 (cA σ0 H0.size) := by
  refine C_ofz (by decide +kernel) rfl rfl rfl (Nat.le_of_ble_eq_true rfl) ?_
  intro p e s m below meth cx Q A ls C hnm hend hH0 h hl
  subst hH0
  have C0 := C
  obtain ⟨⟨hx, hb, hml, hown, hts⟩, hsub⟩ := C0
  obtain ⟨cells, e_cells⟩ : ∃ z : Nat, z = 0 := ⟨_, rfl⟩
  obtain ⟨slots, e_slots⟩ : ∃ z : Nat, z = 0 := ⟨_, rfl⟩
  have h : CH (dC, dI) A ca ({ frames := 1, cells := σ0.2.2.2.2.1, slots := σ0.2.2.2.2.2.1, locals := 21 } : Room) σ0.2.2.2.2.2.2 σ0 s s.heap [] cells slots := by rw [e_cells, e_slots]; exact h
  show W p l e ({ frames := 1, cells := σ0.2.2.2.2.1, slots := σ0.2.2.2.2.2.1, locals := 21 } : Room) s m ([.ref a0, .int x1] : List Value).toArray below meth cx s.heap [] 0 0 Q (F0 m 0 ls [])
  rw [show W p l e ({ frames := 1, cells := σ0.2.2.2.2.1, slots := σ0.2.2.2.2.2.1, locals := 21 } : Room) s m ([.ref a0, .int x1] : List Value).toArray below meth cx s.heap [] 0 0 Q (F0 m 0 ls []) = W p l e ({ frames := 1, cells := σ0.2.2.2.2.1, slots := σ0.2.2.2.2.2.1, locals := 21 } : Room) s m ([.ref a0, .int x1] : List Value).toArray below meth cx s.heap [] cells slots Q (F0 m 0 ls []) by rw [e_cells, e_slots]]
  have K_32 : ∀ (u9 : Unit), ∀ (σ : CST) (H : Heap) (locs : List Loc) (cells slots : Nat) (ls : Array Slot), x_W_isValueType_32 a0 P σ → CH (dC, dI) A ca ({ frames := 1, cells := σ0.2.2.2.2.1, slots := σ0.2.2.2.2.2.1, locals := 21 } : Room) σ0.2.2.2.2.2.2 σ s H locs cells slots → lv_has ls 2 [] → W p l e ({ frames := 1, cells := σ0.2.2.2.2.1, slots := σ0.2.2.2.2.2.1, locals := 21 } : Room) s m ([.ref a0, .int x1] : List Value).toArray below meth cx H locs cells slots Q (F0 m 32 ls []) := by
    intro u9  σ H locs cells slots ls hw h hl
    unfold x_W_isValueType_32 at hw
    refine lv_iconst (v := 1) hx hb h_W_isValueType_32 (by decide) ?_
    refine lv_goto (tgt := 37) hx hb h_W_isValueType_33 (by decide) ?_
    exact hend (1 : Int32) σ _ _ _ _ _ _ rfl hw h h_W_isValueType_37
  have K_10 : ∀ (u9 : Unit), ∀ (z1 : Int32) (σ : CST) (H : Heap) (locs : List Loc) (cells slots : Nat) (ls : Array Slot), x_W_isValueType_10 a0 P z1 σ → CH (dC, dI) A ca ({ frames := 1, cells := σ0.2.2.2.2.1, slots := σ0.2.2.2.2.2.1, locals := 21 } : Room) σ0.2.2.2.2.2.2 σ s H locs cells slots → lv_has ls 2 [(0, .ref a0), (1, .int z1)] → W p l e ({ frames := 1, cells := σ0.2.2.2.2.1, slots := σ0.2.2.2.2.2.1, locals := 21 } : Room) s m ([.ref a0, .int x1] : List Value).toArray below meth cx H locs cells slots Q (F0 m 10 ls []) := by
    intro u9 z1 σ H locs cells slots ls hw h hl
    unfold x_W_isValueType_10 at hw
    refine lv_aload_n hx hb h_W_isValueType_10 rfl (lv_at hl 0 rfl) ?_
    refine lv_iload_n hx hb h_W_isValueType_11 rfl (lv_at hl 1 rfl) ?_
    refine lv_bipush (v := 32) hx hb h_W_isValueType_12 (by decide) ?_
    refine lv_isub hx hb h_W_isValueType_14 ?_
    obtain ⟨g1, hw⟩ := hw
    refine C_callVi (As := [.int (z1 - 32)]) (rest := []) C h (ci := 3) (Cn := R_W) (T := T_W) (N := 10) g1 rfl (by decide) (X_W_hasClass l dC dI ca H σ a0 (z1 - 32) hw) (cwV 1 hts (gV hsub u_705 u_706 u_707 u_51 u_708) rfl rfl rfl (by decide +kernel) ⟨(Nat.le_of_ble_eq_true rfl), (Nat.le_of_ble_eq_true rfl)⟩) rfl hl.1 (Nat.le_of_ble_eq_true rfl) h_W_isValueType_15 (fun r3 σ2 H locs cells slots hw9 h9 => ?_)
    clear hw h; have hw := hw9; have h := h9; clear hw9 h9
    refine W.eq (g2 := F0 m 18 ls [.int r3]) rfl ?_
    refine lv_if_ne (tgt := 32) hx hb h_W_isValueType_18 (by decide) (fun c4 => ?_) (fun c4 => ?_)
    · skip
      replace hw := hw.2 c4
      exact K_32 () σ2 _ _ _ _ _ hw h (lv_sub hl [] rfl)
    · skip
      replace hw := hw.1 c4
      refine lv_aload_n hx hb h_W_isValueType_21 rfl (lv_at hl 0 rfl) ?_
      refine lv_iload_n hx hb h_W_isValueType_22 rfl (lv_at hl 1 rfl) ?_
      refine lv_bipush (v := 64) hx hb h_W_isValueType_23 (by decide) ?_
      refine lv_isub hx hb h_W_isValueType_25 ?_
      obtain ⟨g5, hw⟩ := hw
      refine C_callVi (As := [.int (z1 - 64)]) (rest := []) C h (ci := 3) (Cn := R_W) (T := T_W) (N := 10) g5 rfl (by decide) (X_W_hasClass l dC dI ca H σ2 a0 (z1 - 64) hw) (cwV 1 hts (gV hsub u_705 u_706 u_707 u_51 u_708) rfl rfl rfl (by decide +kernel) ⟨(Nat.le_of_ble_eq_true rfl), (Nat.le_of_ble_eq_true rfl)⟩) rfl hl.1 (Nat.le_of_ble_eq_true rfl) h_W_isValueType_26 (fun r7 σ6 H locs cells slots hw9 h9 => ?_)
      clear hw h; have hw := hw9; have h := h9; clear hw9 h9
      refine W.eq (g2 := F0 m 29 ls [.int r7]) rfl ?_
      refine lv_if_eq (tgt := 36) hx hb h_W_isValueType_29 (by decide) (fun c8 => ?_) (fun c8 => ?_)
      · skip
        replace hw := hw.1 c8
        refine lv_iconst (v := 0) hx hb h_W_isValueType_36 (by decide) ?_
        exact hend (0 : Int32) σ6 _ _ _ _ _ _ rfl hw h h_W_isValueType_37
      · skip
        replace hw := hw.2 c8
        exact K_32 () σ6 _ _ _ _ _ hw h (lv_sub hl [] rfl)
  have hl : lv_has ls 2 [(0, .ref a0), (1, .int x1)] := hl
  unfold x_W_isValueType at hw
  refine lv_iload_n hx hb h_W_isValueType_0 rfl (lv_at hl 1 rfl) ?_
  refine lv_iconst (v := 1) hx hb h_W_isValueType_1 (by decide) ?_
  refine lv_icmp_lt (tgt := 10) hx hb h_W_isValueType_2 (by decide) (fun c9 => ?_) (fun c9 => ?_)
  · skip
    replace hw := hw.1 c9
    exact K_10 () x1 σ0 _ _ _ _ _ hw h (lv_sub hl [0, 1] rfl)
  · skip
    replace hw := hw.2 c9
    refine lv_iload_n hx hb h_W_isValueType_5 rfl (lv_at hl 1 rfl) ?_
    refine lv_iconst (v := 4) hx hb h_W_isValueType_6 (by decide) ?_
    refine lv_icmp_le (tgt := 32) hx hb h_W_isValueType_7 (by decide) (fun c10 => ?_) (fun c10 => ?_)
    · skip
      replace hw := hw.1 c10
      exact K_32 () σ0 _ _ _ _ _ hw h (lv_sub hl [] rfl)
    · skip
      replace hw := hw.2 c10
      exact K_10 () x1 σ0 _ _ _ _ _ hw h (lv_sub hl [0, 1] rfl)
abbrev g_W_areAllSound : MethodName := ⟨"MapFramer$World", "areAllSound", "(I)Z"⟩
theorem u_870 : (Cond.methodLink "MapFramer$World" 75 ⟨"MapFramer$Method", "isSound", "()Z"⟩ : Cond) ∈ bigW := inB_7 85 (by decide +kernel) rfl
theorem u_871 : (Cond.instanceMethod ⟨"MapFramer$Method", "isSound", "()Z"⟩ : Cond) ∈ bigW := inB_7 72 (by decide +kernel) rfl
theorem u_872 : (Cond.selects "MapFramer$Method" ⟨"MapFramer$Method", "isSound", "()Z"⟩ ⟨"MapFramer$Method", "isSound", "()Z"⟩ : Cond) ∈ bigW := inB_7 73 (by decide +kernel) rfl
theorem u_873 : (Cond.code ⟨"MapFramer$Method", "isSound", "()Z"⟩ prog_7_method_3_code 1 (some .boolean) : Cond) ∈ bigW := inB_7 74 rfl rfl
theorem u_874 : (Cond.fieldLink "MapFramer$World" 79 "MapFramer$Method" "called" "I" : Cond) ∈ bigW := inB_2 192 (by decide +kernel) rfl
theorem h_W_areAllSound_0 : decode prog_12_method_23_code 0 = .ok (.iload_n 1, 1) := by decide +kernel
theorem h_W_areAllSound_1 : decode prog_12_method_23_code 1 = .ok (.istore_n 2, 1) := by decide +kernel
theorem h_W_areAllSound_2 : decode prog_12_method_23_code 2 = .ok (.iconst 0, 1) := by decide +kernel
theorem h_W_areAllSound_3 : decode prog_12_method_23_code 3 = .ok (.istore_n 3, 1) := by decide +kernel
theorem h_W_areAllSound_4 : decode prog_12_method_23_code 4 = .ok (.iload_n 3, 1) := by decide +kernel
theorem h_W_areAllSound_5 : decode prog_12_method_23_code 5 = .ok (.bipush 8, 2) := by decide +kernel
theorem h_W_areAllSound_7 : decode prog_12_method_23_code 7 = .ok (.if_icmp .ge 65, 3) := by decide +kernel
theorem h_W_areAllSound_10 : decode prog_12_method_23_code 10 = .ok (.iconst 0, 1) := by decide +kernel
theorem h_W_areAllSound_11 : decode prog_12_method_23_code 11 = .ok (.istore 4, 2) := by decide +kernel
theorem h_W_areAllSound_13 : decode prog_12_method_23_code 13 = .ok (.iload 4, 2) := by decide +kernel
theorem h_W_areAllSound_15 : decode prog_12_method_23_code 15 = .ok (.aload_n 0, 1) := by decide +kernel
theorem h_W_areAllSound_16 : decode prog_12_method_23_code 16 = .ok (.getfield 52, 3) := by decide +kernel
theorem h_W_areAllSound_19 : decode prog_12_method_23_code 19 = .ok (.if_icmp .ge 47, 3) := by decide +kernel
theorem h_W_areAllSound_22 : decode prog_12_method_23_code 22 = .ok (.iload_n 2, 1) := by decide +kernel
theorem h_W_areAllSound_23 : decode prog_12_method_23_code 23 = .ok (.iload 4, 2) := by decide +kernel
theorem h_W_areAllSound_25 : decode prog_12_method_23_code 25 = .ok (.iushr, 1) := by decide +kernel
theorem h_W_areAllSound_26 : decode prog_12_method_23_code 26 = .ok (.iconst 1, 1) := by decide +kernel
theorem h_W_areAllSound_27 : decode prog_12_method_23_code 27 = .ok (.iand, 1) := by decide +kernel
theorem h_W_areAllSound_28 : decode prog_12_method_23_code 28 = .ok (.iconst 1, 1) := by decide +kernel
theorem h_W_areAllSound_29 : decode prog_12_method_23_code 29 = .ok (.if_icmp .ne 31, 3) := by decide +kernel
theorem h_W_areAllSound_32 : decode prog_12_method_23_code 32 = .ok (.aload_n 0, 1) := by decide +kernel
theorem h_W_areAllSound_33 : decode prog_12_method_23_code 33 = .ok (.getfield 33, 3) := by decide +kernel
theorem h_W_areAllSound_36 : decode prog_12_method_23_code 36 = .ok (.iload 4, 2) := by decide +kernel
theorem h_W_areAllSound_38 : decode prog_12_method_23_code 38 = .ok (.aaload, 1) := by decide +kernel
theorem h_W_areAllSound_39 : decode prog_12_method_23_code 39 = .ok (.invokevirtual 75, 3) := by decide +kernel
theorem h_W_areAllSound_42 : decode prog_12_method_23_code 42 = .ok (.ifCond .ne 5, 3) := by decide +kernel
theorem h_W_areAllSound_45 : decode prog_12_method_23_code 45 = .ok (.iconst 0, 1) := by decide +kernel
theorem h_W_areAllSound_46 : decode prog_12_method_23_code 46 = .ok (.ireturn, 1) := by decide +kernel
theorem h_W_areAllSound_47 : decode prog_12_method_23_code 47 = .ok (.iload_n 2, 1) := by decide +kernel
theorem h_W_areAllSound_48 : decode prog_12_method_23_code 48 = .ok (.aload_n 0, 1) := by decide +kernel
theorem h_W_areAllSound_49 : decode prog_12_method_23_code 49 = .ok (.getfield 33, 3) := by decide +kernel
theorem h_W_areAllSound_52 : decode prog_12_method_23_code 52 = .ok (.iload 4, 2) := by decide +kernel
theorem h_W_areAllSound_54 : decode prog_12_method_23_code 54 = .ok (.aaload, 1) := by decide +kernel
theorem h_W_areAllSound_55 : decode prog_12_method_23_code 55 = .ok (.getfield 79, 3) := by decide +kernel
theorem h_W_areAllSound_58 : decode prog_12_method_23_code 58 = .ok (.ior, 1) := by decide +kernel
theorem h_W_areAllSound_59 : decode prog_12_method_23_code 59 = .ok (.istore_n 2, 1) := by decide +kernel
theorem h_W_areAllSound_60 : decode prog_12_method_23_code 60 = .ok (.iinc 4 1, 3) := by decide +kernel
theorem h_W_areAllSound_63 : decode prog_12_method_23_code 63 = .ok (.goto (-50), 3) := by decide +kernel
theorem h_W_areAllSound_66 : decode prog_12_method_23_code 66 = .ok (.iinc 3 1, 3) := by decide +kernel
theorem h_W_areAllSound_69 : decode prog_12_method_23_code 69 = .ok (.goto (-65), 3) := by decide +kernel
theorem h_W_areAllSound_72 : decode prog_12_method_23_code 72 = .ok (.iconst 1, 1) := by decide +kernel
theorem h_W_areAllSound_73 : decode prog_12_method_23_code 73 = .ok (.ireturn, 1) := by decide +kernel
def x_W_areAllSound_60 (a0 : Nat) (K13 : Int32 → Int32 → Int32 → CST → Prop) (P : Int32 → CST → Prop) (z2 : Int32) (z3 : Int32) (z4 : Int32) (σ : CST) : Prop := K13 z2 z3 (z4 + 1) σ
def x_W_areAllSound_13 (a0 : Nat) (K4 : Int32 → Int32 → CST → Prop) (P : Int32 → CST → Prop) : Nat → Int32 → Int32 → Int32 → CST → Prop
  | 0, _, _, _, _ => False
  | n + 1, z2, z3, z4, σ => σ.1 a0 = some (3, 0) ∧ ((((σ.2.1 a0 9) ≤ z4 → K4 z2 (z3 + 1) σ) ∧ (¬ (σ.2.1 a0 9) ≤ z4 → ∀ b3 : Int32, b3 = ((z2 : Int32).toUInt32 >>> ((z4 : Int32).toUInt32 &&& Int32.toUInt32 31)).toInt32 → ∀ b4 : Int32, b4 = (b3 &&& 1) → ((b4 = 1 → ∀ b6 : Option Nat, b6 = (σ.2.2.2.1 a0 8) → (∃ r7 : Nat, b6 = some r7 ∧ ((∃ n9 : Nat, σ.1 r7 = some (24, n9) ∧ (vp_in z4 n9 ∧ (∀ b11 : Option Nat, b11 = (σ.2.2.2.1 r7 (z4 : Int32).toNatClampNeg) → (∃ r12 : Nat, b11 = some r12 ∧ (σ.1 r12 = some (5, 0) ∧ (x_E_isSound r12 σ (fun r15 σ14 => ((r15 = 0 → P (0 : Int32) σ14) ∧ (¬ r15 = 0 → σ14.1 a0 = some (3, 0) ∧ (∀ b18 : Option Nat, b18 = (σ14.2.2.2.1 a0 8) → (∃ r19 : Nat, b18 = some r19 ∧ ((∃ n21 : Nat, σ14.1 r19 = some (24, n21) ∧ (vp_in z4 n21 ∧ (∀ b23 : Option Nat, b23 = (σ14.2.2.2.1 r19 (z4 : Int32).toNatClampNeg) → (∃ r24 : Nat, b23 = some r24 ∧ (σ14.1 r24 = some (5, 0) ∧ (∀ b26 : Int32, b26 = (z2 ||| (σ14.2.1 r24 12)) → x_W_areAllSound_60 a0 (x_W_areAllSound_13 a0 K4 P n) P b26 z3 z4 σ14))))))))))))))))))))) ∧ (¬ b4 = 1 → x_W_areAllSound_60 a0 (x_W_areAllSound_13 a0 K4 P n) P z2 z3 z4 σ)))))
def x_W_areAllSound_4 (a0 : Nat) (P : Int32 → CST → Prop) : Nat → Int32 → Int32 → CST → Prop
  | 0, _, _, _ => False
  | n + 1, z2, z3, σ => ((8 ≤ z3 → P (1 : Int32) σ) ∧ (¬ 8 ≤ z3 → (∃ n9 : Nat, x_W_areAllSound_13 a0 (x_W_areAllSound_4 a0 P n) P n9 z2 z3 0 σ)))
def x_W_areAllSound (a0 : Nat) (x1 : Int32) (σ0 : CST) (P : Int32 → CST → Prop) : Prop := (∃ n9 : Nat, x_W_areAllSound_4 a0 P n9 x1 0 σ0)
set_option maxHeartbeats 4000000 in
set_option maxRecDepth 100000 in
theorem X_W_areAllSound (l : Launch) (dC : Nat → ClassId) (dI : Nat → Nat → Nat) (ca : Nat → ClassId) (H0 : Heap) (σ0 : CST) (a0 : Nat) (x1 : Int32) {P : Int32 → CST → Prop} (hw : x_W_areAllSound a0 x1 σ0 P) : Met l g_W_areAllSound (mW g_W_areAllSound prog_12_method_23_code 5 (some .boolean)) ({ frames := 1, cells := σ0.2.2.2.2.1, slots := σ0.2.2.2.2.2.1, locals := 20 } : Room) (va_Pc [.ref a0, .int x1] (CPre (dC, dI) ca σ0 H0)) (va_Qi P (CB (dC, dI) ca σ0 H0) (cA σ0 H0.size)) σ0.2.2.2.2.1 σ0.2.2.2.2.2.1 (cA σ0 H0.size) := by
  refine C_ofz (by decide +kernel) rfl rfl rfl (Nat.le_of_ble_eq_true rfl) ?_
  intro p e s m below meth cx Q A ls C hnm hend hH0 h hl
  subst hH0
  have C0 := C
  obtain ⟨⟨hx, hb, hml, hown, hts⟩, hsub⟩ := C0
  obtain ⟨cells, e_cells⟩ : ∃ z : Nat, z = 0 := ⟨_, rfl⟩
  obtain ⟨slots, e_slots⟩ : ∃ z : Nat, z = 0 := ⟨_, rfl⟩
  have h : CH (dC, dI) A ca ({ frames := 1, cells := σ0.2.2.2.2.1, slots := σ0.2.2.2.2.2.1, locals := 20 } : Room) σ0.2.2.2.2.2.2 σ0 s s.heap [] cells slots := by rw [e_cells, e_slots]; exact h
  show W p l e ({ frames := 1, cells := σ0.2.2.2.2.1, slots := σ0.2.2.2.2.2.1, locals := 20 } : Room) s m ([.ref a0, .int x1] : List Value).toArray below meth cx s.heap [] 0 0 Q (F0 m 0 ls [])
  rw [show W p l e ({ frames := 1, cells := σ0.2.2.2.2.1, slots := σ0.2.2.2.2.2.1, locals := 20 } : Room) s m ([.ref a0, .int x1] : List Value).toArray below meth cx s.heap [] 0 0 Q (F0 m 0 ls []) = W p l e ({ frames := 1, cells := σ0.2.2.2.2.1, slots := σ0.2.2.2.2.2.1, locals := 20 } : Room) s m ([.ref a0, .int x1] : List Value).toArray below meth cx s.heap [] cells slots Q (F0 m 0 ls []) by rw [e_cells, e_slots]]
  have K_60 : ∀ (K13 : Int32 → Int32 → Int32 → CST → Prop) (hK13 : ∀ (z2 : Int32) (z3 : Int32) (z4 : Int32) (σ : CST) (H : Heap) (locs : List Loc) (cells slots : Nat) (ls : Array Slot), K13 z2 z3 z4 σ → CH (dC, dI) A ca ({ frames := 1, cells := σ0.2.2.2.2.1, slots := σ0.2.2.2.2.2.1, locals := 20 } : Room) σ0.2.2.2.2.2.2 σ s H locs cells slots → lv_has ls 5 [(0, .ref a0), (2, .int z2), (3, .int z3), (4, .int z4)] → W p l e ({ frames := 1, cells := σ0.2.2.2.2.1, slots := σ0.2.2.2.2.2.1, locals := 20 } : Room) s m ([.ref a0, .int x1] : List Value).toArray below meth cx H locs cells slots Q (F0 m 13 ls [])), ∀ (z2 : Int32) (z3 : Int32) (z4 : Int32) (σ : CST) (H : Heap) (locs : List Loc) (cells slots : Nat) (ls : Array Slot), x_W_areAllSound_60 a0 K13 P z2 z3 z4 σ → CH (dC, dI) A ca ({ frames := 1, cells := σ0.2.2.2.2.1, slots := σ0.2.2.2.2.2.1, locals := 20 } : Room) σ0.2.2.2.2.2.2 σ s H locs cells slots → lv_has ls 5 [(0, .ref a0), (2, .int z2), (3, .int z3), (4, .int z4)] → W p l e ({ frames := 1, cells := σ0.2.2.2.2.1, slots := σ0.2.2.2.2.2.1, locals := 20 } : Room) s m ([.ref a0, .int x1] : List Value).toArray below meth cx H locs cells slots Q (F0 m 60 ls []) := by
    intro K13 hK13 z2 z3 z4 σ H locs cells slots ls hw h hl
    unfold x_W_areAllSound_60 at hw
    refine lv_iinc (v := (z4 + 1)) (lv' := [(4, .int (z4 + 1)), (0, .ref a0), (2, .int z2), (3, .int z3)]) hx hb h_W_areAllSound_60 hl (k := 3) rfl (rfl) (by decide) rfl (fun ls hl => ?_)
    refine lv_goto (tgt := 13) hx hb h_W_areAllSound_63 (by decide) ?_
    exact hK13 z2 z3 (z4 + 1) σ _ _ _ _ _ hw h (lv_sub hl [1, 2, 3, 0] rfl)
  have K_13 : ∀ (K4 : Int32 → Int32 → CST → Prop) (hK4 : ∀ (z2 : Int32) (z3 : Int32) (σ : CST) (H : Heap) (locs : List Loc) (cells slots : Nat) (ls : Array Slot), K4 z2 z3 σ → CH (dC, dI) A ca ({ frames := 1, cells := σ0.2.2.2.2.1, slots := σ0.2.2.2.2.2.1, locals := 20 } : Room) σ0.2.2.2.2.2.2 σ s H locs cells slots → lv_has ls 5 [(0, .ref a0), (2, .int z2), (3, .int z3)] → W p l e ({ frames := 1, cells := σ0.2.2.2.2.1, slots := σ0.2.2.2.2.2.1, locals := 20 } : Room) s m ([.ref a0, .int x1] : List Value).toArray below meth cx H locs cells slots Q (F0 m 4 ls [])) (n : Nat), ∀ (z2 : Int32) (z3 : Int32) (z4 : Int32) (σ : CST) (H : Heap) (locs : List Loc) (cells slots : Nat) (ls : Array Slot), x_W_areAllSound_13 a0 K4 P n z2 z3 z4 σ → CH (dC, dI) A ca ({ frames := 1, cells := σ0.2.2.2.2.1, slots := σ0.2.2.2.2.2.1, locals := 20 } : Room) σ0.2.2.2.2.2.2 σ s H locs cells slots → lv_has ls 5 [(0, .ref a0), (2, .int z2), (3, .int z3), (4, .int z4)] → W p l e ({ frames := 1, cells := σ0.2.2.2.2.1, slots := σ0.2.2.2.2.2.1, locals := 20 } : Room) s m ([.ref a0, .int x1] : List Value).toArray below meth cx H locs cells slots Q (F0 m 13 ls []) := by
    intro K4 hK4 n
    induction n with
    | zero => intro z2 z3 z4 σ H locs cells slots ls hw h hl; unfold x_W_areAllSound_13 at hw; exact hw.elim
    | succ n ih =>
      intro z2 z3 z4 σ H locs cells slots ls hw h hl
      unfold x_W_areAllSound_13 at hw
      refine lv_iload hx hb h_W_areAllSound_13 (lv_at hl 3 rfl) ?_
      refine lv_aload_n hx hb h_W_areAllSound_15 rfl (lv_at hl 0 rfl) ?_
      obtain ⟨g1, hw⟩ := hw
      refine C_get C h 3 9 (v := .int (σ.2.1 a0 9)) g1 rfl (Cn := R_W) (T := T_W) (N := 10) rfl (by decide) rfl uw_W (by decide) u_337 (fun _ q => q) h_W_areAllSound_16 ?_
      refine lv_icmp_ge (tgt := 66) hx hb h_W_areAllSound_19 (by decide) (fun c2 => ?_) (fun c2 => ?_)
      · skip
        replace hw := hw.1 c2
        refine lv_iinc (v := (z3 + 1)) (lv' := [(3, .int (z3 + 1)), (0, .ref a0), (2, .int z2), (4, .int z4)]) hx hb h_W_areAllSound_66 hl (k := 2) rfl (rfl) (by decide) rfl (fun ls hl => ?_)
        refine lv_goto (tgt := 4) hx hb h_W_areAllSound_69 (by decide) ?_
        exact hK4 z2 (z3 + 1) σ _ _ _ _ _ hw h (lv_sub hl [1, 2, 0] rfl)
      · skip
        replace hw := hw.2 c2
        refine lv_iload_n hx hb h_W_areAllSound_22 rfl (lv_at hl 1 rfl) ?_
        refine lv_iload hx hb h_W_areAllSound_23 (lv_at hl 3 rfl) ?_
        refine lv_iushr (v := ((z2 : Int32).toUInt32 >>> ((z4 : Int32).toUInt32 &&& Int32.toUInt32 31)).toInt32) hx hb h_W_areAllSound_25 rfl ?_
        refine lv_topi (fun b3 e_b3 => ?_)
        replace hw := hw b3 e_b3
        refine lv_iconst (v := 1) hx hb h_W_areAllSound_26 (by decide) ?_
        refine lv_iand hx hb h_W_areAllSound_27 ?_
        refine lv_topi (fun b4 e_b4 => ?_)
        replace hw := hw b4 e_b4
        refine lv_iconst (v := 1) hx hb h_W_areAllSound_28 (by decide) ?_
        refine lv_icmp_ne (tgt := 60) hx hb h_W_areAllSound_29 (by decide) (fun c5 => ?_) (fun c5 => ?_)
        · skip
          replace hw := hw.2 c5
          exact K_60 _ ih z2 z3 z4 σ _ _ _ _ _ hw h (lv_sub hl [0, 1, 2, 3] rfl)
        · skip
          replace hw := hw.1 c5
          refine lv_aload_n hx hb h_W_areAllSound_32 rfl (lv_at hl 0 rfl) ?_
          refine C_get C h 3 8 (v := va_rf (σ.2.2.2.1 a0 8)) g1 rfl (Cn := R_W) (T := T_W) (N := 10) rfl (by decide) rfl uw_W (by decide) u_338 (fun _ q => q) h_W_areAllSound_33 ?_
          refine lv_topq (fun b6 e_b6 => ?_)
          replace hw := hw b6 e_b6
          refine lv_iload hx hb h_W_areAllSound_36 (lv_at hl 3 rfl) ?_
          obtain ⟨r7, e_r7, hw⟩ := hw
          subst e_r7
          have hl : lv_has ls 5 [(0, .ref a0), (2, .int z2), (3, .int z3), (4, .int z4)] := hl
          refine W.eq (g2 := F0 m 38 ls [.int z4, .ref r7]) rfl ?_
          obtain ⟨n9, g8, hw⟩ := hw
          obtain ⟨g10, hw⟩ := hw
          refine C_aald C h 24 3 rfl (by decide) g8 g10 h_W_areAllSound_38 ?_
          refine lv_topq (fun b11 e_b11 => ?_)
          replace hw := hw b11 e_b11
          obtain ⟨r12, e_r12, hw⟩ := hw
          subst e_r12
          have hl : lv_has ls 5 [(0, .ref a0), (2, .int z2), (3, .int z3), (4, .int z4)] := hl
          refine W.eq (g2 := F0 m 39 ls [.ref r12]) rfl ?_
          obtain ⟨g13, hw⟩ := hw
          refine C_callVi (As := []) (rest := []) C h (ci := 5) (Cn := R_E) (T := T_E) (N := 13) g13 rfl (by decide) (X_E_isSound l dC dI ca H σ r12 hw) (cwV 0 hts (gV hsub u_870 u_871 u_872 u_229 u_873) rfl rfl rfl (by decide +kernel) ⟨(Nat.le_of_ble_eq_true rfl), (Nat.le_of_ble_eq_true rfl)⟩) rfl hl.1 (Nat.le_of_ble_eq_true rfl) h_W_areAllSound_39 (fun r15 σ14 H locs cells slots hw9 h9 => ?_)
          clear hw h; have hw := hw9; have h := h9; clear hw9 h9
          refine W.eq (g2 := F0 m 42 ls [.int r15]) rfl ?_
          refine lv_if_ne (tgt := 47) hx hb h_W_areAllSound_42 (by decide) (fun c16 => ?_) (fun c16 => ?_)
          · skip
            replace hw := hw.2 c16
            refine lv_iload_n hx hb h_W_areAllSound_47 rfl (lv_at hl 1 rfl) ?_
            refine lv_aload_n hx hb h_W_areAllSound_48 rfl (lv_at hl 0 rfl) ?_
            obtain ⟨g17, hw⟩ := hw
            refine C_get C h 3 8 (v := va_rf (σ14.2.2.2.1 a0 8)) g17 rfl (Cn := R_W) (T := T_W) (N := 10) rfl (by decide) rfl uw_W (by decide) u_338 (fun _ q => q) h_W_areAllSound_49 ?_
            refine lv_topq (fun b18 e_b18 => ?_)
            replace hw := hw b18 e_b18
            refine lv_iload hx hb h_W_areAllSound_52 (lv_at hl 3 rfl) ?_
            obtain ⟨r19, e_r19, hw⟩ := hw
            subst e_r19
            have hl : lv_has ls 5 [(0, .ref a0), (2, .int z2), (3, .int z3), (4, .int z4)] := hl
            refine W.eq (g2 := F0 m 54 ls [.int z4, .ref r19, .int z2]) rfl ?_
            obtain ⟨n21, g20, hw⟩ := hw
            obtain ⟨g22, hw⟩ := hw
            refine C_aald C h 24 3 rfl (by decide) g20 g22 h_W_areAllSound_54 ?_
            refine lv_topq (fun b23 e_b23 => ?_)
            replace hw := hw b23 e_b23
            obtain ⟨r24, e_r24, hw⟩ := hw
            subst e_r24
            have hl : lv_has ls 5 [(0, .ref a0), (2, .int z2), (3, .int z3), (4, .int z4)] := hl
            refine W.eq (g2 := F0 m 55 ls [.ref r24, .int z2]) rfl ?_
            obtain ⟨g25, hw⟩ := hw
            refine C_get C h 5 12 (v := .int (σ14.2.1 r24 12)) g25 rfl (Cn := R_E) (T := T_E) (N := 13) rfl (by decide) rfl uw_E (by decide) u_874 (fun _ q => q) h_W_areAllSound_55 ?_
            refine lv_ior hx hb h_W_areAllSound_58 ?_
            refine lv_topi (fun b26 e_b26 => ?_)
            replace hw := hw b26 e_b26
            refine lv_istore_n (i := 2) (lv' := [(2, .int b26), (0, .ref a0), (3, .int z3), (4, .int z4)]) hx hb h_W_areAllSound_59 rfl hl (by decide) rfl (fun ls hl => ?_)
            exact K_60 _ ih b26 z3 z4 σ14 _ _ _ _ _ hw h (lv_sub hl [1, 0, 2, 3] rfl)
          · skip
            replace hw := hw.1 c16
            refine lv_iconst (v := 0) hx hb h_W_areAllSound_45 (by decide) ?_
            exact hend (0 : Int32) σ14 _ _ _ _ _ _ rfl hw h h_W_areAllSound_46
  have K_4 : ∀ (n : Nat), ∀ (z2 : Int32) (z3 : Int32) (σ : CST) (H : Heap) (locs : List Loc) (cells slots : Nat) (ls : Array Slot), x_W_areAllSound_4 a0 P n z2 z3 σ → CH (dC, dI) A ca ({ frames := 1, cells := σ0.2.2.2.2.1, slots := σ0.2.2.2.2.2.1, locals := 20 } : Room) σ0.2.2.2.2.2.2 σ s H locs cells slots → lv_has ls 5 [(0, .ref a0), (2, .int z2), (3, .int z3)] → W p l e ({ frames := 1, cells := σ0.2.2.2.2.1, slots := σ0.2.2.2.2.2.1, locals := 20 } : Room) s m ([.ref a0, .int x1] : List Value).toArray below meth cx H locs cells slots Q (F0 m 4 ls []) := by
    intro  n
    induction n with
    | zero => intro z2 z3 σ H locs cells slots ls hw h hl; unfold x_W_areAllSound_4 at hw; exact hw.elim
    | succ n ih =>
      intro z2 z3 σ H locs cells slots ls hw h hl
      unfold x_W_areAllSound_4 at hw
      refine lv_iload_n hx hb h_W_areAllSound_4 rfl (lv_at hl 2 rfl) ?_
      refine lv_bipush (v := 8) hx hb h_W_areAllSound_5 (by decide) ?_
      refine lv_icmp_ge (tgt := 72) hx hb h_W_areAllSound_7 (by decide) (fun c27 => ?_) (fun c27 => ?_)
      · skip
        replace hw := hw.1 c27
        refine lv_iconst (v := 1) hx hb h_W_areAllSound_72 (by decide) ?_
        exact hend (1 : Int32) σ _ _ _ _ _ _ rfl hw h h_W_areAllSound_73
      · skip
        replace hw := hw.2 c27
        refine lv_iconst (v := 0) hx hb h_W_areAllSound_10 (by decide) ?_
        refine lv_istore (lv' := [(4, .int 0), (0, .ref a0), (2, .int z2), (3, .int z3)]) hx hb h_W_areAllSound_11 hl (by decide) rfl (fun ls hl => ?_)
        obtain ⟨n9, hw⟩ := hw
        exact K_13 _ ih n9 z2 z3 0 σ _ _ _ _ _ hw h (lv_sub hl [1, 2, 3, 0] rfl)
  have hl : lv_has ls 5 [(0, .ref a0), (1, .int x1)] := hl
  unfold x_W_areAllSound at hw
  refine lv_iload_n hx hb h_W_areAllSound_0 rfl (lv_at hl 1 rfl) ?_
  refine lv_istore_n (i := 2) (lv' := [(2, .int x1), (0, .ref a0), (1, .int x1)]) hx hb h_W_areAllSound_1 rfl hl (by decide) rfl (fun ls hl => ?_)
  refine lv_iconst (v := 0) hx hb h_W_areAllSound_2 (by decide) ?_
  refine lv_istore_n (i := 3) (lv' := [(3, .int 0), (2, .int x1), (0, .ref a0), (1, .int x1)]) hx hb h_W_areAllSound_3 rfl hl (by decide) rfl (fun ls hl => ?_)
  obtain ⟨n9, hw⟩ := hw
  exact K_4 n9 x1 0 σ0 _ _ _ _ _ hw h (lv_sub hl [2, 1, 0] rfl)
