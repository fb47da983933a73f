abbrev z_M_raiseNew : MethodName := ⟨"MapFramerModel", "raiseNew", "()V"⟩
theorem v_332 : (Cond.methodLink "MapFramerModel" 443 ⟨"MapFramerModel", "thing", "(II)I"⟩ : Cond) ∈ bigW := inB_10 134 (by decide +kernel) rfl
theorem v_333 : (Cond.instanceMethod ⟨"MapFramerModel", "thing", "(II)I"⟩ : Cond) ∈ bigW := inB_10 136 (by decide +kernel) rfl
theorem v_334 : (Cond.selects "MapFramerModel" ⟨"MapFramerModel", "thing", "(II)I"⟩ ⟨"MapFramerModel", "thing", "(II)I"⟩ : Cond) ∈ bigW := inS (y := ⟨"MapFramerModel", "thing", "(II)I"⟩) (n := 71) (List.mem_of_getElem? (i := 142) (by decide +kernel))
theorem v_335 : (Cond.code ⟨"MapFramerModel", "thing", "(II)I"⟩ prog_14_method_83_code 4 (some .int) : Cond) ∈ bigW := inB_10 137 rfl rfl
theorem v_336 : (Cond.methodLink "MapFramerModel" 446 ⟨"MapFramerModel", "raise", "(I)V"⟩ : Cond) ∈ bigW := inB_10 142 (by decide +kernel) rfl
theorem v_337 : (Cond.instanceMethod ⟨"MapFramerModel", "raise", "(I)V"⟩ : Cond) ∈ bigW := inB_10 144 (by decide +kernel) rfl
theorem v_338 : (Cond.selects "MapFramerModel" ⟨"MapFramerModel", "raise", "(I)V"⟩ ⟨"MapFramerModel", "raise", "(I)V"⟩ : Cond) ∈ bigW := inS (y := ⟨"MapFramerModel", "raise", "(I)V"⟩) (n := 71) (List.mem_of_getElem? (i := 144) (by decide +kernel))
theorem v_339 : (Cond.code ⟨"MapFramerModel", "raise", "(I)V"⟩ prog_14_method_85_code 6 none : Cond) ∈ bigW := inB_10 145 rfl rfl
theorem e_M_raiseNew_0 : decode prog_14_method_86_code 0 = .ok (.aload_n 0, 1) := by decide +kernel
theorem e_M_raiseNew_1 : decode prog_14_method_86_code 1 = .ok (.bipush 33, 2) := by decide +kernel
theorem e_M_raiseNew_3 : decode prog_14_method_86_code 3 = .ok (.iconst 0, 1) := by decide +kernel
theorem e_M_raiseNew_4 : decode prog_14_method_86_code 4 = .ok (.invokevirtual 443, 3) := by decide +kernel
theorem e_M_raiseNew_7 : decode prog_14_method_86_code 7 = .ok (.istore_n 1, 1) := by decide +kernel
theorem e_M_raiseNew_8 : decode prog_14_method_86_code 8 = .ok (.iload_n 1, 1) := by decide +kernel
theorem e_M_raiseNew_9 : decode prog_14_method_86_code 9 = .ok (.ifCond .lt 8, 3) := by decide +kernel
theorem e_M_raiseNew_12 : decode prog_14_method_86_code 12 = .ok (.aload_n 0, 1) := by decide +kernel
theorem e_M_raiseNew_13 : decode prog_14_method_86_code 13 = .ok (.iload_n 1, 1) := by decide +kernel
theorem e_M_raiseNew_14 : decode prog_14_method_86_code 14 = .ok (.invokevirtual 446, 3) := by decide +kernel
theorem e_M_raiseNew_17 : decode prog_14_method_86_code 17 = .ok (.return_, 1) := by decide +kernel
def w_M_raiseNew (σ : MST) (P : MST → Prop) : Prop := w_M_thing (33 : Int32) (0 : Int32) σ (fun r2 σ1 => ((r2 < 0 → P σ1) ∧ (¬ r2 < 0 → w_M_raise r2 σ1 (fun σ4 => P σ4))))
set_option maxHeartbeats 4000000 in
set_option maxRecDepth 100000 in
theorem K_M_raiseNew (l : Launch) (dC : Nat → ClassId) (dI : Nat → Nat → Nat) (mo : Nat) (rf : Nat → Nat) (ca : Nat → ClassId) (sz : Nat) (σ : MST) {P : MST → Prop} (hw : w_M_raiseNew σ P) : Met l z_M_raiseNew (mW z_M_raiseNew prog_14_method_86_code 2 none) ({ frames := 2, cells := 0, slots := 0, locals := 48 } : Room) (va_Pc [.ref mo] (MPre (dC, dI) mo rf ca σ sz)) (va_Qv P (MB (dC, dI) mo rf ca sz) (mA mo rf sz)) 0 0 (mA mo rf sz) := by
  refine M_ofv (by decide) rfl (Nat.le_of_ble_eq_true rfl) ?_
  intro p e s m below meth cx Q A ls C hA hend h hl
  have C0 := C
  obtain ⟨⟨hx, hb, hml, hown, hts⟩, hsub⟩ := C0
  have hl : lv_has ls 2 [(0, .ref mo)] := hl
  unfold w_M_raiseNew at hw
  refine lv_aload_n hx hb e_M_raiseNew_0 rfl (lv_at hl 0 rfl) ?_
  refine lv_bipush (v := 33) hx hb e_M_raiseNew_1 (by decide) ?_
  refine lv_iconst (v := 0) hx hb e_M_raiseNew_3 (by decide) ?_
  refine M_calli (As := [.int 33, .int 0]) (rest := []) C h hA (K_M_thing l dC dI mo rf ca s.heap.size σ (33 : Int32) (0 : Int32) hw) (cwV 2 hts (gV hsub v_332 v_333 v_334 v_7 v_335) rfl rfl rfl (by decide +kernel) ⟨(Nat.le_of_ble_eq_true rfl), (Nat.le_of_ble_eq_true rfl)⟩) rfl hl.1 (Nat.le_of_ble_eq_true rfl) e_M_raiseNew_4 ⟨(Nat.le_of_ble_eq_true rfl), (Nat.le_of_ble_eq_true rfl)⟩ (fun r2 σ1 H locs hw h => ?_)
  refine W.eq (g2 := F0 m 7 ls [.int r2]) rfl ?_
  refine lv_istore_n (lv' := [(1, .int r2), (0, .ref mo)]) hx hb e_M_raiseNew_7 rfl hl (by decide) rfl (fun ls hl => ?_)
  refine lv_iload_n hx hb e_M_raiseNew_8 rfl (lv_at hl 0 rfl) ?_
  refine lv_if_lt (tgt := 17) hx hb e_M_raiseNew_9 (by decide) (fun c3 => ?_) (fun c3 => ?_)
  · skip
    replace hw := hw.1 c3
    exact hend σ1 _ _ _ _ hw h e_M_raiseNew_17
  · skip
    replace hw := hw.2 c3
    refine lv_aload_n hx hb e_M_raiseNew_12 rfl (lv_at hl 1 rfl) ?_
    refine lv_iload_n hx hb e_M_raiseNew_13 rfl (lv_at hl 0 rfl) ?_
    refine M_callv (As := [.int r2]) (rest := []) C h hA (K_M_raise l dC dI mo rf ca H.size σ1 r2 hw) (cwV 1 hts (gV hsub v_336 v_337 v_338 v_7 v_339) rfl rfl rfl (by decide +kernel) ⟨(Nat.le_of_ble_eq_true rfl), (Nat.le_of_ble_eq_true rfl)⟩) rfl hl.1 (Nat.le_of_ble_eq_true rfl) e_M_raiseNew_14 ⟨(Nat.le_of_ble_eq_true rfl), (Nat.le_of_ble_eq_true rfl)⟩ (fun σ4 H locs hw h => ?_)
    refine W.eq (g2 := F0 m 17 ls []) rfl ?_
    exact hend σ4 _ _ _ _ hw h e_M_raiseNew_17
abbrev z_M_goTo : MethodName := ⟨"MapFramerModel", "goTo", "(I)V"⟩
theorem e_M_goTo_0 : decode prog_14_method_87_code 0 = .ok (.aload_n 0, 1) := by decide +kernel
theorem e_M_goTo_1 : decode prog_14_method_87_code 1 = .ok (.getfield 157, 3) := by decide +kernel
theorem e_M_goTo_4 : decode prog_14_method_87_code 4 = .ok (.aload_n 0, 1) := by decide +kernel
theorem e_M_goTo_5 : decode prog_14_method_87_code 5 = .ok (.getfield 420, 3) := by decide +kernel
theorem e_M_goTo_8 : decode prog_14_method_87_code 8 = .ok (.iconst 1, 1) := by decide +kernel
theorem e_M_goTo_9 : decode prog_14_method_87_code 9 = .ok (.isub, 1) := by decide +kernel
theorem e_M_goTo_10 : decode prog_14_method_87_code 10 = .ok (.iload_n 1, 1) := by decide +kernel
theorem e_M_goTo_11 : decode prog_14_method_87_code 11 = .ok (.iastore, 1) := by decide +kernel
theorem e_M_goTo_12 : decode prog_14_method_87_code 12 = .ok (.return_, 1) := by decide +kernel
def w_M_goTo (x1 : Int32) (σ : MST) (P : MST → Prop) : Prop := vp_in ((σ.1 63) - 1) 24 ∧ (∀ σ1 : MST, σ1 = setA σ 65 (upd (σ.2.1 65) (((σ.1 63) - 1) : Int32).toNatClampNeg x1) → P σ1)
set_option maxHeartbeats 4000000 in
set_option maxRecDepth 100000 in
theorem K_M_goTo (l : Launch) (dC : Nat → ClassId) (dI : Nat → Nat → Nat) (mo : Nat) (rf : Nat → Nat) (ca : Nat → ClassId) (sz : Nat) (σ : MST) (x1 : Int32) {P : MST → Prop} (hw : w_M_goTo x1 σ P) : Met l z_M_goTo (mW z_M_goTo prog_14_method_87_code 2 none) ({ frames := 0, cells := 0, slots := 0, locals := 0 } : Room) (va_Pc [.ref mo, .int x1] (MPre (dC, dI) mo rf ca σ sz)) (va_Qv P (MB (dC, dI) mo rf ca sz) (mA mo rf sz)) 0 0 (mA mo rf sz) := by
  refine M_ofv (by decide) rfl (Nat.le_of_ble_eq_true rfl) ?_
  intro p e s m below meth cx Q A ls C hA hend h hl
  have C0 := C
  obtain ⟨⟨hx, hb, hml, hown, hts⟩, hsub⟩ := C0
  have hl : lv_has ls 2 [(0, .ref mo), (1, .int x1)] := hl
  unfold w_M_goTo at hw
  refine lv_aload_n hx hb e_M_goTo_0 rfl (lv_at hl 0 rfl) ?_
  refine M_get C h 65 (v := .ref (rf 65)) rfl (by decide) v_330 e_M_goTo_1 ?_
  refine lv_aload_n hx hb e_M_goTo_4 rfl (lv_at hl 0 rfl) ?_
  refine M_get C h 63 (v := .int (σ.1 63)) rfl (by decide) v_309 e_M_goTo_5 ?_
  refine lv_iconst (v := 1) hx hb e_M_goTo_8 (by decide) ?_
  refine lv_isub hx hb e_M_goTo_9 ?_
  refine lv_iload_n hx hb e_M_goTo_10 rfl (lv_at hl 1 rfl) ?_
  refine M_ast C h 65 (by decide) rfl hw.1 e_M_goTo_11 (fun H locs h => ?_)
  replace hw := hw.2
  obtain ⟨σ1, e_σ1⟩ : ∃ z : MST, z = setA σ 65 (upd (σ.2.1 65) (((σ.1 63) - 1) : Int32).toNatClampNeg x1) := ⟨_, rfl⟩
  rw [← e_σ1] at h
  replace hw := hw σ1 e_σ1
  exact hend σ1 _ _ _ _ hw h e_M_goTo_12
abbrev z_M_localOf : MethodName := ⟨"MapFramerModel", "localOf", "(I)J"⟩
theorem v_340 : (Cond.fieldLink "MapFramerModel" 163 "MapFramerModel" "values" "[J" : Cond) ∈ bigW := inB_8 127 (by decide +kernel) rfl
theorem e_M_localOf_0 : decode prog_14_method_88_code 0 = .ok (.aload_n 0, 1) := by decide +kernel
theorem e_M_localOf_1 : decode prog_14_method_88_code 1 = .ok (.getfield 163, 3) := by decide +kernel
theorem e_M_localOf_4 : decode prog_14_method_88_code 4 = .ok (.bipush 13, 2) := by decide +kernel
theorem e_M_localOf_6 : decode prog_14_method_88_code 6 = .ok (.aload_n 0, 1) := by decide +kernel
theorem e_M_localOf_7 : decode prog_14_method_88_code 7 = .ok (.getfield 420, 3) := by decide +kernel
theorem e_M_localOf_10 : decode prog_14_method_88_code 10 = .ok (.iconst 1, 1) := by decide +kernel
theorem e_M_localOf_11 : decode prog_14_method_88_code 11 = .ok (.isub, 1) := by decide +kernel
theorem e_M_localOf_12 : decode prog_14_method_88_code 12 = .ok (.imul, 1) := by decide +kernel
theorem e_M_localOf_13 : decode prog_14_method_88_code 13 = .ok (.iload_n 1, 1) := by decide +kernel
theorem e_M_localOf_14 : decode prog_14_method_88_code 14 = .ok (.iadd, 1) := by decide +kernel
theorem e_M_localOf_15 : decode prog_14_method_88_code 15 = .ok (.laload, 1) := by decide +kernel
theorem e_M_localOf_16 : decode prog_14_method_88_code 16 = .ok (.lreturn, 1) := by decide +kernel
def w_M_localOf (x1 : Int32) (σ : MST) (P : Int64 → MST → Prop) : Prop := vp_in (((13 : Int32) * ((σ.1 63) - 1)) + x1) 312 ∧ (∀ a1 : Int64, a1 = (σ.2.2.1 67 ((((13 : Int32) * ((σ.1 63) - 1)) + x1) : Int32).toNatClampNeg) → P a1 σ)
set_option maxHeartbeats 4000000 in
set_option maxRecDepth 100000 in
theorem K_M_localOf (l : Launch) (dC : Nat → ClassId) (dI : Nat → Nat → Nat) (mo : Nat) (rf : Nat → Nat) (ca : Nat → ClassId) (sz : Nat) (σ : MST) (x1 : Int32) {P : Int64 → MST → Prop} (hw : w_M_localOf x1 σ P) : Met l z_M_localOf (mW z_M_localOf prog_14_method_88_code 2 (some .long)) ({ frames := 0, cells := 0, slots := 0, locals := 0 } : Room) (va_Pc [.ref mo, .int x1] (MPre (dC, dI) mo rf ca σ sz)) (va_Ql P (MB (dC, dI) mo rf ca sz) (mA mo rf sz)) 0 0 (mA mo rf sz) := by
  refine M_ofl (by decide) rfl (Nat.le_of_ble_eq_true rfl) ?_
  intro p e s m below meth cx Q A ls C hA hend h hl
  have C0 := C
  obtain ⟨⟨hx, hb, hml, hown, hts⟩, hsub⟩ := C0
  have hl : lv_has ls 2 [(0, .ref mo), (1, .int x1)] := hl
  unfold w_M_localOf at hw
  refine lv_aload_n hx hb e_M_localOf_0 rfl (lv_at hl 0 rfl) ?_
  refine M_get C h 67 (v := .ref (rf 67)) rfl (by decide) v_340 e_M_localOf_1 ?_
  refine lv_bipush (v := 13) hx hb e_M_localOf_4 (by decide) ?_
  refine lv_aload_n hx hb e_M_localOf_6 rfl (lv_at hl 0 rfl) ?_
  refine M_get C h 63 (v := .int (σ.1 63)) rfl (by decide) v_309 e_M_localOf_7 ?_
  refine lv_iconst (v := 1) hx hb e_M_localOf_10 (by decide) ?_
  refine lv_isub hx hb e_M_localOf_11 ?_
  refine lv_imul hx hb e_M_localOf_12 ?_
  refine lv_iload_n hx hb e_M_localOf_13 rfl (lv_at hl 1 rfl) ?_
  refine lv_iadd hx hb e_M_localOf_14 ?_
  refine M_lald C h 67 (by decide) rfl hw.1 e_M_localOf_15 ?_
  replace hw := hw.2
  refine lv_topl (fun a1 e_a1 => ?_)
  replace hw := hw a1 e_a1
  exact hend a1 σ _ _ _ _ hw h e_M_localOf_16
abbrev z_M_setLocal : MethodName := ⟨"MapFramerModel", "setLocal", "(IJ)V"⟩
theorem e_M_setLocal_0 : decode prog_14_method_89_code 0 = .ok (.aload_n 0, 1) := by decide +kernel
theorem e_M_setLocal_1 : decode prog_14_method_89_code 1 = .ok (.getfield 163, 3) := by decide +kernel
theorem e_M_setLocal_4 : decode prog_14_method_89_code 4 = .ok (.bipush 13, 2) := by decide +kernel
theorem e_M_setLocal_6 : decode prog_14_method_89_code 6 = .ok (.aload_n 0, 1) := by decide +kernel
theorem e_M_setLocal_7 : decode prog_14_method_89_code 7 = .ok (.getfield 420, 3) := by decide +kernel
theorem e_M_setLocal_10 : decode prog_14_method_89_code 10 = .ok (.iconst 1, 1) := by decide +kernel
theorem e_M_setLocal_11 : decode prog_14_method_89_code 11 = .ok (.isub, 1) := by decide +kernel
theorem e_M_setLocal_12 : decode prog_14_method_89_code 12 = .ok (.imul, 1) := by decide +kernel
theorem e_M_setLocal_13 : decode prog_14_method_89_code 13 = .ok (.iload_n 1, 1) := by decide +kernel
theorem e_M_setLocal_14 : decode prog_14_method_89_code 14 = .ok (.iadd, 1) := by decide +kernel
theorem e_M_setLocal_15 : decode prog_14_method_89_code 15 = .ok (.lload_n 2, 1) := by decide +kernel
theorem e_M_setLocal_16 : decode prog_14_method_89_code 16 = .ok (.lastore, 1) := by decide +kernel
theorem e_M_setLocal_17 : decode prog_14_method_89_code 17 = .ok (.return_, 1) := by decide +kernel
def w_M_setLocal (x1 : Int32) (x2 : Int64) (σ : MST) (P : MST → Prop) : Prop := vp_in (((13 : Int32) * ((σ.1 63) - 1)) + x1) 312 ∧ (∀ σ1 : MST, σ1 = setL σ 67 (vp_updL (σ.2.2.1 67) ((((13 : Int32) * ((σ.1 63) - 1)) + x1) : Int32).toNatClampNeg x2) → P σ1)
set_option maxHeartbeats 4000000 in
set_option maxRecDepth 100000 in
theorem K_M_setLocal (l : Launch) (dC : Nat → ClassId) (dI : Nat → Nat → Nat) (mo : Nat) (rf : Nat → Nat) (ca : Nat → ClassId) (sz : Nat) (σ : MST) (x1 : Int32) (x2 : Int64) {P : MST → Prop} (hw : w_M_setLocal x1 x2 σ P) : Met l z_M_setLocal (mW z_M_setLocal prog_14_method_89_code 4 none) ({ frames := 0, cells := 0, slots := 0, locals := 0 } : Room) (va_Pc [.ref mo, .int x1, .long x2] (MPre (dC, dI) mo rf ca σ sz)) (va_Qv P (MB (dC, dI) mo rf ca sz) (mA mo rf sz)) 0 0 (mA mo rf sz) := by
  refine M_ofv (by decide) rfl (Nat.le_of_ble_eq_true rfl) ?_
  intro p e s m below meth cx Q A ls C hA hend h hl
  have C0 := C
  obtain ⟨⟨hx, hb, hml, hown, hts⟩, hsub⟩ := C0
  have hl : lv_has ls 4 [(0, .ref mo), (1, .int x1), (2, .long x2)] := hl
  unfold w_M_setLocal at hw
  refine lv_aload_n hx hb e_M_setLocal_0 rfl (lv_at hl 0 rfl) ?_
  refine M_get C h 67 (v := .ref (rf 67)) rfl (by decide) v_340 e_M_setLocal_1 ?_
  refine lv_bipush (v := 13) hx hb e_M_setLocal_4 (by decide) ?_
  refine lv_aload_n hx hb e_M_setLocal_6 rfl (lv_at hl 0 rfl) ?_
  refine M_get C h 63 (v := .int (σ.1 63)) rfl (by decide) v_309 e_M_setLocal_7 ?_
  refine lv_iconst (v := 1) hx hb e_M_setLocal_10 (by decide) ?_
  refine lv_isub hx hb e_M_setLocal_11 ?_
  refine lv_imul hx hb e_M_setLocal_12 ?_
  refine lv_iload_n hx hb e_M_setLocal_13 rfl (lv_at hl 1 rfl) ?_
  refine lv_iadd hx hb e_M_setLocal_14 ?_
  refine lv_lload_n hx hb e_M_setLocal_15 rfl (lv_at hl 2 rfl) ?_
  refine M_last C h 67 (by decide) rfl hw.1 e_M_setLocal_16 (fun H locs h => ?_)
  replace hw := hw.2
  obtain ⟨σ1, e_σ1⟩ : ∃ z : MST, z = setL σ 67 (vp_updL (σ.2.2.1 67) ((((13 : Int32) * ((σ.1 63) - 1)) + x1) : Int32).toNatClampNeg x2) := ⟨_, rfl⟩
  rw [← e_σ1] at h
  replace hw := hw σ1 e_σ1
  exact hend σ1 _ _ _ _ hw h e_M_setLocal_17
abbrev z_M_runArray : MethodName := ⟨"MapFramerModel", "runArray", "(II)V"⟩
theorem v_341 : (Cond.methodLink "MapFramerModel" 453 ⟨"MapFramerModel", "raiseNew", "()V"⟩ : Cond) ∈ bigW := inB_10 130 (by decide +kernel) rfl
theorem v_342 : (Cond.instanceMethod ⟨"MapFramerModel", "raiseNew", "()V"⟩ : Cond) ∈ bigW := inB_10 132 (by decide +kernel) rfl
theorem v_343 : (Cond.selects "MapFramerModel" ⟨"MapFramerModel", "raiseNew", "()V"⟩ ⟨"MapFramerModel", "raiseNew", "()V"⟩ : Cond) ∈ bigW := inS (y := ⟨"MapFramerModel", "raiseNew", "()V"⟩) (n := 71) (List.mem_of_getElem? (i := 141) (by decide +kernel))
theorem v_344 : (Cond.code ⟨"MapFramerModel", "raiseNew", "()V"⟩ prog_14_method_86_code 2 none : Cond) ∈ bigW := inB_10 133 rfl rfl
theorem v_345 : (Cond.methodLink "MapFramerModel" 456 ⟨"MapFramerModel", "goTo", "(I)V"⟩ : Cond) ∈ bigW := inB_10 150 (by decide +kernel) rfl
theorem v_346 : (Cond.instanceMethod ⟨"MapFramerModel", "goTo", "(I)V"⟩ : Cond) ∈ bigW := inB_10 152 (by decide +kernel) rfl
theorem v_347 : (Cond.selects "MapFramerModel" ⟨"MapFramerModel", "goTo", "(I)V"⟩ ⟨"MapFramerModel", "goTo", "(I)V"⟩ : Cond) ∈ bigW := inS (y := ⟨"MapFramerModel", "goTo", "(I)V"⟩) (n := 71) (List.mem_of_getElem? (i := 146) (by decide +kernel))
theorem v_348 : (Cond.code ⟨"MapFramerModel", "goTo", "(I)V"⟩ prog_14_method_87_code 2 none : Cond) ∈ bigW := inB_10 153 rfl rfl
theorem v_349 : (Cond.methodLink "MapFramerModel" 449 ⟨"MapFramerModel", "take", "()J"⟩ : Cond) ∈ bigW := inB_10 126 (by decide +kernel) rfl
theorem v_350 : (Cond.instanceMethod ⟨"MapFramerModel", "take", "()J"⟩ : Cond) ∈ bigW := inB_10 128 (by decide +kernel) rfl
theorem v_351 : (Cond.selects "MapFramerModel" ⟨"MapFramerModel", "take", "()J"⟩ ⟨"MapFramerModel", "take", "()J"⟩ : Cond) ∈ bigW := inS (y := ⟨"MapFramerModel", "take", "()J"⟩) (n := 71) (List.mem_of_getElem? (i := 140) (by decide +kernel))
theorem v_352 : (Cond.code ⟨"MapFramerModel", "take", "()J"⟩ prog_14_method_80_code 1 (some .long) : Cond) ∈ bigW := inB_10 129 rfl rfl
theorem e_M_runArray_0 : decode prog_14_method_90_code 0 = .ok (.iload_n 1, 1) := by decide +kernel
theorem e_M_runArray_1 : decode prog_14_method_90_code 1 = .ok (.bipush 78, 2) := by decide +kernel
theorem e_M_runArray_3 : decode prog_14_method_90_code 3 = .ok (.if_icmp .le 7, 3) := by decide +kernel
theorem e_M_runArray_6 : decode prog_14_method_90_code 6 = .ok (.iconst 1, 1) := by decide +kernel
theorem e_M_runArray_7 : decode prog_14_method_90_code 7 = .ok (.goto 4, 3) := by decide +kernel
theorem e_M_runArray_10 : decode prog_14_method_90_code 10 = .ok (.iconst 0, 1) := by decide +kernel
theorem e_M_runArray_11 : decode prog_14_method_90_code 11 = .ok (.istore_n 3, 1) := by decide +kernel
theorem e_M_runArray_12 : decode prog_14_method_90_code 12 = .ok (.iload_n 3, 1) := by decide +kernel
theorem e_M_runArray_13 : decode prog_14_method_90_code 13 = .ok (.ifCond .eq 10, 3) := by decide +kernel
theorem e_M_runArray_16 : decode prog_14_method_90_code 16 = .ok (.aload_n 0, 1) := by decide +kernel
theorem e_M_runArray_17 : decode prog_14_method_90_code 17 = .ok (.invokevirtual 449, 3) := by decide +kernel
theorem e_M_runArray_20 : decode prog_14_method_90_code 20 = .ok (.goto 4, 3) := by decide +kernel
theorem e_M_runArray_23 : decode prog_14_method_90_code 23 = .ok (.lconst 0, 1) := by decide +kernel
theorem e_M_runArray_24 : decode prog_14_method_90_code 24 = .ok (.lstore 4, 2) := by decide +kernel
theorem e_M_runArray_26 : decode prog_14_method_90_code 26 = .ok (.aload_n 0, 1) := by decide +kernel
theorem e_M_runArray_27 : decode prog_14_method_90_code 27 = .ok (.invokevirtual 449, 3) := by decide +kernel
theorem e_M_runArray_30 : decode prog_14_method_90_code 30 = .ok (.lstore 6, 2) := by decide +kernel
theorem e_M_runArray_32 : decode prog_14_method_90_code 32 = .ok (.aload_n 0, 1) := by decide +kernel
theorem e_M_runArray_33 : decode prog_14_method_90_code 33 = .ok (.invokevirtual 449, 3) := by decide +kernel
theorem e_M_runArray_36 : decode prog_14_method_90_code 36 = .ok (.l2i, 1) := by decide +kernel
theorem e_M_runArray_37 : decode prog_14_method_90_code 37 = .ok (.istore 8, 2) := by decide +kernel
theorem e_M_runArray_39 : decode prog_14_method_90_code 39 = .ok (.iload 8, 2) := by decide +kernel
theorem e_M_runArray_41 : decode prog_14_method_90_code 41 = .ok (.ifCond .lt 33, 3) := by decide +kernel
theorem e_M_runArray_44 : decode prog_14_method_90_code 44 = .ok (.lload 6, 2) := by decide +kernel
theorem e_M_runArray_46 : decode prog_14_method_90_code 46 = .ok (.lconst 0, 1) := by decide +kernel
theorem e_M_runArray_47 : decode prog_14_method_90_code 47 = .ok (.lcmp, 1) := by decide +kernel
theorem e_M_runArray_48 : decode prog_14_method_90_code 48 = .ok (.ifCond .lt 26, 3) := by decide +kernel
theorem e_M_runArray_51 : decode prog_14_method_90_code 51 = .ok (.lload 6, 2) := by decide +kernel
theorem e_M_runArray_53 : decode prog_14_method_90_code 53 = .ok (.aload_n 0, 1) := by decide +kernel
theorem e_M_runArray_54 : decode prog_14_method_90_code 54 = .ok (.getfield 145, 3) := by decide +kernel
theorem e_M_runArray_57 : decode prog_14_method_90_code 57 = .ok (.iload 8, 2) := by decide +kernel
theorem e_M_runArray_59 : decode prog_14_method_90_code 59 = .ok (.ifCond .ge 7, 3) := by decide +kernel
theorem e_M_runArray_62 : decode prog_14_method_90_code 62 = .ok (.iconst 0, 1) := by decide +kernel
theorem e_M_runArray_63 : decode prog_14_method_90_code 63 = .ok (.goto 5, 3) := by decide +kernel
theorem e_M_runArray_66 : decode prog_14_method_90_code 66 = .ok (.iload 8, 2) := by decide +kernel
theorem e_M_runArray_68 : decode prog_14_method_90_code 68 = .ok (.iaload, 1) := by decide +kernel
theorem e_M_runArray_69 : decode prog_14_method_90_code 69 = .ok (.i2l, 1) := by decide +kernel
theorem e_M_runArray_70 : decode prog_14_method_90_code 70 = .ok (.lcmp, 1) := by decide +kernel
theorem e_M_runArray_71 : decode prog_14_method_90_code 71 = .ok (.ifCond .lt 8, 3) := by decide +kernel
theorem e_M_runArray_74 : decode prog_14_method_90_code 74 = .ok (.aload_n 0, 1) := by decide +kernel
theorem e_M_runArray_75 : decode prog_14_method_90_code 75 = .ok (.invokevirtual 453, 3) := by decide +kernel
theorem e_M_runArray_78 : decode prog_14_method_90_code 78 = .ok (.return_, 1) := by decide +kernel
theorem e_M_runArray_79 : decode prog_14_method_90_code 79 = .ok (.iload_n 1, 1) := by decide +kernel
theorem e_M_runArray_80 : decode prog_14_method_90_code 80 = .ok (.bipush 83, 2) := by decide +kernel
theorem e_M_runArray_82 : decode prog_14_method_90_code 82 = .ok (.if_icmp .ne 49, 3) := by decide +kernel
theorem e_M_runArray_85 : decode prog_14_method_90_code 85 = .ok (.lload 4, 2) := by decide +kernel
theorem e_M_runArray_87 : decode prog_14_method_90_code 87 = .ok (.lconst 0, 1) := by decide +kernel
theorem e_M_runArray_88 : decode prog_14_method_90_code 88 = .ok (.lcmp, 1) := by decide +kernel
theorem e_M_runArray_89 : decode prog_14_method_90_code 89 = .ok (.ifCond .lt 42, 3) := by decide +kernel
theorem e_M_runArray_92 : decode prog_14_method_90_code 92 = .ok (.aload_n 0, 1) := by decide +kernel
theorem e_M_runArray_93 : decode prog_14_method_90_code 93 = .ok (.aload_n 0, 1) := by decide +kernel
theorem e_M_runArray_94 : decode prog_14_method_90_code 94 = .ok (.getfield 142, 3) := by decide +kernel
theorem e_M_runArray_97 : decode prog_14_method_90_code 97 = .ok (.lload 4, 2) := by decide +kernel
theorem e_M_runArray_99 : decode prog_14_method_90_code 99 = .ok (.lconst 0, 1) := by decide +kernel
theorem e_M_runArray_100 : decode prog_14_method_90_code 100 = .ok (.lcmp, 1) := by decide +kernel
theorem e_M_runArray_101 : decode prog_14_method_90_code 101 = .ok (.ifCond .ge 7, 3) := by decide +kernel
theorem e_M_runArray_104 : decode prog_14_method_90_code 104 = .ok (.iconst 0, 1) := by decide +kernel
theorem e_M_runArray_105 : decode prog_14_method_90_code 105 = .ok (.goto 6, 3) := by decide +kernel
theorem e_M_runArray_108 : decode prog_14_method_90_code 108 = .ok (.lload 4, 2) := by decide +kernel
theorem e_M_runArray_110 : decode prog_14_method_90_code 110 = .ok (.l2i, 1) := by decide +kernel
theorem e_M_runArray_111 : decode prog_14_method_90_code 111 = .ok (.iaload, 1) := by decide +kernel
theorem e_M_runArray_112 : decode prog_14_method_90_code 112 = .ok (.bipush 32, 2) := by decide +kernel
theorem e_M_runArray_114 : decode prog_14_method_90_code 114 = .ok (.aload_n 0, 1) := by decide +kernel
theorem e_M_runArray_115 : decode prog_14_method_90_code 115 = .ok (.getfield 142, 3) := by decide +kernel
theorem e_M_runArray_118 : decode prog_14_method_90_code 118 = .ok (.iload 8, 2) := by decide +kernel
theorem e_M_runArray_120 : decode prog_14_method_90_code 120 = .ok (.iaload, 1) := by decide +kernel
theorem e_M_runArray_121 : decode prog_14_method_90_code 121 = .ok (.iadd, 1) := by decide +kernel
theorem e_M_runArray_122 : decode prog_14_method_90_code 122 = .ok (.bipush 64, 2) := by decide +kernel
theorem e_M_runArray_124 : decode prog_14_method_90_code 124 = .ok (.isub, 1) := by decide +kernel
theorem e_M_runArray_125 : decode prog_14_method_90_code 125 = .ok (.invokevirtual 260, 3) := by decide +kernel
theorem e_M_runArray_128 : decode prog_14_method_90_code 128 = .ok (.ifCond .eq 7, 3) := by decide +kernel
theorem e_M_runArray_131 : decode prog_14_method_90_code 131 = .ok (.iconst 1, 1) := by decide +kernel
theorem e_M_runArray_132 : decode prog_14_method_90_code 132 = .ok (.goto 4, 3) := by decide +kernel
theorem e_M_runArray_135 : decode prog_14_method_90_code 135 = .ok (.iconst 0, 1) := by decide +kernel
theorem e_M_runArray_136 : decode prog_14_method_90_code 136 = .ok (.istore 9, 2) := by decide +kernel
theorem e_M_runArray_138 : decode prog_14_method_90_code 138 = .ok (.iload 9, 2) := by decide +kernel
theorem e_M_runArray_140 : decode prog_14_method_90_code 140 = .ok (.ifCond .ne 8, 3) := by decide +kernel
theorem e_M_runArray_143 : decode prog_14_method_90_code 143 = .ok (.aload_n 0, 1) := by decide +kernel
theorem e_M_runArray_144 : decode prog_14_method_90_code 144 = .ok (.invokevirtual 453, 3) := by decide +kernel
theorem e_M_runArray_147 : decode prog_14_method_90_code 147 = .ok (.return_, 1) := by decide +kernel
theorem e_M_runArray_148 : decode prog_14_method_90_code 148 = .ok (.iload_n 3, 1) := by decide +kernel
theorem e_M_runArray_149 : decode prog_14_method_90_code 149 = .ok (.ifCond .eq 22, 3) := by decide +kernel
theorem e_M_runArray_152 : decode prog_14_method_90_code 152 = .ok (.aload_n 0, 1) := by decide +kernel
theorem e_M_runArray_153 : decode prog_14_method_90_code 153 = .ok (.getfield 148, 3) := by decide +kernel
theorem e_M_runArray_156 : decode prog_14_method_90_code 156 = .ok (.bipush 24, 2) := by decide +kernel
theorem e_M_runArray_158 : decode prog_14_method_90_code 158 = .ok (.iload 8, 2) := by decide +kernel
theorem e_M_runArray_160 : decode prog_14_method_90_code 160 = .ok (.imul, 1) := by decide +kernel
theorem e_M_runArray_161 : decode prog_14_method_90_code 161 = .ok (.lload 6, 2) := by decide +kernel
theorem e_M_runArray_163 : decode prog_14_method_90_code 163 = .ok (.l2i, 1) := by decide +kernel
theorem e_M_runArray_164 : decode prog_14_method_90_code 164 = .ok (.iadd, 1) := by decide +kernel
theorem e_M_runArray_165 : decode prog_14_method_90_code 165 = .ok (.lload 4, 2) := by decide +kernel
theorem e_M_runArray_167 : decode prog_14_method_90_code 167 = .ok (.lastore, 1) := by decide +kernel
theorem e_M_runArray_168 : decode prog_14_method_90_code 168 = .ok (.goto 21, 3) := by decide +kernel
theorem e_M_runArray_171 : decode prog_14_method_90_code 171 = .ok (.aload_n 0, 1) := by decide +kernel
theorem e_M_runArray_172 : decode prog_14_method_90_code 172 = .ok (.aload_n 0, 1) := by decide +kernel
theorem e_M_runArray_173 : decode prog_14_method_90_code 173 = .ok (.getfield 148, 3) := by decide +kernel
theorem e_M_runArray_176 : decode prog_14_method_90_code 176 = .ok (.bipush 24, 2) := by decide +kernel
theorem e_M_runArray_178 : decode prog_14_method_90_code 178 = .ok (.iload 8, 2) := by decide +kernel
theorem e_M_runArray_180 : decode prog_14_method_90_code 180 = .ok (.imul, 1) := by decide +kernel
theorem e_M_runArray_181 : decode prog_14_method_90_code 181 = .ok (.lload 6, 2) := by decide +kernel
theorem e_M_runArray_183 : decode prog_14_method_90_code 183 = .ok (.l2i, 1) := by decide +kernel
theorem e_M_runArray_184 : decode prog_14_method_90_code 184 = .ok (.iadd, 1) := by decide +kernel
theorem e_M_runArray_185 : decode prog_14_method_90_code 185 = .ok (.laload, 1) := by decide +kernel
theorem e_M_runArray_186 : decode prog_14_method_90_code 186 = .ok (.invokevirtual 439, 3) := by decide +kernel
theorem e_M_runArray_189 : decode prog_14_method_90_code 189 = .ok (.aload_n 0, 1) := by decide +kernel
theorem e_M_runArray_190 : decode prog_14_method_90_code 190 = .ok (.iload_n 2, 1) := by decide +kernel
theorem e_M_runArray_191 : decode prog_14_method_90_code 191 = .ok (.invokevirtual 456, 3) := by decide +kernel
theorem e_M_runArray_194 : decode prog_14_method_90_code 194 = .ok (.return_, 1) := by decide +kernel
def w_M_runArray_74 (P : MST → Prop) (σ : MST) : Prop := w_M_raiseNew σ (fun σ1 => P σ1)
def w_M_runArray_189 (P : MST → Prop) (z2 : Int32) (σ : MST) : Prop := w_M_goTo z2 σ (fun σ3 => P σ3)
def w_M_runArray_136 (P : MST → Prop) (z2 : Int32) (z3 : Int32) (z4 : Int64) (z6 : Int64) (z8 : Int32) (s0 : Int32) (σ : MST) : Prop := ((s0 = 0 → w_M_raiseNew σ (fun σ11 => P σ11)) ∧ (¬ s0 = 0 → ((z3 = 0 → vp_in (((24 : Int32) * z8) + ((z6 : Int64).toInt32)) 3600 ∧ (∀ a7 : Int64, a7 = (σ.2.2.1 61 ((((24 : Int32) * z8) + ((z6 : Int64).toInt32)) : Int32).toNatClampNeg) → w_M_lay a7 σ (fun σ8 => w_M_runArray_189 P z2 σ8))) ∧ (¬ z3 = 0 → vp_in (((24 : Int32) * z8) + ((z6 : Int64).toInt32)) 3600 ∧ (∀ σ10 : MST, σ10 = setL σ 61 (vp_updL (σ.2.2.1 61) ((((24 : Int32) * z8) + ((z6 : Int64).toInt32)) : Int32).toNatClampNeg z4) → w_M_runArray_189 P z2 σ10)))))
def w_M_runArray_131 (P : MST → Prop) (z2 : Int32) (z3 : Int32) (z4 : Int64) (z6 : Int64) (z8 : Int32) (σ : MST) : Prop := w_M_runArray_136 P z2 z3 z4 z6 z8 1 σ
def w_M_runArray_111 (P : MST → Prop) (z2 : Int32) (z3 : Int32) (z4 : Int64) (z6 : Int64) (z8 : Int32) (s0 : Int32) (σ : MST) : Prop := vp_in s0 150 ∧ (∀ a13 : Int32, a13 = (σ.2.1 59 (s0 : Int32).toNatClampNeg) → vp_in z8 150 ∧ (∀ a14 : Int32, a14 = (σ.2.1 59 (z8 : Int32).toNatClampNeg) → w_M_goesInto a13 (((32 : Int32) + a14) - 64) σ (fun r16 σ15 => ((r16 = 0 → w_M_runArray_136 P z2 z3 z4 z6 z8 0 σ15) ∧ (¬ r16 = 0 → w_M_runArray_131 P z2 z3 z4 z6 z8 σ15)))))
def w_M_runArray_68 (P : MST → Prop) (z1 : Int32) (z2 : Int32) (z3 : Int32) (z4 : Int64) (z6 : Int64) (z8 : Int32) (s0 : Int32) (s2 : Int64) (σ : MST) : Prop := vp_in s0 150 ∧ (∀ a18 : Int32, a18 = (σ.2.1 60 (s0 : Int32).toNatClampNeg) → (((lg_cmp s2 ((a18 : Int32).toInt64)) < 0 → ((z1 = 83 → (((lg_cmp z4 0) < 0 → w_M_runArray_131 P z2 z3 z4 z6 z8 σ) ∧ (¬ (lg_cmp z4 0) < 0 → ((0 ≤ (lg_cmp z4 0) → w_M_runArray_111 P z2 z3 z4 z6 z8 ((z4 : Int64).toInt32) σ) ∧ (¬ 0 ≤ (lg_cmp z4 0) → w_M_runArray_111 P z2 z3 z4 z6 z8 0 σ))))) ∧ (¬ z1 = 83 → w_M_runArray_131 P z2 z3 z4 z6 z8 σ))) ∧ (¬ (lg_cmp s2 ((a18 : Int32).toInt64)) < 0 → w_M_runArray_74 P σ)))
def w_M_runArray_24 (P : MST → Prop) (z1 : Int32) (z2 : Int32) (z3 : Int32) (s0 : Int64) (σ : MST) : Prop := w_M_take σ (fun r24 σ23 => w_M_take σ23 (fun r26 σ25 => ((((r26 : Int64).toInt32) < 0 → w_M_runArray_74 P σ25) ∧ (¬ ((r26 : Int64).toInt32) < 0 → (((lg_cmp r24 0) < 0 → w_M_runArray_74 P σ25) ∧ (¬ (lg_cmp r24 0) < 0 → ((0 ≤ ((r26 : Int64).toInt32) → w_M_runArray_68 P z1 z2 z3 s0 r24 ((r26 : Int64).toInt32) ((r26 : Int64).toInt32) r24 σ25) ∧ (¬ 0 ≤ ((r26 : Int64).toInt32) → w_M_runArray_68 P z1 z2 z3 s0 r24 ((r26 : Int64).toInt32) 0 r24 σ25))))))))
def w_M_runArray_11 (P : MST → Prop) (z1 : Int32) (z2 : Int32) (s0 : Int32) (σ : MST) : Prop := ((s0 = 0 → w_M_runArray_24 P z1 z2 s0 0 σ) ∧ (¬ s0 = 0 → w_M_take σ (fun r32 σ31 => w_M_runArray_24 P z1 z2 s0 r32 σ31)))
def w_M_runArray (x1 : Int32) (x2 : Int32) (σ : MST) (P : MST → Prop) : Prop := ((x1 ≤ 78 → w_M_runArray_11 P x1 x2 0 σ) ∧ (¬ x1 ≤ 78 → w_M_runArray_11 P x1 x2 1 σ))
set_option maxHeartbeats 4000000 in
set_option maxRecDepth 100000 in
theorem K_M_runArray (l : Launch) (dC : Nat → ClassId) (dI : Nat → Nat → Nat) (mo : Nat) (rf : Nat → Nat) (ca : Nat → ClassId) (sz : Nat) (σ : MST) (x1 : Int32) (x2 : Int32) {P : MST → Prop} (hw : w_M_runArray x1 x2 σ P) : Met l z_M_runArray (mW z_M_runArray prog_14_method_90_code 10 none) ({ frames := 3, cells := 0, slots := 0, locals := 69 } : Room) (va_Pc [.ref mo, .int x1, .int x2] (MPre (dC, dI) mo rf ca σ sz)) (va_Qv P (MB (dC, dI) mo rf ca sz) (mA mo rf sz)) 0 0 (mA mo rf sz) := by
  refine M_ofv (by decide) rfl (Nat.le_of_ble_eq_true rfl) ?_
  intro p e s m below meth cx Q A ls C hA hend h hl
  have C0 := C
  obtain ⟨⟨hx, hb, hml, hown, hts⟩, hsub⟩ := C0
  have K_74 : ∀ (u9 : Unit), ∀ (σ : MST) (H : Heap) (locs : List Loc) (ls : Array Slot), w_M_runArray_74 P σ → MH (dC, dI) A mo rf ca σ s H locs → lv_has ls 10 [(0, .ref mo)] → W p l e ({ frames := 3, cells := 0, slots := 0, locals := 69 } : Room) s m ([.ref mo, .int x1, .int x2] : List Value).toArray below meth cx H locs 0 0 Q (F0 m 74 ls []) := by
    intro u9  σ H locs ls hw h hl
    unfold w_M_runArray_74 at hw
    refine lv_aload_n hx hb e_M_runArray_74 rfl (lv_at hl 0 rfl) ?_
    refine M_callv (As := []) (rest := []) C h hA (K_M_raiseNew l dC dI mo rf ca H.size σ hw) (cwV 0 hts (gV hsub v_341 v_342 v_343 v_7 v_344) rfl rfl rfl (by decide +kernel) ⟨(Nat.le_of_ble_eq_true rfl), (Nat.le_of_ble_eq_true rfl)⟩) rfl hl.1 (Nat.le_of_ble_eq_true rfl) e_M_runArray_75 ⟨(Nat.le_of_ble_eq_true rfl), (Nat.le_of_ble_eq_true rfl)⟩ (fun σ1 H locs hw h => ?_)
    refine W.eq (g2 := F0 m 78 ls []) rfl ?_
    exact hend σ1 _ _ _ _ hw h e_M_runArray_78
  have K_189 : ∀ (u9 : Unit), ∀ (z2 : Int32) (σ : MST) (H : Heap) (locs : List Loc) (ls : Array Slot), w_M_runArray_189 P z2 σ → MH (dC, dI) A mo rf ca σ s H locs → lv_has ls 10 [(0, .ref mo), (2, .int z2)] → W p l e ({ frames := 3, cells := 0, slots := 0, locals := 69 } : Room) s m ([.ref mo, .int x1, .int x2] : List Value).toArray below meth cx H locs 0 0 Q (F0 m 189 ls []) := by
    intro u9 z2 σ H locs ls hw h hl
    unfold w_M_runArray_189 at hw
    refine lv_aload_n hx hb e_M_runArray_189 rfl (lv_at hl 0 rfl) ?_
    refine lv_iload_n hx hb e_M_runArray_190 rfl (lv_at hl 1 rfl) ?_
    refine M_callv (As := [.int z2]) (rest := []) C h hA (K_M_goTo l dC dI mo rf ca H.size σ z2 hw) (cwV 1 hts (gV hsub v_345 v_346 v_347 v_7 v_348) rfl rfl rfl (by decide +kernel) ⟨(Nat.le_of_ble_eq_true rfl), (Nat.le_of_ble_eq_true rfl)⟩) rfl hl.1 (Nat.le_of_ble_eq_true rfl) e_M_runArray_191 ⟨(Nat.le_of_ble_eq_true rfl), (Nat.le_of_ble_eq_true rfl)⟩ (fun σ3 H locs hw h => ?_)
    refine W.eq (g2 := F0 m 194 ls []) rfl ?_
    exact hend σ3 _ _ _ _ hw h e_M_runArray_194
  have K_136 : ∀ (u9 : Unit), ∀ (z2 : Int32) (z3 : Int32) (z4 : Int64) (z6 : Int64) (z8 : Int32) (s0 : Int32) (σ : MST) (H : Heap) (locs : List Loc) (ls : Array Slot), w_M_runArray_136 P z2 z3 z4 z6 z8 s0 σ → MH (dC, dI) A mo rf ca σ s H locs → lv_has ls 10 [(0, .ref mo), (2, .int z2), (3, .int z3), (4, .long z4), (6, .long z6), (8, .int z8)] → W p l e ({ frames := 3, cells := 0, slots := 0, locals := 69 } : Room) s m ([.ref mo, .int x1, .int x2] : List Value).toArray below meth cx H locs 0 0 Q (F0 m 136 ls [.int s0]) := by
    intro u9 z2 z3 z4 z6 z8 s0 σ H locs ls hw h hl
    unfold w_M_runArray_136 at hw
    refine lv_istore (lv' := [(9, .int s0), (0, .ref mo), (2, .int z2), (3, .int z3), (4, .long z4), (6, .long z6), (8, .int z8)]) hx hb e_M_runArray_136 hl (by decide) rfl (fun ls hl => ?_)
    refine lv_iload hx hb e_M_runArray_138 (lv_at hl 0 rfl) ?_
    refine lv_if_ne (tgt := 148) hx hb e_M_runArray_140 (by decide) (fun c5 => ?_) (fun c5 => ?_)
    · skip
      replace hw := hw.2 c5
      refine lv_iload_n hx hb e_M_runArray_148 rfl (lv_at hl 3 rfl) ?_
      refine lv_if_eq (tgt := 171) hx hb e_M_runArray_149 (by decide) (fun c6 => ?_) (fun c6 => ?_)
      · skip
        replace hw := hw.1 c6
        refine lv_aload_n hx hb e_M_runArray_171 rfl (lv_at hl 1 rfl) ?_
        refine lv_aload_n hx hb e_M_runArray_172 rfl (lv_at hl 1 rfl) ?_
        refine M_get C h 61 (v := .ref (rf 61)) rfl (by decide) v_319 e_M_runArray_173 ?_
        refine lv_bipush (v := 24) hx hb e_M_runArray_176 (by decide) ?_
        refine lv_iload hx hb e_M_runArray_178 (lv_at hl 6 rfl) ?_
        refine lv_imul hx hb e_M_runArray_180 ?_
        refine lv_lload hx hb e_M_runArray_181 (lv_at hl 5 rfl) ?_
        refine lv_l2i (v := (z6 : Int64).toInt32) hx hb e_M_runArray_183 rfl ?_
        refine lv_iadd hx hb e_M_runArray_184 ?_
        refine M_lald C h 61 (by decide) rfl hw.1 e_M_runArray_185 ?_
        replace hw := hw.2
        refine lv_topl (fun a7 e_a7 => ?_)
        replace hw := hw a7 e_a7
        refine M_callv (As := [.long a7]) (rest := []) C h hA (K_M_lay l dC dI mo rf ca H.size σ a7 hw) (cwV 1 hts (gV hsub v_326 v_327 v_328 v_7 v_329) rfl rfl rfl (by decide +kernel) ⟨(Nat.le_of_ble_eq_true rfl), (Nat.le_of_ble_eq_true rfl)⟩) rfl hl.1 (Nat.le_of_ble_eq_true rfl) e_M_runArray_186 ⟨(Nat.le_of_ble_eq_true rfl), (Nat.le_of_ble_eq_true rfl)⟩ (fun σ8 H locs hw h => ?_)
        refine W.eq (g2 := F0 m 189 ls []) rfl ?_
        exact K_189 () z2 σ8 _ _ _ hw h (lv_sub hl [1, 2] rfl)
      · skip
        replace hw := hw.2 c6
        refine lv_aload_n hx hb e_M_runArray_152 rfl (lv_at hl 1 rfl) ?_
        refine M_get C h 61 (v := .ref (rf 61)) rfl (by decide) v_319 e_M_runArray_153 ?_
        refine lv_bipush (v := 24) hx hb e_M_runArray_156 (by decide) ?_
        refine lv_iload hx hb e_M_runArray_158 (lv_at hl 6 rfl) ?_
        refine lv_imul hx hb e_M_runArray_160 ?_
        refine lv_lload hx hb e_M_runArray_161 (lv_at hl 5 rfl) ?_
        refine lv_l2i (v := (z6 : Int64).toInt32) hx hb e_M_runArray_163 rfl ?_
        refine lv_iadd hx hb e_M_runArray_164 ?_
        refine lv_lload hx hb e_M_runArray_165 (lv_at hl 4 rfl) ?_
        refine M_last C h 61 (by decide) rfl hw.1 e_M_runArray_167 (fun H locs h => ?_)
        replace hw := hw.2
        obtain ⟨σ10, e_σ10⟩ : ∃ z : MST, z = setL σ 61 (vp_updL (σ.2.2.1 61) ((((24 : Int32) * z8) + ((z6 : Int64).toInt32)) : Int32).toNatClampNeg z4) := ⟨_, rfl⟩
        rw [← e_σ10] at h
        replace hw := hw σ10 e_σ10
        refine lv_goto (tgt := 189) hx hb e_M_runArray_168 (by decide) ?_
        exact K_189 () z2 σ10 _ _ _ hw h (lv_sub hl [1, 2] rfl)
    · skip
      replace hw := hw.1 c5
      refine lv_aload_n hx hb e_M_runArray_143 rfl (lv_at hl 1 rfl) ?_
      refine M_callv (As := []) (rest := []) C h hA (K_M_raiseNew l dC dI mo rf ca H.size σ hw) (cwV 0 hts (gV hsub v_341 v_342 v_343 v_7 v_344) rfl rfl rfl (by decide +kernel) ⟨(Nat.le_of_ble_eq_true rfl), (Nat.le_of_ble_eq_true rfl)⟩) rfl hl.1 (Nat.le_of_ble_eq_true rfl) e_M_runArray_144 ⟨(Nat.le_of_ble_eq_true rfl), (Nat.le_of_ble_eq_true rfl)⟩ (fun σ11 H locs hw h => ?_)
      refine W.eq (g2 := F0 m 147 ls []) rfl ?_
      exact hend σ11 _ _ _ _ hw h e_M_runArray_147
  have K_131 : ∀ (u9 : Unit), ∀ (z2 : Int32) (z3 : Int32) (z4 : Int64) (z6 : Int64) (z8 : Int32) (σ : MST) (H : Heap) (locs : List Loc) (ls : Array Slot), w_M_runArray_131 P z2 z3 z4 z6 z8 σ → MH (dC, dI) A mo rf ca σ s H locs → lv_has ls 10 [(0, .ref mo), (2, .int z2), (3, .int z3), (4, .long z4), (6, .long z6), (8, .int z8)] → W p l e ({ frames := 3, cells := 0, slots := 0, locals := 69 } : Room) s m ([.ref mo, .int x1, .int x2] : List Value).toArray below meth cx H locs 0 0 Q (F0 m 131 ls []) := by
    intro u9 z2 z3 z4 z6 z8 σ H locs ls hw h hl
    unfold w_M_runArray_131 at hw
    refine lv_iconst (v := 1) hx hb e_M_runArray_131 (by decide) ?_
    refine lv_goto (tgt := 136) hx hb e_M_runArray_132 (by decide) ?_
    exact K_136 () z2 z3 z4 z6 z8 1 σ _ _ _ hw h (lv_sub hl [0, 1, 2, 3, 4, 5] rfl)
  have K_111 : ∀ (u9 : Unit), ∀ (z2 : Int32) (z3 : Int32) (z4 : Int64) (z6 : Int64) (z8 : Int32) (s0 : Int32) (σ : MST) (H : Heap) (locs : List Loc) (ls : Array Slot), w_M_runArray_111 P z2 z3 z4 z6 z8 s0 σ → MH (dC, dI) A mo rf ca σ s H locs → lv_has ls 10 [(0, .ref mo), (2, .int z2), (3, .int z3), (4, .long z4), (6, .long z6), (8, .int z8)] → W p l e ({ frames := 3, cells := 0, slots := 0, locals := 69 } : Room) s m ([.ref mo, .int x1, .int x2] : List Value).toArray below meth cx H locs 0 0 Q (F0 m 111 ls [.int s0, .ref (rf 59), .ref mo]) := by
    intro u9 z2 z3 z4 z6 z8 s0 σ H locs ls hw h hl
    unfold w_M_runArray_111 at hw
    refine M_ald C h 59 (by decide) rfl hw.1 e_M_runArray_111 ?_
    replace hw := hw.2
    refine lv_topi (fun a13 e_a13 => ?_)
    replace hw := hw a13 e_a13
    refine lv_bipush (v := 32) hx hb e_M_runArray_112 (by decide) ?_
    refine lv_aload_n hx hb e_M_runArray_114 rfl (lv_at hl 0 rfl) ?_
    refine M_get C h 59 (v := .ref (rf 59)) rfl (by decide) v_320 e_M_runArray_115 ?_
    refine lv_iload hx hb e_M_runArray_118 (lv_at hl 5 rfl) ?_
    refine M_ald C h 59 (by decide) rfl hw.1 e_M_runArray_120 ?_
    replace hw := hw.2
    refine lv_topi (fun a14 e_a14 => ?_)
    replace hw := hw a14 e_a14
    refine lv_iadd hx hb e_M_runArray_121 ?_
    refine lv_bipush (v := 64) hx hb e_M_runArray_122 (by decide) ?_
    refine lv_isub hx hb e_M_runArray_124 ?_
    refine M_calli (As := [.int a13, .int (((32 : Int32) + a14) - 64)]) (rest := []) C h hA (K_M_goesInto l dC dI mo rf ca H.size σ a13 (((32 : Int32) + a14) - 64) hw) (cwV 2 hts (gV hsub v_108 v_109 v_110 v_7 v_111) rfl rfl rfl (by decide +kernel) ⟨(Nat.le_of_ble_eq_true rfl), (Nat.le_of_ble_eq_true rfl)⟩) rfl hl.1 (Nat.le_of_ble_eq_true rfl) e_M_runArray_125 ⟨(Nat.le_of_ble_eq_true rfl), (Nat.le_of_ble_eq_true rfl)⟩ (fun r16 σ15 H locs hw h => ?_)
    refine W.eq (g2 := F0 m 128 ls [.int r16]) rfl ?_
    refine lv_if_eq (tgt := 135) hx hb e_M_runArray_128 (by decide) (fun c17 => ?_) (fun c17 => ?_)
    · skip
      replace hw := hw.1 c17
      refine lv_iconst (v := 0) hx hb e_M_runArray_135 (by decide) ?_
      exact K_136 () z2 z3 z4 z6 z8 0 σ15 _ _ _ hw h (lv_sub hl [0, 1, 2, 3, 4, 5] rfl)
    · skip
      replace hw := hw.2 c17
      exact K_131 () z2 z3 z4 z6 z8 σ15 _ _ _ hw h (lv_sub hl [0, 1, 2, 3, 4, 5] rfl)
  have K_68 : ∀ (u9 : Unit), ∀ (z1 : Int32) (z2 : Int32) (z3 : Int32) (z4 : Int64) (z6 : Int64) (z8 : Int32) (s0 : Int32) (s2 : Int64) (σ : MST) (H : Heap) (locs : List Loc) (ls : Array Slot), w_M_runArray_68 P z1 z2 z3 z4 z6 z8 s0 s2 σ → MH (dC, dI) A mo rf ca σ s H locs → lv_has ls 10 [(0, .ref mo), (1, .int z1), (2, .int z2), (3, .int z3), (4, .long z4), (6, .long z6), (8, .int z8)] → W p l e ({ frames := 3, cells := 0, slots := 0, locals := 69 } : Room) s m ([.ref mo, .int x1, .int x2] : List Value).toArray below meth cx H locs 0 0 Q (F0 m 68 ls [.int s0, .ref (rf 60), .long s2]) := by
    intro u9 z1 z2 z3 z4 z6 z8 s0 s2 σ H locs ls hw h hl
    unfold w_M_runArray_68 at hw
    refine M_ald C h 60 (by decide) rfl hw.1 e_M_runArray_68 ?_
    replace hw := hw.2
    refine lv_topi (fun a18 e_a18 => ?_)
    replace hw := hw a18 e_a18
    refine lv_i2l (v := (a18 : Int32).toInt64) hx hb e_M_runArray_69 rfl ?_
    refine W.lcmp hx hb e_M_runArray_70 ?_
    refine lv_if_lt (tgt := 79) hx hb e_M_runArray_71 (by decide) (fun c19 => ?_) (fun c19 => ?_)
    · skip
      replace hw := hw.1 c19
      refine lv_iload_n hx hb e_M_runArray_79 rfl (lv_at hl 1 rfl) ?_
      refine lv_bipush (v := 83) hx hb e_M_runArray_80 (by decide) ?_
      refine lv_icmp_ne (tgt := 131) hx hb e_M_runArray_82 (by decide) (fun c20 => ?_) (fun c20 => ?_)
      · skip
        replace hw := hw.2 c20
        exact K_131 () z2 z3 z4 z6 z8 σ _ _ _ hw h (lv_sub hl [0, 2, 3, 4, 5, 6] rfl)
      · skip
        replace hw := hw.1 c20
        refine lv_lload hx hb e_M_runArray_85 (lv_at hl 4 rfl) ?_
        refine lv_lconst (v := 0) hx hb e_M_runArray_87 (by decide) ?_
        refine W.lcmp hx hb e_M_runArray_88 ?_
        refine lv_if_lt (tgt := 131) hx hb e_M_runArray_89 (by decide) (fun c21 => ?_) (fun c21 => ?_)
        · skip
          replace hw := hw.1 c21
          exact K_131 () z2 z3 z4 z6 z8 σ _ _ _ hw h (lv_sub hl [0, 2, 3, 4, 5, 6] rfl)
        · skip
          replace hw := hw.2 c21
          refine lv_aload_n hx hb e_M_runArray_92 rfl (lv_at hl 0 rfl) ?_
          refine lv_aload_n hx hb e_M_runArray_93 rfl (lv_at hl 0 rfl) ?_
          refine M_get C h 59 (v := .ref (rf 59)) rfl (by decide) v_320 e_M_runArray_94 ?_
          refine lv_lload hx hb e_M_runArray_97 (lv_at hl 4 rfl) ?_
          refine lv_lconst (v := 0) hx hb e_M_runArray_99 (by decide) ?_
          refine W.lcmp hx hb e_M_runArray_100 ?_
          refine lv_if_ge (tgt := 108) hx hb e_M_runArray_101 (by decide) (fun c22 => ?_) (fun c22 => ?_)
          · skip
            replace hw := hw.1 c22
            refine lv_lload hx hb e_M_runArray_108 (lv_at hl 4 rfl) ?_
            refine lv_l2i (v := (z4 : Int64).toInt32) hx hb e_M_runArray_110 rfl ?_
            exact K_111 () z2 z3 z4 z6 z8 ((z4 : Int64).toInt32) σ _ _ _ hw h (lv_sub hl [0, 2, 3, 4, 5, 6] rfl)
          · skip
            replace hw := hw.2 c22
            refine lv_iconst (v := 0) hx hb e_M_runArray_104 (by decide) ?_
            refine lv_goto (tgt := 111) hx hb e_M_runArray_105 (by decide) ?_
            exact K_111 () z2 z3 z4 z6 z8 0 σ _ _ _ hw h (lv_sub hl [0, 2, 3, 4, 5, 6] rfl)
    · skip
      replace hw := hw.2 c19
      exact K_74 () σ _ _ _ hw h (lv_sub hl [0] rfl)
  have K_24 : ∀ (u9 : Unit), ∀ (z1 : Int32) (z2 : Int32) (z3 : Int32) (s0 : Int64) (σ : MST) (H : Heap) (locs : List Loc) (ls : Array Slot), w_M_runArray_24 P z1 z2 z3 s0 σ → MH (dC, dI) A mo rf ca σ s H locs → lv_has ls 10 [(0, .ref mo), (1, .int z1), (2, .int z2), (3, .int z3)] → W p l e ({ frames := 3, cells := 0, slots := 0, locals := 69 } : Room) s m ([.ref mo, .int x1, .int x2] : List Value).toArray below meth cx H locs 0 0 Q (F0 m 24 ls [.long s0]) := by
    intro u9 z1 z2 z3 s0 σ H locs ls hw h hl
    unfold w_M_runArray_24 at hw
    refine lv_lstore (lv' := [(4, .long s0), (0, .ref mo), (1, .int z1), (2, .int z2), (3, .int z3)]) hx hb e_M_runArray_24 hl (by decide) rfl (fun ls hl => ?_)
    refine lv_aload_n hx hb e_M_runArray_26 rfl (lv_at hl 1 rfl) ?_
    refine M_calll (As := []) (rest := []) C h hA (K_M_take l dC dI mo rf ca H.size σ hw) (cwV 0 hts (gV hsub v_349 v_350 v_351 v_7 v_352) rfl rfl rfl (by decide +kernel) ⟨(Nat.le_of_ble_eq_true rfl), (Nat.le_of_ble_eq_true rfl)⟩) rfl hl.1 (Nat.le_of_ble_eq_true rfl) e_M_runArray_27 ⟨(Nat.le_of_ble_eq_true rfl), (Nat.le_of_ble_eq_true rfl)⟩ (fun r24 σ23 H locs hw h => ?_)
    refine W.eq (g2 := F0 m 30 ls [.long r24]) rfl ?_
    refine lv_lstore (lv' := [(6, .long r24), (4, .long s0), (0, .ref mo), (1, .int z1), (2, .int z2), (3, .int z3)]) hx hb e_M_runArray_30 hl (by decide) rfl (fun ls hl => ?_)
    refine lv_aload_n hx hb e_M_runArray_32 rfl (lv_at hl 2 rfl) ?_
    refine M_calll (As := []) (rest := []) C h hA (K_M_take l dC dI mo rf ca H.size σ23 hw) (cwV 0 hts (gV hsub v_349 v_350 v_351 v_7 v_352) rfl rfl rfl (by decide +kernel) ⟨(Nat.le_of_ble_eq_true rfl), (Nat.le_of_ble_eq_true rfl)⟩) rfl hl.1 (Nat.le_of_ble_eq_true rfl) e_M_runArray_33 ⟨(Nat.le_of_ble_eq_true rfl), (Nat.le_of_ble_eq_true rfl)⟩ (fun r26 σ25 H locs hw h => ?_)
    refine W.eq (g2 := F0 m 36 ls [.long r26]) rfl ?_
    refine lv_l2i (v := (r26 : Int64).toInt32) hx hb e_M_runArray_36 rfl ?_
    refine lv_istore (lv' := [(8, .int ((r26 : Int64).toInt32)), (6, .long r24), (4, .long s0), (0, .ref mo), (1, .int z1), (2, .int z2), (3, .int z3)]) hx hb e_M_runArray_37 hl (by decide) rfl (fun ls hl => ?_)
    refine lv_iload hx hb e_M_runArray_39 (lv_at hl 0 rfl) ?_
    refine lv_if_lt (tgt := 74) hx hb e_M_runArray_41 (by decide) (fun c27 => ?_) (fun c27 => ?_)
    · skip
      replace hw := hw.1 c27
      exact K_74 () σ25 _ _ _ hw h (lv_sub hl [3] rfl)
    · skip
      replace hw := hw.2 c27
      refine lv_lload hx hb e_M_runArray_44 (lv_at hl 1 rfl) ?_
      refine lv_lconst (v := 0) hx hb e_M_runArray_46 (by decide) ?_
      refine W.lcmp hx hb e_M_runArray_47 ?_
      refine lv_if_lt (tgt := 74) hx hb e_M_runArray_48 (by decide) (fun c28 => ?_) (fun c28 => ?_)
      · skip
        replace hw := hw.1 c28
        exact K_74 () σ25 _ _ _ hw h (lv_sub hl [3] rfl)
      · skip
        replace hw := hw.2 c28
        refine lv_lload hx hb e_M_runArray_51 (lv_at hl 1 rfl) ?_
        refine lv_aload_n hx hb e_M_runArray_53 rfl (lv_at hl 3 rfl) ?_
        refine M_get C h 60 (v := .ref (rf 60)) rfl (by decide) v_321 e_M_runArray_54 ?_
        refine lv_iload hx hb e_M_runArray_57 (lv_at hl 0 rfl) ?_
        refine lv_if_ge (tgt := 66) hx hb e_M_runArray_59 (by decide) (fun c29 => ?_) (fun c29 => ?_)
        · skip
          replace hw := hw.1 c29
          refine lv_iload hx hb e_M_runArray_66 (lv_at hl 0 rfl) ?_
          exact K_68 () z1 z2 z3 s0 r24 ((r26 : Int64).toInt32) ((r26 : Int64).toInt32) r24 σ25 _ _ _ hw h (lv_sub hl [3, 4, 5, 6, 2, 1, 0] rfl)
        · skip
          replace hw := hw.2 c29
          refine lv_iconst (v := 0) hx hb e_M_runArray_62 (by decide) ?_
          refine lv_goto (tgt := 68) hx hb e_M_runArray_63 (by decide) ?_
          exact K_68 () z1 z2 z3 s0 r24 ((r26 : Int64).toInt32) 0 r24 σ25 _ _ _ hw h (lv_sub hl [3, 4, 5, 6, 2, 1, 0] rfl)
  have K_11 : ∀ (u9 : Unit), ∀ (z1 : Int32) (z2 : Int32) (s0 : Int32) (σ : MST) (H : Heap) (locs : List Loc) (ls : Array Slot), w_M_runArray_11 P z1 z2 s0 σ → MH (dC, dI) A mo rf ca σ s H locs → lv_has ls 10 [(0, .ref mo), (1, .int z1), (2, .int z2)] → W p l e ({ frames := 3, cells := 0, slots := 0, locals := 69 } : Room) s m ([.ref mo, .int x1, .int x2] : List Value).toArray below meth cx H locs 0 0 Q (F0 m 11 ls [.int s0]) := by
    intro u9 z1 z2 s0 σ H locs ls hw h hl
    unfold w_M_runArray_11 at hw
    refine lv_istore_n (lv' := [(3, .int s0), (0, .ref mo), (1, .int z1), (2, .int z2)]) hx hb e_M_runArray_11 rfl hl (by decide) rfl (fun ls hl => ?_)
    refine lv_iload_n hx hb e_M_runArray_12 rfl (lv_at hl 0 rfl) ?_
    refine lv_if_eq (tgt := 23) hx hb e_M_runArray_13 (by decide) (fun c30 => ?_) (fun c30 => ?_)
    · skip
      replace hw := hw.1 c30
      refine lv_lconst (v := 0) hx hb e_M_runArray_23 (by decide) ?_
      exact K_24 () z1 z2 s0 0 σ _ _ _ hw h (lv_sub hl [1, 2, 3, 0] rfl)
    · skip
      replace hw := hw.2 c30
      refine lv_aload_n hx hb e_M_runArray_16 rfl (lv_at hl 1 rfl) ?_
      refine M_calll (As := []) (rest := []) C h hA (K_M_take l dC dI mo rf ca H.size σ hw) (cwV 0 hts (gV hsub v_349 v_350 v_351 v_7 v_352) rfl rfl rfl (by decide +kernel) ⟨(Nat.le_of_ble_eq_true rfl), (Nat.le_of_ble_eq_true rfl)⟩) rfl hl.1 (Nat.le_of_ble_eq_true rfl) e_M_runArray_17 ⟨(Nat.le_of_ble_eq_true rfl), (Nat.le_of_ble_eq_true rfl)⟩ (fun r32 σ31 H locs hw h => ?_)
      refine W.eq (g2 := F0 m 20 ls [.long r32]) rfl ?_
      refine lv_goto (tgt := 24) hx hb e_M_runArray_20 (by decide) ?_
      exact K_24 () z1 z2 s0 r32 σ31 _ _ _ hw h (lv_sub hl [1, 2, 3, 0] rfl)
  have hl : lv_has ls 10 [(0, .ref mo), (1, .int x1), (2, .int x2)] := hl
  unfold w_M_runArray at hw
  refine lv_iload_n hx hb e_M_runArray_0 rfl (lv_at hl 1 rfl) ?_
  refine lv_bipush (v := 78) hx hb e_M_runArray_1 (by decide) ?_
  refine lv_icmp_le (tgt := 10) hx hb e_M_runArray_3 (by decide) (fun c33 => ?_) (fun c33 => ?_)
  · skip
    replace hw := hw.1 c33
    refine lv_iconst (v := 0) hx hb e_M_runArray_10 (by decide) ?_
    exact K_11 () x1 x2 0 σ _ _ _ hw h (lv_sub hl [0, 1, 2] rfl)
  · skip
    replace hw := hw.2 c33
    refine lv_iconst (v := 1) hx hb e_M_runArray_6 (by decide) ?_
    refine lv_goto (tgt := 11) hx hb e_M_runArray_7 (by decide) ?_
    exact K_11 () x1 x2 1 σ _ _ _ hw h (lv_sub hl [0, 1, 2] rfl)
abbrev z_M_runShuffle : MethodName := ⟨"MapFramerModel", "runShuffle", "(III)V"⟩
theorem e_M_runShuffle_0 : decode prog_14_method_91_code 0 = .ok (.bipush 120, 2) := by decide +kernel
theorem e_M_runShuffle_2 : decode prog_14_method_91_code 2 = .ok (.iload_n 2, 1) := by decide +kernel
theorem e_M_runShuffle_3 : decode prog_14_method_91_code 3 = .ok (.imul, 1) := by decide +kernel
theorem e_M_runShuffle_4 : decode prog_14_method_91_code 4 = .ok (.iload_n 3, 1) := by decide +kernel
theorem e_M_runShuffle_5 : decode prog_14_method_91_code 5 = .ok (.iadd, 1) := by decide +kernel
theorem e_M_runShuffle_6 : decode prog_14_method_91_code 6 = .ok (.istore 4, 2) := by decide +kernel
theorem e_M_runShuffle_8 : decode prog_14_method_91_code 8 = .ok (.aload_n 0, 1) := by decide +kernel
theorem e_M_runShuffle_9 : decode prog_14_method_91_code 9 = .ok (.getfield 87, 3) := by decide +kernel
theorem e_M_runShuffle_12 : decode prog_14_method_91_code 12 = .ok (.bipush 12, 2) := by decide +kernel
theorem e_M_runShuffle_14 : decode prog_14_method_91_code 14 = .ok (.iload 4, 2) := by decide +kernel
theorem e_M_runShuffle_16 : decode prog_14_method_91_code 16 = .ok (.imul, 1) := by decide +kernel
theorem e_M_runShuffle_17 : decode prog_14_method_91_code 17 = .ok (.aload_n 0, 1) := by decide +kernel
theorem e_M_runShuffle_18 : decode prog_14_method_91_code 18 = .ok (.getfield 81, 3) := by decide +kernel
theorem e_M_runShuffle_21 : decode prog_14_method_91_code 21 = .ok (.iload 4, 2) := by decide +kernel
theorem e_M_runShuffle_23 : decode prog_14_method_91_code 23 = .ok (.iaload, 1) := by decide +kernel
theorem e_M_runShuffle_24 : decode prog_14_method_91_code 24 = .ok (.iadd, 1) := by decide +kernel
theorem e_M_runShuffle_25 : decode prog_14_method_91_code 25 = .ok (.iconst 1, 1) := by decide +kernel
theorem e_M_runShuffle_26 : decode prog_14_method_91_code 26 = .ok (.isub, 1) := by decide +kernel
theorem e_M_runShuffle_27 : decode prog_14_method_91_code 27 = .ok (.iaload, 1) := by decide +kernel
theorem e_M_runShuffle_28 : decode prog_14_method_91_code 28 = .ok (.iconst 2, 1) := by decide +kernel
theorem e_M_runShuffle_29 : decode prog_14_method_91_code 29 = .ok (.if_icmp .ne 7, 3) := by decide +kernel
theorem e_M_runShuffle_32 : decode prog_14_method_91_code 32 = .ok (.iconst 1, 1) := by decide +kernel
theorem e_M_runShuffle_33 : decode prog_14_method_91_code 33 = .ok (.goto 4, 3) := by decide +kernel
theorem e_M_runShuffle_36 : decode prog_14_method_91_code 36 = .ok (.iconst 0, 1) := by decide +kernel
theorem e_M_runShuffle_37 : decode prog_14_method_91_code 37 = .ok (.istore 5, 2) := by decide +kernel
theorem e_M_runShuffle_39 : decode prog_14_method_91_code 39 = .ok (.aload_n 0, 1) := by decide +kernel
theorem e_M_runShuffle_40 : decode prog_14_method_91_code 40 = .ok (.invokevirtual 449, 3) := by decide +kernel
theorem e_M_runShuffle_43 : decode prog_14_method_91_code 43 = .ok (.lstore 6, 2) := by decide +kernel
theorem e_M_runShuffle_45 : decode prog_14_method_91_code 45 = .ok (.iload_n 1, 1) := by decide +kernel
theorem e_M_runShuffle_46 : decode prog_14_method_91_code 46 = .ok (.bipush 89, 2) := by decide +kernel
theorem e_M_runShuffle_48 : decode prog_14_method_91_code 48 = .ok (.if_icmp .eq 14, 3) := by decide +kernel
theorem e_M_runShuffle_51 : decode prog_14_method_91_code 51 = .ok (.iload_n 1, 1) := by decide +kernel
theorem e_M_runShuffle_52 : decode prog_14_method_91_code 52 = .ok (.bipush 92, 2) := by decide +kernel
theorem e_M_runShuffle_54 : decode prog_14_method_91_code 54 = .ok (.if_icmp .ne 14, 3) := by decide +kernel
theorem e_M_runShuffle_57 : decode prog_14_method_91_code 57 = .ok (.iload 5, 2) := by decide +kernel
theorem e_M_runShuffle_59 : decode prog_14_method_91_code 59 = .ok (.ifCond .eq 9, 3) := by decide +kernel
theorem e_M_runShuffle_62 : decode prog_14_method_91_code 62 = .ok (.aload_n 0, 1) := by decide +kernel
theorem e_M_runShuffle_63 : decode prog_14_method_91_code 63 = .ok (.lload 6, 2) := by decide +kernel
theorem e_M_runShuffle_65 : decode prog_14_method_91_code 65 = .ok (.invokevirtual 439, 3) := by decide +kernel
theorem e_M_runShuffle_68 : decode prog_14_method_91_code 68 = .ok (.iload_n 1, 1) := by decide +kernel
theorem e_M_runShuffle_69 : decode prog_14_method_91_code 69 = .ok (.bipush 89, 2) := by decide +kernel
theorem e_M_runShuffle_71 : decode prog_14_method_91_code 71 = .ok (.if_icmp .eq 14, 3) := by decide +kernel
theorem e_M_runShuffle_74 : decode prog_14_method_91_code 74 = .ok (.iload_n 1, 1) := by decide +kernel
theorem e_M_runShuffle_75 : decode prog_14_method_91_code 75 = .ok (.bipush 92, 2) := by decide +kernel
theorem e_M_runShuffle_77 : decode prog_14_method_91_code 77 = .ok (.if_icmp .ne 14, 3) := by decide +kernel
theorem e_M_runShuffle_80 : decode prog_14_method_91_code 80 = .ok (.iload 5, 2) := by decide +kernel
theorem e_M_runShuffle_82 : decode prog_14_method_91_code 82 = .ok (.ifCond .eq 9, 3) := by decide +kernel
theorem e_M_runShuffle_85 : decode prog_14_method_91_code 85 = .ok (.aload_n 0, 1) := by decide +kernel
theorem e_M_runShuffle_86 : decode prog_14_method_91_code 86 = .ok (.lload 6, 2) := by decide +kernel
theorem e_M_runShuffle_88 : decode prog_14_method_91_code 88 = .ok (.invokevirtual 439, 3) := by decide +kernel
theorem e_M_runShuffle_91 : decode prog_14_method_91_code 91 = .ok (.iload_n 1, 1) := by decide +kernel
theorem e_M_runShuffle_92 : decode prog_14_method_91_code 92 = .ok (.bipush 87, 2) := by decide +kernel
theorem e_M_runShuffle_94 : decode prog_14_method_91_code 94 = .ok (.if_icmp .eq 26, 3) := by decide +kernel
theorem e_M_runShuffle_97 : decode prog_14_method_91_code 97 = .ok (.iload_n 1, 1) := by decide +kernel
theorem e_M_runShuffle_98 : decode prog_14_method_91_code 98 = .ok (.bipush 89, 2) := by decide +kernel
theorem e_M_runShuffle_100 : decode prog_14_method_91_code 100 = .ok (.if_icmp .eq 20, 3) := by decide +kernel
theorem e_M_runShuffle_103 : decode prog_14_method_91_code 103 = .ok (.iload_n 1, 1) := by decide +kernel
theorem e_M_runShuffle_104 : decode prog_14_method_91_code 104 = .ok (.bipush 88, 2) := by decide +kernel
theorem e_M_runShuffle_106 : decode prog_14_method_91_code 106 = .ok (.if_icmp .eq 9, 3) := by decide +kernel
theorem e_M_runShuffle_109 : decode prog_14_method_91_code 109 = .ok (.iload_n 1, 1) := by decide +kernel
theorem e_M_runShuffle_110 : decode prog_14_method_91_code 110 = .ok (.bipush 92, 2) := by decide +kernel
theorem e_M_runShuffle_112 : decode prog_14_method_91_code 112 = .ok (.if_icmp .ne 9, 3) := by decide +kernel
theorem e_M_runShuffle_115 : decode prog_14_method_91_code 115 = .ok (.iload 5, 2) := by decide +kernel
theorem e_M_runShuffle_117 : decode prog_14_method_91_code 117 = .ok (.ifCond .eq 4, 3) := by decide +kernel
theorem e_M_runShuffle_120 : decode prog_14_method_91_code 120 = .ok (.return_, 1) := by decide +kernel
theorem e_M_runShuffle_121 : decode prog_14_method_91_code 121 = .ok (.aload_n 0, 1) := by decide +kernel
theorem e_M_runShuffle_122 : decode prog_14_method_91_code 122 = .ok (.invokevirtual 449, 3) := by decide +kernel
theorem e_M_runShuffle_125 : decode prog_14_method_91_code 125 = .ok (.lstore 8, 2) := by decide +kernel
theorem e_M_runShuffle_127 : decode prog_14_method_91_code 127 = .ok (.iload_n 1, 1) := by decide +kernel
theorem e_M_runShuffle_128 : decode prog_14_method_91_code 128 = .ok (.bipush 88, 2) := by decide +kernel
theorem e_M_runShuffle_130 : decode prog_14_method_91_code 130 = .ok (.if_icmp .ne 4, 3) := by decide +kernel
theorem e_M_runShuffle_133 : decode prog_14_method_91_code 133 = .ok (.return_, 1) := by decide +kernel
theorem e_M_runShuffle_134 : decode prog_14_method_91_code 134 = .ok (.iload_n 1, 1) := by decide +kernel
theorem e_M_runShuffle_135 : decode prog_14_method_91_code 135 = .ok (.bipush 92, 2) := by decide +kernel
theorem e_M_runShuffle_137 : decode prog_14_method_91_code 137 = .ok (.if_icmp .ne 9, 3) := by decide +kernel
theorem e_M_runShuffle_140 : decode prog_14_method_91_code 140 = .ok (.aload_n 0, 1) := by decide +kernel
theorem e_M_runShuffle_141 : decode prog_14_method_91_code 141 = .ok (.lload 8, 2) := by decide +kernel
theorem e_M_runShuffle_143 : decode prog_14_method_91_code 143 = .ok (.invokevirtual 439, 3) := by decide +kernel
theorem e_M_runShuffle_146 : decode prog_14_method_91_code 146 = .ok (.aload_n 0, 1) := by decide +kernel
theorem e_M_runShuffle_147 : decode prog_14_method_91_code 147 = .ok (.lload 6, 2) := by decide +kernel
theorem e_M_runShuffle_149 : decode prog_14_method_91_code 149 = .ok (.invokevirtual 439, 3) := by decide +kernel
theorem e_M_runShuffle_152 : decode prog_14_method_91_code 152 = .ok (.aload_n 0, 1) := by decide +kernel
theorem e_M_runShuffle_153 : decode prog_14_method_91_code 153 = .ok (.lload 8, 2) := by decide +kernel
theorem e_M_runShuffle_155 : decode prog_14_method_91_code 155 = .ok (.invokevirtual 439, 3) := by decide +kernel
theorem e_M_runShuffle_158 : decode prog_14_method_91_code 158 = .ok (.iload_n 1, 1) := by decide +kernel
theorem e_M_runShuffle_159 : decode prog_14_method_91_code 159 = .ok (.bipush 90, 2) := by decide +kernel
theorem e_M_runShuffle_161 : decode prog_14_method_91_code 161 = .ok (.if_icmp .eq 9, 3) := by decide +kernel
theorem e_M_runShuffle_164 : decode prog_14_method_91_code 164 = .ok (.iload_n 1, 1) := by decide +kernel
theorem e_M_runShuffle_165 : decode prog_14_method_91_code 165 = .ok (.bipush 92, 2) := by decide +kernel
theorem e_M_runShuffle_167 : decode prog_14_method_91_code 167 = .ok (.if_icmp .ne 9, 3) := by decide +kernel
theorem e_M_runShuffle_170 : decode prog_14_method_91_code 170 = .ok (.aload_n 0, 1) := by decide +kernel
theorem e_M_runShuffle_171 : decode prog_14_method_91_code 171 = .ok (.lload 6, 2) := by decide +kernel
theorem e_M_runShuffle_173 : decode prog_14_method_91_code 173 = .ok (.invokevirtual 439, 3) := by decide +kernel
theorem e_M_runShuffle_176 : decode prog_14_method_91_code 176 = .ok (.return_, 1) := by decide +kernel
def w_M_runShuffle_170 (P : MST → Prop) (z6 : Int64) (σ : MST) : Prop := w_M_lay z6 σ (fun σ1 => P σ1)
def w_M_runShuffle_146 (P : MST → Prop) (z1 : Int32) (z6 : Int64) (z8 : Int64) (σ : MST) : Prop := w_M_lay z6 σ (fun σ3 => w_M_lay z8 σ3 (fun σ5 => ((z1 = 90 → w_M_runShuffle_170 P z6 σ5) ∧ (¬ z1 = 90 → ((z1 = 92 → w_M_runShuffle_170 P z6 σ5) ∧ (¬ z1 = 92 → P σ5))))))
def w_M_runShuffle_121 (P : MST → Prop) (z1 : Int32) (z6 : Int64) (σ : MST) : Prop := w_M_take σ (fun r10 σ9 => ((z1 = 88 → P σ9) ∧ (¬ z1 = 88 → ((z1 = 92 → w_M_lay r10 σ9 (fun σ13 => w_M_runShuffle_146 P z1 z6 r10 σ13)) ∧ (¬ z1 = 92 → w_M_runShuffle_146 P z1 z6 r10 σ9)))))
def w_M_runShuffle_115 (P : MST → Prop) (z1 : Int32) (z5 : Int32) (z6 : Int64) (σ : MST) : Prop := ((z5 = 0 → w_M_runShuffle_121 P z1 z6 σ) ∧ (¬ z5 = 0 → P σ))
def w_M_runShuffle_91 (P : MST → Prop) (z1 : Int32) (z5 : Int32) (z6 : Int64) (σ : MST) : Prop := ((z1 = 87 → P σ) ∧ (¬ z1 = 87 → ((z1 = 89 → P σ) ∧ (¬ z1 = 89 → ((z1 = 88 → w_M_runShuffle_115 P z1 z5 z6 σ) ∧ (¬ z1 = 88 → ((z1 = 92 → w_M_runShuffle_115 P z1 z5 z6 σ) ∧ (¬ z1 = 92 → w_M_runShuffle_121 P z1 z6 σ))))))))
def w_M_runShuffle_85 (P : MST → Prop) (z1 : Int32) (z5 : Int32) (z6 : Int64) (σ : MST) : Prop := w_M_lay z6 σ (fun σ20 => w_M_runShuffle_91 P z1 z5 z6 σ20)
def w_M_runShuffle_68 (P : MST → Prop) (z1 : Int32) (z5 : Int32) (z6 : Int64) (σ : MST) : Prop := ((z1 = 89 → w_M_runShuffle_85 P z1 z5 z6 σ) ∧ (¬ z1 = 89 → ((z1 = 92 → ((z5 = 0 → w_M_runShuffle_91 P z1 z5 z6 σ) ∧ (¬ z5 = 0 → w_M_runShuffle_85 P z1 z5 z6 σ))) ∧ (¬ z1 = 92 → w_M_runShuffle_91 P z1 z5 z6 σ))))
def w_M_runShuffle_62 (P : MST → Prop) (z1 : Int32) (z5 : Int32) (z6 : Int64) (σ : MST) : Prop := w_M_lay z6 σ (fun σ25 => w_M_runShuffle_68 P z1 z5 z6 σ25)
def w_M_runShuffle_37 (P : MST → Prop) (z1 : Int32) (s0 : Int32) (σ : MST) : Prop := w_M_take σ (fun r28 σ27 => ((z1 = 89 → w_M_runShuffle_62 P z1 s0 r28 σ27) ∧ (¬ z1 = 89 → ((z1 = 92 → ((s0 = 0 → w_M_runShuffle_68 P z1 s0 r28 σ27) ∧ (¬ s0 = 0 → w_M_runShuffle_62 P z1 s0 r28 σ27))) ∧ (¬ z1 = 92 → w_M_runShuffle_68 P z1 s0 r28 σ27)))))
def w_M_runShuffle (x1 : Int32) (x2 : Int32) (x3 : Int32) (σ : MST) (P : MST → Prop) : Prop := vp_in (((120 : Int32) * x2) + x3) 960 ∧ (∀ a32 : Int32, a32 = (σ.2.1 27 ((((120 : Int32) * x2) + x3) : Int32).toNatClampNeg) → vp_in ((((12 : Int32) * (((120 : Int32) * x2) + x3)) + a32) - 1) 11520 ∧ (∀ a33 : Int32, a33 = (σ.2.1 29 (((((12 : Int32) * (((120 : Int32) * x2) + x3)) + a32) - 1) : Int32).toNatClampNeg) → ((a33 = 2 → w_M_runShuffle_37 P x1 1 σ) ∧ (¬ a33 = 2 → w_M_runShuffle_37 P x1 0 σ))))
set_option maxHeartbeats 4000000 in
set_option maxRecDepth 100000 in
theorem K_M_runShuffle (l : Launch) (dC : Nat → ClassId) (dI : Nat → Nat → Nat) (mo : Nat) (rf : Nat → Nat) (ca : Nat → ClassId) (sz : Nat) (σ : MST) (x1 : Int32) (x2 : Int32) (x3 : Int32) {P : MST → Prop} (hw : w_M_runShuffle x1 x2 x3 σ P) : Met l z_M_runShuffle (mW z_M_runShuffle prog_14_method_91_code 10 none) ({ frames := 1, cells := 0, slots := 0, locals := 22 } : Room) (va_Pc [.ref mo, .int x1, .int x2, .int x3] (MPre (dC, dI) mo rf ca σ sz)) (va_Qv P (MB (dC, dI) mo rf ca sz) (mA mo rf sz)) 0 0 (mA mo rf sz) := by
  refine M_ofv (by decide) rfl (Nat.le_of_ble_eq_true rfl) ?_
  intro p e s m below meth cx Q A ls C hA hend h hl
  have C0 := C
  obtain ⟨⟨hx, hb, hml, hown, hts⟩, hsub⟩ := C0
  have K_170 : ∀ (u9 : Unit), ∀ (z6 : Int64) (σ : MST) (H : Heap) (locs : List Loc) (ls : Array Slot), w_M_runShuffle_170 P z6 σ → MH (dC, dI) A mo rf ca σ s H locs → lv_has ls 10 [(0, .ref mo), (6, .long z6)] → W p l e ({ frames := 1, cells := 0, slots := 0, locals := 22 } : Room) s m ([.ref mo, .int x1, .int x2, .int x3] : List Value).toArray below meth cx H locs 0 0 Q (F0 m 170 ls []) := by
    intro u9 z6 σ H locs ls hw h hl
    unfold w_M_runShuffle_170 at hw
    refine lv_aload_n hx hb e_M_runShuffle_170 rfl (lv_at hl 0 rfl) ?_
    refine lv_lload hx hb e_M_runShuffle_171 (lv_at hl 1 rfl) ?_
    refine M_callv (As := [.long z6]) (rest := []) C h hA (K_M_lay l dC dI mo rf ca H.size σ z6 hw) (cwV 1 hts (gV hsub v_326 v_327 v_328 v_7 v_329) rfl rfl rfl (by decide +kernel) ⟨(Nat.le_of_ble_eq_true rfl), (Nat.le_of_ble_eq_true rfl)⟩) rfl hl.1 (Nat.le_of_ble_eq_true rfl) e_M_runShuffle_173 ⟨(Nat.le_of_ble_eq_true rfl), (Nat.le_of_ble_eq_true rfl)⟩ (fun σ1 H locs hw h => ?_)
    refine W.eq (g2 := F0 m 176 ls []) rfl ?_
    exact hend σ1 _ _ _ _ hw h e_M_runShuffle_176
  have K_146 : ∀ (u9 : Unit), ∀ (z1 : Int32) (z6 : Int64) (z8 : Int64) (σ : MST) (H : Heap) (locs : List Loc) (ls : Array Slot), w_M_runShuffle_146 P z1 z6 z8 σ → MH (dC, dI) A mo rf ca σ s H locs → lv_has ls 10 [(0, .ref mo), (1, .int z1), (6, .long z6), (8, .long z8)] → W p l e ({ frames := 1, cells := 0, slots := 0, locals := 22 } : Room) s m ([.ref mo, .int x1, .int x2, .int x3] : List Value).toArray below meth cx H locs 0 0 Q (F0 m 146 ls []) := by
    intro u9 z1 z6 z8 σ H locs ls hw h hl
    unfold w_M_runShuffle_146 at hw
    refine lv_aload_n hx hb e_M_runShuffle_146 rfl (lv_at hl 0 rfl) ?_
    refine lv_lload hx hb e_M_runShuffle_147 (lv_at hl 2 rfl) ?_
    refine M_callv (As := [.long z6]) (rest := []) C h hA (K_M_lay l dC dI mo rf ca H.size σ z6 hw) (cwV 1 hts (gV hsub v_326 v_327 v_328 v_7 v_329) rfl rfl rfl (by decide +kernel) ⟨(Nat.le_of_ble_eq_true rfl), (Nat.le_of_ble_eq_true rfl)⟩) rfl hl.1 (Nat.le_of_ble_eq_true rfl) e_M_runShuffle_149 ⟨(Nat.le_of_ble_eq_true rfl), (Nat.le_of_ble_eq_true rfl)⟩ (fun σ3 H locs hw h => ?_)
    refine W.eq (g2 := F0 m 152 ls []) rfl ?_
    refine lv_aload_n hx hb e_M_runShuffle_152 rfl (lv_at hl 0 rfl) ?_
    refine lv_lload hx hb e_M_runShuffle_153 (lv_at hl 3 rfl) ?_
    refine M_callv (As := [.long z8]) (rest := []) C h hA (K_M_lay l dC dI mo rf ca H.size σ3 z8 hw) (cwV 1 hts (gV hsub v_326 v_327 v_328 v_7 v_329) rfl rfl rfl (by decide +kernel) ⟨(Nat.le_of_ble_eq_true rfl), (Nat.le_of_ble_eq_true rfl)⟩) rfl hl.1 (Nat.le_of_ble_eq_true rfl) e_M_runShuffle_155 ⟨(Nat.le_of_ble_eq_true rfl), (Nat.le_of_ble_eq_true rfl)⟩ (fun σ5 H locs hw h => ?_)
    refine W.eq (g2 := F0 m 158 ls []) rfl ?_
    refine lv_iload_n hx hb e_M_runShuffle_158 rfl (lv_at hl 1 rfl) ?_
    refine lv_bipush (v := 90) hx hb e_M_runShuffle_159 (by decide) ?_
    refine lv_icmp_eq (tgt := 170) hx hb e_M_runShuffle_161 (by decide) (fun c7 => ?_) (fun c7 => ?_)
    · skip
      replace hw := hw.1 c7
      exact K_170 () z6 σ5 _ _ _ hw h (lv_sub hl [0, 2] rfl)
    · skip
      replace hw := hw.2 c7
      refine lv_iload_n hx hb e_M_runShuffle_164 rfl (lv_at hl 1 rfl) ?_
      refine lv_bipush (v := 92) hx hb e_M_runShuffle_165 (by decide) ?_
      refine lv_icmp_ne (tgt := 176) hx hb e_M_runShuffle_167 (by decide) (fun c8 => ?_) (fun c8 => ?_)
      · skip
        replace hw := hw.2 c8
        exact hend σ5 _ _ _ _ hw h e_M_runShuffle_176
      · skip
        replace hw := hw.1 c8
        exact K_170 () z6 σ5 _ _ _ hw h (lv_sub hl [0, 2] rfl)
  have K_121 : ∀ (u9 : Unit), ∀ (z1 : Int32) (z6 : Int64) (σ : MST) (H : Heap) (locs : List Loc) (ls : Array Slot), w_M_runShuffle_121 P z1 z6 σ → MH (dC, dI) A mo rf ca σ s H locs → lv_has ls 10 [(0, .ref mo), (1, .int z1), (6, .long z6)] → W p l e ({ frames := 1, cells := 0, slots := 0, locals := 22 } : Room) s m ([.ref mo, .int x1, .int x2, .int x3] : List Value).toArray below meth cx H locs 0 0 Q (F0 m 121 ls []) := by
    intro u9 z1 z6 σ H locs ls hw h hl
    unfold w_M_runShuffle_121 at hw
    refine lv_aload_n hx hb e_M_runShuffle_121 rfl (lv_at hl 0 rfl) ?_
    refine M_calll (As := []) (rest := []) C h hA (K_M_take l dC dI mo rf ca H.size σ hw) (cwV 0 hts (gV hsub v_349 v_350 v_351 v_7 v_352) rfl rfl rfl (by decide +kernel) ⟨(Nat.le_of_ble_eq_true rfl), (Nat.le_of_ble_eq_true rfl)⟩) rfl hl.1 (Nat.le_of_ble_eq_true rfl) e_M_runShuffle_122 ⟨(Nat.le_of_ble_eq_true rfl), (Nat.le_of_ble_eq_true rfl)⟩ (fun r10 σ9 H locs hw h => ?_)
    refine W.eq (g2 := F0 m 125 ls [.long r10]) rfl ?_
    refine lv_lstore (lv' := [(8, .long r10), (0, .ref mo), (1, .int z1), (6, .long z6)]) hx hb e_M_runShuffle_125 hl (by decide) rfl (fun ls hl => ?_)
    refine lv_iload_n hx hb e_M_runShuffle_127 rfl (lv_at hl 2 rfl) ?_
    refine lv_bipush (v := 88) hx hb e_M_runShuffle_128 (by decide) ?_
    refine lv_icmp_ne (tgt := 134) hx hb e_M_runShuffle_130 (by decide) (fun c11 => ?_) (fun c11 => ?_)
    · skip
      replace hw := hw.2 c11
      refine lv_iload_n hx hb e_M_runShuffle_134 rfl (lv_at hl 2 rfl) ?_
      refine lv_bipush (v := 92) hx hb e_M_runShuffle_135 (by decide) ?_
      refine lv_icmp_ne (tgt := 146) hx hb e_M_runShuffle_137 (by decide) (fun c12 => ?_) (fun c12 => ?_)
      · skip
        replace hw := hw.2 c12
        exact K_146 () z1 z6 r10 σ9 _ _ _ hw h (lv_sub hl [1, 2, 3, 0] rfl)
      · skip
        replace hw := hw.1 c12
        refine lv_aload_n hx hb e_M_runShuffle_140 rfl (lv_at hl 1 rfl) ?_
        refine lv_lload hx hb e_M_runShuffle_141 (lv_at hl 0 rfl) ?_
        refine M_callv (As := [.long r10]) (rest := []) C h hA (K_M_lay l dC dI mo rf ca H.size σ9 r10 hw) (cwV 1 hts (gV hsub v_326 v_327 v_328 v_7 v_329) rfl rfl rfl (by decide +kernel) ⟨(Nat.le_of_ble_eq_true rfl), (Nat.le_of_ble_eq_true rfl)⟩) rfl hl.1 (Nat.le_of_ble_eq_true rfl) e_M_runShuffle_143 ⟨(Nat.le_of_ble_eq_true rfl), (Nat.le_of_ble_eq_true rfl)⟩ (fun σ13 H locs hw h => ?_)
        refine W.eq (g2 := F0 m 146 ls []) rfl ?_
        exact K_146 () z1 z6 r10 σ13 _ _ _ hw h (lv_sub hl [1, 2, 3, 0] rfl)
    · skip
      replace hw := hw.1 c11
      exact hend σ9 _ _ _ _ hw h e_M_runShuffle_133
  have K_115 : ∀ (u9 : Unit), ∀ (z1 : Int32) (z5 : Int32) (z6 : Int64) (σ : MST) (H : Heap) (locs : List Loc) (ls : Array Slot), w_M_runShuffle_115 P z1 z5 z6 σ → MH (dC, dI) A mo rf ca σ s H locs → lv_has ls 10 [(0, .ref mo), (1, .int z1), (5, .int z5), (6, .long z6)] → W p l e ({ frames := 1, cells := 0, slots := 0, locals := 22 } : Room) s m ([.ref mo, .int x1, .int x2, .int x3] : List Value).toArray below meth cx H locs 0 0 Q (F0 m 115 ls []) := by
    intro u9 z1 z5 z6 σ H locs ls hw h hl
    unfold w_M_runShuffle_115 at hw
    refine lv_iload hx hb e_M_runShuffle_115 (lv_at hl 2 rfl) ?_
    refine lv_if_eq (tgt := 121) hx hb e_M_runShuffle_117 (by decide) (fun c15 => ?_) (fun c15 => ?_)
    · skip
      replace hw := hw.1 c15
      exact K_121 () z1 z6 σ _ _ _ hw h (lv_sub hl [0, 1, 3] rfl)
    · skip
      replace hw := hw.2 c15
      exact hend σ _ _ _ _ hw h e_M_runShuffle_120
  have K_91 : ∀ (u9 : Unit), ∀ (z1 : Int32) (z5 : Int32) (z6 : Int64) (σ : MST) (H : Heap) (locs : List Loc) (ls : Array Slot), w_M_runShuffle_91 P z1 z5 z6 σ → MH (dC, dI) A mo rf ca σ s H locs → lv_has ls 10 [(0, .ref mo), (1, .int z1), (5, .int z5), (6, .long z6)] → W p l e ({ frames := 1, cells := 0, slots := 0, locals := 22 } : Room) s m ([.ref mo, .int x1, .int x2, .int x3] : List Value).toArray below meth cx H locs 0 0 Q (F0 m 91 ls []) := by
    intro u9 z1 z5 z6 σ H locs ls hw h hl
    unfold w_M_runShuffle_91 at hw
    refine lv_iload_n hx hb e_M_runShuffle_91 rfl (lv_at hl 1 rfl) ?_
    refine lv_bipush (v := 87) hx hb e_M_runShuffle_92 (by decide) ?_
    refine lv_icmp_eq (tgt := 120) hx hb e_M_runShuffle_94 (by decide) (fun c16 => ?_) (fun c16 => ?_)
    · skip
      replace hw := hw.1 c16
      exact hend σ _ _ _ _ hw h e_M_runShuffle_120
    · skip
      replace hw := hw.2 c16
      refine lv_iload_n hx hb e_M_runShuffle_97 rfl (lv_at hl 1 rfl) ?_
      refine lv_bipush (v := 89) hx hb e_M_runShuffle_98 (by decide) ?_
      refine lv_icmp_eq (tgt := 120) hx hb e_M_runShuffle_100 (by decide) (fun c17 => ?_) (fun c17 => ?_)
      · skip
        replace hw := hw.1 c17
        exact hend σ _ _ _ _ hw h e_M_runShuffle_120
      · skip
        replace hw := hw.2 c17
        refine lv_iload_n hx hb e_M_runShuffle_103 rfl (lv_at hl 1 rfl) ?_
        refine lv_bipush (v := 88) hx hb e_M_runShuffle_104 (by decide) ?_
        refine lv_icmp_eq (tgt := 115) hx hb e_M_runShuffle_106 (by decide) (fun c18 => ?_) (fun c18 => ?_)
        · skip
          replace hw := hw.1 c18
          exact K_115 () z1 z5 z6 σ _ _ _ hw h (lv_sub hl [0, 1, 2, 3] rfl)
        · skip
          replace hw := hw.2 c18
          refine lv_iload_n hx hb e_M_runShuffle_109 rfl (lv_at hl 1 rfl) ?_
          refine lv_bipush (v := 92) hx hb e_M_runShuffle_110 (by decide) ?_
          refine lv_icmp_ne (tgt := 121) hx hb e_M_runShuffle_112 (by decide) (fun c19 => ?_) (fun c19 => ?_)
          · skip
            replace hw := hw.2 c19
            exact K_121 () z1 z6 σ _ _ _ hw h (lv_sub hl [0, 1, 3] rfl)
          · skip
            replace hw := hw.1 c19
            exact K_115 () z1 z5 z6 σ _ _ _ hw h (lv_sub hl [0, 1, 2, 3] rfl)
  have K_85 : ∀ (u9 : Unit), ∀ (z1 : Int32) (z5 : Int32) (z6 : Int64) (σ : MST) (H : Heap) (locs : List Loc) (ls : Array Slot), w_M_runShuffle_85 P z1 z5 z6 σ → MH (dC, dI) A mo rf ca σ s H locs → lv_has ls 10 [(0, .ref mo), (1, .int z1), (5, .int z5), (6, .long z6)] → W p l e ({ frames := 1, cells := 0, slots := 0, locals := 22 } : Room) s m ([.ref mo, .int x1, .int x2, .int x3] : List Value).toArray below meth cx H locs 0 0 Q (F0 m 85 ls []) := by
    intro u9 z1 z5 z6 σ H locs ls hw h hl
    unfold w_M_runShuffle_85 at hw
    refine lv_aload_n hx hb e_M_runShuffle_85 rfl (lv_at hl 0 rfl) ?_
    refine lv_lload hx hb e_M_runShuffle_86 (lv_at hl 3 rfl) ?_
    refine M_callv (As := [.long z6]) (rest := []) C h hA (K_M_lay l dC dI mo rf ca H.size σ z6 hw) (cwV 1 hts (gV hsub v_326 v_327 v_328 v_7 v_329) rfl rfl rfl (by decide +kernel) ⟨(Nat.le_of_ble_eq_true rfl), (Nat.le_of_ble_eq_true rfl)⟩) rfl hl.1 (Nat.le_of_ble_eq_true rfl) e_M_runShuffle_88 ⟨(Nat.le_of_ble_eq_true rfl), (Nat.le_of_ble_eq_true rfl)⟩ (fun σ20 H locs hw h => ?_)
    refine W.eq (g2 := F0 m 91 ls []) rfl ?_
    exact K_91 () z1 z5 z6 σ20 _ _ _ hw h (lv_sub hl [0, 1, 2, 3] rfl)
  have K_68 : ∀ (u9 : Unit), ∀ (z1 : Int32) (z5 : Int32) (z6 : Int64) (σ : MST) (H : Heap) (locs : List Loc) (ls : Array Slot), w_M_runShuffle_68 P z1 z5 z6 σ → MH (dC, dI) A mo rf ca σ s H locs → lv_has ls 10 [(0, .ref mo), (1, .int z1), (5, .int z5), (6, .long z6)] → W p l e ({ frames := 1, cells := 0, slots := 0, locals := 22 } : Room) s m ([.ref mo, .int x1, .int x2, .int x3] : List Value).toArray below meth cx H locs 0 0 Q (F0 m 68 ls []) := by
    intro u9 z1 z5 z6 σ H locs ls hw h hl
    unfold w_M_runShuffle_68 at hw
    refine lv_iload_n hx hb e_M_runShuffle_68 rfl (lv_at hl 1 rfl) ?_
    refine lv_bipush (v := 89) hx hb e_M_runShuffle_69 (by decide) ?_
    refine lv_icmp_eq (tgt := 85) hx hb e_M_runShuffle_71 (by decide) (fun c22 => ?_) (fun c22 => ?_)
    · skip
      replace hw := hw.1 c22
      exact K_85 () z1 z5 z6 σ _ _ _ hw h (lv_sub hl [0, 1, 2, 3] rfl)
    · skip
      replace hw := hw.2 c22
      refine lv_iload_n hx hb e_M_runShuffle_74 rfl (lv_at hl 1 rfl) ?_
      refine lv_bipush (v := 92) hx hb e_M_runShuffle_75 (by decide) ?_
      refine lv_icmp_ne (tgt := 91) hx hb e_M_runShuffle_77 (by decide) (fun c23 => ?_) (fun c23 => ?_)
      · skip
        replace hw := hw.2 c23
        exact K_91 () z1 z5 z6 σ _ _ _ hw h (lv_sub hl [0, 1, 2, 3] rfl)
      · skip
        replace hw := hw.1 c23
        refine lv_iload hx hb e_M_runShuffle_80 (lv_at hl 2 rfl) ?_
        refine lv_if_eq (tgt := 91) hx hb e_M_runShuffle_82 (by decide) (fun c24 => ?_) (fun c24 => ?_)
        · skip
          replace hw := hw.1 c24
          exact K_91 () z1 z5 z6 σ _ _ _ hw h (lv_sub hl [0, 1, 2, 3] rfl)
        · skip
          replace hw := hw.2 c24
          exact K_85 () z1 z5 z6 σ _ _ _ hw h (lv_sub hl [0, 1, 2, 3] rfl)
  have K_62 : ∀ (u9 : Unit), ∀ (z1 : Int32) (z5 : Int32) (z6 : Int64) (σ : MST) (H : Heap) (locs : List Loc) (ls : Array Slot), w_M_runShuffle_62 P z1 z5 z6 σ → MH (dC, dI) A mo rf ca σ s H locs → lv_has ls 10 [(0, .ref mo), (1, .int z1), (5, .int z5), (6, .long z6)] → W p l e ({ frames := 1, cells := 0, slots := 0, locals := 22 } : Room) s m ([.ref mo, .int x1, .int x2, .int x3] : List Value).toArray below meth cx H locs 0 0 Q (F0 m 62 ls []) := by
    intro u9 z1 z5 z6 σ H locs ls hw h hl
    unfold w_M_runShuffle_62 at hw
    refine lv_aload_n hx hb e_M_runShuffle_62 rfl (lv_at hl 0 rfl) ?_
    refine lv_lload hx hb e_M_runShuffle_63 (lv_at hl 3 rfl) ?_
    refine M_callv (As := [.long z6]) (rest := []) C h hA (K_M_lay l dC dI mo rf ca H.size σ z6 hw) (cwV 1 hts (gV hsub v_326 v_327 v_328 v_7 v_329) rfl rfl rfl (by decide +kernel) ⟨(Nat.le_of_ble_eq_true rfl), (Nat.le_of_ble_eq_true rfl)⟩) rfl hl.1 (Nat.le_of_ble_eq_true rfl) e_M_runShuffle_65 ⟨(Nat.le_of_ble_eq_true rfl), (Nat.le_of_ble_eq_true rfl)⟩ (fun σ25 H locs hw h => ?_)
    refine W.eq (g2 := F0 m 68 ls []) rfl ?_
    exact K_68 () z1 z5 z6 σ25 _ _ _ hw h (lv_sub hl [0, 1, 2, 3] rfl)
  have K_37 : ∀ (u9 : Unit), ∀ (z1 : Int32) (s0 : Int32) (σ : MST) (H : Heap) (locs : List Loc) (ls : Array Slot), w_M_runShuffle_37 P z1 s0 σ → MH (dC, dI) A mo rf ca σ s H locs → lv_has ls 10 [(0, .ref mo), (1, .int z1)] → W p l e ({ frames := 1, cells := 0, slots := 0, locals := 22 } : Room) s m ([.ref mo, .int x1, .int x2, .int x3] : List Value).toArray below meth cx H locs 0 0 Q (F0 m 37 ls [.int s0]) := by
    intro u9 z1 s0 σ H locs ls hw h hl
    unfold w_M_runShuffle_37 at hw
    refine lv_istore (lv' := [(5, .int s0), (0, .ref mo), (1, .int z1)]) hx hb e_M_runShuffle_37 hl (by decide) rfl (fun ls hl => ?_)
    refine lv_aload_n hx hb e_M_runShuffle_39 rfl (lv_at hl 1 rfl) ?_
    refine M_calll (As := []) (rest := []) C h hA (K_M_take l dC dI mo rf ca H.size σ hw) (cwV 0 hts (gV hsub v_349 v_350 v_351 v_7 v_352) rfl rfl rfl (by decide +kernel) ⟨(Nat.le_of_ble_eq_true rfl), (Nat.le_of_ble_eq_true rfl)⟩) rfl hl.1 (Nat.le_of_ble_eq_true rfl) e_M_runShuffle_40 ⟨(Nat.le_of_ble_eq_true rfl), (Nat.le_of_ble_eq_true rfl)⟩ (fun r28 σ27 H locs hw h => ?_)
    refine W.eq (g2 := F0 m 43 ls [.long r28]) rfl ?_
    refine lv_lstore (lv' := [(6, .long r28), (5, .int s0), (0, .ref mo), (1, .int z1)]) hx hb e_M_runShuffle_43 hl (by decide) rfl (fun ls hl => ?_)
    refine lv_iload_n hx hb e_M_runShuffle_45 rfl (lv_at hl 3 rfl) ?_
    refine lv_bipush (v := 89) hx hb e_M_runShuffle_46 (by decide) ?_
    refine lv_icmp_eq (tgt := 62) hx hb e_M_runShuffle_48 (by decide) (fun c29 => ?_) (fun c29 => ?_)
    · skip
      replace hw := hw.1 c29
      exact K_62 () z1 s0 r28 σ27 _ _ _ hw h (lv_sub hl [2, 3, 1, 0] rfl)
    · skip
      replace hw := hw.2 c29
      refine lv_iload_n hx hb e_M_runShuffle_51 rfl (lv_at hl 3 rfl) ?_
      refine lv_bipush (v := 92) hx hb e_M_runShuffle_52 (by decide) ?_
      refine lv_icmp_ne (tgt := 68) hx hb e_M_runShuffle_54 (by decide) (fun c30 => ?_) (fun c30 => ?_)
      · skip
        replace hw := hw.2 c30
        exact K_68 () z1 s0 r28 σ27 _ _ _ hw h (lv_sub hl [2, 3, 1, 0] rfl)
      · skip
        replace hw := hw.1 c30
        refine lv_iload hx hb e_M_runShuffle_57 (lv_at hl 1 rfl) ?_
        refine lv_if_eq (tgt := 68) hx hb e_M_runShuffle_59 (by decide) (fun c31 => ?_) (fun c31 => ?_)
        · skip
          replace hw := hw.1 c31
          exact K_68 () z1 s0 r28 σ27 _ _ _ hw h (lv_sub hl [2, 3, 1, 0] rfl)
        · skip
          replace hw := hw.2 c31
          exact K_62 () z1 s0 r28 σ27 _ _ _ hw h (lv_sub hl [2, 3, 1, 0] rfl)
  have hl : lv_has ls 10 [(0, .ref mo), (1, .int x1), (2, .int x2), (3, .int x3)] := hl
  unfold w_M_runShuffle at hw
  refine lv_bipush (v := 120) hx hb e_M_runShuffle_0 (by decide) ?_
  refine lv_iload_n hx hb e_M_runShuffle_2 rfl (lv_at hl 2 rfl) ?_
  refine lv_imul hx hb e_M_runShuffle_3 ?_
  refine lv_iload_n hx hb e_M_runShuffle_4 rfl (lv_at hl 3 rfl) ?_
  refine lv_iadd hx hb e_M_runShuffle_5 ?_
  refine lv_istore (lv' := [(4, .int (((120 : Int32) * x2) + x3)), (0, .ref mo), (1, .int x1), (2, .int x2), (3, .int x3)]) hx hb e_M_runShuffle_6 hl (by decide) rfl (fun ls hl => ?_)
  refine lv_aload_n hx hb e_M_runShuffle_8 rfl (lv_at hl 1 rfl) ?_
  refine M_get C h 29 (v := .ref (rf 29)) rfl (by decide) v_192 e_M_runShuffle_9 ?_
  refine lv_bipush (v := 12) hx hb e_M_runShuffle_12 (by decide) ?_
  refine lv_iload hx hb e_M_runShuffle_14 (lv_at hl 0 rfl) ?_
  refine lv_imul hx hb e_M_runShuffle_16 ?_
  refine lv_aload_n hx hb e_M_runShuffle_17 rfl (lv_at hl 1 rfl) ?_
  refine M_get C h 27 (v := .ref (rf 27)) rfl (by decide) v_200 e_M_runShuffle_18 ?_
  refine lv_iload hx hb e_M_runShuffle_21 (lv_at hl 0 rfl) ?_
  refine M_ald C h 27 (by decide) rfl hw.1 e_M_runShuffle_23 ?_
  replace hw := hw.2
  refine lv_topi (fun a32 e_a32 => ?_)
  replace hw := hw a32 e_a32
  refine lv_iadd hx hb e_M_runShuffle_24 ?_
  refine lv_iconst (v := 1) hx hb e_M_runShuffle_25 (by decide) ?_
  refine lv_isub hx hb e_M_runShuffle_26 ?_
  refine M_ald C h 29 (by decide) rfl hw.1 e_M_runShuffle_27 ?_
  replace hw := hw.2
  refine lv_topi (fun a33 e_a33 => ?_)
  replace hw := hw a33 e_a33
  refine lv_iconst (v := 2) hx hb e_M_runShuffle_28 (by decide) ?_
  refine lv_icmp_ne (tgt := 36) hx hb e_M_runShuffle_29 (by decide) (fun c34 => ?_) (fun c34 => ?_)
  · skip
    replace hw := hw.2 c34
    refine lv_iconst (v := 0) hx hb e_M_runShuffle_36 (by decide) ?_
    exact K_37 () x1 0 σ _ _ _ hw h (lv_sub hl [1, 2] rfl)
  · skip
    replace hw := hw.1 c34
    refine lv_iconst (v := 1) hx hb e_M_runShuffle_32 (by decide) ?_
    refine lv_goto (tgt := 37) hx hb e_M_runShuffle_33 (by decide) ?_
    exact K_37 () x1 1 σ _ _ _ hw h (lv_sub hl [1, 2] rfl)
abbrev z_M_reckoned : MethodName := ⟨"MapFramerModel", "reckoned", "(IJJ)J"⟩
theorem e_M_reckoned_0 : decode prog_14_method_92_code 0 = .ok (.iload_n 0, 1) := by decide +kernel
theorem e_M_reckoned_1 : decode prog_14_method_92_code 1 = .ok (.iconst 1, 1) := by decide +kernel
theorem e_M_reckoned_2 : decode prog_14_method_92_code 2 = .ok (.iand, 1) := by decide +kernel
theorem e_M_reckoned_3 : decode prog_14_method_92_code 3 = .ok (.ifCond .ne 7, 3) := by decide +kernel
theorem e_M_reckoned_6 : decode prog_14_method_92_code 6 = .ok (.iconst 1, 1) := by decide +kernel
theorem e_M_reckoned_7 : decode prog_14_method_92_code 7 = .ok (.goto 4, 3) := by decide +kernel
theorem e_M_reckoned_10 : decode prog_14_method_92_code 10 = .ok (.iconst 0, 1) := by decide +kernel
theorem e_M_reckoned_11 : decode prog_14_method_92_code 11 = .ok (.istore 5, 2) := by decide +kernel
theorem e_M_reckoned_13 : decode prog_14_method_92_code 13 = .ok (.iload_n 0, 1) := by decide +kernel
theorem e_M_reckoned_14 : decode prog_14_method_92_code 14 = .ok (.bipush 100, 2) := by decide +kernel
theorem e_M_reckoned_16 : decode prog_14_method_92_code 16 = .ok (.if_icmp .ge 9, 3) := by decide +kernel
theorem e_M_reckoned_19 : decode prog_14_method_92_code 19 = .ok (.lload_n 1, 1) := by decide +kernel
theorem e_M_reckoned_20 : decode prog_14_method_92_code 20 = .ok (.lload_n 3, 1) := by decide +kernel
theorem e_M_reckoned_21 : decode prog_14_method_92_code 21 = .ok (.ladd, 1) := by decide +kernel
theorem e_M_reckoned_22 : decode prog_14_method_92_code 22 = .ok (.goto 30, 3) := by decide +kernel
theorem e_M_reckoned_25 : decode prog_14_method_92_code 25 = .ok (.iload_n 0, 1) := by decide +kernel
theorem e_M_reckoned_26 : decode prog_14_method_92_code 26 = .ok (.bipush 104, 2) := by decide +kernel
theorem e_M_reckoned_28 : decode prog_14_method_92_code 28 = .ok (.if_icmp .ge 9, 3) := by decide +kernel
theorem e_M_reckoned_31 : decode prog_14_method_92_code 31 = .ok (.lload_n 1, 1) := by decide +kernel
theorem e_M_reckoned_32 : decode prog_14_method_92_code 32 = .ok (.lload_n 3, 1) := by decide +kernel
theorem e_M_reckoned_33 : decode prog_14_method_92_code 33 = .ok (.lsub, 1) := by decide +kernel
theorem e_M_reckoned_34 : decode prog_14_method_92_code 34 = .ok (.goto 18, 3) := by decide +kernel
theorem e_M_reckoned_37 : decode prog_14_method_92_code 37 = .ok (.iload_n 0, 1) := by decide +kernel
theorem e_M_reckoned_38 : decode prog_14_method_92_code 38 = .ok (.bipush 108, 2) := by decide +kernel
theorem e_M_reckoned_40 : decode prog_14_method_92_code 40 = .ok (.if_icmp .ge 9, 3) := by decide +kernel
theorem e_M_reckoned_43 : decode prog_14_method_92_code 43 = .ok (.lload_n 1, 1) := by decide +kernel
theorem e_M_reckoned_44 : decode prog_14_method_92_code 44 = .ok (.lload_n 3, 1) := by decide +kernel
theorem e_M_reckoned_45 : decode prog_14_method_92_code 45 = .ok (.lmul, 1) := by decide +kernel
theorem e_M_reckoned_46 : decode prog_14_method_92_code 46 = .ok (.goto 6, 3) := by decide +kernel
theorem e_M_reckoned_49 : decode prog_14_method_92_code 49 = .ok (.lload_n 1, 1) := by decide +kernel
theorem e_M_reckoned_50 : decode prog_14_method_92_code 50 = .ok (.lload_n 3, 1) := by decide +kernel
theorem e_M_reckoned_51 : decode prog_14_method_92_code 51 = .ok (.ldiv, 1) := by decide +kernel
theorem e_M_reckoned_52 : decode prog_14_method_92_code 52 = .ok (.lstore 6, 2) := by decide +kernel
theorem e_M_reckoned_54 : decode prog_14_method_92_code 54 = .ok (.iload 5, 2) := by decide +kernel
theorem e_M_reckoned_56 : decode prog_14_method_92_code 56 = .ok (.ifCond .eq 10, 3) := by decide +kernel
theorem e_M_reckoned_59 : decode prog_14_method_92_code 59 = .ok (.lload 6, 2) := by decide +kernel
theorem e_M_reckoned_61 : decode prog_14_method_92_code 61 = .ok (.l2i, 1) := by decide +kernel
theorem e_M_reckoned_62 : decode prog_14_method_92_code 62 = .ok (.i2l, 1) := by decide +kernel
theorem e_M_reckoned_63 : decode prog_14_method_92_code 63 = .ok (.goto 5, 3) := by decide +kernel
theorem e_M_reckoned_66 : decode prog_14_method_92_code 66 = .ok (.lload 6, 2) := by decide +kernel
theorem e_M_reckoned_68 : decode prog_14_method_92_code 68 = .ok (.lreturn, 1) := by decide +kernel
def w_M_reckoned_52 (P : Int64 → MST → Prop) (z5 : Int32) (s0 : Int64) (σ : MST) : Prop := ((z5 = 0 → P s0 σ) ∧ (¬ z5 = 0 → P ((((s0 : Int64).toInt32) : Int32).toInt64) σ))
def w_M_reckoned_11 (P : Int64 → MST → Prop) (z0 : Int32) (z1 : Int64) (z3 : Int64) (s0 : Int32) (σ : MST) : Prop := ((100 ≤ z0 → ((104 ≤ z0 → ((108 ≤ z0 → ¬ z3 = 0 ∧ (w_M_reckoned_52 P s0 (z1 / z3) σ)) ∧ (¬ 108 ≤ z0 → w_M_reckoned_52 P s0 (z1 * z3) σ))) ∧ (¬ 104 ≤ z0 → w_M_reckoned_52 P s0 (z1 - z3) σ))) ∧ (¬ 100 ≤ z0 → w_M_reckoned_52 P s0 (z1 + z3) σ))
def w_M_reckoned (x0 : Int32) (x1 : Int64) (x3 : Int64) (σ : MST) (P : Int64 → MST → Prop) : Prop := ∀ a5 : Int32, a5 = (x0 &&& 1) → ((a5 = 0 → w_M_reckoned_11 P x0 x1 x3 1 σ) ∧ (¬ a5 = 0 → w_M_reckoned_11 P x0 x1 x3 0 σ))
set_option maxHeartbeats 4000000 in
set_option maxRecDepth 100000 in
theorem K_M_reckoned (l : Launch) (dC : Nat → ClassId) (dI : Nat → Nat → Nat) (mo : Nat) (rf : Nat → Nat) (ca : Nat → ClassId) (sz : Nat) (σ : MST) (x0 : Int32) (x1 : Int64) (x3 : Int64) {P : Int64 → MST → Prop} (hw : w_M_reckoned x0 x1 x3 σ P) : Met l z_M_reckoned (mW z_M_reckoned prog_14_method_92_code 8 (some .long)) ({ frames := 0, cells := 0, slots := 0, locals := 0 } : Room) (va_Pc [.int x0, .long x1, .long x3] (MPre (dC, dI) mo rf ca σ sz)) (va_Ql P (MB (dC, dI) mo rf ca sz) (mA mo rf sz)) 0 0 (mA mo rf sz) := by
  refine M_ofl (by decide) rfl (Nat.le_of_ble_eq_true rfl) ?_
  intro p e s m below meth cx Q A ls C hA hend h hl
  have C0 := C
  obtain ⟨⟨hx, hb, hml, hown, hts⟩, hsub⟩ := C0
  have K_52 : ∀ (u9 : Unit), ∀ (z5 : Int32) (s0 : Int64) (σ : MST) (H : Heap) (locs : List Loc) (ls : Array Slot), w_M_reckoned_52 P z5 s0 σ → MH (dC, dI) A mo rf ca σ s H locs → lv_has ls 8 [(5, .int z5)] → W p l e ({ frames := 0, cells := 0, slots := 0, locals := 0 } : Room) s m ([.int x0, .long x1, .long x3] : List Value).toArray below meth cx H locs 0 0 Q (F0 m 52 ls [.long s0]) := by
    intro u9 z5 s0 σ H locs ls hw h hl
    unfold w_M_reckoned_52 at hw
    refine lv_lstore (lv' := [(6, .long s0), (5, .int z5)]) hx hb e_M_reckoned_52 hl (by decide) rfl (fun ls hl => ?_)
    refine lv_iload hx hb e_M_reckoned_54 (lv_at hl 1 rfl) ?_
    refine lv_if_eq (tgt := 66) hx hb e_M_reckoned_56 (by decide) (fun c1 => ?_) (fun c1 => ?_)
    · skip
      replace hw := hw.1 c1
      refine lv_lload hx hb e_M_reckoned_66 (lv_at hl 0 rfl) ?_
      exact hend s0 σ _ _ _ _ hw h e_M_reckoned_68
    · skip
      replace hw := hw.2 c1
      refine lv_lload hx hb e_M_reckoned_59 (lv_at hl 0 rfl) ?_
      refine lv_l2i (v := (s0 : Int64).toInt32) hx hb e_M_reckoned_61 rfl ?_
      refine lv_i2l (v := (((s0 : Int64).toInt32) : Int32).toInt64) hx hb e_M_reckoned_62 rfl ?_
      refine lv_goto (tgt := 68) hx hb e_M_reckoned_63 (by decide) ?_
      exact hend ((((s0 : Int64).toInt32) : Int32).toInt64) σ _ _ _ _ hw h e_M_reckoned_68
  have K_11 : ∀ (u9 : Unit), ∀ (z0 : Int32) (z1 : Int64) (z3 : Int64) (s0 : Int32) (σ : MST) (H : Heap) (locs : List Loc) (ls : Array Slot), w_M_reckoned_11 P z0 z1 z3 s0 σ → MH (dC, dI) A mo rf ca σ s H locs → lv_has ls 8 [(0, .int z0), (1, .long z1), (3, .long z3)] → W p l e ({ frames := 0, cells := 0, slots := 0, locals := 0 } : Room) s m ([.int x0, .long x1, .long x3] : List Value).toArray below meth cx H locs 0 0 Q (F0 m 11 ls [.int s0]) := by
    intro u9 z0 z1 z3 s0 σ H locs ls hw h hl
    unfold w_M_reckoned_11 at hw
    refine lv_istore (lv' := [(5, .int s0), (0, .int z0), (1, .long z1), (3, .long z3)]) hx hb e_M_reckoned_11 hl (by decide) rfl (fun ls hl => ?_)
    refine lv_iload_n hx hb e_M_reckoned_13 rfl (lv_at hl 1 rfl) ?_
    refine lv_bipush (v := 100) hx hb e_M_reckoned_14 (by decide) ?_
    refine lv_icmp_ge (tgt := 25) hx hb e_M_reckoned_16 (by decide) (fun c2 => ?_) (fun c2 => ?_)
    · skip
      replace hw := hw.1 c2
      refine lv_iload_n hx hb e_M_reckoned_25 rfl (lv_at hl 1 rfl) ?_
      refine lv_bipush (v := 104) hx hb e_M_reckoned_26 (by decide) ?_
      refine lv_icmp_ge (tgt := 37) hx hb e_M_reckoned_28 (by decide) (fun c3 => ?_) (fun c3 => ?_)
      · skip
        replace hw := hw.1 c3
        refine lv_iload_n hx hb e_M_reckoned_37 rfl (lv_at hl 1 rfl) ?_
        refine lv_bipush (v := 108) hx hb e_M_reckoned_38 (by decide) ?_
        refine lv_icmp_ge (tgt := 49) hx hb e_M_reckoned_40 (by decide) (fun c4 => ?_) (fun c4 => ?_)
        · skip
          replace hw := hw.1 c4
          refine lv_lload_n hx hb e_M_reckoned_49 rfl (lv_at hl 2 rfl) ?_
          refine lv_lload_n hx hb e_M_reckoned_50 rfl (lv_at hl 3 rfl) ?_
          refine lv_ldiv hx hb e_M_reckoned_51 hw.1 ?_
          replace hw := hw.2
          exact K_52 () s0 (z1 / z3) σ _ _ _ hw h (lv_sub hl [0] rfl)
        · skip
          replace hw := hw.2 c4
          refine lv_lload_n hx hb e_M_reckoned_43 rfl (lv_at hl 2 rfl) ?_
          refine lv_lload_n hx hb e_M_reckoned_44 rfl (lv_at hl 3 rfl) ?_
          refine lv_lmul hx hb e_M_reckoned_45 ?_
          refine lv_goto (tgt := 52) hx hb e_M_reckoned_46 (by decide) ?_
          exact K_52 () s0 (z1 * z3) σ _ _ _ hw h (lv_sub hl [0] rfl)
      · skip
        replace hw := hw.2 c3
        refine lv_lload_n hx hb e_M_reckoned_31 rfl (lv_at hl 2 rfl) ?_
        refine lv_lload_n hx hb e_M_reckoned_32 rfl (lv_at hl 3 rfl) ?_
        refine lv_lsub hx hb e_M_reckoned_33 ?_
        refine lv_goto (tgt := 52) hx hb e_M_reckoned_34 (by decide) ?_
        exact K_52 () s0 (z1 - z3) σ _ _ _ hw h (lv_sub hl [0] rfl)
    · skip
      replace hw := hw.2 c2
      refine lv_lload_n hx hb e_M_reckoned_19 rfl (lv_at hl 2 rfl) ?_
      refine lv_lload_n hx hb e_M_reckoned_20 rfl (lv_at hl 3 rfl) ?_
      refine lv_ladd hx hb e_M_reckoned_21 ?_
      refine lv_goto (tgt := 52) hx hb e_M_reckoned_22 (by decide) ?_
      exact K_52 () s0 (z1 + z3) σ _ _ _ hw h (lv_sub hl [0] rfl)
  have hl : lv_has ls 8 [(0, .int x0), (1, .long x1), (3, .long x3)] := hl
  unfold w_M_reckoned at hw
  refine lv_iload_n hx hb e_M_reckoned_0 rfl (lv_at hl 0 rfl) ?_
  refine lv_iconst (v := 1) hx hb e_M_reckoned_1 (by decide) ?_
  refine lv_iand hx hb e_M_reckoned_2 ?_
  refine lv_topi (fun a5 e_a5 => ?_)
  replace hw := hw a5 e_a5
  refine lv_if_ne (tgt := 10) hx hb e_M_reckoned_3 (by decide) (fun c6 => ?_) (fun c6 => ?_)
  · skip
    replace hw := hw.2 c6
    refine lv_iconst (v := 0) hx hb e_M_reckoned_10 (by decide) ?_
    exact K_11 () x0 x1 x3 0 σ _ _ _ hw h (lv_sub hl [0, 1, 2] rfl)
  · skip
    replace hw := hw.1 c6
    refine lv_iconst (v := 1) hx hb e_M_reckoned_6 (by decide) ?_
    refine lv_goto (tgt := 11) hx hb e_M_reckoned_7 (by decide) ?_
    exact K_11 () x0 x1 x3 1 σ _ _ _ hw h (lv_sub hl [0, 1, 2] rfl)
abbrev z_M_runReckon : MethodName := ⟨"MapFramerModel", "runReckon", "(IIII)V"⟩
theorem v_353 : (Cond.methodLink "MapFramerModel" 459 ⟨"MapFramerModel", "reckoned", "(IJJ)J"⟩ : Cond) ∈ bigW := inB_10 158 (by decide +kernel) rfl
theorem v_354 : (Cond.static ⟨"MapFramerModel", "reckoned", "(IJJ)J"⟩ : Cond) ∈ bigW := inB_10 159 (by decide +kernel) rfl
theorem v_355 : (Cond.code ⟨"MapFramerModel", "reckoned", "(IJJ)J"⟩ prog_14_method_92_code 8 (some .long) : Cond) ∈ bigW := inB_10 160 rfl rfl
theorem v_356 : (Cond.methodLink "MapFramerModel" 463 ⟨"MapFramerModel", "localOf", "(I)J"⟩ : Cond) ∈ bigW := inB_10 161 (by decide +kernel) rfl
theorem v_357 : (Cond.instanceMethod ⟨"MapFramerModel", "localOf", "(I)J"⟩ : Cond) ∈ bigW := inB_10 163 (by decide +kernel) rfl
theorem v_358 : (Cond.selects "MapFramerModel" ⟨"MapFramerModel", "localOf", "(I)J"⟩ ⟨"MapFramerModel", "localOf", "(I)J"⟩ : Cond) ∈ bigW := inS (y := ⟨"MapFramerModel", "localOf", "(I)J"⟩) (n := 71) (List.mem_of_getElem? (i := 148) (by decide +kernel))
theorem v_359 : (Cond.code ⟨"MapFramerModel", "localOf", "(I)J"⟩ prog_14_method_88_code 2 (some .long) : Cond) ∈ bigW := inB_10 164 rfl rfl
theorem v_360 : (Cond.methodLink "MapFramerModel" 466 ⟨"MapFramerModel", "setLocal", "(IJ)V"⟩ : Cond) ∈ bigW := inB_10 114 (by decide +kernel) rfl
theorem v_361 : (Cond.instanceMethod ⟨"MapFramerModel", "setLocal", "(IJ)V"⟩ : Cond) ∈ bigW := inB_10 116 (by decide +kernel) rfl
theorem v_362 : (Cond.selects "MapFramerModel" ⟨"MapFramerModel", "setLocal", "(IJ)V"⟩ ⟨"MapFramerModel", "setLocal", "(IJ)V"⟩ : Cond) ∈ bigW := inS (y := ⟨"MapFramerModel", "setLocal", "(IJ)V"⟩) (n := 71) (List.mem_of_getElem? (i := 137) (by decide +kernel))
theorem v_363 : (Cond.code ⟨"MapFramerModel", "setLocal", "(IJ)V"⟩ prog_14_method_89_code 4 none : Cond) ∈ bigW := inB_10 117 rfl rfl
theorem e_M_runReckon_0 : decode prog_14_method_93_code 0 = .ok (.iload_n 1, 1) := by decide +kernel
theorem e_M_runReckon_1 : decode prog_14_method_93_code 1 = .ok (.bipush 110, 2) := by decide +kernel
theorem e_M_runReckon_3 : decode prog_14_method_93_code 3 = .ok (.if_icmp .ge 48, 3) := by decide +kernel
theorem e_M_runReckon_6 : decode prog_14_method_93_code 6 = .ok (.aload_n 0, 1) := by decide +kernel
theorem e_M_runReckon_7 : decode prog_14_method_93_code 7 = .ok (.invokevirtual 449, 3) := by decide +kernel
theorem e_M_runReckon_10 : decode prog_14_method_93_code 10 = .ok (.lstore 5, 2) := by decide +kernel
theorem e_M_runReckon_12 : decode prog_14_method_93_code 12 = .ok (.aload_n 0, 1) := by decide +kernel
theorem e_M_runReckon_13 : decode prog_14_method_93_code 13 = .ok (.invokevirtual 449, 3) := by decide +kernel
theorem e_M_runReckon_16 : decode prog_14_method_93_code 16 = .ok (.lstore 7, 2) := by decide +kernel
theorem e_M_runReckon_18 : decode prog_14_method_93_code 18 = .ok (.iload_n 1, 1) := by decide +kernel
theorem e_M_runReckon_19 : decode prog_14_method_93_code 19 = .ok (.bipush 107, 2) := by decide +kernel
theorem e_M_runReckon_21 : decode prog_14_method_93_code 21 = .ok (.if_icmp .le 15, 3) := by decide +kernel
theorem e_M_runReckon_24 : decode prog_14_method_93_code 24 = .ok (.lload 5, 2) := by decide +kernel
theorem e_M_runReckon_26 : decode prog_14_method_93_code 26 = .ok (.lconst 0, 1) := by decide +kernel
theorem e_M_runReckon_27 : decode prog_14_method_93_code 27 = .ok (.lcmp, 1) := by decide +kernel
theorem e_M_runReckon_28 : decode prog_14_method_93_code 28 = .ok (.ifCond .ne 8, 3) := by decide +kernel
theorem e_M_runReckon_31 : decode prog_14_method_93_code 31 = .ok (.aload_n 0, 1) := by decide +kernel
theorem e_M_runReckon_32 : decode prog_14_method_93_code 32 = .ok (.invokevirtual 453, 3) := by decide +kernel
theorem e_M_runReckon_35 : decode prog_14_method_93_code 35 = .ok (.return_, 1) := by decide +kernel
theorem e_M_runReckon_36 : decode prog_14_method_93_code 36 = .ok (.aload_n 0, 1) := by decide +kernel
theorem e_M_runReckon_37 : decode prog_14_method_93_code 37 = .ok (.iload_n 1, 1) := by decide +kernel
theorem e_M_runReckon_38 : decode prog_14_method_93_code 38 = .ok (.lload 7, 2) := by decide +kernel
theorem e_M_runReckon_40 : decode prog_14_method_93_code 40 = .ok (.lload 5, 2) := by decide +kernel
theorem e_M_runReckon_42 : decode prog_14_method_93_code 42 = .ok (.invokestatic 459, 3) := by decide +kernel
theorem e_M_runReckon_45 : decode prog_14_method_93_code 45 = .ok (.invokevirtual 439, 3) := by decide +kernel
theorem e_M_runReckon_48 : decode prog_14_method_93_code 48 = .ok (.goto 127, 3) := by decide +kernel
theorem e_M_runReckon_51 : decode prog_14_method_93_code 51 = .ok (.iload_n 1, 1) := by decide +kernel
theorem e_M_runReckon_52 : decode prog_14_method_93_code 52 = .ok (.sipush 132, 3) := by decide +kernel
theorem e_M_runReckon_55 : decode prog_14_method_93_code 55 = .ok (.if_icmp .ne 41, 3) := by decide +kernel
theorem e_M_runReckon_58 : decode prog_14_method_93_code 58 = .ok (.aload_n 0, 1) := by decide +kernel
theorem e_M_runReckon_59 : decode prog_14_method_93_code 59 = .ok (.iload_n 2, 1) := by decide +kernel
theorem e_M_runReckon_60 : decode prog_14_method_93_code 60 = .ok (.iload_n 3, 1) := by decide +kernel
theorem e_M_runReckon_61 : decode prog_14_method_93_code 61 = .ok (.iconst 1, 1) := by decide +kernel
theorem e_M_runReckon_62 : decode prog_14_method_93_code 62 = .ok (.iadd, 1) := by decide +kernel
theorem e_M_runReckon_63 : decode prog_14_method_93_code 63 = .ok (.invokevirtual 222, 3) := by decide +kernel
theorem e_M_runReckon_66 : decode prog_14_method_93_code 66 = .ok (.istore 5, 2) := by decide +kernel
theorem e_M_runReckon_68 : decode prog_14_method_93_code 68 = .ok (.aload_n 0, 1) := by decide +kernel
theorem e_M_runReckon_69 : decode prog_14_method_93_code 69 = .ok (.iload 5, 2) := by decide +kernel
theorem e_M_runReckon_71 : decode prog_14_method_93_code 71 = .ok (.aload_n 0, 1) := by decide +kernel
theorem e_M_runReckon_72 : decode prog_14_method_93_code 72 = .ok (.iload 5, 2) := by decide +kernel
theorem e_M_runReckon_74 : decode prog_14_method_93_code 74 = .ok (.invokevirtual 463, 3) := by decide +kernel
theorem e_M_runReckon_77 : decode prog_14_method_93_code 77 = .ok (.aload_n 0, 1) := by decide +kernel
theorem e_M_runReckon_78 : decode prog_14_method_93_code 78 = .ok (.iload_n 2, 1) := by decide +kernel
theorem e_M_runReckon_79 : decode prog_14_method_93_code 79 = .ok (.iload_n 3, 1) := by decide +kernel
theorem e_M_runReckon_80 : decode prog_14_method_93_code 80 = .ok (.iconst 2, 1) := by decide +kernel
theorem e_M_runReckon_81 : decode prog_14_method_93_code 81 = .ok (.iadd, 1) := by decide +kernel
theorem e_M_runReckon_82 : decode prog_14_method_93_code 82 = .ok (.invokevirtual 222, 3) := by decide +kernel
theorem e_M_runReckon_85 : decode prog_14_method_93_code 85 = .ok (.i2b, 1) := by decide +kernel
theorem e_M_runReckon_86 : decode prog_14_method_93_code 86 = .ok (.i2l, 1) := by decide +kernel
theorem e_M_runReckon_87 : decode prog_14_method_93_code 87 = .ok (.ladd, 1) := by decide +kernel
theorem e_M_runReckon_88 : decode prog_14_method_93_code 88 = .ok (.l2i, 1) := by decide +kernel
theorem e_M_runReckon_89 : decode prog_14_method_93_code 89 = .ok (.i2l, 1) := by decide +kernel
theorem e_M_runReckon_90 : decode prog_14_method_93_code 90 = .ok (.invokevirtual 466, 3) := by decide +kernel
theorem e_M_runReckon_93 : decode prog_14_method_93_code 93 = .ok (.goto 82, 3) := by decide +kernel
theorem e_M_runReckon_96 : decode prog_14_method_93_code 96 = .ok (.iload_n 1, 1) := by decide +kernel
theorem e_M_runReckon_97 : decode prog_14_method_93_code 97 = .ok (.sipush 148, 3) := by decide +kernel
theorem e_M_runReckon_100 : decode prog_14_method_93_code 100 = .ok (.if_icmp .ne 49, 3) := by decide +kernel
theorem e_M_runReckon_103 : decode prog_14_method_93_code 103 = .ok (.aload_n 0, 1) := by decide +kernel
theorem e_M_runReckon_104 : decode prog_14_method_93_code 104 = .ok (.invokevirtual 449, 3) := by decide +kernel
theorem e_M_runReckon_107 : decode prog_14_method_93_code 107 = .ok (.lstore 5, 2) := by decide +kernel
theorem e_M_runReckon_109 : decode prog_14_method_93_code 109 = .ok (.aload_n 0, 1) := by decide +kernel
theorem e_M_runReckon_110 : decode prog_14_method_93_code 110 = .ok (.invokevirtual 449, 3) := by decide +kernel
theorem e_M_runReckon_113 : decode prog_14_method_93_code 113 = .ok (.lstore 7, 2) := by decide +kernel
theorem e_M_runReckon_115 : decode prog_14_method_93_code 115 = .ok (.aload_n 0, 1) := by decide +kernel
theorem e_M_runReckon_116 : decode prog_14_method_93_code 116 = .ok (.lload 7, 2) := by decide +kernel
theorem e_M_runReckon_118 : decode prog_14_method_93_code 118 = .ok (.lload 5, 2) := by decide +kernel
theorem e_M_runReckon_120 : decode prog_14_method_93_code 120 = .ok (.lcmp, 1) := by decide +kernel
theorem e_M_runReckon_121 : decode prog_14_method_93_code 121 = .ok (.ifCond .ge 9, 3) := by decide +kernel
theorem e_M_runReckon_124 : decode prog_14_method_93_code 124 = .ok (.ldc2_w 433, 3) := by decide +kernel
theorem e_M_runReckon_127 : decode prog_14_method_93_code 127 = .ok (.goto 16, 3) := by decide +kernel
theorem e_M_runReckon_130 : decode prog_14_method_93_code 130 = .ok (.lload 7, 2) := by decide +kernel
theorem e_M_runReckon_132 : decode prog_14_method_93_code 132 = .ok (.lload 5, 2) := by decide +kernel
theorem e_M_runReckon_134 : decode prog_14_method_93_code 134 = .ok (.lcmp, 1) := by decide +kernel
theorem e_M_runReckon_135 : decode prog_14_method_93_code 135 = .ok (.ifCond .le 7, 3) := by decide +kernel
theorem e_M_runReckon_138 : decode prog_14_method_93_code 138 = .ok (.lconst 1, 1) := by decide +kernel
theorem e_M_runReckon_139 : decode prog_14_method_93_code 139 = .ok (.goto 4, 3) := by decide +kernel
theorem e_M_runReckon_142 : decode prog_14_method_93_code 142 = .ok (.lconst 0, 1) := by decide +kernel
theorem e_M_runReckon_143 : decode prog_14_method_93_code 143 = .ok (.invokevirtual 439, 3) := by decide +kernel
theorem e_M_runReckon_146 : decode prog_14_method_93_code 146 = .ok (.goto 29, 3) := by decide +kernel
theorem e_M_runReckon_149 : decode prog_14_method_93_code 149 = .ok (.aload_n 0, 1) := by decide +kernel
theorem e_M_runReckon_150 : decode prog_14_method_93_code 150 = .ok (.invokevirtual 449, 3) := by decide +kernel
theorem e_M_runReckon_153 : decode prog_14_method_93_code 153 = .ok (.lstore 5, 2) := by decide +kernel
theorem e_M_runReckon_155 : decode prog_14_method_93_code 155 = .ok (.aload_n 0, 1) := by decide +kernel
theorem e_M_runReckon_156 : decode prog_14_method_93_code 156 = .ok (.iload_n 1, 1) := by decide +kernel
theorem e_M_runReckon_157 : decode prog_14_method_93_code 157 = .ok (.sipush 136, 3) := by decide +kernel
theorem e_M_runReckon_160 : decode prog_14_method_93_code 160 = .ok (.if_icmp .ne 10, 3) := by decide +kernel
theorem e_M_runReckon_163 : decode prog_14_method_93_code 163 = .ok (.lload 5, 2) := by decide +kernel
theorem e_M_runReckon_165 : decode prog_14_method_93_code 165 = .ok (.l2i, 1) := by decide +kernel
theorem e_M_runReckon_166 : decode prog_14_method_93_code 166 = .ok (.i2l, 1) := by decide +kernel
theorem e_M_runReckon_167 : decode prog_14_method_93_code 167 = .ok (.goto 5, 3) := by decide +kernel
theorem e_M_runReckon_170 : decode prog_14_method_93_code 170 = .ok (.lload 5, 2) := by decide +kernel
theorem e_M_runReckon_172 : decode prog_14_method_93_code 172 = .ok (.invokevirtual 439, 3) := by decide +kernel
theorem e_M_runReckon_175 : decode prog_14_method_93_code 175 = .ok (.aload_n 0, 1) := by decide +kernel
theorem e_M_runReckon_176 : decode prog_14_method_93_code 176 = .ok (.iload 4, 2) := by decide +kernel
theorem e_M_runReckon_178 : decode prog_14_method_93_code 178 = .ok (.invokevirtual 456, 3) := by decide +kernel
theorem e_M_runReckon_181 : decode prog_14_method_93_code 181 = .ok (.return_, 1) := by decide +kernel
def w_M_runReckon_175 (P : MST → Prop) (z4 : Int32) (σ : MST) : Prop := w_M_goTo z4 σ (fun σ1 => P σ1)
def w_M_runReckon_36 (P : MST → Prop) (z1 : Int32) (z4 : Int32) (z5 : Int64) (z7 : Int64) (σ : MST) : Prop := w_M_reckoned z1 z7 z5 σ (fun r4 σ3 => w_M_lay r4 σ3 (fun σ5 => w_M_runReckon_175 P z4 σ5))
def w_M_runReckon_143 (P : MST → Prop) (z4 : Int32) (s0 : Int64) (σ : MST) : Prop := w_M_lay s0 σ (fun σ7 => w_M_runReckon_175 P z4 σ7)
def w_M_runReckon_172 (P : MST → Prop) (z4 : Int32) (s0 : Int64) (σ : MST) : Prop := w_M_lay s0 σ (fun σ9 => w_M_runReckon_175 P z4 σ9)
def w_M_runReckon (x1 : Int32) (x2 : Int32) (x3 : Int32) (x4 : Int32) (σ : MST) (P : MST → Prop) : Prop := ((110 ≤ x1 → ((x1 = 132 → w_M_at x2 (x3 + 1) σ (fun r24 σ23 => w_M_localOf r24 σ23 (fun r26 σ25 => w_M_at x2 (x3 + 2) σ25 (fun r28 σ27 => w_M_setLocal r24 (((((r26 + ((((r28 : Int32).toInt8.toInt32) : Int32).toInt64)) : Int64).toInt32) : Int32).toInt64) σ27 (fun σ29 => w_M_runReckon_175 P x4 σ29))))) ∧ (¬ x1 = 132 → ((x1 = 148 → w_M_take σ (fun r18 σ17 => w_M_take σ17 (fun r20 σ19 => ((0 ≤ (lg_cmp r20 r18) → (((lg_cmp r20 r18) ≤ 0 → w_M_runReckon_143 P x4 0 σ19) ∧ (¬ (lg_cmp r20 r18) ≤ 0 → w_M_runReckon_143 P x4 1 σ19))) ∧ (¬ 0 ≤ (lg_cmp r20 r18) → w_M_runReckon_143 P x4 (-1) σ19))))) ∧ (¬ x1 = 148 → w_M_take σ (fun r15 σ14 => ((x1 = 136 → w_M_runReckon_172 P x4 ((((r15 : Int64).toInt32) : Int32).toInt64) σ14) ∧ (¬ x1 = 136 → w_M_runReckon_172 P x4 r15 σ14)))))))) ∧ (¬ 110 ≤ x1 → w_M_take σ (fun r32 σ31 => w_M_take σ31 (fun r34 σ33 => ((x1 ≤ 107 → w_M_runReckon_36 P x1 x4 r32 r34 σ33) ∧ (¬ x1 ≤ 107 → (((lg_cmp r32 0) = 0 → w_M_raiseNew σ33 (fun σ37 => P σ37)) ∧ (¬ (lg_cmp r32 0) = 0 → w_M_runReckon_36 P x1 x4 r32 r34 σ33))))))))
set_option maxHeartbeats 4000000 in
set_option maxRecDepth 100000 in
theorem K_M_runReckon (l : Launch) (dC : Nat → ClassId) (dI : Nat → Nat → Nat) (mo : Nat) (rf : Nat → Nat) (ca : Nat → ClassId) (sz : Nat) (σ : MST) (x1 : Int32) (x2 : Int32) (x3 : Int32) (x4 : Int32) {P : MST → Prop} (hw : w_M_runReckon x1 x2 x3 x4 σ P) : Met l z_M_runReckon (mW z_M_runReckon prog_14_method_93_code 9 none) ({ frames := 3, cells := 0, slots := 0, locals := 69 } : Room) (va_Pc [.ref mo, .int x1, .int x2, .int x3, .int x4] (MPre (dC, dI) mo rf ca σ sz)) (va_Qv P (MB (dC, dI) mo rf ca sz) (mA mo rf sz)) 0 0 (mA mo rf sz) := by
  refine M_ofv (by decide) rfl (Nat.le_of_ble_eq_true rfl) ?_
  intro p e s m below meth cx Q A ls C hA hend h hl
  have C0 := C
  obtain ⟨⟨hx, hb, hml, hown, hts⟩, hsub⟩ := C0
  have K_175 : ∀ (u9 : Unit), ∀ (z4 : Int32) (σ : MST) (H : Heap) (locs : List Loc) (ls : Array Slot), w_M_runReckon_175 P z4 σ → MH (dC, dI) A mo rf ca σ s H locs → lv_has ls 9 [(0, .ref mo), (4, .int z4)] → W p l e ({ frames := 3, cells := 0, slots := 0, locals := 69 } : Room) s m ([.ref mo, .int x1, .int x2, .int x3, .int x4] : List Value).toArray below meth cx H locs 0 0 Q (F0 m 175 ls []) := by
    intro u9 z4 σ H locs ls hw h hl
    unfold w_M_runReckon_175 at hw
    refine lv_aload_n hx hb e_M_runReckon_175 rfl (lv_at hl 0 rfl) ?_
    refine lv_iload hx hb e_M_runReckon_176 (lv_at hl 1 rfl) ?_
    refine M_callv (As := [.int z4]) (rest := []) C h hA (K_M_goTo l dC dI mo rf ca H.size σ z4 hw) (cwV 1 hts (gV hsub v_345 v_346 v_347 v_7 v_348) rfl rfl rfl (by decide +kernel) ⟨(Nat.le_of_ble_eq_true rfl), (Nat.le_of_ble_eq_true rfl)⟩) rfl hl.1 (Nat.le_of_ble_eq_true rfl) e_M_runReckon_178 ⟨(Nat.le_of_ble_eq_true rfl), (Nat.le_of_ble_eq_true rfl)⟩ (fun σ1 H locs hw h => ?_)
    refine W.eq (g2 := F0 m 181 ls []) rfl ?_
    exact hend σ1 _ _ _ _ hw h e_M_runReckon_181
  have K_36 : ∀ (u9 : Unit), ∀ (z1 : Int32) (z4 : Int32) (z5 : Int64) (z7 : Int64) (σ : MST) (H : Heap) (locs : List Loc) (ls : Array Slot), w_M_runReckon_36 P z1 z4 z5 z7 σ → MH (dC, dI) A mo rf ca σ s H locs → lv_has ls 9 [(0, .ref mo), (1, .int z1), (4, .int z4), (5, .long z5), (7, .long z7)] → W p l e ({ frames := 3, cells := 0, slots := 0, locals := 69 } : Room) s m ([.ref mo, .int x1, .int x2, .int x3, .int x4] : List Value).toArray below meth cx H locs 0 0 Q (F0 m 36 ls []) := by
    intro u9 z1 z4 z5 z7 σ H locs ls hw h hl
    unfold w_M_runReckon_36 at hw
    refine lv_aload_n hx hb e_M_runReckon_36 rfl (lv_at hl 0 rfl) ?_
    refine lv_iload_n hx hb e_M_runReckon_37 rfl (lv_at hl 1 rfl) ?_
    refine lv_lload hx hb e_M_runReckon_38 (lv_at hl 4 rfl) ?_
    refine lv_lload hx hb e_M_runReckon_40 (lv_at hl 3 rfl) ?_
    refine M_scalll (As := [.int z1, .long z7, .long z5]) (rest := [.ref mo]) C h hA (K_M_reckoned l dC dI mo rf ca H.size σ z1 z7 z5 hw) (va_cwS 3 hts (gS hsub v_353 v_354 v_7 v_355) rfl rfl rfl (by decide +kernel) ⟨(Nat.le_of_ble_eq_true rfl), (Nat.le_of_ble_eq_true rfl)⟩) rfl hl.1 (Nat.le_of_ble_eq_true rfl) e_M_runReckon_42 ⟨(Nat.le_of_ble_eq_true rfl), (Nat.le_of_ble_eq_true rfl)⟩ (fun r4 σ3 H locs hw h => ?_)
    refine W.eq (g2 := F0 m 45 ls [.long r4, .ref mo]) rfl ?_
    refine M_callv (As := [.long r4]) (rest := []) C h hA (K_M_lay l dC dI mo rf ca H.size σ3 r4 hw) (cwV 1 hts (gV hsub v_326 v_327 v_328 v_7 v_329) rfl rfl rfl (by decide +kernel) ⟨(Nat.le_of_ble_eq_true rfl), (Nat.le_of_ble_eq_true rfl)⟩) rfl hl.1 (Nat.le_of_ble_eq_true rfl) e_M_runReckon_45 ⟨(Nat.le_of_ble_eq_true rfl), (Nat.le_of_ble_eq_true rfl)⟩ (fun σ5 H locs hw h => ?_)
    refine W.eq (g2 := F0 m 48 ls []) rfl ?_
    refine lv_goto (tgt := 175) hx hb e_M_runReckon_48 (by decide) ?_
    exact K_175 () z4 σ5 _ _ _ hw h (lv_sub hl [0, 2] rfl)
  have K_143 : ∀ (u9 : Unit), ∀ (z4 : Int32) (s0 : Int64) (σ : MST) (H : Heap) (locs : List Loc) (ls : Array Slot), w_M_runReckon_143 P z4 s0 σ → MH (dC, dI) A mo rf ca σ s H locs → lv_has ls 9 [(0, .ref mo), (4, .int z4)] → W p l e ({ frames := 3, cells := 0, slots := 0, locals := 69 } : Room) s m ([.ref mo, .int x1, .int x2, .int x3, .int x4] : List Value).toArray below meth cx H locs 0 0 Q (F0 m 143 ls [.long s0, .ref mo]) := by
    intro u9 z4 s0 σ H locs ls hw h hl
    unfold w_M_runReckon_143 at hw
    refine M_callv (As := [.long s0]) (rest := []) C h hA (K_M_lay l dC dI mo rf ca H.size σ s0 hw) (cwV 1 hts (gV hsub v_326 v_327 v_328 v_7 v_329) rfl rfl rfl (by decide +kernel) ⟨(Nat.le_of_ble_eq_true rfl), (Nat.le_of_ble_eq_true rfl)⟩) rfl hl.1 (Nat.le_of_ble_eq_true rfl) e_M_runReckon_143 ⟨(Nat.le_of_ble_eq_true rfl), (Nat.le_of_ble_eq_true rfl)⟩ (fun σ7 H locs hw h => ?_)
    refine W.eq (g2 := F0 m 146 ls []) rfl ?_
    refine lv_goto (tgt := 175) hx hb e_M_runReckon_146 (by decide) ?_
    exact K_175 () z4 σ7 _ _ _ hw h (lv_sub hl [0, 1] rfl)
  have K_172 : ∀ (u9 : Unit), ∀ (z4 : Int32) (s0 : Int64) (σ : MST) (H : Heap) (locs : List Loc) (ls : Array Slot), w_M_runReckon_172 P z4 s0 σ → MH (dC, dI) A mo rf ca σ s H locs → lv_has ls 9 [(0, .ref mo), (4, .int z4)] → W p l e ({ frames := 3, cells := 0, slots := 0, locals := 69 } : Room) s m ([.ref mo, .int x1, .int x2, .int x3, .int x4] : List Value).toArray below meth cx H locs 0 0 Q (F0 m 172 ls [.long s0, .ref mo]) := by
    intro u9 z4 s0 σ H locs ls hw h hl
    unfold w_M_runReckon_172 at hw
    refine M_callv (As := [.long s0]) (rest := []) C h hA (K_M_lay l dC dI mo rf ca H.size σ s0 hw) (cwV 1 hts (gV hsub v_326 v_327 v_328 v_7 v_329) rfl rfl rfl (by decide +kernel) ⟨(Nat.le_of_ble_eq_true rfl), (Nat.le_of_ble_eq_true rfl)⟩) rfl hl.1 (Nat.le_of_ble_eq_true rfl) e_M_runReckon_172 ⟨(Nat.le_of_ble_eq_true rfl), (Nat.le_of_ble_eq_true rfl)⟩ (fun σ9 H locs hw h => ?_)
    refine W.eq (g2 := F0 m 175 ls []) rfl ?_
    exact K_175 () z4 σ9 _ _ _ hw h (lv_sub hl [0, 1] rfl)
  have hl : lv_has ls 9 [(0, .ref mo), (1, .int x1), (2, .int x2), (3, .int x3), (4, .int x4)] := hl
  unfold w_M_runReckon at hw
  refine lv_iload_n hx hb e_M_runReckon_0 rfl (lv_at hl 1 rfl) ?_
  refine lv_bipush (v := 110) hx hb e_M_runReckon_1 (by decide) ?_
  refine lv_icmp_ge (tgt := 51) hx hb e_M_runReckon_3 (by decide) (fun c11 => ?_) (fun c11 => ?_)
  · skip
    replace hw := hw.1 c11
    refine lv_iload_n hx hb e_M_runReckon_51 rfl (lv_at hl 1 rfl) ?_
    refine lv_sipush (v := 132) hx hb e_M_runReckon_52 (by decide) ?_
    refine lv_icmp_ne (tgt := 96) hx hb e_M_runReckon_55 (by decide) (fun c12 => ?_) (fun c12 => ?_)
    · skip
      replace hw := hw.2 c12
      refine lv_iload_n hx hb e_M_runReckon_96 rfl (lv_at hl 1 rfl) ?_
      refine lv_sipush (v := 148) hx hb e_M_runReckon_97 (by decide) ?_
      refine lv_icmp_ne (tgt := 149) hx hb e_M_runReckon_100 (by decide) (fun c13 => ?_) (fun c13 => ?_)
      · skip
        replace hw := hw.2 c13
        refine lv_aload_n hx hb e_M_runReckon_149 rfl (lv_at hl 0 rfl) ?_
        refine M_calll (As := []) (rest := []) C h hA (K_M_take l dC dI mo rf ca s.heap.size σ hw) (cwV 0 hts (gV hsub v_349 v_350 v_351 v_7 v_352) rfl rfl rfl (by decide +kernel) ⟨(Nat.le_of_ble_eq_true rfl), (Nat.le_of_ble_eq_true rfl)⟩) rfl hl.1 (Nat.le_of_ble_eq_true rfl) e_M_runReckon_150 ⟨(Nat.le_of_ble_eq_true rfl), (Nat.le_of_ble_eq_true rfl)⟩ (fun r15 σ14 H locs hw h => ?_)
        refine W.eq (g2 := F0 m 153 ls [.long r15]) rfl ?_
        refine lv_lstore (lv' := [(5, .long r15), (0, .ref mo), (1, .int x1), (2, .int x2), (3, .int x3), (4, .int x4)]) hx hb e_M_runReckon_153 hl (by decide) rfl (fun ls hl => ?_)
        refine lv_aload_n hx hb e_M_runReckon_155 rfl (lv_at hl 1 rfl) ?_
        refine lv_iload_n hx hb e_M_runReckon_156 rfl (lv_at hl 2 rfl) ?_
        refine lv_sipush (v := 136) hx hb e_M_runReckon_157 (by decide) ?_
        refine lv_icmp_ne (tgt := 170) hx hb e_M_runReckon_160 (by decide) (fun c16 => ?_) (fun c16 => ?_)
        · skip
          replace hw := hw.2 c16
          refine lv_lload hx hb e_M_runReckon_170 (lv_at hl 0 rfl) ?_
          exact K_172 () x4 r15 σ14 _ _ _ hw h (lv_sub hl [1, 5] rfl)
        · skip
          replace hw := hw.1 c16
          refine lv_lload hx hb e_M_runReckon_163 (lv_at hl 0 rfl) ?_
          refine lv_l2i (v := (r15 : Int64).toInt32) hx hb e_M_runReckon_165 rfl ?_
          refine lv_i2l (v := (((r15 : Int64).toInt32) : Int32).toInt64) hx hb e_M_runReckon_166 rfl ?_
          refine lv_goto (tgt := 172) hx hb e_M_runReckon_167 (by decide) ?_
          exact K_172 () x4 ((((r15 : Int64).toInt32) : Int32).toInt64) σ14 _ _ _ hw h (lv_sub hl [1, 5] rfl)
      · skip
        replace hw := hw.1 c13
        refine lv_aload_n hx hb e_M_runReckon_103 rfl (lv_at hl 0 rfl) ?_
        refine M_calll (As := []) (rest := []) C h hA (K_M_take l dC dI mo rf ca s.heap.size σ hw) (cwV 0 hts (gV hsub v_349 v_350 v_351 v_7 v_352) rfl rfl rfl (by decide +kernel) ⟨(Nat.le_of_ble_eq_true rfl), (Nat.le_of_ble_eq_true rfl)⟩) rfl hl.1 (Nat.le_of_ble_eq_true rfl) e_M_runReckon_104 ⟨(Nat.le_of_ble_eq_true rfl), (Nat.le_of_ble_eq_true rfl)⟩ (fun r18 σ17 H locs hw h => ?_)
        refine W.eq (g2 := F0 m 107 ls [.long r18]) rfl ?_
        refine lv_lstore (lv' := [(5, .long r18), (0, .ref mo), (1, .int x1), (2, .int x2), (3, .int x3), (4, .int x4)]) hx hb e_M_runReckon_107 hl (by decide) rfl (fun ls hl => ?_)
        refine lv_aload_n hx hb e_M_runReckon_109 rfl (lv_at hl 1 rfl) ?_
        refine M_calll (As := []) (rest := []) C h hA (K_M_take l dC dI mo rf ca H.size σ17 hw) (cwV 0 hts (gV hsub v_349 v_350 v_351 v_7 v_352) rfl rfl rfl (by decide +kernel) ⟨(Nat.le_of_ble_eq_true rfl), (Nat.le_of_ble_eq_true rfl)⟩) rfl hl.1 (Nat.le_of_ble_eq_true rfl) e_M_runReckon_110 ⟨(Nat.le_of_ble_eq_true rfl), (Nat.le_of_ble_eq_true rfl)⟩ (fun r20 σ19 H locs hw h => ?_)
        refine W.eq (g2 := F0 m 113 ls [.long r20]) rfl ?_
        refine lv_lstore (lv' := [(7, .long r20), (5, .long r18), (0, .ref mo), (1, .int x1), (2, .int x2), (3, .int x3), (4, .int x4)]) hx hb e_M_runReckon_113 hl (by decide) rfl (fun ls hl => ?_)
        refine lv_aload_n hx hb e_M_runReckon_115 rfl (lv_at hl 2 rfl) ?_
        refine lv_lload hx hb e_M_runReckon_116 (lv_at hl 0 rfl) ?_
        refine lv_lload hx hb e_M_runReckon_118 (lv_at hl 1 rfl) ?_
        refine W.lcmp hx hb e_M_runReckon_120 ?_
        refine lv_if_ge (tgt := 130) hx hb e_M_runReckon_121 (by decide) (fun c21 => ?_) (fun c21 => ?_)
        · skip
          replace hw := hw.1 c21
          refine lv_lload hx hb e_M_runReckon_130 (lv_at hl 0 rfl) ?_
          refine lv_lload hx hb e_M_runReckon_132 (lv_at hl 1 rfl) ?_
          refine W.lcmp hx hb e_M_runReckon_134 ?_
          refine lv_if_le (tgt := 142) hx hb e_M_runReckon_135 (by decide) (fun c22 => ?_) (fun c22 => ?_)
          · skip
            replace hw := hw.1 c22
            refine lv_lconst (v := 0) hx hb e_M_runReckon_142 (by decide) ?_
            exact K_143 () x4 0 σ19 _ _ _ hw h (lv_sub hl [2, 6] rfl)
          · skip
            replace hw := hw.2 c22
            refine lv_lconst (v := 1) hx hb e_M_runReckon_138 (by decide) ?_
            refine lv_goto (tgt := 143) hx hb e_M_runReckon_139 (by decide) ?_
            exact K_143 () x4 1 σ19 _ _ _ hw h (lv_sub hl [2, 6] rfl)
        · skip
          replace hw := hw.2 c21
          refine lv_ldc2 (v := (-1)) hx hb hown (hts _ (hsub _ v_313)) e_M_runReckon_124 ?_
          refine lv_goto (tgt := 143) hx hb e_M_runReckon_127 (by decide) ?_
          exact K_143 () x4 (-1) σ19 _ _ _ hw h (lv_sub hl [2, 6] rfl)
    · skip
      replace hw := hw.1 c12
      refine lv_aload_n hx hb e_M_runReckon_58 rfl (lv_at hl 0 rfl) ?_
      refine lv_iload_n hx hb e_M_runReckon_59 rfl (lv_at hl 2 rfl) ?_
      refine lv_iload_n hx hb e_M_runReckon_60 rfl (lv_at hl 3 rfl) ?_
      refine lv_iconst (v := 1) hx hb e_M_runReckon_61 (by decide) ?_
      refine lv_iadd hx hb e_M_runReckon_62 ?_
      refine M_calli (As := [.int x2, .int (x3 + 1)]) (rest := []) C h hA (K_M_at l dC dI mo rf ca s.heap.size σ x2 (x3 + 1) hw) (cwV 2 hts (gV hsub v_69 v_70 v_71 v_7 v_72) rfl rfl rfl (by decide +kernel) ⟨(Nat.le_of_ble_eq_true rfl), (Nat.le_of_ble_eq_true rfl)⟩) rfl hl.1 (Nat.le_of_ble_eq_true rfl) e_M_runReckon_63 ⟨(Nat.le_of_ble_eq_true rfl), (Nat.le_of_ble_eq_true rfl)⟩ (fun r24 σ23 H locs hw h => ?_)
      refine W.eq (g2 := F0 m 66 ls [.int r24]) rfl ?_
      refine lv_istore (lv' := [(5, .int r24), (0, .ref mo), (1, .int x1), (2, .int x2), (3, .int x3), (4, .int x4)]) hx hb e_M_runReckon_66 hl (by decide) rfl (fun ls hl => ?_)
      refine lv_aload_n hx hb e_M_runReckon_68 rfl (lv_at hl 1 rfl) ?_
      refine lv_iload hx hb e_M_runReckon_69 (lv_at hl 0 rfl) ?_
      refine lv_aload_n hx hb e_M_runReckon_71 rfl (lv_at hl 1 rfl) ?_
      refine lv_iload hx hb e_M_runReckon_72 (lv_at hl 0 rfl) ?_
      refine M_calll (As := [.int r24]) (rest := [.int r24, .ref mo]) C h hA (K_M_localOf l dC dI mo rf ca H.size σ23 r24 hw) (cwV 1 hts (gV hsub v_356 v_357 v_358 v_7 v_359) rfl rfl rfl (by decide +kernel) ⟨(Nat.le_of_ble_eq_true rfl), (Nat.le_of_ble_eq_true rfl)⟩) rfl hl.1 (Nat.le_of_ble_eq_true rfl) e_M_runReckon_74 ⟨(Nat.le_of_ble_eq_true rfl), (Nat.le_of_ble_eq_true rfl)⟩ (fun r26 σ25 H locs hw h => ?_)
      refine W.eq (g2 := F0 m 77 ls [.long r26, .int r24, .ref mo]) rfl ?_
      refine lv_aload_n hx hb e_M_runReckon_77 rfl (lv_at hl 1 rfl) ?_
      refine lv_iload_n hx hb e_M_runReckon_78 rfl (lv_at hl 3 rfl) ?_
      refine lv_iload_n hx hb e_M_runReckon_79 rfl (lv_at hl 4 rfl) ?_
      refine lv_iconst (v := 2) hx hb e_M_runReckon_80 (by decide) ?_
      refine lv_iadd hx hb e_M_runReckon_81 ?_
      refine M_calli (As := [.int x2, .int (x3 + 2)]) (rest := [.long r26, .int r24, .ref mo]) C h hA (K_M_at l dC dI mo rf ca H.size σ25 x2 (x3 + 2) hw) (cwV 2 hts (gV hsub v_69 v_70 v_71 v_7 v_72) rfl rfl rfl (by decide +kernel) ⟨(Nat.le_of_ble_eq_true rfl), (Nat.le_of_ble_eq_true rfl)⟩) rfl hl.1 (Nat.le_of_ble_eq_true rfl) e_M_runReckon_82 ⟨(Nat.le_of_ble_eq_true rfl), (Nat.le_of_ble_eq_true rfl)⟩ (fun r28 σ27 H locs hw h => ?_)
      refine W.eq (g2 := F0 m 85 ls [.int r28, .long r26, .int r24, .ref mo]) rfl ?_
      refine lv_i2b (v := (r28 : Int32).toInt8.toInt32) hx hb e_M_runReckon_85 rfl ?_
      refine lv_i2l (v := (((r28 : Int32).toInt8.toInt32) : Int32).toInt64) hx hb e_M_runReckon_86 rfl ?_
      refine lv_ladd hx hb e_M_runReckon_87 ?_
      refine lv_l2i (v := ((r26 + ((((r28 : Int32).toInt8.toInt32) : Int32).toInt64)) : Int64).toInt32) hx hb e_M_runReckon_88 rfl ?_
      refine lv_i2l (v := ((((r26 + ((((r28 : Int32).toInt8.toInt32) : Int32).toInt64)) : Int64).toInt32) : Int32).toInt64) hx hb e_M_runReckon_89 rfl ?_
      refine M_callv (As := [.int r24, .long (((((r26 + ((((r28 : Int32).toInt8.toInt32) : Int32).toInt64)) : Int64).toInt32) : Int32).toInt64)]) (rest := []) C h hA (K_M_setLocal l dC dI mo rf ca H.size σ27 r24 (((((r26 + ((((r28 : Int32).toInt8.toInt32) : Int32).toInt64)) : Int64).toInt32) : Int32).toInt64) hw) (cwV 2 hts (gV hsub v_360 v_361 v_362 v_7 v_363) rfl rfl rfl (by decide +kernel) ⟨(Nat.le_of_ble_eq_true rfl), (Nat.le_of_ble_eq_true rfl)⟩) rfl hl.1 (Nat.le_of_ble_eq_true rfl) e_M_runReckon_90 ⟨(Nat.le_of_ble_eq_true rfl), (Nat.le_of_ble_eq_true rfl)⟩ (fun σ29 H locs hw h => ?_)
      refine W.eq (g2 := F0 m 93 ls []) rfl ?_
      refine lv_goto (tgt := 175) hx hb e_M_runReckon_93 (by decide) ?_
      exact K_175 () x4 σ29 _ _ _ hw h (lv_sub hl [1, 5] rfl)
  · skip
    replace hw := hw.2 c11
    refine lv_aload_n hx hb e_M_runReckon_6 rfl (lv_at hl 0 rfl) ?_
    refine M_calll (As := []) (rest := []) C h hA (K_M_take l dC dI mo rf ca s.heap.size σ hw) (cwV 0 hts (gV hsub v_349 v_350 v_351 v_7 v_352) rfl rfl rfl (by decide +kernel) ⟨(Nat.le_of_ble_eq_true rfl), (Nat.le_of_ble_eq_true rfl)⟩) rfl hl.1 (Nat.le_of_ble_eq_true rfl) e_M_runReckon_7 ⟨(Nat.le_of_ble_eq_true rfl), (Nat.le_of_ble_eq_true rfl)⟩ (fun r32 σ31 H locs hw h => ?_)
    refine W.eq (g2 := F0 m 10 ls [.long r32]) rfl ?_
    refine lv_lstore (lv' := [(5, .long r32), (0, .ref mo), (1, .int x1), (2, .int x2), (3, .int x3), (4, .int x4)]) hx hb e_M_runReckon_10 hl (by decide) rfl (fun ls hl => ?_)
    refine lv_aload_n hx hb e_M_runReckon_12 rfl (lv_at hl 1 rfl) ?_
    refine M_calll (As := []) (rest := []) C h hA (K_M_take l dC dI mo rf ca H.size σ31 hw) (cwV 0 hts (gV hsub v_349 v_350 v_351 v_7 v_352) rfl rfl rfl (by decide +kernel) ⟨(Nat.le_of_ble_eq_true rfl), (Nat.le_of_ble_eq_true rfl)⟩) rfl hl.1 (Nat.le_of_ble_eq_true rfl) e_M_runReckon_13 ⟨(Nat.le_of_ble_eq_true rfl), (Nat.le_of_ble_eq_true rfl)⟩ (fun r34 σ33 H locs hw h => ?_)
    refine W.eq (g2 := F0 m 16 ls [.long r34]) rfl ?_
    refine lv_lstore (lv' := [(7, .long r34), (5, .long r32), (0, .ref mo), (1, .int x1), (2, .int x2), (3, .int x3), (4, .int x4)]) hx hb e_M_runReckon_16 hl (by decide) rfl (fun ls hl => ?_)
    refine lv_iload_n hx hb e_M_runReckon_18 rfl (lv_at hl 3 rfl) ?_
    refine lv_bipush (v := 107) hx hb e_M_runReckon_19 (by decide) ?_
    refine lv_icmp_le (tgt := 36) hx hb e_M_runReckon_21 (by decide) (fun c35 => ?_) (fun c35 => ?_)
    · skip
      replace hw := hw.1 c35
      exact K_36 () x1 x4 r32 r34 σ33 _ _ _ hw h (lv_sub hl [2, 3, 6, 1, 0] rfl)
    · skip
      replace hw := hw.2 c35
      refine lv_lload hx hb e_M_runReckon_24 (lv_at hl 1 rfl) ?_
      refine lv_lconst (v := 0) hx hb e_M_runReckon_26 (by decide) ?_
      refine W.lcmp hx hb e_M_runReckon_27 ?_
      refine lv_if_ne (tgt := 36) hx hb e_M_runReckon_28 (by decide) (fun c36 => ?_) (fun c36 => ?_)
      · skip
        replace hw := hw.2 c36
        exact K_36 () x1 x4 r32 r34 σ33 _ _ _ hw h (lv_sub hl [2, 3, 6, 1, 0] rfl)
      · skip
        replace hw := hw.1 c36
        refine lv_aload_n hx hb e_M_runReckon_31 rfl (lv_at hl 2 rfl) ?_
        refine M_callv (As := []) (rest := []) C h hA (K_M_raiseNew l dC dI mo rf ca H.size σ33 hw) (cwV 0 hts (gV hsub v_341 v_342 v_343 v_7 v_344) rfl rfl rfl (by decide +kernel) ⟨(Nat.le_of_ble_eq_true rfl), (Nat.le_of_ble_eq_true rfl)⟩) rfl hl.1 (Nat.le_of_ble_eq_true rfl) e_M_runReckon_32 ⟨(Nat.le_of_ble_eq_true rfl), (Nat.le_of_ble_eq_true rfl)⟩ (fun σ37 H locs hw h => ?_)
        refine W.eq (g2 := F0 m 35 ls []) rfl ?_
        exact hend σ37 _ _ _ _ hw h e_M_runReckon_35
abbrev z_M_holds : MethodName := ⟨"MapFramerModel", "holds", "(IJJ)Z"⟩
theorem e_M_holds_0 : decode prog_14_method_94_code 0 = .ok (.iload_n 0, 1) := by decide +kernel
theorem e_M_holds_1 : decode prog_14_method_94_code 1 = .ok (.ifCond .ne 17, 3) := by decide +kernel
theorem e_M_holds_4 : decode prog_14_method_94_code 4 = .ok (.lload_n 1, 1) := by decide +kernel
theorem e_M_holds_5 : decode prog_14_method_94_code 5 = .ok (.lload_n 3, 1) := by decide +kernel
theorem e_M_holds_6 : decode prog_14_method_94_code 6 = .ok (.lcmp, 1) := by decide +kernel
theorem e_M_holds_7 : decode prog_14_method_94_code 7 = .ok (.ifCond .ne 7, 3) := by decide +kernel
theorem e_M_holds_10 : decode prog_14_method_94_code 10 = .ok (.iconst 1, 1) := by decide +kernel
theorem e_M_holds_11 : decode prog_14_method_94_code 11 = .ok (.goto 94, 3) := by decide +kernel
theorem e_M_holds_14 : decode prog_14_method_94_code 14 = .ok (.iconst 0, 1) := by decide +kernel
theorem e_M_holds_15 : decode prog_14_method_94_code 15 = .ok (.goto 90, 3) := by decide +kernel
theorem e_M_holds_18 : decode prog_14_method_94_code 18 = .ok (.iload_n 0, 1) := by decide +kernel
theorem e_M_holds_19 : decode prog_14_method_94_code 19 = .ok (.iconst 1, 1) := by decide +kernel
theorem e_M_holds_20 : decode prog_14_method_94_code 20 = .ok (.if_icmp .ne 17, 3) := by decide +kernel
theorem e_M_holds_23 : decode prog_14_method_94_code 23 = .ok (.lload_n 1, 1) := by decide +kernel
theorem e_M_holds_24 : decode prog_14_method_94_code 24 = .ok (.lload_n 3, 1) := by decide +kernel
theorem e_M_holds_25 : decode prog_14_method_94_code 25 = .ok (.lcmp, 1) := by decide +kernel
theorem e_M_holds_26 : decode prog_14_method_94_code 26 = .ok (.ifCond .eq 7, 3) := by decide +kernel
theorem e_M_holds_29 : decode prog_14_method_94_code 29 = .ok (.iconst 1, 1) := by decide +kernel
theorem e_M_holds_30 : decode prog_14_method_94_code 30 = .ok (.goto 75, 3) := by decide +kernel
theorem e_M_holds_33 : decode prog_14_method_94_code 33 = .ok (.iconst 0, 1) := by decide +kernel
theorem e_M_holds_34 : decode prog_14_method_94_code 34 = .ok (.goto 71, 3) := by decide +kernel
theorem e_M_holds_37 : decode prog_14_method_94_code 37 = .ok (.iload_n 0, 1) := by decide +kernel
theorem e_M_holds_38 : decode prog_14_method_94_code 38 = .ok (.iconst 2, 1) := by decide +kernel
theorem e_M_holds_39 : decode prog_14_method_94_code 39 = .ok (.if_icmp .ne 17, 3) := by decide +kernel
theorem e_M_holds_42 : decode prog_14_method_94_code 42 = .ok (.lload_n 1, 1) := by decide +kernel
theorem e_M_holds_43 : decode prog_14_method_94_code 43 = .ok (.lload_n 3, 1) := by decide +kernel
theorem e_M_holds_44 : decode prog_14_method_94_code 44 = .ok (.lcmp, 1) := by decide +kernel
theorem e_M_holds_45 : decode prog_14_method_94_code 45 = .ok (.ifCond .ge 7, 3) := by decide +kernel
theorem e_M_holds_48 : decode prog_14_method_94_code 48 = .ok (.iconst 1, 1) := by decide +kernel
theorem e_M_holds_49 : decode prog_14_method_94_code 49 = .ok (.goto 56, 3) := by decide +kernel
theorem e_M_holds_52 : decode prog_14_method_94_code 52 = .ok (.iconst 0, 1) := by decide +kernel
theorem e_M_holds_53 : decode prog_14_method_94_code 53 = .ok (.goto 52, 3) := by decide +kernel
theorem e_M_holds_56 : decode prog_14_method_94_code 56 = .ok (.iload_n 0, 1) := by decide +kernel
theorem e_M_holds_57 : decode prog_14_method_94_code 57 = .ok (.iconst 3, 1) := by decide +kernel
theorem e_M_holds_58 : decode prog_14_method_94_code 58 = .ok (.if_icmp .ne 17, 3) := by decide +kernel
theorem e_M_holds_61 : decode prog_14_method_94_code 61 = .ok (.lload_n 1, 1) := by decide +kernel
theorem e_M_holds_62 : decode prog_14_method_94_code 62 = .ok (.lload_n 3, 1) := by decide +kernel
theorem e_M_holds_63 : decode prog_14_method_94_code 63 = .ok (.lcmp, 1) := by decide +kernel
theorem e_M_holds_64 : decode prog_14_method_94_code 64 = .ok (.ifCond .lt 7, 3) := by decide +kernel
theorem e_M_holds_67 : decode prog_14_method_94_code 67 = .ok (.iconst 1, 1) := by decide +kernel
theorem e_M_holds_68 : decode prog_14_method_94_code 68 = .ok (.goto 37, 3) := by decide +kernel
theorem e_M_holds_71 : decode prog_14_method_94_code 71 = .ok (.iconst 0, 1) := by decide +kernel
theorem e_M_holds_72 : decode prog_14_method_94_code 72 = .ok (.goto 33, 3) := by decide +kernel
theorem e_M_holds_75 : decode prog_14_method_94_code 75 = .ok (.iload_n 0, 1) := by decide +kernel
theorem e_M_holds_76 : decode prog_14_method_94_code 76 = .ok (.iconst 4, 1) := by decide +kernel
theorem e_M_holds_77 : decode prog_14_method_94_code 77 = .ok (.if_icmp .ne 17, 3) := by decide +kernel
theorem e_M_holds_80 : decode prog_14_method_94_code 80 = .ok (.lload_n 1, 1) := by decide +kernel
theorem e_M_holds_81 : decode prog_14_method_94_code 81 = .ok (.lload_n 3, 1) := by decide +kernel
theorem e_M_holds_82 : decode prog_14_method_94_code 82 = .ok (.lcmp, 1) := by decide +kernel
theorem e_M_holds_83 : decode prog_14_method_94_code 83 = .ok (.ifCond .le 7, 3) := by decide +kernel
theorem e_M_holds_86 : decode prog_14_method_94_code 86 = .ok (.iconst 1, 1) := by decide +kernel
theorem e_M_holds_87 : decode prog_14_method_94_code 87 = .ok (.goto 18, 3) := by decide +kernel
theorem e_M_holds_90 : decode prog_14_method_94_code 90 = .ok (.iconst 0, 1) := by decide +kernel
theorem e_M_holds_91 : decode prog_14_method_94_code 91 = .ok (.goto 14, 3) := by decide +kernel
theorem e_M_holds_94 : decode prog_14_method_94_code 94 = .ok (.lload_n 1, 1) := by decide +kernel
theorem e_M_holds_95 : decode prog_14_method_94_code 95 = .ok (.lload_n 3, 1) := by decide +kernel
theorem e_M_holds_96 : decode prog_14_method_94_code 96 = .ok (.lcmp, 1) := by decide +kernel
theorem e_M_holds_97 : decode prog_14_method_94_code 97 = .ok (.ifCond .gt 7, 3) := by decide +kernel
theorem e_M_holds_100 : decode prog_14_method_94_code 100 = .ok (.iconst 1, 1) := by decide +kernel
theorem e_M_holds_101 : decode prog_14_method_94_code 101 = .ok (.goto 4, 3) := by decide +kernel
theorem e_M_holds_104 : decode prog_14_method_94_code 104 = .ok (.iconst 0, 1) := by decide +kernel
theorem e_M_holds_105 : decode prog_14_method_94_code 105 = .ok (.ireturn, 1) := by decide +kernel
def w_M_holds (x0 : Int32) (x1 : Int64) (x3 : Int64) (σ : MST) (P : Int32 → MST → Prop) : Prop := ((x0 = 0 → (((lg_cmp x1 x3) = 0 → P (1 : Int32) σ) ∧ (¬ (lg_cmp x1 x3) = 0 → P (0 : Int32) σ))) ∧ (¬ x0 = 0 → ((x0 = 1 → (((lg_cmp x1 x3) = 0 → P (0 : Int32) σ) ∧ (¬ (lg_cmp x1 x3) = 0 → P (1 : Int32) σ))) ∧ (¬ x0 = 1 → ((x0 = 2 → ((0 ≤ (lg_cmp x1 x3) → P (0 : Int32) σ) ∧ (¬ 0 ≤ (lg_cmp x1 x3) → P (1 : Int32) σ))) ∧ (¬ x0 = 2 → ((x0 = 3 → (((lg_cmp x1 x3) < 0 → P (0 : Int32) σ) ∧ (¬ (lg_cmp x1 x3) < 0 → P (1 : Int32) σ))) ∧ (¬ x0 = 3 → ((x0 = 4 → (((lg_cmp x1 x3) ≤ 0 → P (0 : Int32) σ) ∧ (¬ (lg_cmp x1 x3) ≤ 0 → P (1 : Int32) σ))) ∧ (¬ x0 = 4 → ((0 < (lg_cmp x1 x3) → P (0 : Int32) σ) ∧ (¬ 0 < (lg_cmp x1 x3) → P (1 : Int32) σ))))))))))))
set_option maxHeartbeats 4000000 in
set_option maxRecDepth 100000 in
theorem K_M_holds (l : Launch) (dC : Nat → ClassId) (dI : Nat → Nat → Nat) (mo : Nat) (rf : Nat → Nat) (ca : Nat → ClassId) (sz : Nat) (σ : MST) (x0 : Int32) (x1 : Int64) (x3 : Int64) {P : Int32 → MST → Prop} (hw : w_M_holds x0 x1 x3 σ P) : Met l z_M_holds (mW z_M_holds prog_14_method_94_code 5 (some .boolean)) ({ frames := 0, cells := 0, slots := 0, locals := 0 } : Room) (va_Pc [.int x0, .long x1, .long x3] (MPre (dC, dI) mo rf ca σ sz)) (va_Qi P (MB (dC, dI) mo rf ca sz) (mA mo rf sz)) 0 0 (mA mo rf sz) := by
  refine M_ofz (by decide) rfl (Nat.le_of_ble_eq_true rfl) ?_
  intro p e s m below meth cx Q A ls C hA hend h hl
  have C0 := C
  obtain ⟨⟨hx, hb, hml, hown, hts⟩, hsub⟩ := C0
  have hl : lv_has ls 5 [(0, .int x0), (1, .long x1), (3, .long x3)] := hl
  unfold w_M_holds at hw
  refine lv_iload_n hx hb e_M_holds_0 rfl (lv_at hl 0 rfl) ?_
  refine lv_if_ne (tgt := 18) hx hb e_M_holds_1 (by decide) (fun c1 => ?_) (fun c1 => ?_)
  · skip
    replace hw := hw.2 c1
    refine lv_iload_n hx hb e_M_holds_18 rfl (lv_at hl 0 rfl) ?_
    refine lv_iconst (v := 1) hx hb e_M_holds_19 (by decide) ?_
    refine lv_icmp_ne (tgt := 37) hx hb e_M_holds_20 (by decide) (fun c2 => ?_) (fun c2 => ?_)
    · skip
      replace hw := hw.2 c2
      refine lv_iload_n hx hb e_M_holds_37 rfl (lv_at hl 0 rfl) ?_
      refine lv_iconst (v := 2) hx hb e_M_holds_38 (by decide) ?_
      refine lv_icmp_ne (tgt := 56) hx hb e_M_holds_39 (by decide) (fun c3 => ?_) (fun c3 => ?_)
      · skip
        replace hw := hw.2 c3
        refine lv_iload_n hx hb e_M_holds_56 rfl (lv_at hl 0 rfl) ?_
        refine lv_iconst (v := 3) hx hb e_M_holds_57 (by decide) ?_
        refine lv_icmp_ne (tgt := 75) hx hb e_M_holds_58 (by decide) (fun c4 => ?_) (fun c4 => ?_)
        · skip
          replace hw := hw.2 c4
          refine lv_iload_n hx hb e_M_holds_75 rfl (lv_at hl 0 rfl) ?_
          refine lv_iconst (v := 4) hx hb e_M_holds_76 (by decide) ?_
          refine lv_icmp_ne (tgt := 94) hx hb e_M_holds_77 (by decide) (fun c5 => ?_) (fun c5 => ?_)
          · skip
            replace hw := hw.2 c5
            refine lv_lload_n hx hb e_M_holds_94 rfl (lv_at hl 1 rfl) ?_
            refine lv_lload_n hx hb e_M_holds_95 rfl (lv_at hl 2 rfl) ?_
            refine W.lcmp hx hb e_M_holds_96 ?_
            refine lv_if_gt (tgt := 104) hx hb e_M_holds_97 (by decide) (fun c6 => ?_) (fun c6 => ?_)
            · skip
              replace hw := hw.1 c6
              refine lv_iconst (v := 0) hx hb e_M_holds_104 (by decide) ?_
              exact hend (0 : Int32) σ _ _ _ _ rfl hw h e_M_holds_105
            · skip
              replace hw := hw.2 c6
              refine lv_iconst (v := 1) hx hb e_M_holds_100 (by decide) ?_
              refine lv_goto (tgt := 105) hx hb e_M_holds_101 (by decide) ?_
              exact hend (1 : Int32) σ _ _ _ _ rfl hw h e_M_holds_105
          · skip
            replace hw := hw.1 c5
            refine lv_lload_n hx hb e_M_holds_80 rfl (lv_at hl 1 rfl) ?_
            refine lv_lload_n hx hb e_M_holds_81 rfl (lv_at hl 2 rfl) ?_
            refine W.lcmp hx hb e_M_holds_82 ?_
            refine lv_if_le (tgt := 90) hx hb e_M_holds_83 (by decide) (fun c7 => ?_) (fun c7 => ?_)
            · skip
              replace hw := hw.1 c7
              refine lv_iconst (v := 0) hx hb e_M_holds_90 (by decide) ?_
              refine lv_goto (tgt := 105) hx hb e_M_holds_91 (by decide) ?_
              exact hend (0 : Int32) σ _ _ _ _ rfl hw h e_M_holds_105
            · skip
              replace hw := hw.2 c7
              refine lv_iconst (v := 1) hx hb e_M_holds_86 (by decide) ?_
              refine lv_goto (tgt := 105) hx hb e_M_holds_87 (by decide) ?_
              exact hend (1 : Int32) σ _ _ _ _ rfl hw h e_M_holds_105
        · skip
          replace hw := hw.1 c4
          refine lv_lload_n hx hb e_M_holds_61 rfl (lv_at hl 1 rfl) ?_
          refine lv_lload_n hx hb e_M_holds_62 rfl (lv_at hl 2 rfl) ?_
          refine W.lcmp hx hb e_M_holds_63 ?_
          refine lv_if_lt (tgt := 71) hx hb e_M_holds_64 (by decide) (fun c8 => ?_) (fun c8 => ?_)
          · skip
            replace hw := hw.1 c8
            refine lv_iconst (v := 0) hx hb e_M_holds_71 (by decide) ?_
            refine lv_goto (tgt := 105) hx hb e_M_holds_72 (by decide) ?_
            exact hend (0 : Int32) σ _ _ _ _ rfl hw h e_M_holds_105
          · skip
            replace hw := hw.2 c8
            refine lv_iconst (v := 1) hx hb e_M_holds_67 (by decide) ?_
            refine lv_goto (tgt := 105) hx hb e_M_holds_68 (by decide) ?_
            exact hend (1 : Int32) σ _ _ _ _ rfl hw h e_M_holds_105
      · skip
        replace hw := hw.1 c3
        refine lv_lload_n hx hb e_M_holds_42 rfl (lv_at hl 1 rfl) ?_
        refine lv_lload_n hx hb e_M_holds_43 rfl (lv_at hl 2 rfl) ?_
        refine W.lcmp hx hb e_M_holds_44 ?_
        refine lv_if_ge (tgt := 52) hx hb e_M_holds_45 (by decide) (fun c9 => ?_) (fun c9 => ?_)
        · skip
          replace hw := hw.1 c9
          refine lv_iconst (v := 0) hx hb e_M_holds_52 (by decide) ?_
          refine lv_goto (tgt := 105) hx hb e_M_holds_53 (by decide) ?_
          exact hend (0 : Int32) σ _ _ _ _ rfl hw h e_M_holds_105
        · skip
          replace hw := hw.2 c9
          refine lv_iconst (v := 1) hx hb e_M_holds_48 (by decide) ?_
          refine lv_goto (tgt := 105) hx hb e_M_holds_49 (by decide) ?_
          exact hend (1 : Int32) σ _ _ _ _ rfl hw h e_M_holds_105
    · skip
      replace hw := hw.1 c2
      refine lv_lload_n hx hb e_M_holds_23 rfl (lv_at hl 1 rfl) ?_
      refine lv_lload_n hx hb e_M_holds_24 rfl (lv_at hl 2 rfl) ?_
      refine W.lcmp hx hb e_M_holds_25 ?_
      refine lv_if_eq (tgt := 33) hx hb e_M_holds_26 (by decide) (fun c10 => ?_) (fun c10 => ?_)
      · skip
        replace hw := hw.1 c10
        refine lv_iconst (v := 0) hx hb e_M_holds_33 (by decide) ?_
        refine lv_goto (tgt := 105) hx hb e_M_holds_34 (by decide) ?_
        exact hend (0 : Int32) σ _ _ _ _ rfl hw h e_M_holds_105
      · skip
        replace hw := hw.2 c10
        refine lv_iconst (v := 1) hx hb e_M_holds_29 (by decide) ?_
        refine lv_goto (tgt := 105) hx hb e_M_holds_30 (by decide) ?_
        exact hend (1 : Int32) σ _ _ _ _ rfl hw h e_M_holds_105
  · skip
    replace hw := hw.1 c1
    refine lv_lload_n hx hb e_M_holds_4 rfl (lv_at hl 1 rfl) ?_
    refine lv_lload_n hx hb e_M_holds_5 rfl (lv_at hl 2 rfl) ?_
    refine W.lcmp hx hb e_M_holds_6 ?_
    refine lv_if_ne (tgt := 14) hx hb e_M_holds_7 (by decide) (fun c11 => ?_) (fun c11 => ?_)
    · skip
      replace hw := hw.2 c11
      refine lv_iconst (v := 0) hx hb e_M_holds_14 (by decide) ?_
      refine lv_goto (tgt := 105) hx hb e_M_holds_15 (by decide) ?_
      exact hend (0 : Int32) σ _ _ _ _ rfl hw h e_M_holds_105
    · skip
      replace hw := hw.1 c11
      refine lv_iconst (v := 1) hx hb e_M_holds_10 (by decide) ?_
      refine lv_goto (tgt := 105) hx hb e_M_holds_11 (by decide) ?_
      exact hend (1 : Int32) σ _ _ _ _ rfl hw h e_M_holds_105
abbrev z_M_runBranch : MethodName := ⟨"MapFramerModel", "runBranch", "(IIII)V"⟩
theorem v_364 : (Cond.methodLink "MapFramerModel" 470 ⟨"MapFramerModel", "holds", "(IJJ)Z"⟩ : Cond) ∈ bigW := inB_10 169 (by decide +kernel) rfl
theorem v_365 : (Cond.static ⟨"MapFramerModel", "holds", "(IJJ)Z"⟩ : Cond) ∈ bigW := inB_10 170 (by decide +kernel) rfl
theorem v_366 : (Cond.code ⟨"MapFramerModel", "holds", "(IJJ)Z"⟩ prog_14_method_94_code 5 (some .boolean) : Cond) ∈ bigW := inB_10 171 rfl rfl
theorem e_M_runBranch_0 : decode prog_14_method_95_code 0 = .ok (.iconst 1, 1) := by decide +kernel
theorem e_M_runBranch_1 : decode prog_14_method_95_code 1 = .ok (.istore 5, 2) := by decide +kernel
theorem e_M_runBranch_3 : decode prog_14_method_95_code 3 = .ok (.iload_n 1, 1) := by decide +kernel
theorem e_M_runBranch_4 : decode prog_14_method_95_code 4 = .ok (.sipush 159, 3) := by decide +kernel
theorem e_M_runBranch_7 : decode prog_14_method_95_code 7 = .ok (.if_icmp .ge 21, 3) := by decide +kernel
theorem e_M_runBranch_10 : decode prog_14_method_95_code 10 = .ok (.iload_n 1, 1) := by decide +kernel
theorem e_M_runBranch_11 : decode prog_14_method_95_code 11 = .ok (.sipush 153, 3) := by decide +kernel
theorem e_M_runBranch_14 : decode prog_14_method_95_code 14 = .ok (.isub, 1) := by decide +kernel
theorem e_M_runBranch_15 : decode prog_14_method_95_code 15 = .ok (.aload_n 0, 1) := by decide +kernel
theorem e_M_runBranch_16 : decode prog_14_method_95_code 16 = .ok (.invokevirtual 449, 3) := by decide +kernel
theorem e_M_runBranch_19 : decode prog_14_method_95_code 19 = .ok (.lconst 0, 1) := by decide +kernel
theorem e_M_runBranch_20 : decode prog_14_method_95_code 20 = .ok (.invokestatic 470, 3) := by decide +kernel
theorem e_M_runBranch_23 : decode prog_14_method_95_code 23 = .ok (.istore 5, 2) := by decide +kernel
theorem e_M_runBranch_25 : decode prog_14_method_95_code 25 = .ok (.goto 97, 3) := by decide +kernel
theorem e_M_runBranch_28 : decode prog_14_method_95_code 28 = .ok (.iload_n 1, 1) := by decide +kernel
theorem e_M_runBranch_29 : decode prog_14_method_95_code 29 = .ok (.sipush 167, 3) := by decide +kernel
theorem e_M_runBranch_32 : decode prog_14_method_95_code 32 = .ok (.if_icmp .ge 47, 3) := by decide +kernel
theorem e_M_runBranch_35 : decode prog_14_method_95_code 35 = .ok (.aload_n 0, 1) := by decide +kernel
theorem e_M_runBranch_36 : decode prog_14_method_95_code 36 = .ok (.invokevirtual 449, 3) := by decide +kernel
theorem e_M_runBranch_39 : decode prog_14_method_95_code 39 = .ok (.lstore 6, 2) := by decide +kernel
theorem e_M_runBranch_41 : decode prog_14_method_95_code 41 = .ok (.aload_n 0, 1) := by decide +kernel
theorem e_M_runBranch_42 : decode prog_14_method_95_code 42 = .ok (.invokevirtual 449, 3) := by decide +kernel
theorem e_M_runBranch_45 : decode prog_14_method_95_code 45 = .ok (.lstore 8, 2) := by decide +kernel
theorem e_M_runBranch_47 : decode prog_14_method_95_code 47 = .ok (.iload_n 1, 1) := by decide +kernel
theorem e_M_runBranch_48 : decode prog_14_method_95_code 48 = .ok (.sipush 165, 3) := by decide +kernel
theorem e_M_runBranch_51 : decode prog_14_method_95_code 51 = .ok (.if_icmp .ge 11, 3) := by decide +kernel
theorem e_M_runBranch_54 : decode prog_14_method_95_code 54 = .ok (.iload_n 1, 1) := by decide +kernel
theorem e_M_runBranch_55 : decode prog_14_method_95_code 55 = .ok (.sipush 159, 3) := by decide +kernel
theorem e_M_runBranch_58 : decode prog_14_method_95_code 58 = .ok (.isub, 1) := by decide +kernel
theorem e_M_runBranch_59 : decode prog_14_method_95_code 59 = .ok (.goto 8, 3) := by decide +kernel
theorem e_M_runBranch_62 : decode prog_14_method_95_code 62 = .ok (.iload_n 1, 1) := by decide +kernel
theorem e_M_runBranch_63 : decode prog_14_method_95_code 63 = .ok (.sipush 165, 3) := by decide +kernel
theorem e_M_runBranch_66 : decode prog_14_method_95_code 66 = .ok (.isub, 1) := by decide +kernel
theorem e_M_runBranch_67 : decode prog_14_method_95_code 67 = .ok (.lload 8, 2) := by decide +kernel
theorem e_M_runBranch_69 : decode prog_14_method_95_code 69 = .ok (.lload 6, 2) := by decide +kernel
theorem e_M_runBranch_71 : decode prog_14_method_95_code 71 = .ok (.invokestatic 470, 3) := by decide +kernel
theorem e_M_runBranch_74 : decode prog_14_method_95_code 74 = .ok (.istore 5, 2) := by decide +kernel
theorem e_M_runBranch_76 : decode prog_14_method_95_code 76 = .ok (.goto 46, 3) := by decide +kernel
theorem e_M_runBranch_79 : decode prog_14_method_95_code 79 = .ok (.iload_n 1, 1) := by decide +kernel
theorem e_M_runBranch_80 : decode prog_14_method_95_code 80 = .ok (.sipush 167, 3) := by decide +kernel
theorem e_M_runBranch_83 : decode prog_14_method_95_code 83 = .ok (.if_icmp .le 39, 3) := by decide +kernel
theorem e_M_runBranch_86 : decode prog_14_method_95_code 86 = .ok (.aload_n 0, 1) := by decide +kernel
theorem e_M_runBranch_87 : decode prog_14_method_95_code 87 = .ok (.invokevirtual 449, 3) := by decide +kernel
theorem e_M_runBranch_90 : decode prog_14_method_95_code 90 = .ok (.lconst 0, 1) := by decide +kernel
theorem e_M_runBranch_91 : decode prog_14_method_95_code 91 = .ok (.lcmp, 1) := by decide +kernel
theorem e_M_runBranch_92 : decode prog_14_method_95_code 92 = .ok (.ifCond .ge 7, 3) := by decide +kernel
theorem e_M_runBranch_95 : decode prog_14_method_95_code 95 = .ok (.iconst 1, 1) := by decide +kernel
theorem e_M_runBranch_96 : decode prog_14_method_95_code 96 = .ok (.goto 4, 3) := by decide +kernel
theorem e_M_runBranch_99 : decode prog_14_method_95_code 99 = .ok (.iconst 0, 1) := by decide +kernel
theorem e_M_runBranch_100 : decode prog_14_method_95_code 100 = .ok (.iload_n 1, 1) := by decide +kernel
theorem e_M_runBranch_101 : decode prog_14_method_95_code 101 = .ok (.sipush 198, 3) := by decide +kernel
theorem e_M_runBranch_104 : decode prog_14_method_95_code 104 = .ok (.if_icmp .ne 7, 3) := by decide +kernel
theorem e_M_runBranch_107 : decode prog_14_method_95_code 107 = .ok (.iconst 1, 1) := by decide +kernel
theorem e_M_runBranch_108 : decode prog_14_method_95_code 108 = .ok (.goto 4, 3) := by decide +kernel
theorem e_M_runBranch_111 : decode prog_14_method_95_code 111 = .ok (.iconst 0, 1) := by decide +kernel
theorem e_M_runBranch_112 : decode prog_14_method_95_code 112 = .ok (.if_icmp .ne 7, 3) := by decide +kernel
theorem e_M_runBranch_115 : decode prog_14_method_95_code 115 = .ok (.iconst 1, 1) := by decide +kernel
theorem e_M_runBranch_116 : decode prog_14_method_95_code 116 = .ok (.goto 4, 3) := by decide +kernel
theorem e_M_runBranch_119 : decode prog_14_method_95_code 119 = .ok (.iconst 0, 1) := by decide +kernel
theorem e_M_runBranch_120 : decode prog_14_method_95_code 120 = .ok (.istore 5, 2) := by decide +kernel
theorem e_M_runBranch_122 : decode prog_14_method_95_code 122 = .ok (.aload_n 0, 1) := by decide +kernel
theorem e_M_runBranch_123 : decode prog_14_method_95_code 123 = .ok (.iload 5, 2) := by decide +kernel
theorem e_M_runBranch_125 : decode prog_14_method_95_code 125 = .ok (.ifCond .eq 12, 3) := by decide +kernel
theorem e_M_runBranch_128 : decode prog_14_method_95_code 128 = .ok (.aload_n 0, 1) := by decide +kernel
theorem e_M_runBranch_129 : decode prog_14_method_95_code 129 = .ok (.iload_n 2, 1) := by decide +kernel
theorem e_M_runBranch_130 : decode prog_14_method_95_code 130 = .ok (.iload_n 3, 1) := by decide +kernel
theorem e_M_runBranch_131 : decode prog_14_method_95_code 131 = .ok (.invokevirtual 243, 3) := by decide +kernel
theorem e_M_runBranch_134 : decode prog_14_method_95_code 134 = .ok (.goto 5, 3) := by decide +kernel
theorem e_M_runBranch_137 : decode prog_14_method_95_code 137 = .ok (.iload 4, 2) := by decide +kernel
theorem e_M_runBranch_139 : decode prog_14_method_95_code 139 = .ok (.invokevirtual 456, 3) := by decide +kernel
theorem e_M_runBranch_142 : decode prog_14_method_95_code 142 = .ok (.return_, 1) := by decide +kernel
def w_M_runBranch_139 (P : MST → Prop) (s0 : Int32) (σ : MST) : Prop := w_M_goTo s0 σ (fun σ1 => P σ1)
def w_M_runBranch_122 (P : MST → Prop) (z2 : Int32) (z3 : Int32) (z4 : Int32) (z5 : Int32) (σ : MST) : Prop := ((z5 = 0 → w_M_runBranch_139 P z4 σ) ∧ (¬ z5 = 0 → w_M_target z2 z3 σ (fun r5 σ4 => w_M_runBranch_139 P r5 σ4)))
def w_M_runBranch_67 (P : MST → Prop) (z2 : Int32) (z3 : Int32) (z4 : Int32) (z6 : Int64) (z8 : Int64) (s0 : Int32) (σ : MST) : Prop := w_M_holds s0 z8 z6 σ (fun r7 σ6 => w_M_runBranch_122 P z2 z3 z4 r7 σ6)
def w_M_runBranch_120 (P : MST → Prop) (z2 : Int32) (z3 : Int32) (z4 : Int32) (s0 : Int32) (σ : MST) : Prop := w_M_runBranch_122 P z2 z3 z4 s0 σ
def w_M_runBranch_112 (P : MST → Prop) (z2 : Int32) (z3 : Int32) (z4 : Int32) (s0 : Int32) (s1 : Int32) (σ : MST) : Prop := ((s1 = s0 → w_M_runBranch_120 P z2 z3 z4 1 σ) ∧ (¬ s1 = s0 → w_M_runBranch_120 P z2 z3 z4 0 σ))
def w_M_runBranch_100 (P : MST → Prop) (z1 : Int32) (z2 : Int32) (z3 : Int32) (z4 : Int32) (s0 : Int32) (σ : MST) : Prop := ((z1 = 198 → w_M_runBranch_112 P z2 z3 z4 1 s0 σ) ∧ (¬ z1 = 198 → w_M_runBranch_112 P z2 z3 z4 0 s0 σ))
def w_M_runBranch (x1 : Int32) (x2 : Int32) (x3 : Int32) (x4 : Int32) (σ : MST) (P : MST → Prop) : Prop := ((159 ≤ x1 → ((167 ≤ x1 → ((x1 ≤ 167 → w_M_runBranch_122 P x2 x3 x4 1 σ) ∧ (¬ x1 ≤ 167 → w_M_take σ (fun r14 σ13 => ((0 ≤ (lg_cmp r14 0) → w_M_runBranch_100 P x1 x2 x3 x4 0 σ13) ∧ (¬ 0 ≤ (lg_cmp r14 0) → w_M_runBranch_100 P x1 x2 x3 x4 1 σ13)))))) ∧ (¬ 167 ≤ x1 → w_M_take σ (fun r17 σ16 => w_M_take σ16 (fun r19 σ18 => ((165 ≤ x1 → w_M_runBranch_67 P x2 x3 x4 r17 r19 (x1 - 165) σ18) ∧ (¬ 165 ≤ x1 → w_M_runBranch_67 P x2 x3 x4 r17 r19 (x1 - 159) σ18))))))) ∧ (¬ 159 ≤ x1 → w_M_take σ (fun r22 σ21 => w_M_holds (x1 - 153) r22 0 σ21 (fun r24 σ23 => w_M_runBranch_122 P x2 x3 x4 r24 σ23))))
set_option maxHeartbeats 4000000 in
set_option maxRecDepth 100000 in
theorem K_M_runBranch (l : Launch) (dC : Nat → ClassId) (dI : Nat → Nat → Nat) (mo : Nat) (rf : Nat → Nat) (ca : Nat → ClassId) (sz : Nat) (σ : MST) (x1 : Int32) (x2 : Int32) (x3 : Int32) (x4 : Int32) {P : MST → Prop} (hw : w_M_runBranch x1 x2 x3 x4 σ P) : Met l z_M_runBranch (mW z_M_runBranch prog_14_method_95_code 10 none) ({ frames := 2, cells := 0, slots := 0, locals := 44 } : Room) (va_Pc [.ref mo, .int x1, .int x2, .int x3, .int x4] (MPre (dC, dI) mo rf ca σ sz)) (va_Qv P (MB (dC, dI) mo rf ca sz) (mA mo rf sz)) 0 0 (mA mo rf sz) := by
  refine M_ofv (by decide) rfl (Nat.le_of_ble_eq_true rfl) ?_
  intro p e s m below meth cx Q A ls C hA hend h hl
  have C0 := C
  obtain ⟨⟨hx, hb, hml, hown, hts⟩, hsub⟩ := C0
  have K_139 : ∀ (u9 : Unit), ∀ (s0 : Int32) (σ : MST) (H : Heap) (locs : List Loc) (ls : Array Slot), w_M_runBranch_139 P s0 σ → MH (dC, dI) A mo rf ca σ s H locs → lv_has ls 10 [] → W p l e ({ frames := 2, cells := 0, slots := 0, locals := 44 } : Room) s m ([.ref mo, .int x1, .int x2, .int x3, .int x4] : List Value).toArray below meth cx H locs 0 0 Q (F0 m 139 ls [.int s0, .ref mo]) := by
    intro u9 s0 σ H locs ls hw h hl
    unfold w_M_runBranch_139 at hw
    refine M_callv (As := [.int s0]) (rest := []) C h hA (K_M_goTo l dC dI mo rf ca H.size σ s0 hw) (cwV 1 hts (gV hsub v_345 v_346 v_347 v_7 v_348) rfl rfl rfl (by decide +kernel) ⟨(Nat.le_of_ble_eq_true rfl), (Nat.le_of_ble_eq_true rfl)⟩) rfl hl.1 (Nat.le_of_ble_eq_true rfl) e_M_runBranch_139 ⟨(Nat.le_of_ble_eq_true rfl), (Nat.le_of_ble_eq_true rfl)⟩ (fun σ1 H locs hw h => ?_)
    refine W.eq (g2 := F0 m 142 ls []) rfl ?_
    exact hend σ1 _ _ _ _ hw h e_M_runBranch_142
  have K_122 : ∀ (u9 : Unit), ∀ (z2 : Int32) (z3 : Int32) (z4 : Int32) (z5 : Int32) (σ : MST) (H : Heap) (locs : List Loc) (ls : Array Slot), w_M_runBranch_122 P z2 z3 z4 z5 σ → MH (dC, dI) A mo rf ca σ s H locs → lv_has ls 10 [(0, .ref mo), (2, .int z2), (3, .int z3), (4, .int z4), (5, .int z5)] → W p l e ({ frames := 2, cells := 0, slots := 0, locals := 44 } : Room) s m ([.ref mo, .int x1, .int x2, .int x3, .int x4] : List Value).toArray below meth cx H locs 0 0 Q (F0 m 122 ls []) := by
    intro u9 z2 z3 z4 z5 σ H locs ls hw h hl
    unfold w_M_runBranch_122 at hw
    refine lv_aload_n hx hb e_M_runBranch_122 rfl (lv_at hl 0 rfl) ?_
    refine lv_iload hx hb e_M_runBranch_123 (lv_at hl 4 rfl) ?_
    refine lv_if_eq (tgt := 137) hx hb e_M_runBranch_125 (by decide) (fun c3 => ?_) (fun c3 => ?_)
    · skip
      replace hw := hw.1 c3
      refine lv_iload hx hb e_M_runBranch_137 (lv_at hl 3 rfl) ?_
      exact K_139 () z4 σ _ _ _ hw h (lv_sub hl [] rfl)
    · skip
      replace hw := hw.2 c3
      refine lv_aload_n hx hb e_M_runBranch_128 rfl (lv_at hl 0 rfl) ?_
      refine lv_iload_n hx hb e_M_runBranch_129 rfl (lv_at hl 1 rfl) ?_
      refine lv_iload_n hx hb e_M_runBranch_130 rfl (lv_at hl 2 rfl) ?_
      refine M_calli (As := [.int z2, .int z3]) (rest := [.ref mo]) C h hA (K_M_target l dC dI mo rf ca H.size σ z2 z3 hw) (cwV 2 hts (gV hsub v_90 v_91 v_92 v_7 v_93) rfl rfl rfl (by decide +kernel) ⟨(Nat.le_of_ble_eq_true rfl), (Nat.le_of_ble_eq_true rfl)⟩) rfl hl.1 (Nat.le_of_ble_eq_true rfl) e_M_runBranch_131 ⟨(Nat.le_of_ble_eq_true rfl), (Nat.le_of_ble_eq_true rfl)⟩ (fun r5 σ4 H locs hw h => ?_)
      refine W.eq (g2 := F0 m 134 ls [.int r5, .ref mo]) rfl ?_
      refine lv_goto (tgt := 139) hx hb e_M_runBranch_134 (by decide) ?_
      exact K_139 () r5 σ4 _ _ _ hw h (lv_sub hl [] rfl)
  have K_67 : ∀ (u9 : Unit), ∀ (z2 : Int32) (z3 : Int32) (z4 : Int32) (z6 : Int64) (z8 : Int64) (s0 : Int32) (σ : MST) (H : Heap) (locs : List Loc) (ls : Array Slot), w_M_runBranch_67 P z2 z3 z4 z6 z8 s0 σ → MH (dC, dI) A mo rf ca σ s H locs → lv_has ls 10 [(0, .ref mo), (2, .int z2), (3, .int z3), (4, .int z4), (6, .long z6), (8, .long z8)] → W p l e ({ frames := 2, cells := 0, slots := 0, locals := 44 } : Room) s m ([.ref mo, .int x1, .int x2, .int x3, .int x4] : List Value).toArray below meth cx H locs 0 0 Q (F0 m 67 ls [.int s0]) := by
    intro u9 z2 z3 z4 z6 z8 s0 σ H locs ls hw h hl
    unfold w_M_runBranch_67 at hw
    refine lv_lload hx hb e_M_runBranch_67 (lv_at hl 5 rfl) ?_
    refine lv_lload hx hb e_M_runBranch_69 (lv_at hl 4 rfl) ?_
    refine M_scalli (As := [.int s0, .long z8, .long z6]) (rest := []) C h hA (K_M_holds l dC dI mo rf ca H.size σ s0 z8 z6 hw) (va_cwS 3 hts (gS hsub v_364 v_365 v_7 v_366) rfl rfl rfl (by decide +kernel) ⟨(Nat.le_of_ble_eq_true rfl), (Nat.le_of_ble_eq_true rfl)⟩) rfl hl.1 (Nat.le_of_ble_eq_true rfl) e_M_runBranch_71 ⟨(Nat.le_of_ble_eq_true rfl), (Nat.le_of_ble_eq_true rfl)⟩ (fun r7 σ6 H locs hw h => ?_)
    refine W.eq (g2 := F0 m 74 ls [.int r7]) rfl ?_
    refine lv_istore (lv' := [(5, .int r7), (0, .ref mo), (2, .int z2), (3, .int z3), (4, .int z4), (6, .long z6), (8, .long z8)]) hx hb e_M_runBranch_74 hl (by decide) rfl (fun ls hl => ?_)
    refine lv_goto (tgt := 122) hx hb e_M_runBranch_76 (by decide) ?_
    exact K_122 () z2 z3 z4 r7 σ6 _ _ _ hw h (lv_sub hl [1, 2, 3, 4, 0] rfl)
  have K_120 : ∀ (u9 : Unit), ∀ (z2 : Int32) (z3 : Int32) (z4 : Int32) (s0 : Int32) (σ : MST) (H : Heap) (locs : List Loc) (ls : Array Slot), w_M_runBranch_120 P z2 z3 z4 s0 σ → MH (dC, dI) A mo rf ca σ s H locs → lv_has ls 10 [(0, .ref mo), (2, .int z2), (3, .int z3), (4, .int z4)] → W p l e ({ frames := 2, cells := 0, slots := 0, locals := 44 } : Room) s m ([.ref mo, .int x1, .int x2, .int x3, .int x4] : List Value).toArray below meth cx H locs 0 0 Q (F0 m 120 ls [.int s0]) := by
    intro u9 z2 z3 z4 s0 σ H locs ls hw h hl
    unfold w_M_runBranch_120 at hw
    refine lv_istore (lv' := [(5, .int s0), (0, .ref mo), (2, .int z2), (3, .int z3), (4, .int z4)]) hx hb e_M_runBranch_120 hl (by decide) rfl (fun ls hl => ?_)
    exact K_122 () z2 z3 z4 s0 σ _ _ _ hw h (lv_sub hl [1, 2, 3, 4, 0] rfl)
  have K_112 : ∀ (u9 : Unit), ∀ (z2 : Int32) (z3 : Int32) (z4 : Int32) (s0 : Int32) (s1 : Int32) (σ : MST) (H : Heap) (locs : List Loc) (ls : Array Slot), w_M_runBranch_112 P z2 z3 z4 s0 s1 σ → MH (dC, dI) A mo rf ca σ s H locs → lv_has ls 10 [(0, .ref mo), (2, .int z2), (3, .int z3), (4, .int z4)] → W p l e ({ frames := 2, cells := 0, slots := 0, locals := 44 } : Room) s m ([.ref mo, .int x1, .int x2, .int x3, .int x4] : List Value).toArray below meth cx H locs 0 0 Q (F0 m 112 ls [.int s0, .int s1]) := by
    intro u9 z2 z3 z4 s0 s1 σ H locs ls hw h hl
    unfold w_M_runBranch_112 at hw
    refine lv_icmp_ne (tgt := 119) hx hb e_M_runBranch_112 (by decide) (fun c8 => ?_) (fun c8 => ?_)
    · skip
      replace hw := hw.2 c8
      refine lv_iconst (v := 0) hx hb e_M_runBranch_119 (by decide) ?_
      exact K_120 () z2 z3 z4 0 σ _ _ _ hw h (lv_sub hl [0, 1, 2, 3] rfl)
    · skip
      replace hw := hw.1 c8
      refine lv_iconst (v := 1) hx hb e_M_runBranch_115 (by decide) ?_
      refine lv_goto (tgt := 120) hx hb e_M_runBranch_116 (by decide) ?_
      exact K_120 () z2 z3 z4 1 σ _ _ _ hw h (lv_sub hl [0, 1, 2, 3] rfl)
  have K_100 : ∀ (u9 : Unit), ∀ (z1 : Int32) (z2 : Int32) (z3 : Int32) (z4 : Int32) (s0 : Int32) (σ : MST) (H : Heap) (locs : List Loc) (ls : Array Slot), w_M_runBranch_100 P z1 z2 z3 z4 s0 σ → MH (dC, dI) A mo rf ca σ s H locs → lv_has ls 10 [(0, .ref mo), (1, .int z1), (2, .int z2), (3, .int z3), (4, .int z4)] → W p l e ({ frames := 2, cells := 0, slots := 0, locals := 44 } : Room) s m ([.ref mo, .int x1, .int x2, .int x3, .int x4] : List Value).toArray below meth cx H locs 0 0 Q (F0 m 100 ls [.int s0]) := by
    intro u9 z1 z2 z3 z4 s0 σ H locs ls hw h hl
    unfold w_M_runBranch_100 at hw
    refine lv_iload_n hx hb e_M_runBranch_100 rfl (lv_at hl 1 rfl) ?_
    refine lv_sipush (v := 198) hx hb e_M_runBranch_101 (by decide) ?_
    refine lv_icmp_ne (tgt := 111) hx hb e_M_runBranch_104 (by decide) (fun c9 => ?_) (fun c9 => ?_)
    · skip
      replace hw := hw.2 c9
      refine lv_iconst (v := 0) hx hb e_M_runBranch_111 (by decide) ?_
      exact K_112 () z2 z3 z4 0 s0 σ _ _ _ hw h (lv_sub hl [0, 2, 3, 4] rfl)
    · skip
      replace hw := hw.1 c9
      refine lv_iconst (v := 1) hx hb e_M_runBranch_107 (by decide) ?_
      refine lv_goto (tgt := 112) hx hb e_M_runBranch_108 (by decide) ?_
      exact K_112 () z2 z3 z4 1 s0 σ _ _ _ hw h (lv_sub hl [0, 2, 3, 4] rfl)
  have hl : lv_has ls 10 [(0, .ref mo), (1, .int x1), (2, .int x2), (3, .int x3), (4, .int x4)] := hl
  unfold w_M_runBranch at hw
  refine lv_iconst (v := 1) hx hb e_M_runBranch_0 (by decide) ?_
  refine lv_istore (lv' := [(5, .int 1), (0, .ref mo), (1, .int x1), (2, .int x2), (3, .int x3), (4, .int x4)]) hx hb e_M_runBranch_1 hl (by decide) rfl (fun ls hl => ?_)
  refine lv_iload_n hx hb e_M_runBranch_3 rfl (lv_at hl 2 rfl) ?_
  refine lv_sipush (v := 159) hx hb e_M_runBranch_4 (by decide) ?_
  refine lv_icmp_ge (tgt := 28) hx hb e_M_runBranch_7 (by decide) (fun c10 => ?_) (fun c10 => ?_)
  · skip
    replace hw := hw.1 c10
    refine lv_iload_n hx hb e_M_runBranch_28 rfl (lv_at hl 2 rfl) ?_
    refine lv_sipush (v := 167) hx hb e_M_runBranch_29 (by decide) ?_
    refine lv_icmp_ge (tgt := 79) hx hb e_M_runBranch_32 (by decide) (fun c11 => ?_) (fun c11 => ?_)
    · skip
      replace hw := hw.1 c11
      refine lv_iload_n hx hb e_M_runBranch_79 rfl (lv_at hl 2 rfl) ?_
      refine lv_sipush (v := 167) hx hb e_M_runBranch_80 (by decide) ?_
      refine lv_icmp_le (tgt := 122) hx hb e_M_runBranch_83 (by decide) (fun c12 => ?_) (fun c12 => ?_)
      · skip
        replace hw := hw.1 c12
        exact K_122 () x2 x3 x4 1 σ _ _ _ hw h (lv_sub hl [1, 3, 4, 5, 0] rfl)
      · skip
        replace hw := hw.2 c12
        refine lv_aload_n hx hb e_M_runBranch_86 rfl (lv_at hl 1 rfl) ?_
        refine M_calll (As := []) (rest := []) C h hA (K_M_take l dC dI mo rf ca s.heap.size σ hw) (cwV 0 hts (gV hsub v_349 v_350 v_351 v_7 v_352) rfl rfl rfl (by decide +kernel) ⟨(Nat.le_of_ble_eq_true rfl), (Nat.le_of_ble_eq_true rfl)⟩) rfl hl.1 (Nat.le_of_ble_eq_true rfl) e_M_runBranch_87 ⟨(Nat.le_of_ble_eq_true rfl), (Nat.le_of_ble_eq_true rfl)⟩ (fun r14 σ13 H locs hw h => ?_)
        refine W.eq (g2 := F0 m 90 ls [.long r14]) rfl ?_
        refine lv_lconst (v := 0) hx hb e_M_runBranch_90 (by decide) ?_
        refine W.lcmp hx hb e_M_runBranch_91 ?_
        refine lv_if_ge (tgt := 99) hx hb e_M_runBranch_92 (by decide) (fun c15 => ?_) (fun c15 => ?_)
        · skip
          replace hw := hw.1 c15
          refine lv_iconst (v := 0) hx hb e_M_runBranch_99 (by decide) ?_
          exact K_100 () x1 x2 x3 x4 0 σ13 _ _ _ hw h (lv_sub hl [1, 2, 3, 4, 5] rfl)
        · skip
          replace hw := hw.2 c15
          refine lv_iconst (v := 1) hx hb e_M_runBranch_95 (by decide) ?_
          refine lv_goto (tgt := 100) hx hb e_M_runBranch_96 (by decide) ?_
          exact K_100 () x1 x2 x3 x4 1 σ13 _ _ _ hw h (lv_sub hl [1, 2, 3, 4, 5] rfl)
    · skip
      replace hw := hw.2 c11
      refine lv_aload_n hx hb e_M_runBranch_35 rfl (lv_at hl 1 rfl) ?_
      refine M_calll (As := []) (rest := []) C h hA (K_M_take l dC dI mo rf ca s.heap.size σ hw) (cwV 0 hts (gV hsub v_349 v_350 v_351 v_7 v_352) rfl rfl rfl (by decide +kernel) ⟨(Nat.le_of_ble_eq_true rfl), (Nat.le_of_ble_eq_true rfl)⟩) rfl hl.1 (Nat.le_of_ble_eq_true rfl) e_M_runBranch_36 ⟨(Nat.le_of_ble_eq_true rfl), (Nat.le_of_ble_eq_true rfl)⟩ (fun r17 σ16 H locs hw h => ?_)
      refine W.eq (g2 := F0 m 39 ls [.long r17]) rfl ?_
      refine lv_lstore (lv' := [(6, .long r17), (5, .int 1), (0, .ref mo), (1, .int x1), (2, .int x2), (3, .int x3), (4, .int x4)]) hx hb e_M_runBranch_39 hl (by decide) rfl (fun ls hl => ?_)
      refine lv_aload_n hx hb e_M_runBranch_41 rfl (lv_at hl 2 rfl) ?_
      refine M_calll (As := []) (rest := []) C h hA (K_M_take l dC dI mo rf ca H.size σ16 hw) (cwV 0 hts (gV hsub v_349 v_350 v_351 v_7 v_352) rfl rfl rfl (by decide +kernel) ⟨(Nat.le_of_ble_eq_true rfl), (Nat.le_of_ble_eq_true rfl)⟩) rfl hl.1 (Nat.le_of_ble_eq_true rfl) e_M_runBranch_42 ⟨(Nat.le_of_ble_eq_true rfl), (Nat.le_of_ble_eq_true rfl)⟩ (fun r19 σ18 H locs hw h => ?_)
      refine W.eq (g2 := F0 m 45 ls [.long r19]) rfl ?_
      refine lv_lstore (lv' := [(8, .long r19), (6, .long r17), (5, .int 1), (0, .ref mo), (1, .int x1), (2, .int x2), (3, .int x3), (4, .int x4)]) hx hb e_M_runBranch_45 hl (by decide) rfl (fun ls hl => ?_)
      refine lv_iload_n hx hb e_M_runBranch_47 rfl (lv_at hl 4 rfl) ?_
      refine lv_sipush (v := 165) hx hb e_M_runBranch_48 (by decide) ?_
      refine lv_icmp_ge (tgt := 62) hx hb e_M_runBranch_51 (by decide) (fun c20 => ?_) (fun c20 => ?_)
      · skip
        replace hw := hw.1 c20
        refine lv_iload_n hx hb e_M_runBranch_62 rfl (lv_at hl 4 rfl) ?_
        refine lv_sipush (v := 165) hx hb e_M_runBranch_63 (by decide) ?_
        refine lv_isub hx hb e_M_runBranch_66 ?_
        exact K_67 () x2 x3 x4 r17 r19 (x1 - 165) σ18 _ _ _ hw h (lv_sub hl [3, 5, 6, 7, 1, 0] rfl)
      · skip
        replace hw := hw.2 c20
        refine lv_iload_n hx hb e_M_runBranch_54 rfl (lv_at hl 4 rfl) ?_
        refine lv_sipush (v := 159) hx hb e_M_runBranch_55 (by decide) ?_
        refine lv_isub hx hb e_M_runBranch_58 ?_
        refine lv_goto (tgt := 67) hx hb e_M_runBranch_59 (by decide) ?_
        exact K_67 () x2 x3 x4 r17 r19 (x1 - 159) σ18 _ _ _ hw h (lv_sub hl [3, 5, 6, 7, 1, 0] rfl)
  · skip
    replace hw := hw.2 c10
    refine lv_iload_n hx hb e_M_runBranch_10 rfl (lv_at hl 2 rfl) ?_
    refine lv_sipush (v := 153) hx hb e_M_runBranch_11 (by decide) ?_
    refine lv_isub hx hb e_M_runBranch_14 ?_
    refine lv_aload_n hx hb e_M_runBranch_15 rfl (lv_at hl 1 rfl) ?_
    refine M_calll (As := []) (rest := [.int (x1 - 153)]) C h hA (K_M_take l dC dI mo rf ca s.heap.size σ hw) (cwV 0 hts (gV hsub v_349 v_350 v_351 v_7 v_352) rfl rfl rfl (by decide +kernel) ⟨(Nat.le_of_ble_eq_true rfl), (Nat.le_of_ble_eq_true rfl)⟩) rfl hl.1 (Nat.le_of_ble_eq_true rfl) e_M_runBranch_16 ⟨(Nat.le_of_ble_eq_true rfl), (Nat.le_of_ble_eq_true rfl)⟩ (fun r22 σ21 H locs hw h => ?_)
    refine W.eq (g2 := F0 m 19 ls [.long r22, .int (x1 - 153)]) rfl ?_
    refine lv_lconst (v := 0) hx hb e_M_runBranch_19 (by decide) ?_
    refine M_scalli (As := [.int (x1 - 153), .long r22, .long 0]) (rest := []) C h hA (K_M_holds l dC dI mo rf ca H.size σ21 (x1 - 153) r22 0 hw) (va_cwS 3 hts (gS hsub v_364 v_365 v_7 v_366) rfl rfl rfl (by decide +kernel) ⟨(Nat.le_of_ble_eq_true rfl), (Nat.le_of_ble_eq_true rfl)⟩) rfl hl.1 (Nat.le_of_ble_eq_true rfl) e_M_runBranch_20 ⟨(Nat.le_of_ble_eq_true rfl), (Nat.le_of_ble_eq_true rfl)⟩ (fun r24 σ23 H locs hw h => ?_)
    refine W.eq (g2 := F0 m 23 ls [.int r24]) rfl ?_
    refine lv_istore (lv' := [(5, .int r24), (0, .ref mo), (1, .int x1), (2, .int x2), (3, .int x3), (4, .int x4)]) hx hb e_M_runBranch_23 hl (by decide) rfl (fun ls hl => ?_)
    refine lv_goto (tgt := 122) hx hb e_M_runBranch_25 (by decide) ?_
    exact K_122 () x2 x3 x4 r24 σ23 _ _ _ hw h (lv_sub hl [1, 3, 4, 5, 0] rfl)
abbrev z_M_runReturn : MethodName := ⟨"MapFramerModel", "runReturn", "(I)V"⟩
theorem v_367 : (Cond.fieldLink "MapFramerModel" 474 "MapFramerModel" "answer" "J" : Cond) ∈ bigW := inB_8 130 (by decide +kernel) rfl
theorem e_M_runReturn_0 : decode prog_14_method_96_code 0 = .ok (.iload_n 1, 1) := by decide +kernel
theorem e_M_runReturn_1 : decode prog_14_method_96_code 1 = .ok (.sipush 177, 3) := by decide +kernel
theorem e_M_runReturn_4 : decode prog_14_method_96_code 4 = .ok (.if_icmp .ne 7, 3) := by decide +kernel
theorem e_M_runReturn_7 : decode prog_14_method_96_code 7 = .ok (.lconst 0, 1) := by decide +kernel
theorem e_M_runReturn_8 : decode prog_14_method_96_code 8 = .ok (.goto 7, 3) := by decide +kernel
theorem e_M_runReturn_11 : decode prog_14_method_96_code 11 = .ok (.aload_n 0, 1) := by decide +kernel
theorem e_M_runReturn_12 : decode prog_14_method_96_code 12 = .ok (.invokevirtual 449, 3) := by decide +kernel
theorem e_M_runReturn_15 : decode prog_14_method_96_code 15 = .ok (.lstore_n 2, 1) := by decide +kernel
theorem e_M_runReturn_16 : decode prog_14_method_96_code 16 = .ok (.aload_n 0, 1) := by decide +kernel
theorem e_M_runReturn_17 : decode prog_14_method_96_code 17 = .ok (.dup, 1) := by decide +kernel
theorem e_M_runReturn_18 : decode prog_14_method_96_code 18 = .ok (.getfield 420, 3) := by decide +kernel
theorem e_M_runReturn_21 : decode prog_14_method_96_code 21 = .ok (.iconst 1, 1) := by decide +kernel
theorem e_M_runReturn_22 : decode prog_14_method_96_code 22 = .ok (.isub, 1) := by decide +kernel
theorem e_M_runReturn_23 : decode prog_14_method_96_code 23 = .ok (.putfield 420, 3) := by decide +kernel
theorem e_M_runReturn_26 : decode prog_14_method_96_code 26 = .ok (.aload_n 0, 1) := by decide +kernel
theorem e_M_runReturn_27 : decode prog_14_method_96_code 27 = .ok (.getfield 420, 3) := by decide +kernel
theorem e_M_runReturn_30 : decode prog_14_method_96_code 30 = .ok (.ifCond .ne 14, 3) := by decide +kernel
theorem e_M_runReturn_33 : decode prog_14_method_96_code 33 = .ok (.aload_n 0, 1) := by decide +kernel
theorem e_M_runReturn_34 : decode prog_14_method_96_code 34 = .ok (.lload_n 2, 1) := by decide +kernel
theorem e_M_runReturn_35 : decode prog_14_method_96_code 35 = .ok (.putfield 474, 3) := by decide +kernel
theorem e_M_runReturn_38 : decode prog_14_method_96_code 38 = .ok (.aload_n 0, 1) := by decide +kernel
theorem e_M_runReturn_39 : decode prog_14_method_96_code 39 = .ok (.iconst 0, 1) := by decide +kernel
theorem e_M_runReturn_40 : decode prog_14_method_96_code 40 = .ok (.invokevirtual 430, 3) := by decide +kernel
theorem e_M_runReturn_43 : decode prog_14_method_96_code 43 = .ok (.return_, 1) := by decide +kernel
theorem e_M_runReturn_44 : decode prog_14_method_96_code 44 = .ok (.iload_n 1, 1) := by decide +kernel
theorem e_M_runReturn_45 : decode prog_14_method_96_code 45 = .ok (.sipush 177, 3) := by decide +kernel
theorem e_M_runReturn_48 : decode prog_14_method_96_code 48 = .ok (.if_icmp .eq 8, 3) := by decide +kernel
theorem e_M_runReturn_51 : decode prog_14_method_96_code 51 = .ok (.aload_n 0, 1) := by decide +kernel
theorem e_M_runReturn_52 : decode prog_14_method_96_code 52 = .ok (.lload_n 2, 1) := by decide +kernel
theorem e_M_runReturn_53 : decode prog_14_method_96_code 53 = .ok (.invokevirtual 439, 3) := by decide +kernel
theorem e_M_runReturn_56 : decode prog_14_method_96_code 56 = .ok (.aload_n 0, 1) := by decide +kernel
theorem e_M_runReturn_57 : decode prog_14_method_96_code 57 = .ok (.aload_n 0, 1) := by decide +kernel
theorem e_M_runReturn_58 : decode prog_14_method_96_code 58 = .ok (.getfield 157, 3) := by decide +kernel
theorem e_M_runReturn_61 : decode prog_14_method_96_code 61 = .ok (.aload_n 0, 1) := by decide +kernel
theorem e_M_runReturn_62 : decode prog_14_method_96_code 62 = .ok (.getfield 420, 3) := by decide +kernel
theorem e_M_runReturn_65 : decode prog_14_method_96_code 65 = .ok (.iconst 1, 1) := by decide +kernel
theorem e_M_runReturn_66 : decode prog_14_method_96_code 66 = .ok (.isub, 1) := by decide +kernel
theorem e_M_runReturn_67 : decode prog_14_method_96_code 67 = .ok (.iaload, 1) := by decide +kernel
theorem e_M_runReturn_68 : decode prog_14_method_96_code 68 = .ok (.iconst 2, 1) := by decide +kernel
theorem e_M_runReturn_69 : decode prog_14_method_96_code 69 = .ok (.iadd, 1) := by decide +kernel
theorem e_M_runReturn_70 : decode prog_14_method_96_code 70 = .ok (.invokevirtual 456, 3) := by decide +kernel
theorem e_M_runReturn_73 : decode prog_14_method_96_code 73 = .ok (.return_, 1) := by decide +kernel
def w_M_runReturn_56 (P : MST → Prop) (σ : MST) : Prop := vp_in ((σ.1 63) - 1) 24 ∧ (∀ a1 : Int32, a1 = (σ.2.1 65 (((σ.1 63) - 1) : Int32).toNatClampNeg) → w_M_goTo (a1 + 2) σ (fun σ2 => P σ2))
def w_M_runReturn_15 (P : MST → Prop) (z1 : Int32) (s0 : Int64) (σ : MST) : Prop := ∀ σ4 : MST, σ4 = setI σ 63 ((σ.1 63) - 1) → (((σ4.1 63) = 0 → ∀ σ9 : MST, σ9 = setJ σ4 s0 → w_M_over (0 : Int32) σ9 (fun σ10 => P σ10)) ∧ (¬ (σ4.1 63) = 0 → ((z1 = 177 → w_M_runReturn_56 P σ4) ∧ (¬ z1 = 177 → w_M_lay s0 σ4 (fun σ7 => w_M_runReturn_56 P σ7)))))
def w_M_runReturn (x1 : Int32) (σ : MST) (P : MST → Prop) : Prop := ((x1 = 177 → w_M_runReturn_15 P x1 0 σ) ∧ (¬ x1 = 177 → w_M_take σ (fun r14 σ13 => w_M_runReturn_15 P x1 r14 σ13)))
set_option maxHeartbeats 4000000 in
set_option maxRecDepth 100000 in
theorem K_M_runReturn (l : Launch) (dC : Nat → ClassId) (dI : Nat → Nat → Nat) (mo : Nat) (rf : Nat → Nat) (ca : Nat → ClassId) (sz : Nat) (σ : MST) (x1 : Int32) {P : MST → Prop} (hw : w_M_runReturn x1 σ P) : Met l z_M_runReturn (mW z_M_runReturn prog_14_method_96_code 4 none) ({ frames := 1, cells := 0, slots := 0, locals := 22 } : Room) (va_Pc [.ref mo, .int x1] (MPre (dC, dI) mo rf ca σ sz)) (va_Qv P (MB (dC, dI) mo rf ca sz) (mA mo rf sz)) 0 0 (mA mo rf sz) := by
  refine M_ofv (by decide) rfl (Nat.le_of_ble_eq_true rfl) ?_
  intro p e s m below meth cx Q A ls C hA hend h hl
  have C0 := C
  obtain ⟨⟨hx, hb, hml, hown, hts⟩, hsub⟩ := C0
  have K_56 : ∀ (u9 : Unit), ∀ (σ : MST) (H : Heap) (locs : List Loc) (ls : Array Slot), w_M_runReturn_56 P σ → MH (dC, dI) A mo rf ca σ s H locs → lv_has ls 4 [(0, .ref mo)] → W p l e ({ frames := 1, cells := 0, slots := 0, locals := 22 } : Room) s m ([.ref mo, .int x1] : List Value).toArray below meth cx H locs 0 0 Q (F0 m 56 ls []) := by
    intro u9  σ H locs ls hw h hl
    unfold w_M_runReturn_56 at hw
    refine lv_aload_n hx hb e_M_runReturn_56 rfl (lv_at hl 0 rfl) ?_
    refine lv_aload_n hx hb e_M_runReturn_57 rfl (lv_at hl 0 rfl) ?_
    refine M_get C h 65 (v := .ref (rf 65)) rfl (by decide) v_330 e_M_runReturn_58 ?_
    refine lv_aload_n hx hb e_M_runReturn_61 rfl (lv_at hl 0 rfl) ?_
    refine M_get C h 63 (v := .int (σ.1 63)) rfl (by decide) v_309 e_M_runReturn_62 ?_
    refine lv_iconst (v := 1) hx hb e_M_runReturn_65 (by decide) ?_
    refine lv_isub hx hb e_M_runReturn_66 ?_
    refine M_ald C h 65 (by decide) rfl hw.1 e_M_runReturn_67 ?_
    replace hw := hw.2
    refine lv_topi (fun a1 e_a1 => ?_)
    replace hw := hw a1 e_a1
    refine lv_iconst (v := 2) hx hb e_M_runReturn_68 (by decide) ?_
    refine lv_iadd hx hb e_M_runReturn_69 ?_
    refine M_callv (As := [.int (a1 + 2)]) (rest := []) C h hA (K_M_goTo l dC dI mo rf ca H.size σ (a1 + 2) hw) (cwV 1 hts (gV hsub v_345 v_346 v_347 v_7 v_348) rfl rfl rfl (by decide +kernel) ⟨(Nat.le_of_ble_eq_true rfl), (Nat.le_of_ble_eq_true rfl)⟩) rfl hl.1 (Nat.le_of_ble_eq_true rfl) e_M_runReturn_70 ⟨(Nat.le_of_ble_eq_true rfl), (Nat.le_of_ble_eq_true rfl)⟩ (fun σ2 H locs hw h => ?_)
    refine W.eq (g2 := F0 m 73 ls []) rfl ?_
    exact hend σ2 _ _ _ _ hw h e_M_runReturn_73
  have K_15 : ∀ (u9 : Unit), ∀ (z1 : Int32) (s0 : Int64) (σ : MST) (H : Heap) (locs : List Loc) (ls : Array Slot), w_M_runReturn_15 P z1 s0 σ → MH (dC, dI) A mo rf ca σ s H locs → lv_has ls 4 [(0, .ref mo), (1, .int z1)] → W p l e ({ frames := 1, cells := 0, slots := 0, locals := 22 } : Room) s m ([.ref mo, .int x1] : List Value).toArray below meth cx H locs 0 0 Q (F0 m 15 ls [.long s0]) := by
    intro u9 z1 s0 σ H locs ls hw h hl
    unfold w_M_runReturn_15 at hw
    refine lv_lstore_n (lv' := [(2, .long s0), (0, .ref mo), (1, .int z1)]) hx hb e_M_runReturn_15 rfl hl (by decide) rfl (fun ls hl => ?_)
    refine lv_aload_n hx hb e_M_runReturn_16 rfl (lv_at hl 1 rfl) ?_
    refine lv_dup hx hb e_M_runReturn_17 rfl ?_
    refine M_get C h 63 (v := .int (σ.1 63)) rfl (by decide) v_309 e_M_runReturn_18 ?_
    refine lv_iconst (v := 1) hx hb e_M_runReturn_21 (by decide) ?_
    refine lv_isub hx hb e_M_runReturn_22 ?_
    refine M_puti C h 63 (by decide) rfl rfl (by decide +kernel) v_309 e_M_runReturn_23 (fun H locs h => ?_)
    obtain ⟨σ4, e_σ4⟩ : ∃ z : MST, z = setI σ 63 ((σ.1 63) - 1) := ⟨_, rfl⟩
    rw [← e_σ4] at h
    replace hw := hw σ4 e_σ4
    refine lv_aload_n hx hb e_M_runReturn_26 rfl (lv_at hl 1 rfl) ?_
    refine M_get C h 63 (v := .int (σ4.1 63)) rfl (by decide) v_309 e_M_runReturn_27 ?_
    refine lv_if_ne (tgt := 44) hx hb e_M_runReturn_30 (by decide) (fun c5 => ?_) (fun c5 => ?_)
    · skip
      replace hw := hw.2 c5
      refine lv_iload_n hx hb e_M_runReturn_44 rfl (lv_at hl 2 rfl) ?_
      refine lv_sipush (v := 177) hx hb e_M_runReturn_45 (by decide) ?_
      refine lv_icmp_eq (tgt := 56) hx hb e_M_runReturn_48 (by decide) (fun c6 => ?_) (fun c6 => ?_)
      · skip
        replace hw := hw.1 c6
        exact K_56 () σ4 _ _ _ hw h (lv_sub hl [1] rfl)
      · skip
        replace hw := hw.2 c6
        refine lv_aload_n hx hb e_M_runReturn_51 rfl (lv_at hl 1 rfl) ?_
        refine lv_lload_n hx hb e_M_runReturn_52 rfl (lv_at hl 0 rfl) ?_
        refine M_callv (As := [.long s0]) (rest := []) C h hA (K_M_lay l dC dI mo rf ca H.size σ4 s0 hw) (cwV 1 hts (gV hsub v_326 v_327 v_328 v_7 v_329) rfl rfl rfl (by decide +kernel) ⟨(Nat.le_of_ble_eq_true rfl), (Nat.le_of_ble_eq_true rfl)⟩) rfl hl.1 (Nat.le_of_ble_eq_true rfl) e_M_runReturn_53 ⟨(Nat.le_of_ble_eq_true rfl), (Nat.le_of_ble_eq_true rfl)⟩ (fun σ7 H locs hw h => ?_)
        refine W.eq (g2 := F0 m 56 ls []) rfl ?_
        exact K_56 () σ7 _ _ _ hw h (lv_sub hl [1] rfl)
    · skip
      replace hw := hw.1 c5
      refine lv_aload_n hx hb e_M_runReturn_33 rfl (lv_at hl 1 rfl) ?_
      refine lv_lload_n hx hb e_M_runReturn_34 rfl (lv_at hl 0 rfl) ?_
      refine M_putj C h rfl (by decide +kernel) v_367 e_M_runReturn_35 (fun H locs h => ?_)
      obtain ⟨σ9, e_σ9⟩ : ∃ z : MST, z = setJ σ4 s0 := ⟨_, rfl⟩
      rw [← e_σ9] at h
      replace hw := hw σ9 e_σ9
      refine lv_aload_n hx hb e_M_runReturn_38 rfl (lv_at hl 1 rfl) ?_
      refine lv_iconst (v := 0) hx hb e_M_runReturn_39 (by decide) ?_
      refine M_callv (As := [.int 0]) (rest := []) C h hA (K_M_over l dC dI mo rf ca H.size σ9 (0 : Int32) hw) (cwV 1 hts (gV hsub v_322 v_323 v_324 v_7 v_325) rfl rfl rfl (by decide +kernel) ⟨(Nat.le_of_ble_eq_true rfl), (Nat.le_of_ble_eq_true rfl)⟩) rfl hl.1 (Nat.le_of_ble_eq_true rfl) e_M_runReturn_40 ⟨(Nat.le_of_ble_eq_true rfl), (Nat.le_of_ble_eq_true rfl)⟩ (fun σ10 H locs hw h => ?_)
      refine W.eq (g2 := F0 m 43 ls []) rfl ?_
      exact hend σ10 _ _ _ _ hw h e_M_runReturn_43
  have hl : lv_has ls 4 [(0, .ref mo), (1, .int x1)] := hl
  unfold w_M_runReturn at hw
  refine lv_iload_n hx hb e_M_runReturn_0 rfl (lv_at hl 1 rfl) ?_
  refine lv_sipush (v := 177) hx hb e_M_runReturn_1 (by decide) ?_
  refine lv_icmp_ne (tgt := 11) hx hb e_M_runReturn_4 (by decide) (fun c12 => ?_) (fun c12 => ?_)
  · skip
    replace hw := hw.2 c12
    refine lv_aload_n hx hb e_M_runReturn_11 rfl (lv_at hl 0 rfl) ?_
    refine M_calll (As := []) (rest := []) C h hA (K_M_take l dC dI mo rf ca s.heap.size σ hw) (cwV 0 hts (gV hsub v_349 v_350 v_351 v_7 v_352) rfl rfl rfl (by decide +kernel) ⟨(Nat.le_of_ble_eq_true rfl), (Nat.le_of_ble_eq_true rfl)⟩) rfl hl.1 (Nat.le_of_ble_eq_true rfl) e_M_runReturn_12 ⟨(Nat.le_of_ble_eq_true rfl), (Nat.le_of_ble_eq_true rfl)⟩ (fun r14 σ13 H locs hw h => ?_)
    refine W.eq (g2 := F0 m 15 ls [.long r14]) rfl ?_
    exact K_15 () x1 r14 σ13 _ _ _ hw h (lv_sub hl [0, 1] rfl)
  · skip
    replace hw := hw.1 c12
    refine lv_lconst (v := 0) hx hb e_M_runReturn_7 (by decide) ?_
    refine lv_goto (tgt := 15) hx hb e_M_runReturn_8 (by decide) ?_
    exact K_15 () x1 0 σ _ _ _ hw h (lv_sub hl [0, 1] rfl)
abbrev z_M_runField : MethodName := ⟨"MapFramerModel", "runField", "(III)V"⟩
theorem v_368 : (Cond.fieldLink "MapFramerModel" 138 "MapFramerModel" "statics" "[J" : Cond) ∈ bigW := inB_8 117 (by decide +kernel) rfl
theorem e_M_runField_0 : decode prog_14_method_97_code 0 = .ok (.iload_n 1, 1) := by decide +kernel
theorem e_M_runField_1 : decode prog_14_method_97_code 1 = .ok (.sipush 179, 3) := by decide +kernel
theorem e_M_runField_4 : decode prog_14_method_97_code 4 = .ok (.if_icmp .eq 10, 3) := by decide +kernel
theorem e_M_runField_7 : decode prog_14_method_97_code 7 = .ok (.iload_n 1, 1) := by decide +kernel
theorem e_M_runField_8 : decode prog_14_method_97_code 8 = .ok (.sipush 181, 3) := by decide +kernel
theorem e_M_runField_11 : decode prog_14_method_97_code 11 = .ok (.if_icmp .ne 10, 3) := by decide +kernel
theorem e_M_runField_14 : decode prog_14_method_97_code 14 = .ok (.aload_n 0, 1) := by decide +kernel
theorem e_M_runField_15 : decode prog_14_method_97_code 15 = .ok (.invokevirtual 449, 3) := by decide +kernel
theorem e_M_runField_18 : decode prog_14_method_97_code 18 = .ok (.goto 4, 3) := by decide +kernel
theorem e_M_runField_21 : decode prog_14_method_97_code 21 = .ok (.lconst 0, 1) := by decide +kernel
theorem e_M_runField_22 : decode prog_14_method_97_code 22 = .ok (.lstore 4, 2) := by decide +kernel
theorem e_M_runField_24 : decode prog_14_method_97_code 24 = .ok (.iload_n 1, 1) := by decide +kernel
theorem e_M_runField_25 : decode prog_14_method_97_code 25 = .ok (.sipush 179, 3) := by decide +kernel
theorem e_M_runField_28 : decode prog_14_method_97_code 28 = .ok (.if_icmp .le 11, 3) := by decide +kernel
theorem e_M_runField_31 : decode prog_14_method_97_code 31 = .ok (.aload_n 0, 1) := by decide +kernel
theorem e_M_runField_32 : decode prog_14_method_97_code 32 = .ok (.invokevirtual 449, 3) := by decide +kernel
theorem e_M_runField_35 : decode prog_14_method_97_code 35 = .ok (.l2i, 1) := by decide +kernel
theorem e_M_runField_36 : decode prog_14_method_97_code 36 = .ok (.goto 4, 3) := by decide +kernel
theorem e_M_runField_39 : decode prog_14_method_97_code 39 = .ok (.iconst 0, 1) := by decide +kernel
theorem e_M_runField_40 : decode prog_14_method_97_code 40 = .ok (.istore 6, 2) := by decide +kernel
theorem e_M_runField_42 : decode prog_14_method_97_code 42 = .ok (.iload 6, 2) := by decide +kernel
theorem e_M_runField_44 : decode prog_14_method_97_code 44 = .ok (.ifCond .ge 8, 3) := by decide +kernel
theorem e_M_runField_47 : decode prog_14_method_97_code 47 = .ok (.aload_n 0, 1) := by decide +kernel
theorem e_M_runField_48 : decode prog_14_method_97_code 48 = .ok (.invokevirtual 453, 3) := by decide +kernel
theorem e_M_runField_51 : decode prog_14_method_97_code 51 = .ok (.return_, 1) := by decide +kernel
theorem e_M_runField_52 : decode prog_14_method_97_code 52 = .ok (.iload_n 1, 1) := by decide +kernel
theorem e_M_runField_53 : decode prog_14_method_97_code 53 = .ok (.sipush 178, 3) := by decide +kernel
theorem e_M_runField_56 : decode prog_14_method_97_code 56 = .ok (.if_icmp .ne 13, 3) := by decide +kernel
theorem e_M_runField_59 : decode prog_14_method_97_code 59 = .ok (.aload_n 0, 1) := by decide +kernel
theorem e_M_runField_60 : decode prog_14_method_97_code 60 = .ok (.aload_n 0, 1) := by decide +kernel
theorem e_M_runField_61 : decode prog_14_method_97_code 61 = .ok (.getfield 138, 3) := by decide +kernel
theorem e_M_runField_64 : decode prog_14_method_97_code 64 = .ok (.iload_n 2, 1) := by decide +kernel
theorem e_M_runField_65 : decode prog_14_method_97_code 65 = .ok (.laload, 1) := by decide +kernel
theorem e_M_runField_66 : decode prog_14_method_97_code 66 = .ok (.invokevirtual 439, 3) := by decide +kernel
theorem e_M_runField_69 : decode prog_14_method_97_code 69 = .ok (.iload_n 1, 1) := by decide +kernel
theorem e_M_runField_70 : decode prog_14_method_97_code 70 = .ok (.sipush 179, 3) := by decide +kernel
theorem e_M_runField_73 : decode prog_14_method_97_code 73 = .ok (.if_icmp .ne 11, 3) := by decide +kernel
theorem e_M_runField_76 : decode prog_14_method_97_code 76 = .ok (.aload_n 0, 1) := by decide +kernel
theorem e_M_runField_77 : decode prog_14_method_97_code 77 = .ok (.getfield 138, 3) := by decide +kernel
theorem e_M_runField_80 : decode prog_14_method_97_code 80 = .ok (.iload_n 2, 1) := by decide +kernel
theorem e_M_runField_81 : decode prog_14_method_97_code 81 = .ok (.lload 4, 2) := by decide +kernel
theorem e_M_runField_83 : decode prog_14_method_97_code 83 = .ok (.lastore, 1) := by decide +kernel
theorem e_M_runField_84 : decode prog_14_method_97_code 84 = .ok (.iload_n 1, 1) := by decide +kernel
theorem e_M_runField_85 : decode prog_14_method_97_code 85 = .ok (.sipush 180, 3) := by decide +kernel
theorem e_M_runField_88 : decode prog_14_method_97_code 88 = .ok (.if_icmp .ne 19, 3) := by decide +kernel
theorem e_M_runField_91 : decode prog_14_method_97_code 91 = .ok (.aload_n 0, 1) := by decide +kernel
theorem e_M_runField_92 : decode prog_14_method_97_code 92 = .ok (.aload_n 0, 1) := by decide +kernel
theorem e_M_runField_93 : decode prog_14_method_97_code 93 = .ok (.getfield 151, 3) := by decide +kernel
theorem e_M_runField_96 : decode prog_14_method_97_code 96 = .ok (.bipush 16, 2) := by decide +kernel
theorem e_M_runField_98 : decode prog_14_method_97_code 98 = .ok (.iload 6, 2) := by decide +kernel
theorem e_M_runField_100 : decode prog_14_method_97_code 100 = .ok (.imul, 1) := by decide +kernel
theorem e_M_runField_101 : decode prog_14_method_97_code 101 = .ok (.iload_n 2, 1) := by decide +kernel
theorem e_M_runField_102 : decode prog_14_method_97_code 102 = .ok (.iadd, 1) := by decide +kernel
theorem e_M_runField_103 : decode prog_14_method_97_code 103 = .ok (.laload, 1) := by decide +kernel
theorem e_M_runField_104 : decode prog_14_method_97_code 104 = .ok (.invokevirtual 439, 3) := by decide +kernel
theorem e_M_runField_107 : decode prog_14_method_97_code 107 = .ok (.iload_n 1, 1) := by decide +kernel
theorem e_M_runField_108 : decode prog_14_method_97_code 108 = .ok (.sipush 181, 3) := by decide +kernel
theorem e_M_runField_111 : decode prog_14_method_97_code 111 = .ok (.if_icmp .ne 17, 3) := by decide +kernel
theorem e_M_runField_114 : decode prog_14_method_97_code 114 = .ok (.aload_n 0, 1) := by decide +kernel
theorem e_M_runField_115 : decode prog_14_method_97_code 115 = .ok (.getfield 151, 3) := by decide +kernel
theorem e_M_runField_118 : decode prog_14_method_97_code 118 = .ok (.bipush 16, 2) := by decide +kernel
theorem e_M_runField_120 : decode prog_14_method_97_code 120 = .ok (.iload 6, 2) := by decide +kernel
theorem e_M_runField_122 : decode prog_14_method_97_code 122 = .ok (.imul, 1) := by decide +kernel
theorem e_M_runField_123 : decode prog_14_method_97_code 123 = .ok (.iload_n 2, 1) := by decide +kernel
theorem e_M_runField_124 : decode prog_14_method_97_code 124 = .ok (.iadd, 1) := by decide +kernel
theorem e_M_runField_125 : decode prog_14_method_97_code 125 = .ok (.lload 4, 2) := by decide +kernel
theorem e_M_runField_127 : decode prog_14_method_97_code 127 = .ok (.lastore, 1) := by decide +kernel
theorem e_M_runField_128 : decode prog_14_method_97_code 128 = .ok (.aload_n 0, 1) := by decide +kernel
theorem e_M_runField_129 : decode prog_14_method_97_code 129 = .ok (.iload_n 3, 1) := by decide +kernel
theorem e_M_runField_130 : decode prog_14_method_97_code 130 = .ok (.invokevirtual 456, 3) := by decide +kernel
theorem e_M_runField_133 : decode prog_14_method_97_code 133 = .ok (.return_, 1) := by decide +kernel
def w_M_runField_128 (P : MST → Prop) (z3 : Int32) (σ : MST) : Prop := w_M_goTo z3 σ (fun σ1 => P σ1)
def w_M_runField_107 (P : MST → Prop) (z1 : Int32) (z2 : Int32) (z3 : Int32) (z4 : Int64) (z6 : Int32) (σ : MST) : Prop := ((z1 = 181 → vp_in (((16 : Int32) * z6) + z2) 2400 ∧ (∀ σ4 : MST, σ4 = setL σ 62 (vp_updL (σ.2.2.1 62) ((((16 : Int32) * z6) + z2) : Int32).toNatClampNeg z4) → w_M_runField_128 P z3 σ4)) ∧ (¬ z1 = 181 → w_M_runField_128 P z3 σ))
def w_M_runField_84 (P : MST → Prop) (z1 : Int32) (z2 : Int32) (z3 : Int32) (z4 : Int64) (z6 : Int32) (σ : MST) : Prop := ((z1 = 180 → vp_in (((16 : Int32) * z6) + z2) 2400 ∧ (∀ a6 : Int64, a6 = (σ.2.2.1 62 ((((16 : Int32) * z6) + z2) : Int32).toNatClampNeg) → w_M_lay a6 σ (fun σ7 => w_M_runField_107 P z1 z2 z3 z4 z6 σ7))) ∧ (¬ z1 = 180 → w_M_runField_107 P z1 z2 z3 z4 z6 σ))
def w_M_runField_69 (P : MST → Prop) (z1 : Int32) (z2 : Int32) (z3 : Int32) (z4 : Int64) (z6 : Int32) (σ : MST) : Prop := ((z1 = 179 → vp_in z2 16 ∧ (∀ σ10 : MST, σ10 = setL σ 57 (vp_updL (σ.2.2.1 57) (z2 : Int32).toNatClampNeg z4) → w_M_runField_84 P z1 z2 z3 z4 z6 σ10)) ∧ (¬ z1 = 179 → w_M_runField_84 P z1 z2 z3 z4 z6 σ))
def w_M_runField_40 (P : MST → Prop) (z1 : Int32) (z2 : Int32) (z3 : Int32) (z4 : Int64) (s0 : Int32) (σ : MST) : Prop := ((0 ≤ s0 → ((z1 = 178 → vp_in z2 16 ∧ (∀ a13 : Int64, a13 = (σ.2.2.1 57 (z2 : Int32).toNatClampNeg) → w_M_lay a13 σ (fun σ14 => w_M_runField_69 P z1 z2 z3 z4 s0 σ14))) ∧ (¬ z1 = 178 → w_M_runField_69 P z1 z2 z3 z4 s0 σ))) ∧ (¬ 0 ≤ s0 → w_M_raiseNew σ (fun σ16 => P σ16)))
def w_M_runField_22 (P : MST → Prop) (z1 : Int32) (z2 : Int32) (z3 : Int32) (s0 : Int64) (σ : MST) : Prop := ((z1 ≤ 179 → w_M_runField_40 P z1 z2 z3 s0 0 σ) ∧ (¬ z1 ≤ 179 → w_M_take σ (fun r20 σ19 => w_M_runField_40 P z1 z2 z3 s0 ((r20 : Int64).toInt32) σ19)))
def w_M_runField_14 (P : MST → Prop) (z1 : Int32) (z2 : Int32) (z3 : Int32) (σ : MST) : Prop := w_M_take σ (fun r22 σ21 => w_M_runField_22 P z1 z2 z3 r22 σ21)
def w_M_runField (x1 : Int32) (x2 : Int32) (x3 : Int32) (σ : MST) (P : MST → Prop) : Prop := ((x1 = 179 → w_M_runField_14 P x1 x2 x3 σ) ∧ (¬ x1 = 179 → ((x1 = 181 → w_M_runField_14 P x1 x2 x3 σ) ∧ (¬ x1 = 181 → w_M_runField_22 P x1 x2 x3 0 σ))))
set_option maxHeartbeats 4000000 in
set_option maxRecDepth 100000 in
theorem K_M_runField (l : Launch) (dC : Nat → ClassId) (dI : Nat → Nat → Nat) (mo : Nat) (rf : Nat → Nat) (ca : Nat → ClassId) (sz : Nat) (σ : MST) (x1 : Int32) (x2 : Int32) (x3 : Int32) {P : MST → Prop} (hw : w_M_runField x1 x2 x3 σ P) : Met l z_M_runField (mW z_M_runField prog_14_method_97_code 7 none) ({ frames := 3, cells := 0, slots := 0, locals := 69 } : Room) (va_Pc [.ref mo, .int x1, .int x2, .int x3] (MPre (dC, dI) mo rf ca σ sz)) (va_Qv P (MB (dC, dI) mo rf ca sz) (mA mo rf sz)) 0 0 (mA mo rf sz) := by
  refine M_ofv (by decide) rfl (Nat.le_of_ble_eq_true rfl) ?_
  intro p e s m below meth cx Q A ls C hA hend h hl
  have C0 := C
  obtain ⟨⟨hx, hb, hml, hown, hts⟩, hsub⟩ := C0
  have K_128 : ∀ (u9 : Unit), ∀ (z3 : Int32) (σ : MST) (H : Heap) (locs : List Loc) (ls : Array Slot), w_M_runField_128 P z3 σ → MH (dC, dI) A mo rf ca σ s H locs → lv_has ls 7 [(0, .ref mo), (3, .int z3)] → W p l e ({ frames := 3, cells := 0, slots := 0, locals := 69 } : Room) s m ([.ref mo, .int x1, .int x2, .int x3] : List Value).toArray below meth cx H locs 0 0 Q (F0 m 128 ls []) := by
    intro u9 z3 σ H locs ls hw h hl
    unfold w_M_runField_128 at hw
    refine lv_aload_n hx hb e_M_runField_128 rfl (lv_at hl 0 rfl) ?_
    refine lv_iload_n hx hb e_M_runField_129 rfl (lv_at hl 1 rfl) ?_
    refine M_callv (As := [.int z3]) (rest := []) C h hA (K_M_goTo l dC dI mo rf ca H.size σ z3 hw) (cwV 1 hts (gV hsub v_345 v_346 v_347 v_7 v_348) rfl rfl rfl (by decide +kernel) ⟨(Nat.le_of_ble_eq_true rfl), (Nat.le_of_ble_eq_true rfl)⟩) rfl hl.1 (Nat.le_of_ble_eq_true rfl) e_M_runField_130 ⟨(Nat.le_of_ble_eq_true rfl), (Nat.le_of_ble_eq_true rfl)⟩ (fun σ1 H locs hw h => ?_)
    refine W.eq (g2 := F0 m 133 ls []) rfl ?_
    exact hend σ1 _ _ _ _ hw h e_M_runField_133
  have K_107 : ∀ (u9 : Unit), ∀ (z1 : Int32) (z2 : Int32) (z3 : Int32) (z4 : Int64) (z6 : Int32) (σ : MST) (H : Heap) (locs : List Loc) (ls : Array Slot), w_M_runField_107 P z1 z2 z3 z4 z6 σ → MH (dC, dI) A mo rf ca σ s H locs → lv_has ls 7 [(0, .ref mo), (1, .int z1), (2, .int z2), (3, .int z3), (4, .long z4), (6, .int z6)] → W p l e ({ frames := 3, cells := 0, slots := 0, locals := 69 } : Room) s m ([.ref mo, .int x1, .int x2, .int x3] : List Value).toArray below meth cx H locs 0 0 Q (F0 m 107 ls []) := by
    intro u9 z1 z2 z3 z4 z6 σ H locs ls hw h hl
    unfold w_M_runField_107 at hw
    refine lv_iload_n hx hb e_M_runField_107 rfl (lv_at hl 1 rfl) ?_
    refine lv_sipush (v := 181) hx hb e_M_runField_108 (by decide) ?_
    refine lv_icmp_ne (tgt := 128) hx hb e_M_runField_111 (by decide) (fun c3 => ?_) (fun c3 => ?_)
    · skip
      replace hw := hw.2 c3
      exact K_128 () z3 σ _ _ _ hw h (lv_sub hl [0, 3] rfl)
    · skip
      replace hw := hw.1 c3
      refine lv_aload_n hx hb e_M_runField_114 rfl (lv_at hl 0 rfl) ?_
      refine M_get C h 62 (v := .ref (rf 62)) rfl (by decide) v_315 e_M_runField_115 ?_
      refine lv_bipush (v := 16) hx hb e_M_runField_118 (by decide) ?_
      refine lv_iload hx hb e_M_runField_120 (lv_at hl 5 rfl) ?_
      refine lv_imul hx hb e_M_runField_122 ?_
      refine lv_iload_n hx hb e_M_runField_123 rfl (lv_at hl 2 rfl) ?_
      refine lv_iadd hx hb e_M_runField_124 ?_
      refine lv_lload hx hb e_M_runField_125 (lv_at hl 4 rfl) ?_
      refine M_last C h 62 (by decide) rfl hw.1 e_M_runField_127 (fun H locs h => ?_)
      replace hw := hw.2
      obtain ⟨σ4, e_σ4⟩ : ∃ z : MST, z = setL σ 62 (vp_updL (σ.2.2.1 62) ((((16 : Int32) * z6) + z2) : Int32).toNatClampNeg z4) := ⟨_, rfl⟩
      rw [← e_σ4] at h
      replace hw := hw σ4 e_σ4
      exact K_128 () z3 σ4 _ _ _ hw h (lv_sub hl [0, 3] rfl)
  have K_84 : ∀ (u9 : Unit), ∀ (z1 : Int32) (z2 : Int32) (z3 : Int32) (z4 : Int64) (z6 : Int32) (σ : MST) (H : Heap) (locs : List Loc) (ls : Array Slot), w_M_runField_84 P z1 z2 z3 z4 z6 σ → MH (dC, dI) A mo rf ca σ s H locs → lv_has ls 7 [(0, .ref mo), (1, .int z1), (2, .int z2), (3, .int z3), (4, .long z4), (6, .int z6)] → W p l e ({ frames := 3, cells := 0, slots := 0, locals := 69 } : Room) s m ([.ref mo, .int x1, .int x2, .int x3] : List Value).toArray below meth cx H locs 0 0 Q (F0 m 84 ls []) := by
    intro u9 z1 z2 z3 z4 z6 σ H locs ls hw h hl
    unfold w_M_runField_84 at hw
    refine lv_iload_n hx hb e_M_runField_84 rfl (lv_at hl 1 rfl) ?_
    refine lv_sipush (v := 180) hx hb e_M_runField_85 (by decide) ?_
    refine lv_icmp_ne (tgt := 107) hx hb e_M_runField_88 (by decide) (fun c5 => ?_) (fun c5 => ?_)
    · skip
      replace hw := hw.2 c5
      exact K_107 () z1 z2 z3 z4 z6 σ _ _ _ hw h (lv_sub hl [0, 1, 2, 3, 4, 5] rfl)
    · skip
      replace hw := hw.1 c5
      refine lv_aload_n hx hb e_M_runField_91 rfl (lv_at hl 0 rfl) ?_
      refine lv_aload_n hx hb e_M_runField_92 rfl (lv_at hl 0 rfl) ?_
      refine M_get C h 62 (v := .ref (rf 62)) rfl (by decide) v_315 e_M_runField_93 ?_
      refine lv_bipush (v := 16) hx hb e_M_runField_96 (by decide) ?_
      refine lv_iload hx hb e_M_runField_98 (lv_at hl 5 rfl) ?_
      refine lv_imul hx hb e_M_runField_100 ?_
      refine lv_iload_n hx hb e_M_runField_101 rfl (lv_at hl 2 rfl) ?_
      refine lv_iadd hx hb e_M_runField_102 ?_
      refine M_lald C h 62 (by decide) rfl hw.1 e_M_runField_103 ?_
      replace hw := hw.2
      refine lv_topl (fun a6 e_a6 => ?_)
      replace hw := hw a6 e_a6
      refine M_callv (As := [.long a6]) (rest := []) C h hA (K_M_lay l dC dI mo rf ca H.size σ a6 hw) (cwV 1 hts (gV hsub v_326 v_327 v_328 v_7 v_329) rfl rfl rfl (by decide +kernel) ⟨(Nat.le_of_ble_eq_true rfl), (Nat.le_of_ble_eq_true rfl)⟩) rfl hl.1 (Nat.le_of_ble_eq_true rfl) e_M_runField_104 ⟨(Nat.le_of_ble_eq_true rfl), (Nat.le_of_ble_eq_true rfl)⟩ (fun σ7 H locs hw h => ?_)
      refine W.eq (g2 := F0 m 107 ls []) rfl ?_
      exact K_107 () z1 z2 z3 z4 z6 σ7 _ _ _ hw h (lv_sub hl [0, 1, 2, 3, 4, 5] rfl)
  have K_69 : ∀ (u9 : Unit), ∀ (z1 : Int32) (z2 : Int32) (z3 : Int32) (z4 : Int64) (z6 : Int32) (σ : MST) (H : Heap) (locs : List Loc) (ls : Array Slot), w_M_runField_69 P z1 z2 z3 z4 z6 σ → MH (dC, dI) A mo rf ca σ s H locs → lv_has ls 7 [(0, .ref mo), (1, .int z1), (2, .int z2), (3, .int z3), (4, .long z4), (6, .int z6)] → W p l e ({ frames := 3, cells := 0, slots := 0, locals := 69 } : Room) s m ([.ref mo, .int x1, .int x2, .int x3] : List Value).toArray below meth cx H locs 0 0 Q (F0 m 69 ls []) := by
    intro u9 z1 z2 z3 z4 z6 σ H locs ls hw h hl
    unfold w_M_runField_69 at hw
    refine lv_iload_n hx hb e_M_runField_69 rfl (lv_at hl 1 rfl) ?_
    refine lv_sipush (v := 179) hx hb e_M_runField_70 (by decide) ?_
    refine lv_icmp_ne (tgt := 84) hx hb e_M_runField_73 (by decide) (fun c9 => ?_) (fun c9 => ?_)
    · skip
      replace hw := hw.2 c9
      exact K_84 () z1 z2 z3 z4 z6 σ _ _ _ hw h (lv_sub hl [0, 1, 2, 3, 4, 5] rfl)
    · skip
      replace hw := hw.1 c9
      refine lv_aload_n hx hb e_M_runField_76 rfl (lv_at hl 0 rfl) ?_
      refine M_get C h 57 (v := .ref (rf 57)) rfl (by decide) v_368 e_M_runField_77 ?_
      refine lv_iload_n hx hb e_M_runField_80 rfl (lv_at hl 2 rfl) ?_
      refine lv_lload hx hb e_M_runField_81 (lv_at hl 4 rfl) ?_
      refine M_last C h 57 (by decide) rfl hw.1 e_M_runField_83 (fun H locs h => ?_)
      replace hw := hw.2
      obtain ⟨σ10, e_σ10⟩ : ∃ z : MST, z = setL σ 57 (vp_updL (σ.2.2.1 57) (z2 : Int32).toNatClampNeg z4) := ⟨_, rfl⟩
      rw [← e_σ10] at h
      replace hw := hw σ10 e_σ10
      exact K_84 () z1 z2 z3 z4 z6 σ10 _ _ _ hw h (lv_sub hl [0, 1, 2, 3, 4, 5] rfl)
  have K_40 : ∀ (u9 : Unit), ∀ (z1 : Int32) (z2 : Int32) (z3 : Int32) (z4 : Int64) (s0 : Int32) (σ : MST) (H : Heap) (locs : List Loc) (ls : Array Slot), w_M_runField_40 P z1 z2 z3 z4 s0 σ → MH (dC, dI) A mo rf ca σ s H locs → lv_has ls 7 [(0, .ref mo), (1, .int z1), (2, .int z2), (3, .int z3), (4, .long z4)] → W p l e ({ frames := 3, cells := 0, slots := 0, locals := 69 } : Room) s m ([.ref mo, .int x1, .int x2, .int x3] : List Value).toArray below meth cx H locs 0 0 Q (F0 m 40 ls [.int s0]) := by
    intro u9 z1 z2 z3 z4 s0 σ H locs ls hw h hl
    unfold w_M_runField_40 at hw
    refine lv_istore (lv' := [(6, .int s0), (0, .ref mo), (1, .int z1), (2, .int z2), (3, .int z3), (4, .long z4)]) hx hb e_M_runField_40 hl (by decide) rfl (fun ls hl => ?_)
    refine lv_iload hx hb e_M_runField_42 (lv_at hl 0 rfl) ?_
    refine lv_if_ge (tgt := 52) hx hb e_M_runField_44 (by decide) (fun c11 => ?_) (fun c11 => ?_)
    · skip
      replace hw := hw.1 c11
      refine lv_iload_n hx hb e_M_runField_52 rfl (lv_at hl 2 rfl) ?_
      refine lv_sipush (v := 178) hx hb e_M_runField_53 (by decide) ?_
      refine lv_icmp_ne (tgt := 69) hx hb e_M_runField_56 (by decide) (fun c12 => ?_) (fun c12 => ?_)
      · skip
        replace hw := hw.2 c12
        exact K_69 () z1 z2 z3 z4 s0 σ _ _ _ hw h (lv_sub hl [1, 2, 3, 4, 5, 0] rfl)
      · skip
        replace hw := hw.1 c12
        refine lv_aload_n hx hb e_M_runField_59 rfl (lv_at hl 1 rfl) ?_
        refine lv_aload_n hx hb e_M_runField_60 rfl (lv_at hl 1 rfl) ?_
        refine M_get C h 57 (v := .ref (rf 57)) rfl (by decide) v_368 e_M_runField_61 ?_
        refine lv_iload_n hx hb e_M_runField_64 rfl (lv_at hl 3 rfl) ?_
        refine M_lald C h 57 (by decide) rfl hw.1 e_M_runField_65 ?_
        replace hw := hw.2
        refine lv_topl (fun a13 e_a13 => ?_)
        replace hw := hw a13 e_a13
        refine M_callv (As := [.long a13]) (rest := []) C h hA (K_M_lay l dC dI mo rf ca H.size σ a13 hw) (cwV 1 hts (gV hsub v_326 v_327 v_328 v_7 v_329) rfl rfl rfl (by decide +kernel) ⟨(Nat.le_of_ble_eq_true rfl), (Nat.le_of_ble_eq_true rfl)⟩) rfl hl.1 (Nat.le_of_ble_eq_true rfl) e_M_runField_66 ⟨(Nat.le_of_ble_eq_true rfl), (Nat.le_of_ble_eq_true rfl)⟩ (fun σ14 H locs hw h => ?_)
        refine W.eq (g2 := F0 m 69 ls []) rfl ?_
        exact K_69 () z1 z2 z3 z4 s0 σ14 _ _ _ hw h (lv_sub hl [1, 2, 3, 4, 5, 0] rfl)
    · skip
      replace hw := hw.2 c11
      refine lv_aload_n hx hb e_M_runField_47 rfl (lv_at hl 1 rfl) ?_
      refine M_callv (As := []) (rest := []) C h hA (K_M_raiseNew l dC dI mo rf ca H.size σ hw) (cwV 0 hts (gV hsub v_341 v_342 v_343 v_7 v_344) rfl rfl rfl (by decide +kernel) ⟨(Nat.le_of_ble_eq_true rfl), (Nat.le_of_ble_eq_true rfl)⟩) rfl hl.1 (Nat.le_of_ble_eq_true rfl) e_M_runField_48 ⟨(Nat.le_of_ble_eq_true rfl), (Nat.le_of_ble_eq_true rfl)⟩ (fun σ16 H locs hw h => ?_)
      refine W.eq (g2 := F0 m 51 ls []) rfl ?_
      exact hend σ16 _ _ _ _ hw h e_M_runField_51
  have K_22 : ∀ (u9 : Unit), ∀ (z1 : Int32) (z2 : Int32) (z3 : Int32) (s0 : Int64) (σ : MST) (H : Heap) (locs : List Loc) (ls : Array Slot), w_M_runField_22 P z1 z2 z3 s0 σ → MH (dC, dI) A mo rf ca σ s H locs → lv_has ls 7 [(0, .ref mo), (1, .int z1), (2, .int z2), (3, .int z3)] → W p l e ({ frames := 3, cells := 0, slots := 0, locals := 69 } : Room) s m ([.ref mo, .int x1, .int x2, .int x3] : List Value).toArray below meth cx H locs 0 0 Q (F0 m 22 ls [.long s0]) := by
    intro u9 z1 z2 z3 s0 σ H locs ls hw h hl
    unfold w_M_runField_22 at hw
    refine lv_lstore (lv' := [(4, .long s0), (0, .ref mo), (1, .int z1), (2, .int z2), (3, .int z3)]) hx hb e_M_runField_22 hl (by decide) rfl (fun ls hl => ?_)
    refine lv_iload_n hx hb e_M_runField_24 rfl (lv_at hl 2 rfl) ?_
    refine lv_sipush (v := 179) hx hb e_M_runField_25 (by decide) ?_
    refine lv_icmp_le (tgt := 39) hx hb e_M_runField_28 (by decide) (fun c18 => ?_) (fun c18 => ?_)
    · skip
      replace hw := hw.1 c18
      refine lv_iconst (v := 0) hx hb e_M_runField_39 (by decide) ?_
      exact K_40 () z1 z2 z3 s0 0 σ _ _ _ hw h (lv_sub hl [1, 2, 3, 4, 0] rfl)
    · skip
      replace hw := hw.2 c18
      refine lv_aload_n hx hb e_M_runField_31 rfl (lv_at hl 1 rfl) ?_
      refine M_calll (As := []) (rest := []) C h hA (K_M_take l dC dI mo rf ca H.size σ hw) (cwV 0 hts (gV hsub v_349 v_350 v_351 v_7 v_352) rfl rfl rfl (by decide +kernel) ⟨(Nat.le_of_ble_eq_true rfl), (Nat.le_of_ble_eq_true rfl)⟩) rfl hl.1 (Nat.le_of_ble_eq_true rfl) e_M_runField_32 ⟨(Nat.le_of_ble_eq_true rfl), (Nat.le_of_ble_eq_true rfl)⟩ (fun r20 σ19 H locs hw h => ?_)
      refine W.eq (g2 := F0 m 35 ls [.long r20]) rfl ?_
      refine lv_l2i (v := (r20 : Int64).toInt32) hx hb e_M_runField_35 rfl ?_
      refine lv_goto (tgt := 40) hx hb e_M_runField_36 (by decide) ?_
      exact K_40 () z1 z2 z3 s0 ((r20 : Int64).toInt32) σ19 _ _ _ hw h (lv_sub hl [1, 2, 3, 4, 0] rfl)
  have K_14 : ∀ (u9 : Unit), ∀ (z1 : Int32) (z2 : Int32) (z3 : Int32) (σ : MST) (H : Heap) (locs : List Loc) (ls : Array Slot), w_M_runField_14 P z1 z2 z3 σ → MH (dC, dI) A mo rf ca σ s H locs → lv_has ls 7 [(0, .ref mo), (1, .int z1), (2, .int z2), (3, .int z3)] → W p l e ({ frames := 3, cells := 0, slots := 0, locals := 69 } : Room) s m ([.ref mo, .int x1, .int x2, .int x3] : List Value).toArray below meth cx H locs 0 0 Q (F0 m 14 ls []) := by
    intro u9 z1 z2 z3 σ H locs ls hw h hl
    unfold w_M_runField_14 at hw
    refine lv_aload_n hx hb e_M_runField_14 rfl (lv_at hl 0 rfl) ?_
    refine M_calll (As := []) (rest := []) C h hA (K_M_take l dC dI mo rf ca H.size σ hw) (cwV 0 hts (gV hsub v_349 v_350 v_351 v_7 v_352) rfl rfl rfl (by decide +kernel) ⟨(Nat.le_of_ble_eq_true rfl), (Nat.le_of_ble_eq_true rfl)⟩) rfl hl.1 (Nat.le_of_ble_eq_true rfl) e_M_runField_15 ⟨(Nat.le_of_ble_eq_true rfl), (Nat.le_of_ble_eq_true rfl)⟩ (fun r22 σ21 H locs hw h => ?_)
    refine W.eq (g2 := F0 m 18 ls [.long r22]) rfl ?_
    refine lv_goto (tgt := 22) hx hb e_M_runField_18 (by decide) ?_
    exact K_22 () z1 z2 z3 r22 σ21 _ _ _ hw h (lv_sub hl [0, 1, 2, 3] rfl)
  have hl : lv_has ls 7 [(0, .ref mo), (1, .int x1), (2, .int x2), (3, .int x3)] := hl
  unfold w_M_runField at hw
  refine lv_iload_n hx hb e_M_runField_0 rfl (lv_at hl 1 rfl) ?_
  refine lv_sipush (v := 179) hx hb e_M_runField_1 (by decide) ?_
  refine lv_icmp_eq (tgt := 14) hx hb e_M_runField_4 (by decide) (fun c23 => ?_) (fun c23 => ?_)
  · skip
    replace hw := hw.1 c23
    exact K_14 () x1 x2 x3 σ _ _ _ hw h (lv_sub hl [0, 1, 2, 3] rfl)
  · skip
    replace hw := hw.2 c23
    refine lv_iload_n hx hb e_M_runField_7 rfl (lv_at hl 1 rfl) ?_
    refine lv_sipush (v := 181) hx hb e_M_runField_8 (by decide) ?_
    refine lv_icmp_ne (tgt := 21) hx hb e_M_runField_11 (by decide) (fun c24 => ?_) (fun c24 => ?_)
    · skip
      replace hw := hw.2 c24
      refine lv_lconst (v := 0) hx hb e_M_runField_21 (by decide) ?_
      exact K_22 () x1 x2 x3 0 σ _ _ _ hw h (lv_sub hl [0, 1, 2, 3] rfl)
    · skip
      replace hw := hw.1 c24
      exact K_14 () x1 x2 x3 σ _ _ _ hw h (lv_sub hl [0, 1, 2, 3] rfl)
abbrev z_M_enter : MethodName := ⟨"MapFramerModel", "enter", "(I)V"⟩
theorem e_M_enter_0 : decode prog_14_method_98_code 0 = .ok (.aload_n 0, 1) := by decide +kernel
theorem e_M_enter_1 : decode prog_14_method_98_code 1 = .ok (.getfield 154, 3) := by decide +kernel
theorem e_M_enter_4 : decode prog_14_method_98_code 4 = .ok (.aload_n 0, 1) := by decide +kernel
theorem e_M_enter_5 : decode prog_14_method_98_code 5 = .ok (.getfield 420, 3) := by decide +kernel
theorem e_M_enter_8 : decode prog_14_method_98_code 8 = .ok (.iload_n 1, 1) := by decide +kernel
theorem e_M_enter_9 : decode prog_14_method_98_code 9 = .ok (.iastore, 1) := by decide +kernel
theorem e_M_enter_10 : decode prog_14_method_98_code 10 = .ok (.aload_n 0, 1) := by decide +kernel
theorem e_M_enter_11 : decode prog_14_method_98_code 11 = .ok (.getfield 157, 3) := by decide +kernel
theorem e_M_enter_14 : decode prog_14_method_98_code 14 = .ok (.aload_n 0, 1) := by decide +kernel
theorem e_M_enter_15 : decode prog_14_method_98_code 15 = .ok (.getfield 420, 3) := by decide +kernel
theorem e_M_enter_18 : decode prog_14_method_98_code 18 = .ok (.iconst 0, 1) := by decide +kernel
theorem e_M_enter_19 : decode prog_14_method_98_code 19 = .ok (.iastore, 1) := by decide +kernel
theorem e_M_enter_20 : decode prog_14_method_98_code 20 = .ok (.aload_n 0, 1) := by decide +kernel
theorem e_M_enter_21 : decode prog_14_method_98_code 21 = .ok (.getfield 160, 3) := by decide +kernel
theorem e_M_enter_24 : decode prog_14_method_98_code 24 = .ok (.aload_n 0, 1) := by decide +kernel
theorem e_M_enter_25 : decode prog_14_method_98_code 25 = .ok (.getfield 420, 3) := by decide +kernel
theorem e_M_enter_28 : decode prog_14_method_98_code 28 = .ok (.iconst 0, 1) := by decide +kernel
theorem e_M_enter_29 : decode prog_14_method_98_code 29 = .ok (.iastore, 1) := by decide +kernel
theorem e_M_enter_30 : decode prog_14_method_98_code 30 = .ok (.aload_n 0, 1) := by decide +kernel
theorem e_M_enter_31 : decode prog_14_method_98_code 31 = .ok (.dup, 1) := by decide +kernel
theorem e_M_enter_32 : decode prog_14_method_98_code 32 = .ok (.getfield 420, 3) := by decide +kernel
theorem e_M_enter_35 : decode prog_14_method_98_code 35 = .ok (.iconst 1, 1) := by decide +kernel
theorem e_M_enter_36 : decode prog_14_method_98_code 36 = .ok (.iadd, 1) := by decide +kernel
theorem e_M_enter_37 : decode prog_14_method_98_code 37 = .ok (.putfield 420, 3) := by decide +kernel
theorem e_M_enter_40 : decode prog_14_method_98_code 40 = .ok (.iconst 0, 1) := by decide +kernel
theorem e_M_enter_41 : decode prog_14_method_98_code 41 = .ok (.istore_n 2, 1) := by decide +kernel
theorem e_M_enter_42 : decode prog_14_method_98_code 42 = .ok (.iload_n 2, 1) := by decide +kernel
theorem e_M_enter_43 : decode prog_14_method_98_code 43 = .ok (.bipush 13, 2) := by decide +kernel
theorem e_M_enter_45 : decode prog_14_method_98_code 45 = .ok (.if_icmp .ge 15, 3) := by decide +kernel
theorem e_M_enter_48 : decode prog_14_method_98_code 48 = .ok (.aload_n 0, 1) := by decide +kernel
theorem e_M_enter_49 : decode prog_14_method_98_code 49 = .ok (.iload_n 2, 1) := by decide +kernel
theorem e_M_enter_50 : decode prog_14_method_98_code 50 = .ok (.lconst 0, 1) := by decide +kernel
theorem e_M_enter_51 : decode prog_14_method_98_code 51 = .ok (.invokevirtual 466, 3) := by decide +kernel
theorem e_M_enter_54 : decode prog_14_method_98_code 54 = .ok (.iinc 2 1, 3) := by decide +kernel
theorem e_M_enter_57 : decode prog_14_method_98_code 57 = .ok (.goto (-15), 3) := by decide +kernel
theorem e_M_enter_60 : decode prog_14_method_98_code 60 = .ok (.return_, 1) := by decide +kernel
def w_M_enter_42 (P : MST → Prop) : Nat → Int32 → MST → Prop
  | 0, _, _ => False
  | n + 1, z2, σ => ((13 ≤ z2 → P σ) ∧ (¬ 13 ≤ z2 → w_M_setLocal z2 0 σ (fun σ2 => w_M_enter_42 P n (z2 + 1) σ2)))
def w_M_enter (x1 : Int32) (σ : MST) (P : MST → Prop) : Prop := vp_in (σ.1 63) 24 ∧ (∀ σ4 : MST, σ4 = setA σ 64 (upd (σ.2.1 64) ((σ.1 63) : Int32).toNatClampNeg x1) → vp_in (σ4.1 63) 24 ∧ (∀ σ5 : MST, σ5 = setA σ4 65 (upd (σ4.2.1 65) ((σ4.1 63) : Int32).toNatClampNeg 0) → vp_in (σ5.1 63) 24 ∧ (∀ σ6 : MST, σ6 = setA σ5 66 (upd (σ5.2.1 66) ((σ5.1 63) : Int32).toNatClampNeg 0) → ∀ σ7 : MST, σ7 = setI σ6 63 ((σ6.1 63) + 1) → (∃ n9 : Nat, w_M_enter_42 P n9 0 σ7))))
set_option maxHeartbeats 4000000 in
set_option maxRecDepth 100000 in
theorem K_M_enter (l : Launch) (dC : Nat → ClassId) (dI : Nat → Nat → Nat) (mo : Nat) (rf : Nat → Nat) (ca : Nat → ClassId) (sz : Nat) (σ : MST) (x1 : Int32) {P : MST → Prop} (hw : w_M_enter x1 σ P) : Met l z_M_enter (mW z_M_enter prog_14_method_98_code 3 none) ({ frames := 1, cells := 0, slots := 0, locals := 23 } : Room) (va_Pc [.ref mo, .int x1] (MPre (dC, dI) mo rf ca σ sz)) (va_Qv P (MB (dC, dI) mo rf ca sz) (mA mo rf sz)) 0 0 (mA mo rf sz) := by
  refine M_ofv (by decide) rfl (Nat.le_of_ble_eq_true rfl) ?_
  intro p e s m below meth cx Q A ls C hA hend h hl
  have C0 := C
  obtain ⟨⟨hx, hb, hml, hown, hts⟩, hsub⟩ := C0
  have K_42 : ∀ (n : Nat), ∀ (z2 : Int32) (σ : MST) (H : Heap) (locs : List Loc) (ls : Array Slot), w_M_enter_42 P n z2 σ → MH (dC, dI) A mo rf ca σ s H locs → lv_has ls 3 [(0, .ref mo), (2, .int z2)] → W p l e ({ frames := 1, cells := 0, slots := 0, locals := 23 } : Room) s m ([.ref mo, .int x1] : List Value).toArray below meth cx H locs 0 0 Q (F0 m 42 ls []) := by
    intro  n
    induction n with
    | zero => intro z2 σ H locs ls hw h hl; unfold w_M_enter_42 at hw; exact hw.elim
    | succ n ih =>
      intro z2 σ H locs ls hw h hl
      unfold w_M_enter_42 at hw
      refine lv_iload_n hx hb e_M_enter_42 rfl (lv_at hl 1 rfl) ?_
      refine lv_bipush (v := 13) hx hb e_M_enter_43 (by decide) ?_
      refine lv_icmp_ge (tgt := 60) hx hb e_M_enter_45 (by decide) (fun c1 => ?_) (fun c1 => ?_)
      · skip
        replace hw := hw.1 c1
        exact hend σ _ _ _ _ hw h e_M_enter_60
      · skip
        replace hw := hw.2 c1
        refine lv_aload_n hx hb e_M_enter_48 rfl (lv_at hl 0 rfl) ?_
        refine lv_iload_n hx hb e_M_enter_49 rfl (lv_at hl 1 rfl) ?_
        refine lv_lconst (v := 0) hx hb e_M_enter_50 (by decide) ?_
        refine M_callv (As := [.int z2, .long 0]) (rest := []) C h hA (K_M_setLocal l dC dI mo rf ca H.size σ z2 0 hw) (cwV 2 hts (gV hsub v_360 v_361 v_362 v_7 v_363) rfl rfl rfl (by decide +kernel) ⟨(Nat.le_of_ble_eq_true rfl), (Nat.le_of_ble_eq_true rfl)⟩) rfl hl.1 (Nat.le_of_ble_eq_true rfl) e_M_enter_51 ⟨(Nat.le_of_ble_eq_true rfl), (Nat.le_of_ble_eq_true rfl)⟩ (fun σ2 H locs hw h => ?_)
        refine W.eq (g2 := F0 m 54 ls []) rfl ?_
        refine lv_iinc (v := (z2 + 1)) (lv' := [(2, .int (z2 + 1)), (0, .ref mo)]) hx hb e_M_enter_54 hl (k := 1) rfl (rfl) (by decide) rfl (fun ls hl => ?_)
        refine lv_goto (tgt := 42) hx hb e_M_enter_57 (by decide) ?_
        exact ih (z2 + 1) σ2 _ _ _ hw h (lv_sub hl [1, 0] rfl)
  have hl : lv_has ls 3 [(0, .ref mo), (1, .int x1)] := hl
  unfold w_M_enter at hw
  refine lv_aload_n hx hb e_M_enter_0 rfl (lv_at hl 0 rfl) ?_
  refine M_get C h 64 (v := .ref (rf 64)) rfl (by decide) v_331 e_M_enter_1 ?_
  refine lv_aload_n hx hb e_M_enter_4 rfl (lv_at hl 0 rfl) ?_
  refine M_get C h 63 (v := .int (σ.1 63)) rfl (by decide) v_309 e_M_enter_5 ?_
  refine lv_iload_n hx hb e_M_enter_8 rfl (lv_at hl 1 rfl) ?_
  refine M_ast C h 64 (by decide) rfl hw.1 e_M_enter_9 (fun H locs h => ?_)
  replace hw := hw.2
  obtain ⟨σ4, e_σ4⟩ : ∃ z : MST, z = setA σ 64 (upd (σ.2.1 64) ((σ.1 63) : Int32).toNatClampNeg x1) := ⟨_, rfl⟩
  rw [← e_σ4] at h
  replace hw := hw σ4 e_σ4
  refine lv_aload_n hx hb e_M_enter_10 rfl (lv_at hl 0 rfl) ?_
  refine M_get C h 65 (v := .ref (rf 65)) rfl (by decide) v_330 e_M_enter_11 ?_
  refine lv_aload_n hx hb e_M_enter_14 rfl (lv_at hl 0 rfl) ?_
  refine M_get C h 63 (v := .int (σ4.1 63)) rfl (by decide) v_309 e_M_enter_15 ?_
  refine lv_iconst (v := 0) hx hb e_M_enter_18 (by decide) ?_
  refine M_ast C h 65 (by decide) rfl hw.1 e_M_enter_19 (fun H locs h => ?_)
  replace hw := hw.2
  obtain ⟨σ5, e_σ5⟩ : ∃ z : MST, z = setA σ4 65 (upd (σ4.2.1 65) ((σ4.1 63) : Int32).toNatClampNeg 0) := ⟨_, rfl⟩
  rw [← e_σ5] at h
  replace hw := hw σ5 e_σ5
  refine lv_aload_n hx hb e_M_enter_20 rfl (lv_at hl 0 rfl) ?_
  refine M_get C h 66 (v := .ref (rf 66)) rfl (by decide) v_308 e_M_enter_21 ?_
  refine lv_aload_n hx hb e_M_enter_24 rfl (lv_at hl 0 rfl) ?_
  refine M_get C h 63 (v := .int (σ5.1 63)) rfl (by decide) v_309 e_M_enter_25 ?_
  refine lv_iconst (v := 0) hx hb e_M_enter_28 (by decide) ?_
  refine M_ast C h 66 (by decide) rfl hw.1 e_M_enter_29 (fun H locs h => ?_)
  replace hw := hw.2
  obtain ⟨σ6, e_σ6⟩ : ∃ z : MST, z = setA σ5 66 (upd (σ5.2.1 66) ((σ5.1 63) : Int32).toNatClampNeg 0) := ⟨_, rfl⟩
  rw [← e_σ6] at h
  replace hw := hw σ6 e_σ6
  refine lv_aload_n hx hb e_M_enter_30 rfl (lv_at hl 0 rfl) ?_
  refine lv_dup hx hb e_M_enter_31 rfl ?_
  refine M_get C h 63 (v := .int (σ6.1 63)) rfl (by decide) v_309 e_M_enter_32 ?_
  refine lv_iconst (v := 1) hx hb e_M_enter_35 (by decide) ?_
  refine lv_iadd hx hb e_M_enter_36 ?_
  refine M_puti C h 63 (by decide) rfl rfl (by decide +kernel) v_309 e_M_enter_37 (fun H locs h => ?_)
  obtain ⟨σ7, e_σ7⟩ : ∃ z : MST, z = setI σ6 63 ((σ6.1 63) + 1) := ⟨_, rfl⟩
  rw [← e_σ7] at h
  replace hw := hw σ7 e_σ7
  refine lv_iconst (v := 0) hx hb e_M_enter_40 (by decide) ?_
  refine lv_istore_n (lv' := [(2, .int 0), (0, .ref mo), (1, .int x1)]) hx hb e_M_enter_41 rfl hl (by decide) rfl (fun ls hl => ?_)
  obtain ⟨n9, hw⟩ := hw
  exact K_42 n9 0 σ7 _ _ _ hw h (lv_sub hl [1, 0] rfl)
