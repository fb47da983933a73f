abbrev z_M_miss : MethodName := ⟨"MapFramerModel", "miss", "(I)V"⟩
theorem e_M_miss_0 : decode prog_14_method_32_code 0 = .ok (.aload_n 0, 1) := by decide +kernel
theorem e_M_miss_1 : decode prog_14_method_32_code 1 = .ok (.aload_n 0, 1) := by decide +kernel
theorem e_M_miss_2 : decode prog_14_method_32_code 2 = .ok (.getfield 225, 3) := by decide +kernel
theorem e_M_miss_5 : decode prog_14_method_32_code 5 = .ok (.ifCond .ne 7, 3) := by decide +kernel
theorem e_M_miss_8 : decode prog_14_method_32_code 8 = .ok (.iload_n 1, 1) := by decide +kernel
theorem e_M_miss_9 : decode prog_14_method_32_code 9 = .ok (.goto 7, 3) := by decide +kernel
theorem e_M_miss_12 : decode prog_14_method_32_code 12 = .ok (.aload_n 0, 1) := by decide +kernel
theorem e_M_miss_13 : decode prog_14_method_32_code 13 = .ok (.getfield 225, 3) := by decide +kernel
theorem e_M_miss_16 : decode prog_14_method_32_code 16 = .ok (.putfield 225, 3) := by decide +kernel
theorem e_M_miss_19 : decode prog_14_method_32_code 19 = .ok (.return_, 1) := by decide +kernel
def w_M_miss_16 (P : MST → Prop) (s0 : Int32) (σ : MST) : Prop := ∀ σ1 : MST, σ1 = setI σ 35 s0 → P σ1
def w_M_miss (x1 : Int32) (σ : MST) (P : MST → Prop) : Prop := (((σ.1 35) = 0 → w_M_miss_16 P x1 σ) ∧ (¬ (σ.1 35) = 0 → w_M_miss_16 P (σ.1 35) σ))
set_option maxHeartbeats 4000000 in
set_option maxRecDepth 100000 in
theorem K_M_miss (l : Launch) (dC : Nat → ClassId) (dI : Nat → Nat → Nat) (mo : Nat) (rf : Nat → Nat) (ca : Nat → ClassId) (sz : Nat) (σ : MST) (x1 : Int32) {P : MST → Prop} (hw : w_M_miss x1 σ P) : Met l z_M_miss (mW z_M_miss prog_14_method_32_code 2 none) ({ frames := 0, cells := 0, slots := 0, locals := 0 } : Room) (va_Pc [.ref mo, .int x1] (MPre (dC, dI) mo rf ca σ sz)) (va_Qv P (MB (dC, dI) mo rf ca sz) (mA mo rf sz)) 0 0 (mA mo rf sz) := by
  refine M_ofv (by decide) rfl (Nat.le_of_ble_eq_true rfl) ?_
  intro p e s m below meth cx Q A ls C hA hend h hl
  have C0 := C
  obtain ⟨⟨hx, hb, hml, hown, hts⟩, hsub⟩ := C0
  have K_16 : ∀ (u9 : Unit), ∀ (s0 : Int32) (σ : MST) (H : Heap) (locs : List Loc) (ls : Array Slot), w_M_miss_16 P s0 σ → MH (dC, dI) A mo rf ca σ s H locs → lv_has ls 2 [] → W p l e ({ frames := 0, cells := 0, slots := 0, locals := 0 } : Room) s m ([.ref mo, .int x1] : List Value).toArray below meth cx H locs 0 0 Q (F0 m 16 ls [.int s0, .ref mo]) := by
    intro u9 s0 σ H locs ls hw h hl
    unfold w_M_miss_16 at hw
    refine M_puti C h 35 (by decide) rfl rfl (by decide +kernel) v_73 e_M_miss_16 (fun H locs h => ?_)
    obtain ⟨σ1, e_σ1⟩ : ∃ z : MST, z = setI σ 35 s0 := ⟨_, rfl⟩
    rw [← e_σ1] at h
    replace hw := hw σ1 e_σ1
    exact hend σ1 _ _ _ _ hw h e_M_miss_19
  have hl : lv_has ls 2 [(0, .ref mo), (1, .int x1)] := hl
  unfold w_M_miss at hw
  refine lv_aload_n hx hb e_M_miss_0 rfl (lv_at hl 0 rfl) ?_
  refine lv_aload_n hx hb e_M_miss_1 rfl (lv_at hl 0 rfl) ?_
  refine M_get C h 35 (v := .int (σ.1 35)) rfl (by decide) v_73 e_M_miss_2 ?_
  refine lv_if_ne (tgt := 12) hx hb e_M_miss_5 (by decide) (fun c2 => ?_) (fun c2 => ?_)
  · skip
    replace hw := hw.2 c2
    refine lv_aload_n hx hb e_M_miss_12 rfl (lv_at hl 0 rfl) ?_
    refine M_get C h 35 (v := .int (σ.1 35)) rfl (by decide) v_73 e_M_miss_13 ?_
    exact K_16 () (σ.1 35) σ _ _ _ hw h (lv_sub hl [] rfl)
  · skip
    replace hw := hw.1 c2
    refine lv_iload_n hx hb e_M_miss_8 rfl (lv_at hl 1 rfl) ?_
    refine lv_goto (tgt := 16) hx hb e_M_miss_9 (by decide) ?_
    exact K_16 () x1 σ _ _ _ hw h (lv_sub hl [] rfl)
abbrev z_M_pop : MethodName := ⟨"MapFramerModel", "pop", "()I"⟩
theorem v_98 : (Cond.fieldLink "MapFramerModel" 249 "MapFramerModel" "many" "I" : Cond) ∈ bigW := inB_8 101 (by decide +kernel) rfl
theorem v_99 : (Cond.fieldLink "MapFramerModel" 105 "MapFramerModel" "stack" "[I" : Cond) ∈ bigW := inB_8 100 (by decide +kernel) rfl
theorem v_100 : (Cond.methodLink "MapFramerModel" 252 ⟨"MapFramerModel", "miss", "(I)V"⟩ : Cond) ∈ bigW := inB_9 164 (by decide +kernel) rfl
theorem v_101 : (Cond.instanceMethod ⟨"MapFramerModel", "miss", "(I)V"⟩ : Cond) ∈ bigW := inB_9 166 (by decide +kernel) rfl
theorem v_102 : (Cond.selects "MapFramerModel" ⟨"MapFramerModel", "miss", "(I)V"⟩ ⟨"MapFramerModel", "miss", "(I)V"⟩ : Cond) ∈ bigW := inS (y := ⟨"MapFramerModel", "miss", "(I)V"⟩) (n := 71) (List.mem_of_getElem? (i := 98) (by decide +kernel))
theorem v_103 : (Cond.code ⟨"MapFramerModel", "miss", "(I)V"⟩ prog_14_method_32_code 2 none : Cond) ∈ bigW := inB_9 167 rfl rfl
theorem e_M_pop_0 : decode prog_14_method_33_code 0 = .ok (.aload_n 0, 1) := by decide +kernel
theorem e_M_pop_1 : decode prog_14_method_33_code 1 = .ok (.getfield 249, 3) := by decide +kernel
theorem e_M_pop_4 : decode prog_14_method_33_code 4 = .ok (.ifCond .ne 11, 3) := by decide +kernel
theorem e_M_pop_7 : decode prog_14_method_33_code 7 = .ok (.aload_n 0, 1) := by decide +kernel
theorem e_M_pop_8 : decode prog_14_method_33_code 8 = .ok (.bipush 6, 2) := by decide +kernel
theorem e_M_pop_10 : decode prog_14_method_33_code 10 = .ok (.invokevirtual 252, 3) := by decide +kernel
theorem e_M_pop_13 : decode prog_14_method_33_code 13 = .ok (.iconst 0, 1) := by decide +kernel
theorem e_M_pop_14 : decode prog_14_method_33_code 14 = .ok (.ireturn, 1) := by decide +kernel
theorem e_M_pop_15 : decode prog_14_method_33_code 15 = .ok (.aload_n 0, 1) := by decide +kernel
theorem e_M_pop_16 : decode prog_14_method_33_code 16 = .ok (.dup, 1) := by decide +kernel
theorem e_M_pop_17 : decode prog_14_method_33_code 17 = .ok (.getfield 249, 3) := by decide +kernel
theorem e_M_pop_20 : decode prog_14_method_33_code 20 = .ok (.iconst 1, 1) := by decide +kernel
theorem e_M_pop_21 : decode prog_14_method_33_code 21 = .ok (.isub, 1) := by decide +kernel
theorem e_M_pop_22 : decode prog_14_method_33_code 22 = .ok (.putfield 249, 3) := by decide +kernel
theorem e_M_pop_25 : decode prog_14_method_33_code 25 = .ok (.aload_n 0, 1) := by decide +kernel
theorem e_M_pop_26 : decode prog_14_method_33_code 26 = .ok (.getfield 105, 3) := by decide +kernel
theorem e_M_pop_29 : decode prog_14_method_33_code 29 = .ok (.aload_n 0, 1) := by decide +kernel
theorem e_M_pop_30 : decode prog_14_method_33_code 30 = .ok (.getfield 249, 3) := by decide +kernel
theorem e_M_pop_33 : decode prog_14_method_33_code 33 = .ok (.iaload, 1) := by decide +kernel
theorem e_M_pop_34 : decode prog_14_method_33_code 34 = .ok (.ireturn, 1) := by decide +kernel
def w_M_pop (σ : MST) (P : Int32 → MST → Prop) : Prop := (((σ.1 40) = 0 → w_M_miss (6 : Int32) σ (fun σ4 => P (0 : Int32) σ4)) ∧ (¬ (σ.1 40) = 0 → ∀ σ2 : MST, σ2 = setI σ 40 ((σ.1 40) - 1) → vp_in (σ2.1 40) 20 ∧ (∀ a3 : Int32, a3 = (σ2.2.1 39 ((σ2.1 40) : Int32).toNatClampNeg) → P a3 σ2)))
set_option maxHeartbeats 4000000 in
set_option maxRecDepth 100000 in
theorem K_M_pop (l : Launch) (dC : Nat → ClassId) (dI : Nat → Nat → Nat) (mo : Nat) (rf : Nat → Nat) (ca : Nat → ClassId) (sz : Nat) (σ : MST) {P : Int32 → MST → Prop} (hw : w_M_pop σ P) : Met l z_M_pop (mW z_M_pop prog_14_method_33_code 1 (some .int)) ({ frames := 1, cells := 0, slots := 0, locals := 21 } : Room) (va_Pc [.ref mo] (MPre (dC, dI) mo rf ca σ sz)) (va_Qi P (MB (dC, dI) mo rf ca sz) (mA mo rf sz)) 0 0 (mA mo rf sz) := by
  refine M_ofi (by decide) rfl (Nat.le_of_ble_eq_true rfl) ?_
  intro p e s m below meth cx Q A ls C hA hend h hl
  have C0 := C
  obtain ⟨⟨hx, hb, hml, hown, hts⟩, hsub⟩ := C0
  have hl : lv_has ls 1 [(0, .ref mo)] := hl
  unfold w_M_pop at hw
  refine lv_aload_n hx hb e_M_pop_0 rfl (lv_at hl 0 rfl) ?_
  refine M_get C h 40 (v := .int (σ.1 40)) rfl (by decide) v_98 e_M_pop_1 ?_
  refine lv_if_ne (tgt := 15) hx hb e_M_pop_4 (by decide) (fun c1 => ?_) (fun c1 => ?_)
  · skip
    replace hw := hw.2 c1
    refine lv_aload_n hx hb e_M_pop_15 rfl (lv_at hl 0 rfl) ?_
    refine lv_dup hx hb e_M_pop_16 rfl ?_
    refine M_get C h 40 (v := .int (σ.1 40)) rfl (by decide) v_98 e_M_pop_17 ?_
    refine lv_iconst (v := 1) hx hb e_M_pop_20 (by decide) ?_
    refine lv_isub hx hb e_M_pop_21 ?_
    refine M_puti C h 40 (by decide) rfl rfl (by decide +kernel) v_98 e_M_pop_22 (fun H locs h => ?_)
    obtain ⟨σ2, e_σ2⟩ : ∃ z : MST, z = setI σ 40 ((σ.1 40) - 1) := ⟨_, rfl⟩
    rw [← e_σ2] at h
    replace hw := hw σ2 e_σ2
    refine lv_aload_n hx hb e_M_pop_25 rfl (lv_at hl 0 rfl) ?_
    refine M_get C h 39 (v := .ref (rf 39)) rfl (by decide) v_99 e_M_pop_26 ?_
    refine lv_aload_n hx hb e_M_pop_29 rfl (lv_at hl 0 rfl) ?_
    refine M_get C h 40 (v := .int (σ2.1 40)) rfl (by decide) v_98 e_M_pop_30 ?_
    refine M_ald C h 39 (by decide) rfl hw.1 e_M_pop_33 ?_
    replace hw := hw.2
    refine lv_topi (fun a3 e_a3 => ?_)
    replace hw := hw a3 e_a3
    exact hend a3 σ2 _ _ _ _ hw h e_M_pop_34
  · skip
    replace hw := hw.1 c1
    refine lv_aload_n hx hb e_M_pop_7 rfl (lv_at hl 0 rfl) ?_
    refine lv_bipush (v := 6) hx hb e_M_pop_8 (by decide) ?_
    refine M_callv (As := [.int 6]) (rest := []) C h hA (K_M_miss l dC dI mo rf ca s.heap.size σ (6 : Int32) hw) (cwV 1 hts (gV hsub v_100 v_101 v_102 v_7 v_103) rfl rfl rfl (by decide +kernel) ⟨(Nat.le_of_ble_eq_true rfl), (Nat.le_of_ble_eq_true rfl)⟩) rfl hl.1 (Nat.le_of_ble_eq_true rfl) e_M_pop_10 ⟨(Nat.le_of_ble_eq_true rfl), (Nat.le_of_ble_eq_true rfl)⟩ (fun σ4 H locs hw h => ?_)
    refine W.eq (g2 := F0 m 13 ls []) rfl ?_
    refine lv_iconst (v := 0) hx hb e_M_pop_13 (by decide) ?_
    exact hend (0 : Int32) σ4 _ _ _ _ hw h e_M_pop_14
abbrev z_M_want : MethodName := ⟨"MapFramerModel", "want", "(I)V"⟩
theorem v_104 : (Cond.methodLink "MapFramerModel" 256 ⟨"MapFramerModel", "pop", "()I"⟩ : Cond) ∈ bigW := inB_9 179 (by decide +kernel) rfl
theorem v_105 : (Cond.instanceMethod ⟨"MapFramerModel", "pop", "()I"⟩ : Cond) ∈ bigW := inB_9 181 (by decide +kernel) rfl
theorem v_106 : (Cond.selects "MapFramerModel" ⟨"MapFramerModel", "pop", "()I"⟩ ⟨"MapFramerModel", "pop", "()I"⟩ : Cond) ∈ bigW := inS (y := ⟨"MapFramerModel", "pop", "()I"⟩) (n := 71) (List.mem_of_getElem? (i := 101) (by decide +kernel))
theorem v_107 : (Cond.code ⟨"MapFramerModel", "pop", "()I"⟩ prog_14_method_33_code 1 (some .int) : Cond) ∈ bigW := inB_9 182 rfl rfl
theorem v_108 : (Cond.methodLink "MapFramerModel" 260 ⟨"MapFramerModel", "goesInto", "(II)Z"⟩ : Cond) ∈ bigW := inB_9 199 (by decide +kernel) rfl
theorem v_109 : (Cond.instanceMethod ⟨"MapFramerModel", "goesInto", "(II)Z"⟩ : Cond) ∈ bigW := inB_9 201 (by decide +kernel) rfl
theorem v_110 : (Cond.selects "MapFramerModel" ⟨"MapFramerModel", "goesInto", "(II)Z"⟩ ⟨"MapFramerModel", "goesInto", "(II)Z"⟩ : Cond) ∈ bigW := inS (y := ⟨"MapFramerModel", "goesInto", "(II)Z"⟩) (n := 71) (List.mem_of_getElem? (i := 106) (by decide +kernel))
theorem v_111 : (Cond.code ⟨"MapFramerModel", "goesInto", "(II)Z"⟩ prog_14_method_10_code 3 (some .boolean) : Cond) ∈ bigW := inB_9 202 rfl rfl
theorem e_M_want_0 : decode prog_14_method_34_code 0 = .ok (.aload_n 0, 1) := by decide +kernel
theorem e_M_want_1 : decode prog_14_method_34_code 1 = .ok (.invokevirtual 256, 3) := by decide +kernel
theorem e_M_want_4 : decode prog_14_method_34_code 4 = .ok (.istore_n 2, 1) := by decide +kernel
theorem e_M_want_5 : decode prog_14_method_34_code 5 = .ok (.aload_n 0, 1) := by decide +kernel
theorem e_M_want_6 : decode prog_14_method_34_code 6 = .ok (.getfield 225, 3) := by decide +kernel
theorem e_M_want_9 : decode prog_14_method_34_code 9 = .ok (.ifCond .ne 18, 3) := by decide +kernel
theorem e_M_want_12 : decode prog_14_method_34_code 12 = .ok (.aload_n 0, 1) := by decide +kernel
theorem e_M_want_13 : decode prog_14_method_34_code 13 = .ok (.iload_n 2, 1) := by decide +kernel
theorem e_M_want_14 : decode prog_14_method_34_code 14 = .ok (.iload_n 1, 1) := by decide +kernel
theorem e_M_want_15 : decode prog_14_method_34_code 15 = .ok (.invokevirtual 260, 3) := by decide +kernel
theorem e_M_want_18 : decode prog_14_method_34_code 18 = .ok (.ifCond .ne 9, 3) := by decide +kernel
theorem e_M_want_21 : decode prog_14_method_34_code 21 = .ok (.aload_n 0, 1) := by decide +kernel
theorem e_M_want_22 : decode prog_14_method_34_code 22 = .ok (.bipush 6, 2) := by decide +kernel
theorem e_M_want_24 : decode prog_14_method_34_code 24 = .ok (.invokevirtual 252, 3) := by decide +kernel
theorem e_M_want_27 : decode prog_14_method_34_code 27 = .ok (.return_, 1) := by decide +kernel
def w_M_want (x1 : Int32) (σ : MST) (P : MST → Prop) : Prop := w_M_pop σ (fun r2 σ1 => (((σ1.1 35) = 0 → w_M_goesInto r2 x1 σ1 (fun r5 σ4 => ((r5 = 0 → w_M_miss (6 : Int32) σ4 (fun σ7 => P σ7)) ∧ (¬ r5 = 0 → P σ4)))) ∧ (¬ (σ1.1 35) = 0 → P σ1)))
set_option maxHeartbeats 4000000 in
set_option maxRecDepth 100000 in
theorem K_M_want (l : Launch) (dC : Nat → ClassId) (dI : Nat → Nat → Nat) (mo : Nat) (rf : Nat → Nat) (ca : Nat → ClassId) (sz : Nat) (σ : MST) (x1 : Int32) {P : MST → Prop} (hw : w_M_want x1 σ P) : Met l z_M_want (mW z_M_want prog_14_method_34_code 3 none) ({ frames := 3, cells := 0, slots := 0, locals := 67 } : Room) (va_Pc [.ref mo, .int x1] (MPre (dC, dI) mo rf ca σ sz)) (va_Qv P (MB (dC, dI) mo rf ca sz) (mA mo rf sz)) 0 0 (mA mo rf sz) := by
  refine M_ofv (by decide) rfl (Nat.le_of_ble_eq_true rfl) ?_
  intro p e s m below meth cx Q A ls C hA hend h hl
  have C0 := C
  obtain ⟨⟨hx, hb, hml, hown, hts⟩, hsub⟩ := C0
  have hl : lv_has ls 3 [(0, .ref mo), (1, .int x1)] := hl
  unfold w_M_want at hw
  refine lv_aload_n hx hb e_M_want_0 rfl (lv_at hl 0 rfl) ?_
  refine M_calli (As := []) (rest := []) C h hA (K_M_pop l dC dI mo rf ca s.heap.size σ hw) (cwV 0 hts (gV hsub v_104 v_105 v_106 v_7 v_107) rfl rfl rfl (by decide +kernel) ⟨(Nat.le_of_ble_eq_true rfl), (Nat.le_of_ble_eq_true rfl)⟩) rfl hl.1 (Nat.le_of_ble_eq_true rfl) e_M_want_1 ⟨(Nat.le_of_ble_eq_true rfl), (Nat.le_of_ble_eq_true rfl)⟩ (fun r2 σ1 H locs hw h => ?_)
  refine W.eq (g2 := F0 m 4 ls [.int r2]) rfl ?_
  refine lv_istore_n (lv' := [(2, .int r2), (0, .ref mo), (1, .int x1)]) hx hb e_M_want_4 rfl hl (by decide) rfl (fun ls hl => ?_)
  refine lv_aload_n hx hb e_M_want_5 rfl (lv_at hl 1 rfl) ?_
  refine M_get C h 35 (v := .int (σ1.1 35)) rfl (by decide) v_73 e_M_want_6 ?_
  refine lv_if_ne (tgt := 27) hx hb e_M_want_9 (by decide) (fun c3 => ?_) (fun c3 => ?_)
  · skip
    replace hw := hw.2 c3
    exact hend σ1 _ _ _ _ hw h e_M_want_27
  · skip
    replace hw := hw.1 c3
    refine lv_aload_n hx hb e_M_want_12 rfl (lv_at hl 1 rfl) ?_
    refine lv_iload_n hx hb e_M_want_13 rfl (lv_at hl 0 rfl) ?_
    refine lv_iload_n hx hb e_M_want_14 rfl (lv_at hl 2 rfl) ?_
    refine M_calli (As := [.int r2, .int x1]) (rest := []) C h hA (K_M_goesInto l dC dI mo rf ca H.size σ1 r2 x1 hw) (cwV 2 hts (gV hsub v_108 v_109 v_110 v_7 v_111) rfl rfl rfl (by decide +kernel) ⟨(Nat.le_of_ble_eq_true rfl), (Nat.le_of_ble_eq_true rfl)⟩) rfl hl.1 (Nat.le_of_ble_eq_true rfl) e_M_want_15 ⟨(Nat.le_of_ble_eq_true rfl), (Nat.le_of_ble_eq_true rfl)⟩ (fun r5 σ4 H locs hw h => ?_)
    refine W.eq (g2 := F0 m 18 ls [.int r5]) rfl ?_
    refine lv_if_ne (tgt := 27) hx hb e_M_want_18 (by decide) (fun c6 => ?_) (fun c6 => ?_)
    · skip
      replace hw := hw.2 c6
      exact hend σ4 _ _ _ _ hw h e_M_want_27
    · skip
      replace hw := hw.1 c6
      refine lv_aload_n hx hb e_M_want_21 rfl (lv_at hl 1 rfl) ?_
      refine lv_bipush (v := 6) hx hb e_M_want_22 (by decide) ?_
      refine M_callv (As := [.int 6]) (rest := []) C h hA (K_M_miss l dC dI mo rf ca H.size σ4 (6 : Int32) hw) (cwV 1 hts (gV hsub v_100 v_101 v_102 v_7 v_103) rfl rfl rfl (by decide +kernel) ⟨(Nat.le_of_ble_eq_true rfl), (Nat.le_of_ble_eq_true rfl)⟩) rfl hl.1 (Nat.le_of_ble_eq_true rfl) e_M_want_24 ⟨(Nat.le_of_ble_eq_true rfl), (Nat.le_of_ble_eq_true rfl)⟩ (fun σ7 H locs hw h => ?_)
      refine W.eq (g2 := F0 m 27 ls []) rfl ?_
      exact hend σ7 _ _ _ _ hw h e_M_want_27
abbrev z_M_words : MethodName := ⟨"MapFramerModel", "words", "()I"⟩
theorem e_M_words_0 : decode prog_14_method_35_code 0 = .ok (.iconst 0, 1) := by decide +kernel
theorem e_M_words_1 : decode prog_14_method_35_code 1 = .ok (.istore_n 1, 1) := by decide +kernel
theorem e_M_words_2 : decode prog_14_method_35_code 2 = .ok (.iconst 0, 1) := by decide +kernel
theorem e_M_words_3 : decode prog_14_method_35_code 3 = .ok (.istore_n 2, 1) := by decide +kernel
theorem e_M_words_4 : decode prog_14_method_35_code 4 = .ok (.iload_n 2, 1) := by decide +kernel
theorem e_M_words_5 : decode prog_14_method_35_code 5 = .ok (.aload_n 0, 1) := by decide +kernel
theorem e_M_words_6 : decode prog_14_method_35_code 6 = .ok (.getfield 249, 3) := by decide +kernel
theorem e_M_words_9 : decode prog_14_method_35_code 9 = .ok (.if_icmp .ge 27, 3) := by decide +kernel
theorem e_M_words_12 : decode prog_14_method_35_code 12 = .ok (.iload_n 1, 1) := by decide +kernel
theorem e_M_words_13 : decode prog_14_method_35_code 13 = .ok (.aload_n 0, 1) := by decide +kernel
theorem e_M_words_14 : decode prog_14_method_35_code 14 = .ok (.getfield 105, 3) := by decide +kernel
theorem e_M_words_17 : decode prog_14_method_35_code 17 = .ok (.iload_n 2, 1) := by decide +kernel
theorem e_M_words_18 : decode prog_14_method_35_code 18 = .ok (.iaload, 1) := by decide +kernel
theorem e_M_words_19 : decode prog_14_method_35_code 19 = .ok (.iconst 2, 1) := by decide +kernel
theorem e_M_words_20 : decode prog_14_method_35_code 20 = .ok (.if_icmp .ne 7, 3) := by decide +kernel
theorem e_M_words_23 : decode prog_14_method_35_code 23 = .ok (.iconst 2, 1) := by decide +kernel
theorem e_M_words_24 : decode prog_14_method_35_code 24 = .ok (.goto 4, 3) := by decide +kernel
theorem e_M_words_27 : decode prog_14_method_35_code 27 = .ok (.iconst 1, 1) := by decide +kernel
theorem e_M_words_28 : decode prog_14_method_35_code 28 = .ok (.iadd, 1) := by decide +kernel
theorem e_M_words_29 : decode prog_14_method_35_code 29 = .ok (.istore_n 1, 1) := by decide +kernel
theorem e_M_words_30 : decode prog_14_method_35_code 30 = .ok (.iinc 2 1, 3) := by decide +kernel
theorem e_M_words_33 : decode prog_14_method_35_code 33 = .ok (.goto (-29), 3) := by decide +kernel
theorem e_M_words_36 : decode prog_14_method_35_code 36 = .ok (.iload_n 1, 1) := by decide +kernel
theorem e_M_words_37 : decode prog_14_method_35_code 37 = .ok (.ireturn, 1) := by decide +kernel
def w_M_words_28 (K4 : Int32 → Int32 → MST → Prop) (P : Int32 → MST → Prop) (z2 : Int32) (s0 : Int32) (s1 : Int32) (σ : MST) : Prop := K4 (s1 + s0) (z2 + 1) σ
def w_M_words_4 (P : Int32 → MST → Prop) : Nat → Int32 → Int32 → MST → Prop
  | 0, _, _, _ => False
  | n + 1, z1, z2, σ => (((σ.1 40) ≤ z2 → P z1 σ) ∧ (¬ (σ.1 40) ≤ z2 → vp_in z2 20 ∧ (∀ a2 : Int32, a2 = (σ.2.1 39 (z2 : Int32).toNatClampNeg) → ((a2 = 2 → w_M_words_28 (w_M_words_4 P n) P z2 2 z1 σ) ∧ (¬ a2 = 2 → w_M_words_28 (w_M_words_4 P n) P z2 1 z1 σ)))))
def w_M_words (σ : MST) (P : Int32 → MST → Prop) : Prop := (∃ n9 : Nat, w_M_words_4 P n9 0 0 σ)
set_option maxHeartbeats 4000000 in
set_option maxRecDepth 100000 in
theorem K_M_words (l : Launch) (dC : Nat → ClassId) (dI : Nat → Nat → Nat) (mo : Nat) (rf : Nat → Nat) (ca : Nat → ClassId) (sz : Nat) (σ : MST) {P : Int32 → MST → Prop} (hw : w_M_words σ P) : Met l z_M_words (mW z_M_words prog_14_method_35_code 3 (some .int)) ({ frames := 0, cells := 0, slots := 0, locals := 0 } : Room) (va_Pc [.ref mo] (MPre (dC, dI) mo rf ca σ sz)) (va_Qi P (MB (dC, dI) mo rf ca sz) (mA mo rf sz)) 0 0 (mA mo rf sz) := by
  refine M_ofi (by decide) rfl (Nat.le_of_ble_eq_true rfl) ?_
  intro p e s m below meth cx Q A ls C hA hend h hl
  have C0 := C
  obtain ⟨⟨hx, hb, hml, hown, hts⟩, hsub⟩ := C0
  have K_28 : ∀ (K4 : Int32 → Int32 → MST → Prop) (hK4 : ∀ (z1 : Int32) (z2 : Int32) (σ : MST) (H : Heap) (locs : List Loc) (ls : Array Slot), K4 z1 z2 σ → MH (dC, dI) A mo rf ca σ s H locs → lv_has ls 3 [(0, .ref mo), (1, .int z1), (2, .int z2)] → W p l e ({ frames := 0, cells := 0, slots := 0, locals := 0 } : Room) s m ([.ref mo] : List Value).toArray below meth cx H locs 0 0 Q (F0 m 4 ls [])), ∀ (z2 : Int32) (s0 : Int32) (s1 : Int32) (σ : MST) (H : Heap) (locs : List Loc) (ls : Array Slot), w_M_words_28 K4 P z2 s0 s1 σ → MH (dC, dI) A mo rf ca σ s H locs → lv_has ls 3 [(0, .ref mo), (2, .int z2)] → W p l e ({ frames := 0, cells := 0, slots := 0, locals := 0 } : Room) s m ([.ref mo] : List Value).toArray below meth cx H locs 0 0 Q (F0 m 28 ls [.int s0, .int s1]) := by
    intro K4 hK4 z2 s0 s1 σ H locs ls hw h hl
    unfold w_M_words_28 at hw
    refine lv_iadd hx hb e_M_words_28 ?_
    refine lv_istore_n (lv' := [(1, .int (s1 + s0)), (0, .ref mo), (2, .int z2)]) hx hb e_M_words_29 rfl hl (by decide) rfl (fun ls hl => ?_)
    refine lv_iinc (v := (z2 + 1)) (lv' := [(2, .int (z2 + 1)), (1, .int (s1 + s0)), (0, .ref mo)]) hx hb e_M_words_30 hl (k := 2) rfl (rfl) (by decide) rfl (fun ls hl => ?_)
    refine lv_goto (tgt := 4) hx hb e_M_words_33 (by decide) ?_
    exact hK4 (s1 + s0) (z2 + 1) σ _ _ _ hw h (lv_sub hl [2, 1, 0] rfl)
  have K_4 : ∀ (n : Nat), ∀ (z1 : Int32) (z2 : Int32) (σ : MST) (H : Heap) (locs : List Loc) (ls : Array Slot), w_M_words_4 P n z1 z2 σ → MH (dC, dI) A mo rf ca σ s H locs → lv_has ls 3 [(0, .ref mo), (1, .int z1), (2, .int z2)] → W p l e ({ frames := 0, cells := 0, slots := 0, locals := 0 } : Room) s m ([.ref mo] : List Value).toArray below meth cx H locs 0 0 Q (F0 m 4 ls []) := by
    intro  n
    induction n with
    | zero => intro z1 z2 σ H locs ls hw h hl; unfold w_M_words_4 at hw; exact hw.elim
    | succ n ih =>
      intro z1 z2 σ H locs ls hw h hl
      unfold w_M_words_4 at hw
      refine lv_iload_n hx hb e_M_words_4 rfl (lv_at hl 2 rfl) ?_
      refine lv_aload_n hx hb e_M_words_5 rfl (lv_at hl 0 rfl) ?_
      refine M_get C h 40 (v := .int (σ.1 40)) rfl (by decide) v_98 e_M_words_6 ?_
      refine lv_icmp_ge (tgt := 36) hx hb e_M_words_9 (by decide) (fun c1 => ?_) (fun c1 => ?_)
      · skip
        replace hw := hw.1 c1
        refine lv_iload_n hx hb e_M_words_36 rfl (lv_at hl 1 rfl) ?_
        exact hend z1 σ _ _ _ _ hw h e_M_words_37
      · skip
        replace hw := hw.2 c1
        refine lv_iload_n hx hb e_M_words_12 rfl (lv_at hl 1 rfl) ?_
        refine lv_aload_n hx hb e_M_words_13 rfl (lv_at hl 0 rfl) ?_
        refine M_get C h 39 (v := .ref (rf 39)) rfl (by decide) v_99 e_M_words_14 ?_
        refine lv_iload_n hx hb e_M_words_17 rfl (lv_at hl 2 rfl) ?_
        refine M_ald C h 39 (by decide) rfl hw.1 e_M_words_18 ?_
        replace hw := hw.2
        refine lv_topi (fun a2 e_a2 => ?_)
        replace hw := hw a2 e_a2
        refine lv_iconst (v := 2) hx hb e_M_words_19 (by decide) ?_
        refine lv_icmp_ne (tgt := 27) hx hb e_M_words_20 (by decide) (fun c3 => ?_) (fun c3 => ?_)
        · skip
          replace hw := hw.2 c3
          refine lv_iconst (v := 1) hx hb e_M_words_27 (by decide) ?_
          exact K_28 _ ih z2 1 z1 σ _ _ _ hw h (lv_sub hl [0, 2] rfl)
        · skip
          replace hw := hw.1 c3
          refine lv_iconst (v := 2) hx hb e_M_words_23 (by decide) ?_
          refine lv_goto (tgt := 28) hx hb e_M_words_24 (by decide) ?_
          exact K_28 _ ih z2 2 z1 σ _ _ _ hw h (lv_sub hl [0, 2] rfl)
  have hl : lv_has ls 3 [(0, .ref mo)] := hl
  unfold w_M_words at hw
  refine lv_iconst (v := 0) hx hb e_M_words_0 (by decide) ?_
  refine lv_istore_n (lv' := [(1, .int 0), (0, .ref mo)]) hx hb e_M_words_1 rfl hl (by decide) rfl (fun ls hl => ?_)
  refine lv_iconst (v := 0) hx hb e_M_words_2 (by decide) ?_
  refine lv_istore_n (lv' := [(2, .int 0), (1, .int 0), (0, .ref mo)]) hx hb e_M_words_3 rfl hl (by decide) rfl (fun ls hl => ?_)
  obtain ⟨n9, hw⟩ := hw
  exact K_4 n9 0 0 σ _ _ _ hw h (lv_sub hl [2, 1, 0] rfl)
abbrev z_M_push : MethodName := ⟨"MapFramerModel", "push", "(I)V"⟩
theorem v_112 : (Cond.methodLink "MapFramerModel" 263 ⟨"MapFramerModel", "words", "()I"⟩ : Cond) ∈ bigW := inB_9 160 (by decide +kernel) rfl
theorem v_113 : (Cond.instanceMethod ⟨"MapFramerModel", "words", "()I"⟩ : Cond) ∈ bigW := inB_9 162 (by decide +kernel) rfl
theorem v_114 : (Cond.selects "MapFramerModel" ⟨"MapFramerModel", "words", "()I"⟩ ⟨"MapFramerModel", "words", "()I"⟩ : Cond) ∈ bigW := inS (y := ⟨"MapFramerModel", "words", "()I"⟩) (n := 71) (List.mem_of_getElem? (i := 97) (by decide +kernel))
theorem v_115 : (Cond.code ⟨"MapFramerModel", "words", "()I"⟩ prog_14_method_35_code 3 (some .int) : Cond) ∈ bigW := inB_9 163 rfl rfl
theorem v_116 : (Cond.fieldLink "MapFramerModel" 266 "MapFramerModel" "method" "I" : Cond) ∈ bigW := inB_8 94 (by decide +kernel) rfl
theorem e_M_push_0 : decode prog_14_method_36_code 0 = .ok (.aload_n 0, 1) := by decide +kernel
theorem e_M_push_1 : decode prog_14_method_36_code 1 = .ok (.getfield 225, 3) := by decide +kernel
theorem e_M_push_4 : decode prog_14_method_36_code 4 = .ok (.ifCond .le 4, 3) := by decide +kernel
theorem e_M_push_7 : decode prog_14_method_36_code 7 = .ok (.return_, 1) := by decide +kernel
theorem e_M_push_8 : decode prog_14_method_36_code 8 = .ok (.aload_n 0, 1) := by decide +kernel
theorem e_M_push_9 : decode prog_14_method_36_code 9 = .ok (.getfield 105, 3) := by decide +kernel
theorem e_M_push_12 : decode prog_14_method_36_code 12 = .ok (.aload_n 0, 1) := by decide +kernel
theorem e_M_push_13 : decode prog_14_method_36_code 13 = .ok (.getfield 249, 3) := by decide +kernel
theorem e_M_push_16 : decode prog_14_method_36_code 16 = .ok (.iload_n 1, 1) := by decide +kernel
theorem e_M_push_17 : decode prog_14_method_36_code 17 = .ok (.iastore, 1) := by decide +kernel
theorem e_M_push_18 : decode prog_14_method_36_code 18 = .ok (.aload_n 0, 1) := by decide +kernel
theorem e_M_push_19 : decode prog_14_method_36_code 19 = .ok (.dup, 1) := by decide +kernel
theorem e_M_push_20 : decode prog_14_method_36_code 20 = .ok (.getfield 249, 3) := by decide +kernel
theorem e_M_push_23 : decode prog_14_method_36_code 23 = .ok (.iconst 1, 1) := by decide +kernel
theorem e_M_push_24 : decode prog_14_method_36_code 24 = .ok (.iadd, 1) := by decide +kernel
theorem e_M_push_25 : decode prog_14_method_36_code 25 = .ok (.putfield 249, 3) := by decide +kernel
theorem e_M_push_28 : decode prog_14_method_36_code 28 = .ok (.aload_n 0, 1) := by decide +kernel
theorem e_M_push_29 : decode prog_14_method_36_code 29 = .ok (.invokevirtual 263, 3) := by decide +kernel
theorem e_M_push_32 : decode prog_14_method_36_code 32 = .ok (.aload_n 0, 1) := by decide +kernel
theorem e_M_push_33 : decode prog_14_method_36_code 33 = .ok (.getfield 45, 3) := by decide +kernel
theorem e_M_push_36 : decode prog_14_method_36_code 36 = .ok (.aload_n 0, 1) := by decide +kernel
theorem e_M_push_37 : decode prog_14_method_36_code 37 = .ok (.getfield 266, 3) := by decide +kernel
theorem e_M_push_40 : decode prog_14_method_36_code 40 = .ok (.iaload, 1) := by decide +kernel
theorem e_M_push_41 : decode prog_14_method_36_code 41 = .ok (.if_icmp .le 9, 3) := by decide +kernel
theorem e_M_push_44 : decode prog_14_method_36_code 44 = .ok (.aload_n 0, 1) := by decide +kernel
theorem e_M_push_45 : decode prog_14_method_36_code 45 = .ok (.bipush 7, 2) := by decide +kernel
theorem e_M_push_47 : decode prog_14_method_36_code 47 = .ok (.invokevirtual 252, 3) := by decide +kernel
theorem e_M_push_50 : decode prog_14_method_36_code 50 = .ok (.return_, 1) := by decide +kernel
def w_M_push (x1 : Int32) (σ : MST) (P : MST → Prop) : Prop := (((σ.1 35) ≤ 0 → vp_in (σ.1 40) 20 ∧ (∀ σ2 : MST, σ2 = setA σ 39 (upd (σ.2.1 39) ((σ.1 40) : Int32).toNatClampNeg x1) → ∀ σ3 : MST, σ3 = setI σ2 40 ((σ2.1 40) + 1) → w_M_words σ3 (fun r5 σ4 => vp_in (σ4.1 33) 8 ∧ (∀ a6 : Int32, a6 = (σ4.2.1 14 ((σ4.1 33) : Int32).toNatClampNeg) → ((r5 ≤ a6 → P σ4) ∧ (¬ r5 ≤ a6 → w_M_miss (7 : Int32) σ4 (fun σ8 => P σ8))))))) ∧ (¬ (σ.1 35) ≤ 0 → P σ))
set_option maxHeartbeats 4000000 in
set_option maxRecDepth 100000 in
theorem K_M_push (l : Launch) (dC : Nat → ClassId) (dI : Nat → Nat → Nat) (mo : Nat) (rf : Nat → Nat) (ca : Nat → ClassId) (sz : Nat) (σ : MST) (x1 : Int32) {P : MST → Prop} (hw : w_M_push x1 σ P) : Met l z_M_push (mW z_M_push prog_14_method_36_code 2 none) ({ frames := 1, cells := 0, slots := 0, locals := 22 } : Room) (va_Pc [.ref mo, .int x1] (MPre (dC, dI) mo rf ca σ sz)) (va_Qv P (MB (dC, dI) mo rf ca sz) (mA mo rf sz)) 0 0 (mA mo rf sz) := by
  refine M_ofv (by decide) rfl (Nat.le_of_ble_eq_true rfl) ?_
  intro p e s m below meth cx Q A ls C hA hend h hl
  have C0 := C
  obtain ⟨⟨hx, hb, hml, hown, hts⟩, hsub⟩ := C0
  have hl : lv_has ls 2 [(0, .ref mo), (1, .int x1)] := hl
  unfold w_M_push at hw
  refine lv_aload_n hx hb e_M_push_0 rfl (lv_at hl 0 rfl) ?_
  refine M_get C h 35 (v := .int (σ.1 35)) rfl (by decide) v_73 e_M_push_1 ?_
  refine lv_if_le (tgt := 8) hx hb e_M_push_4 (by decide) (fun c1 => ?_) (fun c1 => ?_)
  · skip
    replace hw := hw.1 c1
    refine lv_aload_n hx hb e_M_push_8 rfl (lv_at hl 0 rfl) ?_
    refine M_get C h 39 (v := .ref (rf 39)) rfl (by decide) v_99 e_M_push_9 ?_
    refine lv_aload_n hx hb e_M_push_12 rfl (lv_at hl 0 rfl) ?_
    refine M_get C h 40 (v := .int (σ.1 40)) rfl (by decide) v_98 e_M_push_13 ?_
    refine lv_iload_n hx hb e_M_push_16 rfl (lv_at hl 1 rfl) ?_
    refine M_ast C h 39 (by decide) rfl hw.1 e_M_push_17 (fun H locs h => ?_)
    replace hw := hw.2
    obtain ⟨σ2, e_σ2⟩ : ∃ z : MST, z = setA σ 39 (upd (σ.2.1 39) ((σ.1 40) : Int32).toNatClampNeg x1) := ⟨_, rfl⟩
    rw [← e_σ2] at h
    replace hw := hw σ2 e_σ2
    refine lv_aload_n hx hb e_M_push_18 rfl (lv_at hl 0 rfl) ?_
    refine lv_dup hx hb e_M_push_19 rfl ?_
    refine M_get C h 40 (v := .int (σ2.1 40)) rfl (by decide) v_98 e_M_push_20 ?_
    refine lv_iconst (v := 1) hx hb e_M_push_23 (by decide) ?_
    refine lv_iadd hx hb e_M_push_24 ?_
    refine M_puti C h 40 (by decide) rfl rfl (by decide +kernel) v_98 e_M_push_25 (fun H locs h => ?_)
    obtain ⟨σ3, e_σ3⟩ : ∃ z : MST, z = setI σ2 40 ((σ2.1 40) + 1) := ⟨_, rfl⟩
    rw [← e_σ3] at h
    replace hw := hw σ3 e_σ3
    refine lv_aload_n hx hb e_M_push_28 rfl (lv_at hl 0 rfl) ?_
    refine M_calli (As := []) (rest := []) C h hA (K_M_words l dC dI mo rf ca H.size σ3 hw) (cwV 0 hts (gV hsub v_112 v_113 v_114 v_7 v_115) rfl rfl rfl (by decide +kernel) ⟨(Nat.le_of_ble_eq_true rfl), (Nat.le_of_ble_eq_true rfl)⟩) rfl hl.1 (Nat.le_of_ble_eq_true rfl) e_M_push_29 ⟨(Nat.le_of_ble_eq_true rfl), (Nat.le_of_ble_eq_true rfl)⟩ (fun r5 σ4 H locs hw h => ?_)
    refine W.eq (g2 := F0 m 32 ls [.int r5]) rfl ?_
    refine lv_aload_n hx hb e_M_push_32 rfl (lv_at hl 0 rfl) ?_
    refine M_get C h 14 (v := .ref (rf 14)) rfl (by decide) v_48 e_M_push_33 ?_
    refine lv_aload_n hx hb e_M_push_36 rfl (lv_at hl 0 rfl) ?_
    refine M_get C h 33 (v := .int (σ4.1 33)) rfl (by decide) v_116 e_M_push_37 ?_
    refine M_ald C h 14 (by decide) rfl hw.1 e_M_push_40 ?_
    replace hw := hw.2
    refine lv_topi (fun a6 e_a6 => ?_)
    replace hw := hw a6 e_a6
    refine lv_icmp_le (tgt := 50) hx hb e_M_push_41 (by decide) (fun c7 => ?_) (fun c7 => ?_)
    · skip
      replace hw := hw.1 c7
      exact hend σ4 _ _ _ _ hw h e_M_push_50
    · skip
      replace hw := hw.2 c7
      refine lv_aload_n hx hb e_M_push_44 rfl (lv_at hl 0 rfl) ?_
      refine lv_bipush (v := 7) hx hb e_M_push_45 (by decide) ?_
      refine M_callv (As := [.int 7]) (rest := []) C h hA (K_M_miss l dC dI mo rf ca H.size σ4 (7 : Int32) hw) (cwV 1 hts (gV hsub v_100 v_101 v_102 v_7 v_103) rfl rfl rfl (by decide +kernel) ⟨(Nat.le_of_ble_eq_true rfl), (Nat.le_of_ble_eq_true rfl)⟩) rfl hl.1 (Nat.le_of_ble_eq_true rfl) e_M_push_47 ⟨(Nat.le_of_ble_eq_true rfl), (Nat.le_of_ble_eq_true rfl)⟩ (fun σ8 H locs hw h => ?_)
      refine W.eq (g2 := F0 m 50 ls []) rfl ?_
      exact hend σ8 _ _ _ _ hw h e_M_push_50
  · skip
    replace hw := hw.2 c1
    exact hend σ _ _ _ _ hw h e_M_push_7
abbrev z_M_isReference : MethodName := ⟨"MapFramerModel", "isReference", "(I)Z"⟩
theorem e_M_isReference_0 : decode prog_14_method_37_code 0 = .ok (.iload_n 0, 1) := by decide +kernel
theorem e_M_isReference_1 : decode prog_14_method_37_code 1 = .ok (.iconst 5, 1) := by decide +kernel
theorem e_M_isReference_2 : decode prog_14_method_37_code 2 = .ok (.if_icmp .eq 10, 3) := by decide +kernel
theorem e_M_isReference_5 : decode prog_14_method_37_code 5 = .ok (.iload_n 0, 1) := by decide +kernel
theorem e_M_isReference_6 : decode prog_14_method_37_code 6 = .ok (.invokestatic 172, 3) := by decide +kernel
theorem e_M_isReference_9 : decode prog_14_method_37_code 9 = .ok (.ifCond .eq 7, 3) := by decide +kernel
theorem e_M_isReference_12 : decode prog_14_method_37_code 12 = .ok (.iconst 1, 1) := by decide +kernel
theorem e_M_isReference_13 : decode prog_14_method_37_code 13 = .ok (.goto 4, 3) := by decide +kernel
theorem e_M_isReference_16 : decode prog_14_method_37_code 16 = .ok (.iconst 0, 1) := by decide +kernel
theorem e_M_isReference_17 : decode prog_14_method_37_code 17 = .ok (.ireturn, 1) := by decide +kernel
def w_M_isReference_12 (P : Int32 → MST → Prop) (σ : MST) : Prop := P (1 : Int32) σ
def w_M_isReference (x0 : Int32) (σ : MST) (P : Int32 → MST → Prop) : Prop := ((x0 = 5 → w_M_isReference_12 P σ) ∧ (¬ x0 = 5 → w_M_isThing x0 σ (fun r3 σ2 => ((r3 = 0 → P (0 : Int32) σ2) ∧ (¬ r3 = 0 → w_M_isReference_12 P σ2)))))
set_option maxHeartbeats 4000000 in
set_option maxRecDepth 100000 in
theorem K_M_isReference (l : Launch) (dC : Nat → ClassId) (dI : Nat → Nat → Nat) (mo : Nat) (rf : Nat → Nat) (ca : Nat → ClassId) (sz : Nat) (σ : MST) (x0 : Int32) {P : Int32 → MST → Prop} (hw : w_M_isReference x0 σ P) : Met l z_M_isReference (mW z_M_isReference prog_14_method_37_code 1 (some .boolean)) ({ frames := 1, cells := 0, slots := 0, locals := 20 } : Room) (va_Pc [.int x0] (MPre (dC, dI) mo rf ca σ sz)) (va_Qi P (MB (dC, dI) mo rf ca sz) (mA mo rf sz)) 0 0 (mA mo rf sz) := by
  refine M_ofz (by decide) rfl (Nat.le_of_ble_eq_true rfl) ?_
  intro p e s m below meth cx Q A ls C hA hend h hl
  have C0 := C
  obtain ⟨⟨hx, hb, hml, hown, hts⟩, hsub⟩ := C0
  have K_12 : ∀ (u9 : Unit), ∀ (σ : MST) (H : Heap) (locs : List Loc) (ls : Array Slot), w_M_isReference_12 P σ → MH (dC, dI) A mo rf ca σ s H locs → lv_has ls 1 [] → W p l e ({ frames := 1, cells := 0, slots := 0, locals := 20 } : Room) s m ([.int x0] : List Value).toArray below meth cx H locs 0 0 Q (F0 m 12 ls []) := by
    intro u9  σ H locs ls hw h hl
    unfold w_M_isReference_12 at hw
    refine lv_iconst (v := 1) hx hb e_M_isReference_12 (by decide) ?_
    refine lv_goto (tgt := 17) hx hb e_M_isReference_13 (by decide) ?_
    exact hend (1 : Int32) σ _ _ _ _ rfl hw h e_M_isReference_17
  have hl : lv_has ls 1 [(0, .int x0)] := hl
  unfold w_M_isReference at hw
  refine lv_iload_n hx hb e_M_isReference_0 rfl (lv_at hl 0 rfl) ?_
  refine lv_iconst (v := 5) hx hb e_M_isReference_1 (by decide) ?_
  refine lv_icmp_eq (tgt := 12) hx hb e_M_isReference_2 (by decide) (fun c1 => ?_) (fun c1 => ?_)
  · skip
    replace hw := hw.1 c1
    exact K_12 () σ _ _ _ hw h (lv_sub hl [] rfl)
  · skip
    replace hw := hw.2 c1
    refine lv_iload_n hx hb e_M_isReference_5 rfl (lv_at hl 0 rfl) ?_
    refine M_scalli (As := [.int x0]) (rest := []) C h hA (K_M_isThing l dC dI mo rf ca s.heap.size σ x0 hw) (va_cwS 1 hts (gS hsub v_19 v_20 v_7 v_21) rfl rfl rfl (by decide +kernel) ⟨(Nat.le_of_ble_eq_true rfl), (Nat.le_of_ble_eq_true rfl)⟩) rfl hl.1 (Nat.le_of_ble_eq_true rfl) e_M_isReference_6 ⟨(Nat.le_of_ble_eq_true rfl), (Nat.le_of_ble_eq_true rfl)⟩ (fun r3 σ2 H locs hw h => ?_)
    refine W.eq (g2 := F0 m 9 ls [.int r3]) rfl ?_
    refine lv_if_eq (tgt := 16) hx hb e_M_isReference_9 (by decide) (fun c4 => ?_) (fun c4 => ?_)
    · skip
      replace hw := hw.1 c4
      refine lv_iconst (v := 0) hx hb e_M_isReference_16 (by decide) ?_
      exact hend (0 : Int32) σ2 _ _ _ _ rfl hw h e_M_isReference_17
    · skip
      replace hw := hw.2 c4
      exact K_12 () σ2 _ _ _ hw h (lv_sub hl [] rfl)
abbrev z_M_popReference : MethodName := ⟨"MapFramerModel", "popReference", "()I"⟩
theorem v_117 : (Cond.methodLink "MapFramerModel" 269 ⟨"MapFramerModel", "isReference", "(I)Z"⟩ : Cond) ∈ bigW := inB_9 172 (by decide +kernel) rfl
theorem v_118 : (Cond.static ⟨"MapFramerModel", "isReference", "(I)Z"⟩ : Cond) ∈ bigW := inB_9 173 (by decide +kernel) rfl
theorem v_119 : (Cond.code ⟨"MapFramerModel", "isReference", "(I)Z"⟩ prog_14_method_37_code 1 (some .boolean) : Cond) ∈ bigW := inB_9 174 rfl rfl
theorem e_M_popReference_0 : decode prog_14_method_38_code 0 = .ok (.aload_n 0, 1) := by decide +kernel
theorem e_M_popReference_1 : decode prog_14_method_38_code 1 = .ok (.invokevirtual 256, 3) := by decide +kernel
theorem e_M_popReference_4 : decode prog_14_method_38_code 4 = .ok (.istore_n 1, 1) := by decide +kernel
theorem e_M_popReference_5 : decode prog_14_method_38_code 5 = .ok (.aload_n 0, 1) := by decide +kernel
theorem e_M_popReference_6 : decode prog_14_method_38_code 6 = .ok (.getfield 225, 3) := by decide +kernel
theorem e_M_popReference_9 : decode prog_14_method_38_code 9 = .ok (.ifCond .ne 16, 3) := by decide +kernel
theorem e_M_popReference_12 : decode prog_14_method_38_code 12 = .ok (.iload_n 1, 1) := by decide +kernel
theorem e_M_popReference_13 : decode prog_14_method_38_code 13 = .ok (.invokestatic 269, 3) := by decide +kernel
theorem e_M_popReference_16 : decode prog_14_method_38_code 16 = .ok (.ifCond .ne 9, 3) := by decide +kernel
theorem e_M_popReference_19 : decode prog_14_method_38_code 19 = .ok (.aload_n 0, 1) := by decide +kernel
theorem e_M_popReference_20 : decode prog_14_method_38_code 20 = .ok (.bipush 6, 2) := by decide +kernel
theorem e_M_popReference_22 : decode prog_14_method_38_code 22 = .ok (.invokevirtual 252, 3) := by decide +kernel
theorem e_M_popReference_25 : decode prog_14_method_38_code 25 = .ok (.iload_n 1, 1) := by decide +kernel
theorem e_M_popReference_26 : decode prog_14_method_38_code 26 = .ok (.ireturn, 1) := by decide +kernel
def w_M_popReference (σ : MST) (P : Int32 → MST → Prop) : Prop := w_M_pop σ (fun r2 σ1 => (((σ1.1 35) = 0 → w_M_isReference r2 σ1 (fun r5 σ4 => ((r5 = 0 → w_M_miss (6 : Int32) σ4 (fun σ7 => P r2 σ7)) ∧ (¬ r5 = 0 → P r2 σ4)))) ∧ (¬ (σ1.1 35) = 0 → P r2 σ1)))
set_option maxHeartbeats 4000000 in
set_option maxRecDepth 100000 in
theorem K_M_popReference (l : Launch) (dC : Nat → ClassId) (dI : Nat → Nat → Nat) (mo : Nat) (rf : Nat → Nat) (ca : Nat → ClassId) (sz : Nat) (σ : MST) {P : Int32 → MST → Prop} (hw : w_M_popReference σ P) : Met l z_M_popReference (mW z_M_popReference prog_14_method_38_code 2 (some .int)) ({ frames := 2, cells := 0, slots := 0, locals := 41 } : Room) (va_Pc [.ref mo] (MPre (dC, dI) mo rf ca σ sz)) (va_Qi P (MB (dC, dI) mo rf ca sz) (mA mo rf sz)) 0 0 (mA mo rf sz) := by
  refine M_ofi (by decide) rfl (Nat.le_of_ble_eq_true rfl) ?_
  intro p e s m below meth cx Q A ls C hA hend h hl
  have C0 := C
  obtain ⟨⟨hx, hb, hml, hown, hts⟩, hsub⟩ := C0
  have hl : lv_has ls 2 [(0, .ref mo)] := hl
  unfold w_M_popReference at hw
  refine lv_aload_n hx hb e_M_popReference_0 rfl (lv_at hl 0 rfl) ?_
  refine M_calli (As := []) (rest := []) C h hA (K_M_pop l dC dI mo rf ca s.heap.size σ hw) (cwV 0 hts (gV hsub v_104 v_105 v_106 v_7 v_107) rfl rfl rfl (by decide +kernel) ⟨(Nat.le_of_ble_eq_true rfl), (Nat.le_of_ble_eq_true rfl)⟩) rfl hl.1 (Nat.le_of_ble_eq_true rfl) e_M_popReference_1 ⟨(Nat.le_of_ble_eq_true rfl), (Nat.le_of_ble_eq_true rfl)⟩ (fun r2 σ1 H locs hw h => ?_)
  refine W.eq (g2 := F0 m 4 ls [.int r2]) rfl ?_
  refine lv_istore_n (lv' := [(1, .int r2), (0, .ref mo)]) hx hb e_M_popReference_4 rfl hl (by decide) rfl (fun ls hl => ?_)
  refine lv_aload_n hx hb e_M_popReference_5 rfl (lv_at hl 1 rfl) ?_
  refine M_get C h 35 (v := .int (σ1.1 35)) rfl (by decide) v_73 e_M_popReference_6 ?_
  refine lv_if_ne (tgt := 25) hx hb e_M_popReference_9 (by decide) (fun c3 => ?_) (fun c3 => ?_)
  · skip
    replace hw := hw.2 c3
    refine lv_iload_n hx hb e_M_popReference_25 rfl (lv_at hl 0 rfl) ?_
    exact hend r2 σ1 _ _ _ _ hw h e_M_popReference_26
  · skip
    replace hw := hw.1 c3
    refine lv_iload_n hx hb e_M_popReference_12 rfl (lv_at hl 0 rfl) ?_
    refine M_scalli (As := [.int r2]) (rest := []) C h hA (K_M_isReference l dC dI mo rf ca H.size σ1 r2 hw) (va_cwS 1 hts (gS hsub v_117 v_118 v_7 v_119) rfl rfl rfl (by decide +kernel) ⟨(Nat.le_of_ble_eq_true rfl), (Nat.le_of_ble_eq_true rfl)⟩) rfl hl.1 (Nat.le_of_ble_eq_true rfl) e_M_popReference_13 ⟨(Nat.le_of_ble_eq_true rfl), (Nat.le_of_ble_eq_true rfl)⟩ (fun r5 σ4 H locs hw h => ?_)
    refine W.eq (g2 := F0 m 16 ls [.int r5]) rfl ?_
    refine lv_if_ne (tgt := 25) hx hb e_M_popReference_16 (by decide) (fun c6 => ?_) (fun c6 => ?_)
    · skip
      replace hw := hw.2 c6
      refine lv_iload_n hx hb e_M_popReference_25 rfl (lv_at hl 0 rfl) ?_
      exact hend r2 σ4 _ _ _ _ hw h e_M_popReference_26
    · skip
      replace hw := hw.1 c6
      refine lv_aload_n hx hb e_M_popReference_19 rfl (lv_at hl 1 rfl) ?_
      refine lv_bipush (v := 6) hx hb e_M_popReference_20 (by decide) ?_
      refine M_callv (As := [.int 6]) (rest := []) C h hA (K_M_miss l dC dI mo rf ca H.size σ4 (6 : Int32) hw) (cwV 1 hts (gV hsub v_100 v_101 v_102 v_7 v_103) rfl rfl rfl (by decide +kernel) ⟨(Nat.le_of_ble_eq_true rfl), (Nat.le_of_ble_eq_true rfl)⟩) rfl hl.1 (Nat.le_of_ble_eq_true rfl) e_M_popReference_22 ⟨(Nat.le_of_ble_eq_true rfl), (Nat.le_of_ble_eq_true rfl)⟩ (fun σ7 H locs hw h => ?_)
      refine W.eq (g2 := F0 m 25 ls []) rfl ?_
      refine lv_iload_n hx hb e_M_popReference_25 rfl (lv_at hl 0 rfl) ?_
      exact hend r2 σ7 _ _ _ _ hw h e_M_popReference_26
abbrev z_M_popOne : MethodName := ⟨"MapFramerModel", "popOne", "()I"⟩
theorem e_M_popOne_0 : decode prog_14_method_39_code 0 = .ok (.aload_n 0, 1) := by decide +kernel
theorem e_M_popOne_1 : decode prog_14_method_39_code 1 = .ok (.invokevirtual 256, 3) := by decide +kernel
theorem e_M_popOne_4 : decode prog_14_method_39_code 4 = .ok (.istore_n 1, 1) := by decide +kernel
theorem e_M_popOne_5 : decode prog_14_method_39_code 5 = .ok (.aload_n 0, 1) := by decide +kernel
theorem e_M_popOne_6 : decode prog_14_method_39_code 6 = .ok (.getfield 225, 3) := by decide +kernel
theorem e_M_popOne_9 : decode prog_14_method_39_code 9 = .ok (.ifCond .ne 14, 3) := by decide +kernel
theorem e_M_popOne_12 : decode prog_14_method_39_code 12 = .ok (.iload_n 1, 1) := by decide +kernel
theorem e_M_popOne_13 : decode prog_14_method_39_code 13 = .ok (.iconst 2, 1) := by decide +kernel
theorem e_M_popOne_14 : decode prog_14_method_39_code 14 = .ok (.if_icmp .ne 9, 3) := by decide +kernel
theorem e_M_popOne_17 : decode prog_14_method_39_code 17 = .ok (.aload_n 0, 1) := by decide +kernel
theorem e_M_popOne_18 : decode prog_14_method_39_code 18 = .ok (.bipush 6, 2) := by decide +kernel
theorem e_M_popOne_20 : decode prog_14_method_39_code 20 = .ok (.invokevirtual 252, 3) := by decide +kernel
theorem e_M_popOne_23 : decode prog_14_method_39_code 23 = .ok (.iload_n 1, 1) := by decide +kernel
theorem e_M_popOne_24 : decode prog_14_method_39_code 24 = .ok (.ireturn, 1) := by decide +kernel
def w_M_popOne (σ : MST) (P : Int32 → MST → Prop) : Prop := w_M_pop σ (fun r2 σ1 => (((σ1.1 35) = 0 → ((r2 = 2 → w_M_miss (6 : Int32) σ1 (fun σ5 => P r2 σ5)) ∧ (¬ r2 = 2 → P r2 σ1))) ∧ (¬ (σ1.1 35) = 0 → P r2 σ1)))
set_option maxHeartbeats 4000000 in
set_option maxRecDepth 100000 in
theorem K_M_popOne (l : Launch) (dC : Nat → ClassId) (dI : Nat → Nat → Nat) (mo : Nat) (rf : Nat → Nat) (ca : Nat → ClassId) (sz : Nat) (σ : MST) {P : Int32 → MST → Prop} (hw : w_M_popOne σ P) : Met l z_M_popOne (mW z_M_popOne prog_14_method_39_code 2 (some .int)) ({ frames := 2, cells := 0, slots := 0, locals := 41 } : Room) (va_Pc [.ref mo] (MPre (dC, dI) mo rf ca σ sz)) (va_Qi P (MB (dC, dI) mo rf ca sz) (mA mo rf sz)) 0 0 (mA mo rf sz) := by
  refine M_ofi (by decide) rfl (Nat.le_of_ble_eq_true rfl) ?_
  intro p e s m below meth cx Q A ls C hA hend h hl
  have C0 := C
  obtain ⟨⟨hx, hb, hml, hown, hts⟩, hsub⟩ := C0
  have hl : lv_has ls 2 [(0, .ref mo)] := hl
  unfold w_M_popOne at hw
  refine lv_aload_n hx hb e_M_popOne_0 rfl (lv_at hl 0 rfl) ?_
  refine M_calli (As := []) (rest := []) C h hA (K_M_pop l dC dI mo rf ca s.heap.size σ hw) (cwV 0 hts (gV hsub v_104 v_105 v_106 v_7 v_107) rfl rfl rfl (by decide +kernel) ⟨(Nat.le_of_ble_eq_true rfl), (Nat.le_of_ble_eq_true rfl)⟩) rfl hl.1 (Nat.le_of_ble_eq_true rfl) e_M_popOne_1 ⟨(Nat.le_of_ble_eq_true rfl), (Nat.le_of_ble_eq_true rfl)⟩ (fun r2 σ1 H locs hw h => ?_)
  refine W.eq (g2 := F0 m 4 ls [.int r2]) rfl ?_
  refine lv_istore_n (lv' := [(1, .int r2), (0, .ref mo)]) hx hb e_M_popOne_4 rfl hl (by decide) rfl (fun ls hl => ?_)
  refine lv_aload_n hx hb e_M_popOne_5 rfl (lv_at hl 1 rfl) ?_
  refine M_get C h 35 (v := .int (σ1.1 35)) rfl (by decide) v_73 e_M_popOne_6 ?_
  refine lv_if_ne (tgt := 23) hx hb e_M_popOne_9 (by decide) (fun c3 => ?_) (fun c3 => ?_)
  · skip
    replace hw := hw.2 c3
    refine lv_iload_n hx hb e_M_popOne_23 rfl (lv_at hl 0 rfl) ?_
    exact hend r2 σ1 _ _ _ _ hw h e_M_popOne_24
  · skip
    replace hw := hw.1 c3
    refine lv_iload_n hx hb e_M_popOne_12 rfl (lv_at hl 0 rfl) ?_
    refine lv_iconst (v := 2) hx hb e_M_popOne_13 (by decide) ?_
    refine lv_icmp_ne (tgt := 23) hx hb e_M_popOne_14 (by decide) (fun c4 => ?_) (fun c4 => ?_)
    · skip
      replace hw := hw.2 c4
      refine lv_iload_n hx hb e_M_popOne_23 rfl (lv_at hl 0 rfl) ?_
      exact hend r2 σ1 _ _ _ _ hw h e_M_popOne_24
    · skip
      replace hw := hw.1 c4
      refine lv_aload_n hx hb e_M_popOne_17 rfl (lv_at hl 1 rfl) ?_
      refine lv_bipush (v := 6) hx hb e_M_popOne_18 (by decide) ?_
      refine M_callv (As := [.int 6]) (rest := []) C h hA (K_M_miss l dC dI mo rf ca H.size σ1 (6 : Int32) hw) (cwV 1 hts (gV hsub v_100 v_101 v_102 v_7 v_103) rfl rfl rfl (by decide +kernel) ⟨(Nat.le_of_ble_eq_true rfl), (Nat.le_of_ble_eq_true rfl)⟩) rfl hl.1 (Nat.le_of_ble_eq_true rfl) e_M_popOne_20 ⟨(Nat.le_of_ble_eq_true rfl), (Nat.le_of_ble_eq_true rfl)⟩ (fun σ5 H locs hw h => ?_)
      refine W.eq (g2 := F0 m 23 ls []) rfl ?_
      refine lv_iload_n hx hb e_M_popOne_23 rfl (lv_at hl 0 rfl) ?_
      exact hend r2 σ5 _ _ _ _ hw h e_M_popOne_24
abbrev z_M_put : MethodName := ⟨"MapFramerModel", "put", "(II)V"⟩
theorem v_120 : (Cond.fieldLink "MapFramerModel" 99 "MapFramerModel" "local" "[I" : Cond) ∈ bigW := inB_8 98 (by decide +kernel) rfl
theorem e_M_put_0 : decode prog_14_method_40_code 0 = .ok (.aload_n 0, 1) := by decide +kernel
theorem e_M_put_1 : decode prog_14_method_40_code 1 = .ok (.getfield 225, 3) := by decide +kernel
theorem e_M_put_4 : decode prog_14_method_40_code 4 = .ok (.ifCond .le 4, 3) := by decide +kernel
theorem e_M_put_7 : decode prog_14_method_40_code 7 = .ok (.return_, 1) := by decide +kernel
theorem e_M_put_8 : decode prog_14_method_40_code 8 = .ok (.iload_n 1, 1) := by decide +kernel
theorem e_M_put_9 : decode prog_14_method_40_code 9 = .ok (.ifCond .le 24, 3) := by decide +kernel
theorem e_M_put_12 : decode prog_14_method_40_code 12 = .ok (.aload_n 0, 1) := by decide +kernel
theorem e_M_put_13 : decode prog_14_method_40_code 13 = .ok (.getfield 99, 3) := by decide +kernel
theorem e_M_put_16 : decode prog_14_method_40_code 16 = .ok (.iload_n 1, 1) := by decide +kernel
theorem e_M_put_17 : decode prog_14_method_40_code 17 = .ok (.iconst 1, 1) := by decide +kernel
theorem e_M_put_18 : decode prog_14_method_40_code 18 = .ok (.isub, 1) := by decide +kernel
theorem e_M_put_19 : decode prog_14_method_40_code 19 = .ok (.iaload, 1) := by decide +kernel
theorem e_M_put_20 : decode prog_14_method_40_code 20 = .ok (.iconst 2, 1) := by decide +kernel
theorem e_M_put_21 : decode prog_14_method_40_code 21 = .ok (.if_icmp .ne 12, 3) := by decide +kernel
theorem e_M_put_24 : decode prog_14_method_40_code 24 = .ok (.aload_n 0, 1) := by decide +kernel
theorem e_M_put_25 : decode prog_14_method_40_code 25 = .ok (.getfield 99, 3) := by decide +kernel
theorem e_M_put_28 : decode prog_14_method_40_code 28 = .ok (.iload_n 1, 1) := by decide +kernel
theorem e_M_put_29 : decode prog_14_method_40_code 29 = .ok (.iconst 1, 1) := by decide +kernel
theorem e_M_put_30 : decode prog_14_method_40_code 30 = .ok (.isub, 1) := by decide +kernel
theorem e_M_put_31 : decode prog_14_method_40_code 31 = .ok (.iconst 0, 1) := by decide +kernel
theorem e_M_put_32 : decode prog_14_method_40_code 32 = .ok (.iastore, 1) := by decide +kernel
theorem e_M_put_33 : decode prog_14_method_40_code 33 = .ok (.aload_n 0, 1) := by decide +kernel
theorem e_M_put_34 : decode prog_14_method_40_code 34 = .ok (.getfield 99, 3) := by decide +kernel
theorem e_M_put_37 : decode prog_14_method_40_code 37 = .ok (.iload_n 1, 1) := by decide +kernel
theorem e_M_put_38 : decode prog_14_method_40_code 38 = .ok (.iload_n 2, 1) := by decide +kernel
theorem e_M_put_39 : decode prog_14_method_40_code 39 = .ok (.iastore, 1) := by decide +kernel
theorem e_M_put_40 : decode prog_14_method_40_code 40 = .ok (.iload_n 2, 1) := by decide +kernel
theorem e_M_put_41 : decode prog_14_method_40_code 41 = .ok (.iconst 2, 1) := by decide +kernel
theorem e_M_put_42 : decode prog_14_method_40_code 42 = .ok (.if_icmp .ne 12, 3) := by decide +kernel
theorem e_M_put_45 : decode prog_14_method_40_code 45 = .ok (.aload_n 0, 1) := by decide +kernel
theorem e_M_put_46 : decode prog_14_method_40_code 46 = .ok (.getfield 99, 3) := by decide +kernel
theorem e_M_put_49 : decode prog_14_method_40_code 49 = .ok (.iload_n 1, 1) := by decide +kernel
theorem e_M_put_50 : decode prog_14_method_40_code 50 = .ok (.iconst 1, 1) := by decide +kernel
theorem e_M_put_51 : decode prog_14_method_40_code 51 = .ok (.iadd, 1) := by decide +kernel
theorem e_M_put_52 : decode prog_14_method_40_code 52 = .ok (.iconst 0, 1) := by decide +kernel
theorem e_M_put_53 : decode prog_14_method_40_code 53 = .ok (.iastore, 1) := by decide +kernel
theorem e_M_put_54 : decode prog_14_method_40_code 54 = .ok (.return_, 1) := by decide +kernel
def w_M_put_33 (P : MST → Prop) (z1 : Int32) (z2 : Int32) (σ : MST) : Prop := vp_in z1 13 ∧ (∀ σ1 : MST, σ1 = setA σ 37 (upd (σ.2.1 37) (z1 : Int32).toNatClampNeg z2) → ((z2 = 2 → vp_in (z1 + 1) 13 ∧ (∀ σ3 : MST, σ3 = setA σ1 37 (upd (σ1.2.1 37) ((z1 + 1) : Int32).toNatClampNeg 0) → P σ3)) ∧ (¬ z2 = 2 → P σ1)))
def w_M_put (x1 : Int32) (x2 : Int32) (σ : MST) (P : MST → Prop) : Prop := (((σ.1 35) ≤ 0 → ((x1 ≤ 0 → w_M_put_33 P x1 x2 σ) ∧ (¬ x1 ≤ 0 → vp_in (x1 - 1) 13 ∧ (∀ a6 : Int32, a6 = (σ.2.1 37 ((x1 - 1) : Int32).toNatClampNeg) → ((a6 = 2 → vp_in (x1 - 1) 13 ∧ (∀ σ8 : MST, σ8 = setA σ 37 (upd (σ.2.1 37) ((x1 - 1) : Int32).toNatClampNeg 0) → w_M_put_33 P x1 x2 σ8)) ∧ (¬ a6 = 2 → w_M_put_33 P x1 x2 σ)))))) ∧ (¬ (σ.1 35) ≤ 0 → P σ))
set_option maxHeartbeats 4000000 in
set_option maxRecDepth 100000 in
theorem K_M_put (l : Launch) (dC : Nat → ClassId) (dI : Nat → Nat → Nat) (mo : Nat) (rf : Nat → Nat) (ca : Nat → ClassId) (sz : Nat) (σ : MST) (x1 : Int32) (x2 : Int32) {P : MST → Prop} (hw : w_M_put x1 x2 σ P) : Met l z_M_put (mW z_M_put prog_14_method_40_code 3 none) ({ frames := 0, cells := 0, slots := 0, locals := 0 } : Room) (va_Pc [.ref mo, .int x1, .int x2] (MPre (dC, dI) mo rf ca σ sz)) (va_Qv P (MB (dC, dI) mo rf ca sz) (mA mo rf sz)) 0 0 (mA mo rf sz) := by
  refine M_ofv (by decide) rfl (Nat.le_of_ble_eq_true rfl) ?_
  intro p e s m below meth cx Q A ls C hA hend h hl
  have C0 := C
  obtain ⟨⟨hx, hb, hml, hown, hts⟩, hsub⟩ := C0
  have K_33 : ∀ (u9 : Unit), ∀ (z1 : Int32) (z2 : Int32) (σ : MST) (H : Heap) (locs : List Loc) (ls : Array Slot), w_M_put_33 P z1 z2 σ → MH (dC, dI) A mo rf ca σ s H locs → lv_has ls 3 [(0, .ref mo), (1, .int z1), (2, .int z2)] → W p l e ({ frames := 0, cells := 0, slots := 0, locals := 0 } : Room) s m ([.ref mo, .int x1, .int x2] : List Value).toArray below meth cx H locs 0 0 Q (F0 m 33 ls []) := by
    intro u9 z1 z2 σ H locs ls hw h hl
    unfold w_M_put_33 at hw
    refine lv_aload_n hx hb e_M_put_33 rfl (lv_at hl 0 rfl) ?_
    refine M_get C h 37 (v := .ref (rf 37)) rfl (by decide) v_120 e_M_put_34 ?_
    refine lv_iload_n hx hb e_M_put_37 rfl (lv_at hl 1 rfl) ?_
    refine lv_iload_n hx hb e_M_put_38 rfl (lv_at hl 2 rfl) ?_
    refine M_ast C h 37 (by decide) rfl hw.1 e_M_put_39 (fun H locs h => ?_)
    replace hw := hw.2
    obtain ⟨σ1, e_σ1⟩ : ∃ z : MST, z = setA σ 37 (upd (σ.2.1 37) (z1 : Int32).toNatClampNeg z2) := ⟨_, rfl⟩
    rw [← e_σ1] at h
    replace hw := hw σ1 e_σ1
    refine lv_iload_n hx hb e_M_put_40 rfl (lv_at hl 2 rfl) ?_
    refine lv_iconst (v := 2) hx hb e_M_put_41 (by decide) ?_
    refine lv_icmp_ne (tgt := 54) hx hb e_M_put_42 (by decide) (fun c2 => ?_) (fun c2 => ?_)
    · skip
      replace hw := hw.2 c2
      exact hend σ1 _ _ _ _ hw h e_M_put_54
    · skip
      replace hw := hw.1 c2
      refine lv_aload_n hx hb e_M_put_45 rfl (lv_at hl 0 rfl) ?_
      refine M_get C h 37 (v := .ref (rf 37)) rfl (by decide) v_120 e_M_put_46 ?_
      refine lv_iload_n hx hb e_M_put_49 rfl (lv_at hl 1 rfl) ?_
      refine lv_iconst (v := 1) hx hb e_M_put_50 (by decide) ?_
      refine lv_iadd hx hb e_M_put_51 ?_
      refine lv_iconst (v := 0) hx hb e_M_put_52 (by decide) ?_
      refine M_ast C h 37 (by decide) rfl hw.1 e_M_put_53 (fun H locs h => ?_)
      replace hw := hw.2
      obtain ⟨σ3, e_σ3⟩ : ∃ z : MST, z = setA σ1 37 (upd (σ1.2.1 37) ((z1 + 1) : Int32).toNatClampNeg 0) := ⟨_, rfl⟩
      rw [← e_σ3] at h
      replace hw := hw σ3 e_σ3
      exact hend σ3 _ _ _ _ hw h e_M_put_54
  have hl : lv_has ls 3 [(0, .ref mo), (1, .int x1), (2, .int x2)] := hl
  unfold w_M_put at hw
  refine lv_aload_n hx hb e_M_put_0 rfl (lv_at hl 0 rfl) ?_
  refine M_get C h 35 (v := .int (σ.1 35)) rfl (by decide) v_73 e_M_put_1 ?_
  refine lv_if_le (tgt := 8) hx hb e_M_put_4 (by decide) (fun c4 => ?_) (fun c4 => ?_)
  · skip
    replace hw := hw.1 c4
    refine lv_iload_n hx hb e_M_put_8 rfl (lv_at hl 1 rfl) ?_
    refine lv_if_le (tgt := 33) hx hb e_M_put_9 (by decide) (fun c5 => ?_) (fun c5 => ?_)
    · skip
      replace hw := hw.1 c5
      exact K_33 () x1 x2 σ _ _ _ hw h (lv_sub hl [0, 1, 2] rfl)
    · skip
      replace hw := hw.2 c5
      refine lv_aload_n hx hb e_M_put_12 rfl (lv_at hl 0 rfl) ?_
      refine M_get C h 37 (v := .ref (rf 37)) rfl (by decide) v_120 e_M_put_13 ?_
      refine lv_iload_n hx hb e_M_put_16 rfl (lv_at hl 1 rfl) ?_
      refine lv_iconst (v := 1) hx hb e_M_put_17 (by decide) ?_
      refine lv_isub hx hb e_M_put_18 ?_
      refine M_ald C h 37 (by decide) rfl hw.1 e_M_put_19 ?_
      replace hw := hw.2
      refine lv_topi (fun a6 e_a6 => ?_)
      replace hw := hw a6 e_a6
      refine lv_iconst (v := 2) hx hb e_M_put_20 (by decide) ?_
      refine lv_icmp_ne (tgt := 33) hx hb e_M_put_21 (by decide) (fun c7 => ?_) (fun c7 => ?_)
      · skip
        replace hw := hw.2 c7
        exact K_33 () x1 x2 σ _ _ _ hw h (lv_sub hl [0, 1, 2] rfl)
      · skip
        replace hw := hw.1 c7
        refine lv_aload_n hx hb e_M_put_24 rfl (lv_at hl 0 rfl) ?_
        refine M_get C h 37 (v := .ref (rf 37)) rfl (by decide) v_120 e_M_put_25 ?_
        refine lv_iload_n hx hb e_M_put_28 rfl (lv_at hl 1 rfl) ?_
        refine lv_iconst (v := 1) hx hb e_M_put_29 (by decide) ?_
        refine lv_isub hx hb e_M_put_30 ?_
        refine lv_iconst (v := 0) hx hb e_M_put_31 (by decide) ?_
        refine M_ast C h 37 (by decide) rfl hw.1 e_M_put_32 (fun H locs h => ?_)
        replace hw := hw.2
        obtain ⟨σ8, e_σ8⟩ : ∃ z : MST, z = setA σ 37 (upd (σ.2.1 37) ((x1 - 1) : Int32).toNatClampNeg 0) := ⟨_, rfl⟩
        rw [← e_σ8] at h
        replace hw := hw σ8 e_σ8
        exact K_33 () x1 x2 σ8 _ _ _ hw h (lv_sub hl [0, 1, 2] rfl)
  · skip
    replace hw := hw.2 c4
    exact hend σ _ _ _ _ hw h e_M_put_7
abbrev z_M_load : MethodName := ⟨"MapFramerModel", "load", "(II)V"⟩
theorem v_121 : (Cond.methodLink "MapFramerModel" 272 ⟨"MapFramerModel", "push", "(I)V"⟩ : Cond) ∈ bigW := inB_9 156 (by decide +kernel) rfl
theorem v_122 : (Cond.instanceMethod ⟨"MapFramerModel", "push", "(I)V"⟩ : Cond) ∈ bigW := inB_9 158 (by decide +kernel) rfl
theorem v_123 : (Cond.selects "MapFramerModel" ⟨"MapFramerModel", "push", "(I)V"⟩ ⟨"MapFramerModel", "push", "(I)V"⟩ : Cond) ∈ bigW := inS (y := ⟨"MapFramerModel", "push", "(I)V"⟩) (n := 71) (List.mem_of_getElem? (i := 96) (by decide +kernel))
theorem v_124 : (Cond.code ⟨"MapFramerModel", "push", "(I)V"⟩ prog_14_method_36_code 2 none : Cond) ∈ bigW := inB_9 159 rfl rfl
theorem e_M_load_0 : decode prog_14_method_41_code 0 = .ok (.aload_n 0, 1) := by decide +kernel
theorem e_M_load_1 : decode prog_14_method_41_code 1 = .ok (.getfield 99, 3) := by decide +kernel
theorem e_M_load_4 : decode prog_14_method_41_code 4 = .ok (.iload_n 2, 1) := by decide +kernel
theorem e_M_load_5 : decode prog_14_method_41_code 5 = .ok (.iaload, 1) := by decide +kernel
theorem e_M_load_6 : decode prog_14_method_41_code 6 = .ok (.istore_n 3, 1) := by decide +kernel
theorem e_M_load_7 : decode prog_14_method_41_code 7 = .ok (.iload_n 1, 1) := by decide +kernel
theorem e_M_load_8 : decode prog_14_method_41_code 8 = .ok (.bipush 21, 2) := by decide +kernel
theorem e_M_load_10 : decode prog_14_method_41_code 10 = .ok (.if_icmp .ne 16, 3) := by decide +kernel
theorem e_M_load_13 : decode prog_14_method_41_code 13 = .ok (.iload_n 3, 1) := by decide +kernel
theorem e_M_load_14 : decode prog_14_method_41_code 14 = .ok (.iconst 1, 1) := by decide +kernel
theorem e_M_load_15 : decode prog_14_method_41_code 15 = .ok (.if_icmp .ne 7, 3) := by decide +kernel
theorem e_M_load_18 : decode prog_14_method_41_code 18 = .ok (.iconst 1, 1) := by decide +kernel
theorem e_M_load_19 : decode prog_14_method_41_code 19 = .ok (.goto 45, 3) := by decide +kernel
theorem e_M_load_22 : decode prog_14_method_41_code 22 = .ok (.iconst 0, 1) := by decide +kernel
theorem e_M_load_23 : decode prog_14_method_41_code 23 = .ok (.goto 41, 3) := by decide +kernel
theorem e_M_load_26 : decode prog_14_method_41_code 26 = .ok (.iload_n 1, 1) := by decide +kernel
theorem e_M_load_27 : decode prog_14_method_41_code 27 = .ok (.bipush 22, 2) := by decide +kernel
theorem e_M_load_29 : decode prog_14_method_41_code 29 = .ok (.if_icmp .ne 16, 3) := by decide +kernel
theorem e_M_load_32 : decode prog_14_method_41_code 32 = .ok (.iload_n 3, 1) := by decide +kernel
theorem e_M_load_33 : decode prog_14_method_41_code 33 = .ok (.iconst 2, 1) := by decide +kernel
theorem e_M_load_34 : decode prog_14_method_41_code 34 = .ok (.if_icmp .ne 7, 3) := by decide +kernel
theorem e_M_load_37 : decode prog_14_method_41_code 37 = .ok (.iconst 1, 1) := by decide +kernel
theorem e_M_load_38 : decode prog_14_method_41_code 38 = .ok (.goto 26, 3) := by decide +kernel
theorem e_M_load_41 : decode prog_14_method_41_code 41 = .ok (.iconst 0, 1) := by decide +kernel
theorem e_M_load_42 : decode prog_14_method_41_code 42 = .ok (.goto 22, 3) := by decide +kernel
theorem e_M_load_45 : decode prog_14_method_41_code 45 = .ok (.iload_n 3, 1) := by decide +kernel
theorem e_M_load_46 : decode prog_14_method_41_code 46 = .ok (.invokestatic 269, 3) := by decide +kernel
theorem e_M_load_49 : decode prog_14_method_41_code 49 = .ok (.ifCond .ne 10, 3) := by decide +kernel
theorem e_M_load_52 : decode prog_14_method_41_code 52 = .ok (.iload_n 3, 1) := by decide +kernel
theorem e_M_load_53 : decode prog_14_method_41_code 53 = .ok (.sipush 1000, 3) := by decide +kernel
theorem e_M_load_56 : decode prog_14_method_41_code 56 = .ok (.if_icmp .lt 7, 3) := by decide +kernel
theorem e_M_load_59 : decode prog_14_method_41_code 59 = .ok (.iconst 1, 1) := by decide +kernel
theorem e_M_load_60 : decode prog_14_method_41_code 60 = .ok (.goto 4, 3) := by decide +kernel
theorem e_M_load_63 : decode prog_14_method_41_code 63 = .ok (.iconst 0, 1) := by decide +kernel
theorem e_M_load_64 : decode prog_14_method_41_code 64 = .ok (.istore 4, 2) := by decide +kernel
theorem e_M_load_66 : decode prog_14_method_41_code 66 = .ok (.iload 4, 2) := by decide +kernel
theorem e_M_load_68 : decode prog_14_method_41_code 68 = .ok (.ifCond .ne 9, 3) := by decide +kernel
theorem e_M_load_71 : decode prog_14_method_41_code 71 = .ok (.aload_n 0, 1) := by decide +kernel
theorem e_M_load_72 : decode prog_14_method_41_code 72 = .ok (.bipush 6, 2) := by decide +kernel
theorem e_M_load_74 : decode prog_14_method_41_code 74 = .ok (.invokevirtual 252, 3) := by decide +kernel
theorem e_M_load_77 : decode prog_14_method_41_code 77 = .ok (.aload_n 0, 1) := by decide +kernel
theorem e_M_load_78 : decode prog_14_method_41_code 78 = .ok (.iload_n 3, 1) := by decide +kernel
theorem e_M_load_79 : decode prog_14_method_41_code 79 = .ok (.invokevirtual 272, 3) := by decide +kernel
theorem e_M_load_82 : decode prog_14_method_41_code 82 = .ok (.return_, 1) := by decide +kernel
def w_M_load_77 (P : MST → Prop) (z3 : Int32) (σ : MST) : Prop := w_M_push z3 σ (fun σ1 => P σ1)
def w_M_load_64 (P : MST → Prop) (z3 : Int32) (s0 : Int32) (σ : MST) : Prop := ((s0 = 0 → w_M_miss (6 : Int32) σ (fun σ4 => w_M_load_77 P z3 σ4)) ∧ (¬ s0 = 0 → w_M_load_77 P z3 σ))
def w_M_load_59 (P : MST → Prop) (z3 : Int32) (σ : MST) : Prop := w_M_load_64 P z3 1 σ
def w_M_load (x1 : Int32) (x2 : Int32) (σ : MST) (P : MST → Prop) : Prop := vp_in x2 13 ∧ (∀ a6 : Int32, a6 = (σ.2.1 37 (x2 : Int32).toNatClampNeg) → ((x1 = 21 → ((a6 = 1 → w_M_load_64 P a6 1 σ) ∧ (¬ a6 = 1 → w_M_load_64 P a6 0 σ))) ∧ (¬ x1 = 21 → ((x1 = 22 → ((a6 = 2 → w_M_load_64 P a6 1 σ) ∧ (¬ a6 = 2 → w_M_load_64 P a6 0 σ))) ∧ (¬ x1 = 22 → w_M_isReference a6 σ (fun r10 σ9 => ((r10 = 0 → ((a6 < 1000 → w_M_load_64 P a6 0 σ9) ∧ (¬ a6 < 1000 → w_M_load_59 P a6 σ9))) ∧ (¬ r10 = 0 → w_M_load_59 P a6 σ9))))))))
set_option maxHeartbeats 4000000 in
set_option maxRecDepth 100000 in
theorem K_M_load (l : Launch) (dC : Nat → ClassId) (dI : Nat → Nat → Nat) (mo : Nat) (rf : Nat → Nat) (ca : Nat → ClassId) (sz : Nat) (σ : MST) (x1 : Int32) (x2 : Int32) {P : MST → Prop} (hw : w_M_load x1 x2 σ P) : Met l z_M_load (mW z_M_load prog_14_method_41_code 5 none) ({ frames := 2, cells := 0, slots := 0, locals := 43 } : Room) (va_Pc [.ref mo, .int x1, .int x2] (MPre (dC, dI) mo rf ca σ sz)) (va_Qv P (MB (dC, dI) mo rf ca sz) (mA mo rf sz)) 0 0 (mA mo rf sz) := by
  refine M_ofv (by decide) rfl (Nat.le_of_ble_eq_true rfl) ?_
  intro p e s m below meth cx Q A ls C hA hend h hl
  have C0 := C
  obtain ⟨⟨hx, hb, hml, hown, hts⟩, hsub⟩ := C0
  have K_77 : ∀ (u9 : Unit), ∀ (z3 : Int32) (σ : MST) (H : Heap) (locs : List Loc) (ls : Array Slot), w_M_load_77 P z3 σ → MH (dC, dI) A mo rf ca σ s H locs → lv_has ls 5 [(0, .ref mo), (3, .int z3)] → W p l e ({ frames := 2, cells := 0, slots := 0, locals := 43 } : Room) s m ([.ref mo, .int x1, .int x2] : List Value).toArray below meth cx H locs 0 0 Q (F0 m 77 ls []) := by
    intro u9 z3 σ H locs ls hw h hl
    unfold w_M_load_77 at hw
    refine lv_aload_n hx hb e_M_load_77 rfl (lv_at hl 0 rfl) ?_
    refine lv_iload_n hx hb e_M_load_78 rfl (lv_at hl 1 rfl) ?_
    refine M_callv (As := [.int z3]) (rest := []) C h hA (K_M_push l dC dI mo rf ca H.size σ z3 hw) (cwV 1 hts (gV hsub v_121 v_122 v_123 v_7 v_124) rfl rfl rfl (by decide +kernel) ⟨(Nat.le_of_ble_eq_true rfl), (Nat.le_of_ble_eq_true rfl)⟩) rfl hl.1 (Nat.le_of_ble_eq_true rfl) e_M_load_79 ⟨(Nat.le_of_ble_eq_true rfl), (Nat.le_of_ble_eq_true rfl)⟩ (fun σ1 H locs hw h => ?_)
    refine W.eq (g2 := F0 m 82 ls []) rfl ?_
    exact hend σ1 _ _ _ _ hw h e_M_load_82
  have K_64 : ∀ (u9 : Unit), ∀ (z3 : Int32) (s0 : Int32) (σ : MST) (H : Heap) (locs : List Loc) (ls : Array Slot), w_M_load_64 P z3 s0 σ → MH (dC, dI) A mo rf ca σ s H locs → lv_has ls 5 [(0, .ref mo), (3, .int z3)] → W p l e ({ frames := 2, cells := 0, slots := 0, locals := 43 } : Room) s m ([.ref mo, .int x1, .int x2] : List Value).toArray below meth cx H locs 0 0 Q (F0 m 64 ls [.int s0]) := by
    intro u9 z3 s0 σ H locs ls hw h hl
    unfold w_M_load_64 at hw
    refine lv_istore (lv' := [(4, .int s0), (0, .ref mo), (3, .int z3)]) hx hb e_M_load_64 hl (by decide) rfl (fun ls hl => ?_)
    refine lv_iload hx hb e_M_load_66 (lv_at hl 0 rfl) ?_
    refine lv_if_ne (tgt := 77) hx hb e_M_load_68 (by decide) (fun c3 => ?_) (fun c3 => ?_)
    · skip
      replace hw := hw.2 c3
      exact K_77 () z3 σ _ _ _ hw h (lv_sub hl [1, 2] rfl)
    · skip
      replace hw := hw.1 c3
      refine lv_aload_n hx hb e_M_load_71 rfl (lv_at hl 1 rfl) ?_
      refine lv_bipush (v := 6) hx hb e_M_load_72 (by decide) ?_
      refine M_callv (As := [.int 6]) (rest := []) C h hA (K_M_miss l dC dI mo rf ca H.size σ (6 : Int32) hw) (cwV 1 hts (gV hsub v_100 v_101 v_102 v_7 v_103) rfl rfl rfl (by decide +kernel) ⟨(Nat.le_of_ble_eq_true rfl), (Nat.le_of_ble_eq_true rfl)⟩) rfl hl.1 (Nat.le_of_ble_eq_true rfl) e_M_load_74 ⟨(Nat.le_of_ble_eq_true rfl), (Nat.le_of_ble_eq_true rfl)⟩ (fun σ4 H locs hw h => ?_)
      refine W.eq (g2 := F0 m 77 ls []) rfl ?_
      exact K_77 () z3 σ4 _ _ _ hw h (lv_sub hl [1, 2] rfl)
  have K_59 : ∀ (u9 : Unit), ∀ (z3 : Int32) (σ : MST) (H : Heap) (locs : List Loc) (ls : Array Slot), w_M_load_59 P z3 σ → MH (dC, dI) A mo rf ca σ s H locs → lv_has ls 5 [(0, .ref mo), (3, .int z3)] → W p l e ({ frames := 2, cells := 0, slots := 0, locals := 43 } : Room) s m ([.ref mo, .int x1, .int x2] : List Value).toArray below meth cx H locs 0 0 Q (F0 m 59 ls []) := by
    intro u9 z3 σ H locs ls hw h hl
    unfold w_M_load_59 at hw
    refine lv_iconst (v := 1) hx hb e_M_load_59 (by decide) ?_
    refine lv_goto (tgt := 64) hx hb e_M_load_60 (by decide) ?_
    exact K_64 () z3 1 σ _ _ _ hw h (lv_sub hl [0, 1] rfl)
  have hl : lv_has ls 5 [(0, .ref mo), (1, .int x1), (2, .int x2)] := hl
  unfold w_M_load at hw
  refine lv_aload_n hx hb e_M_load_0 rfl (lv_at hl 0 rfl) ?_
  refine M_get C h 37 (v := .ref (rf 37)) rfl (by decide) v_120 e_M_load_1 ?_
  refine lv_iload_n hx hb e_M_load_4 rfl (lv_at hl 2 rfl) ?_
  refine M_ald C h 37 (by decide) rfl hw.1 e_M_load_5 ?_
  replace hw := hw.2
  refine lv_topi (fun a6 e_a6 => ?_)
  replace hw := hw a6 e_a6
  refine lv_istore_n (lv' := [(3, .int a6), (0, .ref mo), (1, .int x1), (2, .int x2)]) hx hb e_M_load_6 rfl hl (by decide) rfl (fun ls hl => ?_)
  refine lv_iload_n hx hb e_M_load_7 rfl (lv_at hl 2 rfl) ?_
  refine lv_bipush (v := 21) hx hb e_M_load_8 (by decide) ?_
  refine lv_icmp_ne (tgt := 26) hx hb e_M_load_10 (by decide) (fun c7 => ?_) (fun c7 => ?_)
  · skip
    replace hw := hw.2 c7
    refine lv_iload_n hx hb e_M_load_26 rfl (lv_at hl 2 rfl) ?_
    refine lv_bipush (v := 22) hx hb e_M_load_27 (by decide) ?_
    refine lv_icmp_ne (tgt := 45) hx hb e_M_load_29 (by decide) (fun c8 => ?_) (fun c8 => ?_)
    · skip
      replace hw := hw.2 c8
      refine lv_iload_n hx hb e_M_load_45 rfl (lv_at hl 0 rfl) ?_
      refine M_scalli (As := [.int a6]) (rest := []) C h hA (K_M_isReference l dC dI mo rf ca s.heap.size σ a6 hw) (va_cwS 1 hts (gS hsub v_117 v_118 v_7 v_119) rfl rfl rfl (by decide +kernel) ⟨(Nat.le_of_ble_eq_true rfl), (Nat.le_of_ble_eq_true rfl)⟩) rfl hl.1 (Nat.le_of_ble_eq_true rfl) e_M_load_46 ⟨(Nat.le_of_ble_eq_true rfl), (Nat.le_of_ble_eq_true rfl)⟩ (fun r10 σ9 H locs hw h => ?_)
      refine W.eq (g2 := F0 m 49 ls [.int r10]) rfl ?_
      refine lv_if_ne (tgt := 59) hx hb e_M_load_49 (by decide) (fun c11 => ?_) (fun c11 => ?_)
      · skip
        replace hw := hw.2 c11
        exact K_59 () a6 σ9 _ _ _ hw h (lv_sub hl [1, 0] rfl)
      · skip
        replace hw := hw.1 c11
        refine lv_iload_n hx hb e_M_load_52 rfl (lv_at hl 0 rfl) ?_
        refine lv_sipush (v := 1000) hx hb e_M_load_53 (by decide) ?_
        refine lv_icmp_lt (tgt := 63) hx hb e_M_load_56 (by decide) (fun c12 => ?_) (fun c12 => ?_)
        · skip
          replace hw := hw.1 c12
          refine lv_iconst (v := 0) hx hb e_M_load_63 (by decide) ?_
          exact K_64 () a6 0 σ9 _ _ _ hw h (lv_sub hl [1, 0] rfl)
        · skip
          replace hw := hw.2 c12
          exact K_59 () a6 σ9 _ _ _ hw h (lv_sub hl [1, 0] rfl)
    · skip
      replace hw := hw.1 c8
      refine lv_iload_n hx hb e_M_load_32 rfl (lv_at hl 0 rfl) ?_
      refine lv_iconst (v := 2) hx hb e_M_load_33 (by decide) ?_
      refine lv_icmp_ne (tgt := 41) hx hb e_M_load_34 (by decide) (fun c13 => ?_) (fun c13 => ?_)
      · skip
        replace hw := hw.2 c13
        refine lv_iconst (v := 0) hx hb e_M_load_41 (by decide) ?_
        refine lv_goto (tgt := 64) hx hb e_M_load_42 (by decide) ?_
        exact K_64 () a6 0 σ _ _ _ hw h (lv_sub hl [1, 0] rfl)
      · skip
        replace hw := hw.1 c13
        refine lv_iconst (v := 1) hx hb e_M_load_37 (by decide) ?_
        refine lv_goto (tgt := 64) hx hb e_M_load_38 (by decide) ?_
        exact K_64 () a6 1 σ _ _ _ hw h (lv_sub hl [1, 0] rfl)
  · skip
    replace hw := hw.1 c7
    refine lv_iload_n hx hb e_M_load_13 rfl (lv_at hl 0 rfl) ?_
    refine lv_iconst (v := 1) hx hb e_M_load_14 (by decide) ?_
    refine lv_icmp_ne (tgt := 22) hx hb e_M_load_15 (by decide) (fun c14 => ?_) (fun c14 => ?_)
    · skip
      replace hw := hw.2 c14
      refine lv_iconst (v := 0) hx hb e_M_load_22 (by decide) ?_
      refine lv_goto (tgt := 64) hx hb e_M_load_23 (by decide) ?_
      exact K_64 () a6 0 σ _ _ _ hw h (lv_sub hl [1, 0] rfl)
    · skip
      replace hw := hw.1 c14
      refine lv_iconst (v := 1) hx hb e_M_load_18 (by decide) ?_
      refine lv_goto (tgt := 64) hx hb e_M_load_19 (by decide) ?_
      exact K_64 () a6 1 σ _ _ _ hw h (lv_sub hl [1, 0] rfl)
abbrev z_M_store : MethodName := ⟨"MapFramerModel", "store", "(II)V"⟩
theorem v_125 : (Cond.methodLink "MapFramerModel" 275 ⟨"MapFramerModel", "put", "(II)V"⟩ : Cond) ∈ bigW := inB_9 183 (by decide +kernel) rfl
theorem v_126 : (Cond.instanceMethod ⟨"MapFramerModel", "put", "(II)V"⟩ : Cond) ∈ bigW := inB_9 185 (by decide +kernel) rfl
theorem v_127 : (Cond.selects "MapFramerModel" ⟨"MapFramerModel", "put", "(II)V"⟩ ⟨"MapFramerModel", "put", "(II)V"⟩ : Cond) ∈ bigW := inS (y := ⟨"MapFramerModel", "put", "(II)V"⟩) (n := 71) (List.mem_of_getElem? (i := 102) (by decide +kernel))
theorem v_128 : (Cond.code ⟨"MapFramerModel", "put", "(II)V"⟩ prog_14_method_40_code 3 none : Cond) ∈ bigW := inB_9 186 rfl rfl
theorem e_M_store_0 : decode prog_14_method_42_code 0 = .ok (.aload_n 0, 1) := by decide +kernel
theorem e_M_store_1 : decode prog_14_method_42_code 1 = .ok (.invokevirtual 256, 3) := by decide +kernel
theorem e_M_store_4 : decode prog_14_method_42_code 4 = .ok (.istore_n 3, 1) := by decide +kernel
theorem e_M_store_5 : decode prog_14_method_42_code 5 = .ok (.iload_n 1, 1) := by decide +kernel
theorem e_M_store_6 : decode prog_14_method_42_code 6 = .ok (.bipush 54, 2) := by decide +kernel
theorem e_M_store_8 : decode prog_14_method_42_code 8 = .ok (.if_icmp .ne 16, 3) := by decide +kernel
theorem e_M_store_11 : decode prog_14_method_42_code 11 = .ok (.iload_n 3, 1) := by decide +kernel
theorem e_M_store_12 : decode prog_14_method_42_code 12 = .ok (.iconst 1, 1) := by decide +kernel
theorem e_M_store_13 : decode prog_14_method_42_code 13 = .ok (.if_icmp .ne 7, 3) := by decide +kernel
theorem e_M_store_16 : decode prog_14_method_42_code 16 = .ok (.iconst 1, 1) := by decide +kernel
theorem e_M_store_17 : decode prog_14_method_42_code 17 = .ok (.goto 45, 3) := by decide +kernel
theorem e_M_store_20 : decode prog_14_method_42_code 20 = .ok (.iconst 0, 1) := by decide +kernel
theorem e_M_store_21 : decode prog_14_method_42_code 21 = .ok (.goto 41, 3) := by decide +kernel
theorem e_M_store_24 : decode prog_14_method_42_code 24 = .ok (.iload_n 1, 1) := by decide +kernel
theorem e_M_store_25 : decode prog_14_method_42_code 25 = .ok (.bipush 55, 2) := by decide +kernel
theorem e_M_store_27 : decode prog_14_method_42_code 27 = .ok (.if_icmp .ne 16, 3) := by decide +kernel
theorem e_M_store_30 : decode prog_14_method_42_code 30 = .ok (.iload_n 3, 1) := by decide +kernel
theorem e_M_store_31 : decode prog_14_method_42_code 31 = .ok (.iconst 2, 1) := by decide +kernel
theorem e_M_store_32 : decode prog_14_method_42_code 32 = .ok (.if_icmp .ne 7, 3) := by decide +kernel
theorem e_M_store_35 : decode prog_14_method_42_code 35 = .ok (.iconst 1, 1) := by decide +kernel
theorem e_M_store_36 : decode prog_14_method_42_code 36 = .ok (.goto 26, 3) := by decide +kernel
theorem e_M_store_39 : decode prog_14_method_42_code 39 = .ok (.iconst 0, 1) := by decide +kernel
theorem e_M_store_40 : decode prog_14_method_42_code 40 = .ok (.goto 22, 3) := by decide +kernel
theorem e_M_store_43 : decode prog_14_method_42_code 43 = .ok (.iload_n 3, 1) := by decide +kernel
theorem e_M_store_44 : decode prog_14_method_42_code 44 = .ok (.invokestatic 269, 3) := by decide +kernel
theorem e_M_store_47 : decode prog_14_method_42_code 47 = .ok (.ifCond .ne 10, 3) := by decide +kernel
theorem e_M_store_50 : decode prog_14_method_42_code 50 = .ok (.iload_n 3, 1) := by decide +kernel
theorem e_M_store_51 : decode prog_14_method_42_code 51 = .ok (.sipush 1000, 3) := by decide +kernel
theorem e_M_store_54 : decode prog_14_method_42_code 54 = .ok (.if_icmp .lt 7, 3) := by decide +kernel
theorem e_M_store_57 : decode prog_14_method_42_code 57 = .ok (.iconst 1, 1) := by decide +kernel
theorem e_M_store_58 : decode prog_14_method_42_code 58 = .ok (.goto 4, 3) := by decide +kernel
theorem e_M_store_61 : decode prog_14_method_42_code 61 = .ok (.iconst 0, 1) := by decide +kernel
theorem e_M_store_62 : decode prog_14_method_42_code 62 = .ok (.istore 4, 2) := by decide +kernel
theorem e_M_store_64 : decode prog_14_method_42_code 64 = .ok (.iload 4, 2) := by decide +kernel
theorem e_M_store_66 : decode prog_14_method_42_code 66 = .ok (.ifCond .ne 9, 3) := by decide +kernel
theorem e_M_store_69 : decode prog_14_method_42_code 69 = .ok (.aload_n 0, 1) := by decide +kernel
theorem e_M_store_70 : decode prog_14_method_42_code 70 = .ok (.bipush 6, 2) := by decide +kernel
theorem e_M_store_72 : decode prog_14_method_42_code 72 = .ok (.invokevirtual 252, 3) := by decide +kernel
theorem e_M_store_75 : decode prog_14_method_42_code 75 = .ok (.aload_n 0, 1) := by decide +kernel
theorem e_M_store_76 : decode prog_14_method_42_code 76 = .ok (.iload_n 2, 1) := by decide +kernel
theorem e_M_store_77 : decode prog_14_method_42_code 77 = .ok (.iload_n 3, 1) := by decide +kernel
theorem e_M_store_78 : decode prog_14_method_42_code 78 = .ok (.invokevirtual 275, 3) := by decide +kernel
theorem e_M_store_81 : decode prog_14_method_42_code 81 = .ok (.return_, 1) := by decide +kernel
def w_M_store_75 (P : MST → Prop) (z2 : Int32) (z3 : Int32) (σ : MST) : Prop := w_M_put z2 z3 σ (fun σ1 => P σ1)
def w_M_store_62 (P : MST → Prop) (z2 : Int32) (z3 : Int32) (s0 : Int32) (σ : MST) : Prop := ((s0 = 0 → w_M_miss (6 : Int32) σ (fun σ4 => w_M_store_75 P z2 z3 σ4)) ∧ (¬ s0 = 0 → w_M_store_75 P z2 z3 σ))
def w_M_store_57 (P : MST → Prop) (z2 : Int32) (z3 : Int32) (σ : MST) : Prop := w_M_store_62 P z2 z3 1 σ
def w_M_store (x1 : Int32) (x2 : Int32) (σ : MST) (P : MST → Prop) : Prop := w_M_pop σ (fun r7 σ6 => ((x1 = 54 → ((r7 = 1 → w_M_store_62 P x2 r7 1 σ6) ∧ (¬ r7 = 1 → w_M_store_62 P x2 r7 0 σ6))) ∧ (¬ x1 = 54 → ((x1 = 55 → ((r7 = 2 → w_M_store_62 P x2 r7 1 σ6) ∧ (¬ r7 = 2 → w_M_store_62 P x2 r7 0 σ6))) ∧ (¬ x1 = 55 → w_M_isReference r7 σ6 (fun r11 σ10 => ((r11 = 0 → ((r7 < 1000 → w_M_store_62 P x2 r7 0 σ10) ∧ (¬ r7 < 1000 → w_M_store_57 P x2 r7 σ10))) ∧ (¬ r11 = 0 → w_M_store_57 P x2 r7 σ10))))))))
set_option maxHeartbeats 4000000 in
set_option maxRecDepth 100000 in
theorem K_M_store (l : Launch) (dC : Nat → ClassId) (dI : Nat → Nat → Nat) (mo : Nat) (rf : Nat → Nat) (ca : Nat → ClassId) (sz : Nat) (σ : MST) (x1 : Int32) (x2 : Int32) {P : MST → Prop} (hw : w_M_store x1 x2 σ P) : Met l z_M_store (mW z_M_store prog_14_method_42_code 5 none) ({ frames := 2, cells := 0, slots := 0, locals := 41 } : Room) (va_Pc [.ref mo, .int x1, .int x2] (MPre (dC, dI) mo rf ca σ sz)) (va_Qv P (MB (dC, dI) mo rf ca sz) (mA mo rf sz)) 0 0 (mA mo rf sz) := by
  refine M_ofv (by decide) rfl (Nat.le_of_ble_eq_true rfl) ?_
  intro p e s m below meth cx Q A ls C hA hend h hl
  have C0 := C
  obtain ⟨⟨hx, hb, hml, hown, hts⟩, hsub⟩ := C0
  have K_75 : ∀ (u9 : Unit), ∀ (z2 : Int32) (z3 : Int32) (σ : MST) (H : Heap) (locs : List Loc) (ls : Array Slot), w_M_store_75 P z2 z3 σ → MH (dC, dI) A mo rf ca σ s H locs → lv_has ls 5 [(0, .ref mo), (2, .int z2), (3, .int z3)] → W p l e ({ frames := 2, cells := 0, slots := 0, locals := 41 } : Room) s m ([.ref mo, .int x1, .int x2] : List Value).toArray below meth cx H locs 0 0 Q (F0 m 75 ls []) := by
    intro u9 z2 z3 σ H locs ls hw h hl
    unfold w_M_store_75 at hw
    refine lv_aload_n hx hb e_M_store_75 rfl (lv_at hl 0 rfl) ?_
    refine lv_iload_n hx hb e_M_store_76 rfl (lv_at hl 1 rfl) ?_
    refine lv_iload_n hx hb e_M_store_77 rfl (lv_at hl 2 rfl) ?_
    refine M_callv (As := [.int z2, .int z3]) (rest := []) C h hA (K_M_put l dC dI mo rf ca H.size σ z2 z3 hw) (cwV 2 hts (gV hsub v_125 v_126 v_127 v_7 v_128) rfl rfl rfl (by decide +kernel) ⟨(Nat.le_of_ble_eq_true rfl), (Nat.le_of_ble_eq_true rfl)⟩) rfl hl.1 (Nat.le_of_ble_eq_true rfl) e_M_store_78 ⟨(Nat.le_of_ble_eq_true rfl), (Nat.le_of_ble_eq_true rfl)⟩ (fun σ1 H locs hw h => ?_)
    refine W.eq (g2 := F0 m 81 ls []) rfl ?_
    exact hend σ1 _ _ _ _ hw h e_M_store_81
  have K_62 : ∀ (u9 : Unit), ∀ (z2 : Int32) (z3 : Int32) (s0 : Int32) (σ : MST) (H : Heap) (locs : List Loc) (ls : Array Slot), w_M_store_62 P z2 z3 s0 σ → MH (dC, dI) A mo rf ca σ s H locs → lv_has ls 5 [(0, .ref mo), (2, .int z2), (3, .int z3)] → W p l e ({ frames := 2, cells := 0, slots := 0, locals := 41 } : Room) s m ([.ref mo, .int x1, .int x2] : List Value).toArray below meth cx H locs 0 0 Q (F0 m 62 ls [.int s0]) := by
    intro u9 z2 z3 s0 σ H locs ls hw h hl
    unfold w_M_store_62 at hw
    refine lv_istore (lv' := [(4, .int s0), (0, .ref mo), (2, .int z2), (3, .int z3)]) hx hb e_M_store_62 hl (by decide) rfl (fun ls hl => ?_)
    refine lv_iload hx hb e_M_store_64 (lv_at hl 0 rfl) ?_
    refine lv_if_ne (tgt := 75) hx hb e_M_store_66 (by decide) (fun c3 => ?_) (fun c3 => ?_)
    · skip
      replace hw := hw.2 c3
      exact K_75 () z2 z3 σ _ _ _ hw h (lv_sub hl [1, 2, 3] rfl)
    · skip
      replace hw := hw.1 c3
      refine lv_aload_n hx hb e_M_store_69 rfl (lv_at hl 1 rfl) ?_
      refine lv_bipush (v := 6) hx hb e_M_store_70 (by decide) ?_
      refine M_callv (As := [.int 6]) (rest := []) C h hA (K_M_miss l dC dI mo rf ca H.size σ (6 : Int32) hw) (cwV 1 hts (gV hsub v_100 v_101 v_102 v_7 v_103) rfl rfl rfl (by decide +kernel) ⟨(Nat.le_of_ble_eq_true rfl), (Nat.le_of_ble_eq_true rfl)⟩) rfl hl.1 (Nat.le_of_ble_eq_true rfl) e_M_store_72 ⟨(Nat.le_of_ble_eq_true rfl), (Nat.le_of_ble_eq_true rfl)⟩ (fun σ4 H locs hw h => ?_)
      refine W.eq (g2 := F0 m 75 ls []) rfl ?_
      exact K_75 () z2 z3 σ4 _ _ _ hw h (lv_sub hl [1, 2, 3] rfl)
  have K_57 : ∀ (u9 : Unit), ∀ (z2 : Int32) (z3 : Int32) (σ : MST) (H : Heap) (locs : List Loc) (ls : Array Slot), w_M_store_57 P z2 z3 σ → MH (dC, dI) A mo rf ca σ s H locs → lv_has ls 5 [(0, .ref mo), (2, .int z2), (3, .int z3)] → W p l e ({ frames := 2, cells := 0, slots := 0, locals := 41 } : Room) s m ([.ref mo, .int x1, .int x2] : List Value).toArray below meth cx H locs 0 0 Q (F0 m 57 ls []) := by
    intro u9 z2 z3 σ H locs ls hw h hl
    unfold w_M_store_57 at hw
    refine lv_iconst (v := 1) hx hb e_M_store_57 (by decide) ?_
    refine lv_goto (tgt := 62) hx hb e_M_store_58 (by decide) ?_
    exact K_62 () z2 z3 1 σ _ _ _ hw h (lv_sub hl [0, 1, 2] rfl)
  have hl : lv_has ls 5 [(0, .ref mo), (1, .int x1), (2, .int x2)] := hl
  unfold w_M_store at hw
  refine lv_aload_n hx hb e_M_store_0 rfl (lv_at hl 0 rfl) ?_
  refine M_calli (As := []) (rest := []) C h hA (K_M_pop l dC dI mo rf ca s.heap.size σ hw) (cwV 0 hts (gV hsub v_104 v_105 v_106 v_7 v_107) rfl rfl rfl (by decide +kernel) ⟨(Nat.le_of_ble_eq_true rfl), (Nat.le_of_ble_eq_true rfl)⟩) rfl hl.1 (Nat.le_of_ble_eq_true rfl) e_M_store_1 ⟨(Nat.le_of_ble_eq_true rfl), (Nat.le_of_ble_eq_true rfl)⟩ (fun r7 σ6 H locs hw h => ?_)
  refine W.eq (g2 := F0 m 4 ls [.int r7]) rfl ?_
  refine lv_istore_n (lv' := [(3, .int r7), (0, .ref mo), (1, .int x1), (2, .int x2)]) hx hb e_M_store_4 rfl hl (by decide) rfl (fun ls hl => ?_)
  refine lv_iload_n hx hb e_M_store_5 rfl (lv_at hl 2 rfl) ?_
  refine lv_bipush (v := 54) hx hb e_M_store_6 (by decide) ?_
  refine lv_icmp_ne (tgt := 24) hx hb e_M_store_8 (by decide) (fun c8 => ?_) (fun c8 => ?_)
  · skip
    replace hw := hw.2 c8
    refine lv_iload_n hx hb e_M_store_24 rfl (lv_at hl 2 rfl) ?_
    refine lv_bipush (v := 55) hx hb e_M_store_25 (by decide) ?_
    refine lv_icmp_ne (tgt := 43) hx hb e_M_store_27 (by decide) (fun c9 => ?_) (fun c9 => ?_)
    · skip
      replace hw := hw.2 c9
      refine lv_iload_n hx hb e_M_store_43 rfl (lv_at hl 0 rfl) ?_
      refine M_scalli (As := [.int r7]) (rest := []) C h hA (K_M_isReference l dC dI mo rf ca H.size σ6 r7 hw) (va_cwS 1 hts (gS hsub v_117 v_118 v_7 v_119) rfl rfl rfl (by decide +kernel) ⟨(Nat.le_of_ble_eq_true rfl), (Nat.le_of_ble_eq_true rfl)⟩) rfl hl.1 (Nat.le_of_ble_eq_true rfl) e_M_store_44 ⟨(Nat.le_of_ble_eq_true rfl), (Nat.le_of_ble_eq_true rfl)⟩ (fun r11 σ10 H locs hw h => ?_)
      refine W.eq (g2 := F0 m 47 ls [.int r11]) rfl ?_
      refine lv_if_ne (tgt := 57) hx hb e_M_store_47 (by decide) (fun c12 => ?_) (fun c12 => ?_)
      · skip
        replace hw := hw.2 c12
        exact K_57 () x2 r7 σ10 _ _ _ hw h (lv_sub hl [1, 3, 0] rfl)
      · skip
        replace hw := hw.1 c12
        refine lv_iload_n hx hb e_M_store_50 rfl (lv_at hl 0 rfl) ?_
        refine lv_sipush (v := 1000) hx hb e_M_store_51 (by decide) ?_
        refine lv_icmp_lt (tgt := 61) hx hb e_M_store_54 (by decide) (fun c13 => ?_) (fun c13 => ?_)
        · skip
          replace hw := hw.1 c13
          refine lv_iconst (v := 0) hx hb e_M_store_61 (by decide) ?_
          exact K_62 () x2 r7 0 σ10 _ _ _ hw h (lv_sub hl [1, 3, 0] rfl)
        · skip
          replace hw := hw.2 c13
          exact K_57 () x2 r7 σ10 _ _ _ hw h (lv_sub hl [1, 3, 0] rfl)
    · skip
      replace hw := hw.1 c9
      refine lv_iload_n hx hb e_M_store_30 rfl (lv_at hl 0 rfl) ?_
      refine lv_iconst (v := 2) hx hb e_M_store_31 (by decide) ?_
      refine lv_icmp_ne (tgt := 39) hx hb e_M_store_32 (by decide) (fun c14 => ?_) (fun c14 => ?_)
      · skip
        replace hw := hw.2 c14
        refine lv_iconst (v := 0) hx hb e_M_store_39 (by decide) ?_
        refine lv_goto (tgt := 62) hx hb e_M_store_40 (by decide) ?_
        exact K_62 () x2 r7 0 σ6 _ _ _ hw h (lv_sub hl [1, 3, 0] rfl)
      · skip
        replace hw := hw.1 c14
        refine lv_iconst (v := 1) hx hb e_M_store_35 (by decide) ?_
        refine lv_goto (tgt := 62) hx hb e_M_store_36 (by decide) ?_
        exact K_62 () x2 r7 1 σ6 _ _ _ hw h (lv_sub hl [1, 3, 0] rfl)
  · skip
    replace hw := hw.1 c8
    refine lv_iload_n hx hb e_M_store_11 rfl (lv_at hl 0 rfl) ?_
    refine lv_iconst (v := 1) hx hb e_M_store_12 (by decide) ?_
    refine lv_icmp_ne (tgt := 20) hx hb e_M_store_13 (by decide) (fun c15 => ?_) (fun c15 => ?_)
    · skip
      replace hw := hw.2 c15
      refine lv_iconst (v := 0) hx hb e_M_store_20 (by decide) ?_
      refine lv_goto (tgt := 62) hx hb e_M_store_21 (by decide) ?_
      exact K_62 () x2 r7 0 σ6 _ _ _ hw h (lv_sub hl [1, 3, 0] rfl)
    · skip
      replace hw := hw.1 c15
      refine lv_iconst (v := 1) hx hb e_M_store_16 (by decide) ?_
      refine lv_goto (tgt := 62) hx hb e_M_store_17 (by decide) ?_
      exact K_62 () x2 r7 1 σ6 _ _ _ hw h (lv_sub hl [1, 3, 0] rfl)
abbrev z_M_popArray : MethodName := ⟨"MapFramerModel", "popArray", "(I)I"⟩
theorem e_M_popArray_0 : decode prog_14_method_43_code 0 = .ok (.aload_n 0, 1) := by decide +kernel
theorem e_M_popArray_1 : decode prog_14_method_43_code 1 = .ok (.invokevirtual 256, 3) := by decide +kernel
theorem e_M_popArray_4 : decode prog_14_method_43_code 4 = .ok (.istore_n 2, 1) := by decide +kernel
theorem e_M_popArray_5 : decode prog_14_method_43_code 5 = .ok (.iload_n 2, 1) := by decide +kernel
theorem e_M_popArray_6 : decode prog_14_method_43_code 6 = .ok (.iconst 5, 1) := by decide +kernel
theorem e_M_popArray_7 : decode prog_14_method_43_code 7 = .ok (.if_icmp .eq 35, 3) := by decide +kernel
theorem e_M_popArray_10 : decode prog_14_method_43_code 10 = .ok (.iload_n 1, 1) := by decide +kernel
theorem e_M_popArray_11 : decode prog_14_method_43_code 11 = .ok (.ifCond .ne 11, 3) := by decide +kernel
theorem e_M_popArray_14 : decode prog_14_method_43_code 14 = .ok (.iload_n 2, 1) := by decide +kernel
theorem e_M_popArray_15 : decode prog_14_method_43_code 15 = .ok (.iconst 3, 1) := by decide +kernel
theorem e_M_popArray_16 : decode prog_14_method_43_code 16 = .ok (.if_icmp .ne 30, 3) := by decide +kernel
theorem e_M_popArray_19 : decode prog_14_method_43_code 19 = .ok (.goto 23, 3) := by decide +kernel
theorem e_M_popArray_22 : decode prog_14_method_43_code 22 = .ok (.iload_n 1, 1) := by decide +kernel
theorem e_M_popArray_23 : decode prog_14_method_43_code 23 = .ok (.iconst 1, 1) := by decide +kernel
theorem e_M_popArray_24 : decode prog_14_method_43_code 24 = .ok (.if_icmp .ne 11, 3) := by decide +kernel
theorem e_M_popArray_27 : decode prog_14_method_43_code 27 = .ok (.iload_n 2, 1) := by decide +kernel
theorem e_M_popArray_28 : decode prog_14_method_43_code 28 = .ok (.iconst 4, 1) := by decide +kernel
theorem e_M_popArray_29 : decode prog_14_method_43_code 29 = .ok (.if_icmp .ne 17, 3) := by decide +kernel
theorem e_M_popArray_32 : decode prog_14_method_43_code 32 = .ok (.goto 10, 3) := by decide +kernel
theorem e_M_popArray_35 : decode prog_14_method_43_code 35 = .ok (.iload_n 2, 1) := by decide +kernel
theorem e_M_popArray_36 : decode prog_14_method_43_code 36 = .ok (.invokestatic 183, 3) := by decide +kernel
theorem e_M_popArray_39 : decode prog_14_method_43_code 39 = .ok (.ifCond .eq 7, 3) := by decide +kernel
theorem e_M_popArray_42 : decode prog_14_method_43_code 42 = .ok (.iconst 1, 1) := by decide +kernel
theorem e_M_popArray_43 : decode prog_14_method_43_code 43 = .ok (.goto 4, 3) := by decide +kernel
theorem e_M_popArray_46 : decode prog_14_method_43_code 46 = .ok (.iconst 0, 1) := by decide +kernel
theorem e_M_popArray_47 : decode prog_14_method_43_code 47 = .ok (.istore_n 3, 1) := by decide +kernel
theorem e_M_popArray_48 : decode prog_14_method_43_code 48 = .ok (.aload_n 0, 1) := by decide +kernel
theorem e_M_popArray_49 : decode prog_14_method_43_code 49 = .ok (.getfield 225, 3) := by decide +kernel
theorem e_M_popArray_52 : decode prog_14_method_43_code 52 = .ok (.ifCond .ne 13, 3) := by decide +kernel
theorem e_M_popArray_55 : decode prog_14_method_43_code 55 = .ok (.iload_n 3, 1) := by decide +kernel
theorem e_M_popArray_56 : decode prog_14_method_43_code 56 = .ok (.ifCond .ne 9, 3) := by decide +kernel
theorem e_M_popArray_59 : decode prog_14_method_43_code 59 = .ok (.aload_n 0, 1) := by decide +kernel
theorem e_M_popArray_60 : decode prog_14_method_43_code 60 = .ok (.bipush 6, 2) := by decide +kernel
theorem e_M_popArray_62 : decode prog_14_method_43_code 62 = .ok (.invokevirtual 252, 3) := by decide +kernel
theorem e_M_popArray_65 : decode prog_14_method_43_code 65 = .ok (.iload_n 2, 1) := by decide +kernel
theorem e_M_popArray_66 : decode prog_14_method_43_code 66 = .ok (.ireturn, 1) := by decide +kernel
def w_M_popArray_47 (P : Int32 → MST → Prop) (z2 : Int32) (s0 : Int32) (σ : MST) : Prop := (((σ.1 35) = 0 → ((s0 = 0 → w_M_miss (6 : Int32) σ (fun σ3 => P z2 σ3)) ∧ (¬ s0 = 0 → P z2 σ))) ∧ (¬ (σ.1 35) = 0 → P z2 σ))
def w_M_popArray_42 (P : Int32 → MST → Prop) (z2 : Int32) (σ : MST) : Prop := w_M_popArray_47 P z2 1 σ
def w_M_popArray_46 (P : Int32 → MST → Prop) (z2 : Int32) (σ : MST) : Prop := w_M_popArray_47 P z2 0 σ
def w_M_popArray (x1 : Int32) (σ : MST) (P : Int32 → MST → Prop) : Prop := w_M_pop σ (fun r6 σ5 => ((r6 = 5 → w_M_popArray_42 P r6 σ5) ∧ (¬ r6 = 5 → ((x1 = 0 → ((r6 = 3 → w_M_popArray_42 P r6 σ5) ∧ (¬ r6 = 3 → w_M_popArray_46 P r6 σ5))) ∧ (¬ x1 = 0 → ((x1 = 1 → ((r6 = 4 → w_M_popArray_42 P r6 σ5) ∧ (¬ r6 = 4 → w_M_popArray_46 P r6 σ5))) ∧ (¬ x1 = 1 → w_M_isRow r6 σ5 (fun r11 σ10 => ((r11 = 0 → w_M_popArray_46 P r6 σ10) ∧ (¬ r11 = 0 → w_M_popArray_42 P r6 σ10))))))))))
set_option maxHeartbeats 4000000 in
set_option maxRecDepth 100000 in
theorem K_M_popArray (l : Launch) (dC : Nat → ClassId) (dI : Nat → Nat → Nat) (mo : Nat) (rf : Nat → Nat) (ca : Nat → ClassId) (sz : Nat) (σ : MST) (x1 : Int32) {P : Int32 → MST → Prop} (hw : w_M_popArray x1 σ P) : Met l z_M_popArray (mW z_M_popArray prog_14_method_43_code 4 (some .int)) ({ frames := 2, cells := 0, slots := 0, locals := 41 } : Room) (va_Pc [.ref mo, .int x1] (MPre (dC, dI) mo rf ca σ sz)) (va_Qi P (MB (dC, dI) mo rf ca sz) (mA mo rf sz)) 0 0 (mA mo rf sz) := by
  refine M_ofi (by decide) rfl (Nat.le_of_ble_eq_true rfl) ?_
  intro p e s m below meth cx Q A ls C hA hend h hl
  have C0 := C
  obtain ⟨⟨hx, hb, hml, hown, hts⟩, hsub⟩ := C0
  have K_47 : ∀ (u9 : Unit), ∀ (z2 : Int32) (s0 : Int32) (σ : MST) (H : Heap) (locs : List Loc) (ls : Array Slot), w_M_popArray_47 P z2 s0 σ → MH (dC, dI) A mo rf ca σ s H locs → lv_has ls 4 [(0, .ref mo), (2, .int z2)] → W p l e ({ frames := 2, cells := 0, slots := 0, locals := 41 } : Room) s m ([.ref mo, .int x1] : List Value).toArray below meth cx H locs 0 0 Q (F0 m 47 ls [.int s0]) := by
    intro u9 z2 s0 σ H locs ls hw h hl
    unfold w_M_popArray_47 at hw
    refine lv_istore_n (lv' := [(3, .int s0), (0, .ref mo), (2, .int z2)]) hx hb e_M_popArray_47 rfl hl (by decide) rfl (fun ls hl => ?_)
    refine lv_aload_n hx hb e_M_popArray_48 rfl (lv_at hl 1 rfl) ?_
    refine M_get C h 35 (v := .int (σ.1 35)) rfl (by decide) v_73 e_M_popArray_49 ?_
    refine lv_if_ne (tgt := 65) hx hb e_M_popArray_52 (by decide) (fun c1 => ?_) (fun c1 => ?_)
    · skip
      replace hw := hw.2 c1
      refine lv_iload_n hx hb e_M_popArray_65 rfl (lv_at hl 2 rfl) ?_
      exact hend z2 σ _ _ _ _ hw h e_M_popArray_66
    · skip
      replace hw := hw.1 c1
      refine lv_iload_n hx hb e_M_popArray_55 rfl (lv_at hl 0 rfl) ?_
      refine lv_if_ne (tgt := 65) hx hb e_M_popArray_56 (by decide) (fun c2 => ?_) (fun c2 => ?_)
      · skip
        replace hw := hw.2 c2
        refine lv_iload_n hx hb e_M_popArray_65 rfl (lv_at hl 2 rfl) ?_
        exact hend z2 σ _ _ _ _ hw h e_M_popArray_66
      · skip
        replace hw := hw.1 c2
        refine lv_aload_n hx hb e_M_popArray_59 rfl (lv_at hl 1 rfl) ?_
        refine lv_bipush (v := 6) hx hb e_M_popArray_60 (by decide) ?_
        refine M_callv (As := [.int 6]) (rest := []) C h hA (K_M_miss l dC dI mo rf ca H.size σ (6 : Int32) hw) (cwV 1 hts (gV hsub v_100 v_101 v_102 v_7 v_103) rfl rfl rfl (by decide +kernel) ⟨(Nat.le_of_ble_eq_true rfl), (Nat.le_of_ble_eq_true rfl)⟩) rfl hl.1 (Nat.le_of_ble_eq_true rfl) e_M_popArray_62 ⟨(Nat.le_of_ble_eq_true rfl), (Nat.le_of_ble_eq_true rfl)⟩ (fun σ3 H locs hw h => ?_)
        refine W.eq (g2 := F0 m 65 ls []) rfl ?_
        refine lv_iload_n hx hb e_M_popArray_65 rfl (lv_at hl 2 rfl) ?_
        exact hend z2 σ3 _ _ _ _ hw h e_M_popArray_66
  have K_42 : ∀ (u9 : Unit), ∀ (z2 : Int32) (σ : MST) (H : Heap) (locs : List Loc) (ls : Array Slot), w_M_popArray_42 P z2 σ → MH (dC, dI) A mo rf ca σ s H locs → lv_has ls 4 [(0, .ref mo), (2, .int z2)] → W p l e ({ frames := 2, cells := 0, slots := 0, locals := 41 } : Room) s m ([.ref mo, .int x1] : List Value).toArray below meth cx H locs 0 0 Q (F0 m 42 ls []) := by
    intro u9 z2 σ H locs ls hw h hl
    unfold w_M_popArray_42 at hw
    refine lv_iconst (v := 1) hx hb e_M_popArray_42 (by decide) ?_
    refine lv_goto (tgt := 47) hx hb e_M_popArray_43 (by decide) ?_
    exact K_47 () z2 1 σ _ _ _ hw h (lv_sub hl [0, 1] rfl)
  have K_46 : ∀ (u9 : Unit), ∀ (z2 : Int32) (σ : MST) (H : Heap) (locs : List Loc) (ls : Array Slot), w_M_popArray_46 P z2 σ → MH (dC, dI) A mo rf ca σ s H locs → lv_has ls 4 [(0, .ref mo), (2, .int z2)] → W p l e ({ frames := 2, cells := 0, slots := 0, locals := 41 } : Room) s m ([.ref mo, .int x1] : List Value).toArray below meth cx H locs 0 0 Q (F0 m 46 ls []) := by
    intro u9 z2 σ H locs ls hw h hl
    unfold w_M_popArray_46 at hw
    refine lv_iconst (v := 0) hx hb e_M_popArray_46 (by decide) ?_
    exact K_47 () z2 0 σ _ _ _ hw h (lv_sub hl [0, 1] rfl)
  have hl : lv_has ls 4 [(0, .ref mo), (1, .int x1)] := hl
  unfold w_M_popArray at hw
  refine lv_aload_n hx hb e_M_popArray_0 rfl (lv_at hl 0 rfl) ?_
  refine M_calli (As := []) (rest := []) C h hA (K_M_pop l dC dI mo rf ca s.heap.size σ hw) (cwV 0 hts (gV hsub v_104 v_105 v_106 v_7 v_107) rfl rfl rfl (by decide +kernel) ⟨(Nat.le_of_ble_eq_true rfl), (Nat.le_of_ble_eq_true rfl)⟩) rfl hl.1 (Nat.le_of_ble_eq_true rfl) e_M_popArray_1 ⟨(Nat.le_of_ble_eq_true rfl), (Nat.le_of_ble_eq_true rfl)⟩ (fun r6 σ5 H locs hw h => ?_)
  refine W.eq (g2 := F0 m 4 ls [.int r6]) rfl ?_
  refine lv_istore_n (lv' := [(2, .int r6), (0, .ref mo), (1, .int x1)]) hx hb e_M_popArray_4 rfl hl (by decide) rfl (fun ls hl => ?_)
  refine lv_iload_n hx hb e_M_popArray_5 rfl (lv_at hl 0 rfl) ?_
  refine lv_iconst (v := 5) hx hb e_M_popArray_6 (by decide) ?_
  refine lv_icmp_eq (tgt := 42) hx hb e_M_popArray_7 (by decide) (fun c7 => ?_) (fun c7 => ?_)
  · skip
    replace hw := hw.1 c7
    exact K_42 () r6 σ5 _ _ _ hw h (lv_sub hl [1, 0] rfl)
  · skip
    replace hw := hw.2 c7
    refine lv_iload_n hx hb e_M_popArray_10 rfl (lv_at hl 2 rfl) ?_
    refine lv_if_ne (tgt := 22) hx hb e_M_popArray_11 (by decide) (fun c8 => ?_) (fun c8 => ?_)
    · skip
      replace hw := hw.2 c8
      refine lv_iload_n hx hb e_M_popArray_22 rfl (lv_at hl 2 rfl) ?_
      refine lv_iconst (v := 1) hx hb e_M_popArray_23 (by decide) ?_
      refine lv_icmp_ne (tgt := 35) hx hb e_M_popArray_24 (by decide) (fun c9 => ?_) (fun c9 => ?_)
      · skip
        replace hw := hw.2 c9
        refine lv_iload_n hx hb e_M_popArray_35 rfl (lv_at hl 0 rfl) ?_
        refine M_scalli (As := [.int r6]) (rest := []) C h hA (K_M_isRow l dC dI mo rf ca H.size σ5 r6 hw) (va_cwS 1 hts (gS hsub v_9 v_10 v_7 v_11) rfl rfl rfl (by decide +kernel) ⟨(Nat.le_of_ble_eq_true rfl), (Nat.le_of_ble_eq_true rfl)⟩) rfl hl.1 (Nat.le_of_ble_eq_true rfl) e_M_popArray_36 ⟨(Nat.le_of_ble_eq_true rfl), (Nat.le_of_ble_eq_true rfl)⟩ (fun r11 σ10 H locs hw h => ?_)
        refine W.eq (g2 := F0 m 39 ls [.int r11]) rfl ?_
        refine lv_if_eq (tgt := 46) hx hb e_M_popArray_39 (by decide) (fun c12 => ?_) (fun c12 => ?_)
        · skip
          replace hw := hw.1 c12
          exact K_46 () r6 σ10 _ _ _ hw h (lv_sub hl [1, 0] rfl)
        · skip
          replace hw := hw.2 c12
          exact K_42 () r6 σ10 _ _ _ hw h (lv_sub hl [1, 0] rfl)
      · skip
        replace hw := hw.1 c9
        refine lv_iload_n hx hb e_M_popArray_27 rfl (lv_at hl 0 rfl) ?_
        refine lv_iconst (v := 4) hx hb e_M_popArray_28 (by decide) ?_
        refine lv_icmp_ne (tgt := 46) hx hb e_M_popArray_29 (by decide) (fun c13 => ?_) (fun c13 => ?_)
        · skip
          replace hw := hw.2 c13
          exact K_46 () r6 σ5 _ _ _ hw h (lv_sub hl [1, 0] rfl)
        · skip
          replace hw := hw.1 c13
          refine lv_goto (tgt := 42) hx hb e_M_popArray_32 (by decide) ?_
          exact K_42 () r6 σ5 _ _ _ hw h (lv_sub hl [1, 0] rfl)
    · skip
      replace hw := hw.1 c8
      refine lv_iload_n hx hb e_M_popArray_14 rfl (lv_at hl 0 rfl) ?_
      refine lv_iconst (v := 3) hx hb e_M_popArray_15 (by decide) ?_
      refine lv_icmp_ne (tgt := 46) hx hb e_M_popArray_16 (by decide) (fun c14 => ?_) (fun c14 => ?_)
      · skip
        replace hw := hw.2 c14
        exact K_46 () r6 σ5 _ _ _ hw h (lv_sub hl [1, 0] rfl)
      · skip
        replace hw := hw.1 c14
        refine lv_goto (tgt := 42) hx hb e_M_popArray_19 (by decide) ?_
        exact K_42 () r6 σ5 _ _ _ hw h (lv_sub hl [1, 0] rfl)
abbrev z_M_arrays : MethodName := ⟨"MapFramerModel", "arrays", "(I)V"⟩
theorem v_129 : (Cond.methodLink "MapFramerModel" 282 ⟨"MapFramerModel", "want", "(I)V"⟩ : Cond) ∈ bigW := inB_9 195 (by decide +kernel) rfl
theorem v_130 : (Cond.instanceMethod ⟨"MapFramerModel", "want", "(I)V"⟩ : Cond) ∈ bigW := inB_9 197 (by decide +kernel) rfl
theorem v_131 : (Cond.selects "MapFramerModel" ⟨"MapFramerModel", "want", "(I)V"⟩ ⟨"MapFramerModel", "want", "(I)V"⟩ : Cond) ∈ bigW := inS (y := ⟨"MapFramerModel", "want", "(I)V"⟩) (n := 71) (List.mem_of_getElem? (i := 105) (by decide +kernel))
theorem v_132 : (Cond.code ⟨"MapFramerModel", "want", "(I)V"⟩ prog_14_method_34_code 3 none : Cond) ∈ bigW := inB_9 198 rfl rfl
theorem v_133 : (Cond.methodLink "MapFramerModel" 285 ⟨"MapFramerModel", "popArray", "(I)I"⟩ : Cond) ∈ bigW := inB_9 207 (by decide +kernel) rfl
theorem v_134 : (Cond.instanceMethod ⟨"MapFramerModel", "popArray", "(I)I"⟩ : Cond) ∈ bigW := inB_9 209 (by decide +kernel) rfl
theorem v_135 : (Cond.selects "MapFramerModel" ⟨"MapFramerModel", "popArray", "(I)I"⟩ ⟨"MapFramerModel", "popArray", "(I)I"⟩ : Cond) ∈ bigW := inS (y := ⟨"MapFramerModel", "popArray", "(I)I"⟩) (n := 71) (List.mem_of_getElem? (i := 108) (by decide +kernel))
theorem v_136 : (Cond.code ⟨"MapFramerModel", "popArray", "(I)I"⟩ prog_14_method_43_code 4 (some .int) : Cond) ∈ bigW := inB_9 210 rfl rfl
theorem v_137 : (Cond.methodLink "MapFramerModel" 279 ⟨"MapFramerModel", "popReference", "()I"⟩ : Cond) ∈ bigW := inB_9 191 (by decide +kernel) rfl
theorem v_138 : (Cond.instanceMethod ⟨"MapFramerModel", "popReference", "()I"⟩ : Cond) ∈ bigW := inB_9 193 (by decide +kernel) rfl
theorem v_139 : (Cond.selects "MapFramerModel" ⟨"MapFramerModel", "popReference", "()I"⟩ ⟨"MapFramerModel", "popReference", "()I"⟩ : Cond) ∈ bigW := inS (y := ⟨"MapFramerModel", "popReference", "()I"⟩) (n := 71) (List.mem_of_getElem? (i := 104) (by decide +kernel))
theorem v_140 : (Cond.code ⟨"MapFramerModel", "popReference", "()I"⟩ prog_14_method_38_code 2 (some .int) : Cond) ∈ bigW := inB_9 194 rfl rfl
theorem e_M_arrays_0 : decode prog_14_method_44_code 0 = .ok (.iload_n 1, 1) := by decide +kernel
theorem e_M_arrays_1 : decode prog_14_method_44_code 1 = .ok (.bipush 46, 2) := by decide +kernel
theorem e_M_arrays_3 : decode prog_14_method_44_code 3 = .ok (.if_icmp .eq 9, 3) := by decide +kernel
theorem e_M_arrays_6 : decode prog_14_method_44_code 6 = .ok (.iload_n 1, 1) := by decide +kernel
theorem e_M_arrays_7 : decode prog_14_method_44_code 7 = .ok (.bipush 79, 2) := by decide +kernel
theorem e_M_arrays_9 : decode prog_14_method_44_code 9 = .ok (.if_icmp .ne 7, 3) := by decide +kernel
theorem e_M_arrays_12 : decode prog_14_method_44_code 12 = .ok (.iconst 0, 1) := by decide +kernel
theorem e_M_arrays_13 : decode prog_14_method_44_code 13 = .ok (.goto 20, 3) := by decide +kernel
theorem e_M_arrays_16 : decode prog_14_method_44_code 16 = .ok (.iload_n 1, 1) := by decide +kernel
theorem e_M_arrays_17 : decode prog_14_method_44_code 17 = .ok (.bipush 47, 2) := by decide +kernel
theorem e_M_arrays_19 : decode prog_14_method_44_code 19 = .ok (.if_icmp .eq 9, 3) := by decide +kernel
theorem e_M_arrays_22 : decode prog_14_method_44_code 22 = .ok (.iload_n 1, 1) := by decide +kernel
theorem e_M_arrays_23 : decode prog_14_method_44_code 23 = .ok (.bipush 80, 2) := by decide +kernel
theorem e_M_arrays_25 : decode prog_14_method_44_code 25 = .ok (.if_icmp .ne 7, 3) := by decide +kernel
theorem e_M_arrays_28 : decode prog_14_method_44_code 28 = .ok (.iconst 1, 1) := by decide +kernel
theorem e_M_arrays_29 : decode prog_14_method_44_code 29 = .ok (.goto 4, 3) := by decide +kernel
theorem e_M_arrays_32 : decode prog_14_method_44_code 32 = .ok (.iconst 2, 1) := by decide +kernel
theorem e_M_arrays_33 : decode prog_14_method_44_code 33 = .ok (.istore_n 2, 1) := by decide +kernel
theorem e_M_arrays_34 : decode prog_14_method_44_code 34 = .ok (.iload_n 1, 1) := by decide +kernel
theorem e_M_arrays_35 : decode prog_14_method_44_code 35 = .ok (.bipush 78, 2) := by decide +kernel
theorem e_M_arrays_37 : decode prog_14_method_44_code 37 = .ok (.if_icmp .le 29, 3) := by decide +kernel
theorem e_M_arrays_40 : decode prog_14_method_44_code 40 = .ok (.iload_n 2, 1) := by decide +kernel
theorem e_M_arrays_41 : decode prog_14_method_44_code 41 = .ok (.iconst 2, 1) := by decide +kernel
theorem e_M_arrays_42 : decode prog_14_method_44_code 42 = .ok (.if_icmp .ne 11, 3) := by decide +kernel
theorem e_M_arrays_45 : decode prog_14_method_44_code 45 = .ok (.aload_n 0, 1) := by decide +kernel
theorem e_M_arrays_46 : decode prog_14_method_44_code 46 = .ok (.invokevirtual 279, 3) := by decide +kernel
theorem e_M_arrays_49 : decode prog_14_method_44_code 49 = .ok (.istore_n 3, 1) := by decide +kernel
theorem e_M_arrays_50 : decode prog_14_method_44_code 50 = .ok (.goto 16, 3) := by decide +kernel
theorem e_M_arrays_53 : decode prog_14_method_44_code 53 = .ok (.aload_n 0, 1) := by decide +kernel
theorem e_M_arrays_54 : decode prog_14_method_44_code 54 = .ok (.iload_n 2, 1) := by decide +kernel
theorem e_M_arrays_55 : decode prog_14_method_44_code 55 = .ok (.ifCond .ne 7, 3) := by decide +kernel
theorem e_M_arrays_58 : decode prog_14_method_44_code 58 = .ok (.iconst 1, 1) := by decide +kernel
theorem e_M_arrays_59 : decode prog_14_method_44_code 59 = .ok (.goto 4, 3) := by decide +kernel
theorem e_M_arrays_62 : decode prog_14_method_44_code 62 = .ok (.iconst 2, 1) := by decide +kernel
theorem e_M_arrays_63 : decode prog_14_method_44_code 63 = .ok (.invokevirtual 282, 3) := by decide +kernel
theorem e_M_arrays_66 : decode prog_14_method_44_code 66 = .ok (.aload_n 0, 1) := by decide +kernel
theorem e_M_arrays_67 : decode prog_14_method_44_code 67 = .ok (.iconst 1, 1) := by decide +kernel
theorem e_M_arrays_68 : decode prog_14_method_44_code 68 = .ok (.invokevirtual 282, 3) := by decide +kernel
theorem e_M_arrays_71 : decode prog_14_method_44_code 71 = .ok (.aload_n 0, 1) := by decide +kernel
theorem e_M_arrays_72 : decode prog_14_method_44_code 72 = .ok (.iload_n 2, 1) := by decide +kernel
theorem e_M_arrays_73 : decode prog_14_method_44_code 73 = .ok (.invokevirtual 285, 3) := by decide +kernel
theorem e_M_arrays_76 : decode prog_14_method_44_code 76 = .ok (.istore_n 3, 1) := by decide +kernel
theorem e_M_arrays_77 : decode prog_14_method_44_code 77 = .ok (.iload_n 1, 1) := by decide +kernel
theorem e_M_arrays_78 : decode prog_14_method_44_code 78 = .ok (.bipush 79, 2) := by decide +kernel
theorem e_M_arrays_80 : decode prog_14_method_44_code 80 = .ok (.if_icmp .ge 40, 3) := by decide +kernel
theorem e_M_arrays_83 : decode prog_14_method_44_code 83 = .ok (.aload_n 0, 1) := by decide +kernel
theorem e_M_arrays_84 : decode prog_14_method_44_code 84 = .ok (.iload_n 2, 1) := by decide +kernel
theorem e_M_arrays_85 : decode prog_14_method_44_code 85 = .ok (.ifCond .ne 7, 3) := by decide +kernel
theorem e_M_arrays_88 : decode prog_14_method_44_code 88 = .ok (.iconst 1, 1) := by decide +kernel
theorem e_M_arrays_89 : decode prog_14_method_44_code 89 = .ok (.goto 28, 3) := by decide +kernel
theorem e_M_arrays_92 : decode prog_14_method_44_code 92 = .ok (.iload_n 2, 1) := by decide +kernel
theorem e_M_arrays_93 : decode prog_14_method_44_code 93 = .ok (.iconst 1, 1) := by decide +kernel
theorem e_M_arrays_94 : decode prog_14_method_44_code 94 = .ok (.if_icmp .ne 7, 3) := by decide +kernel
theorem e_M_arrays_97 : decode prog_14_method_44_code 97 = .ok (.iconst 2, 1) := by decide +kernel
theorem e_M_arrays_98 : decode prog_14_method_44_code 98 = .ok (.goto 19, 3) := by decide +kernel
theorem e_M_arrays_101 : decode prog_14_method_44_code 101 = .ok (.iload_n 3, 1) := by decide +kernel
theorem e_M_arrays_102 : decode prog_14_method_44_code 102 = .ok (.iconst 5, 1) := by decide +kernel
theorem e_M_arrays_103 : decode prog_14_method_44_code 103 = .ok (.if_icmp .ne 7, 3) := by decide +kernel
theorem e_M_arrays_106 : decode prog_14_method_44_code 106 = .ok (.iconst 5, 1) := by decide +kernel
theorem e_M_arrays_107 : decode prog_14_method_44_code 107 = .ok (.goto 10, 3) := by decide +kernel
theorem e_M_arrays_110 : decode prog_14_method_44_code 110 = .ok (.bipush 32, 2) := by decide +kernel
theorem e_M_arrays_112 : decode prog_14_method_44_code 112 = .ok (.iload_n 3, 1) := by decide +kernel
theorem e_M_arrays_113 : decode prog_14_method_44_code 113 = .ok (.iadd, 1) := by decide +kernel
theorem e_M_arrays_114 : decode prog_14_method_44_code 114 = .ok (.bipush 64, 2) := by decide +kernel
theorem e_M_arrays_116 : decode prog_14_method_44_code 116 = .ok (.isub, 1) := by decide +kernel
theorem e_M_arrays_117 : decode prog_14_method_44_code 117 = .ok (.invokevirtual 272, 3) := by decide +kernel
theorem e_M_arrays_120 : decode prog_14_method_44_code 120 = .ok (.return_, 1) := by decide +kernel
def w_M_arrays_117 (P : MST → Prop) (s0 : Int32) (σ : MST) : Prop := w_M_push s0 σ (fun σ1 => P σ1)
def w_M_arrays_66 (P : MST → Prop) (z1 : Int32) (z2 : Int32) (σ : MST) : Prop := w_M_want (1 : Int32) σ (fun σ3 => w_M_popArray z2 σ3 (fun r6 σ5 => ((79 ≤ z1 → P σ5) ∧ (¬ 79 ≤ z1 → ((z2 = 0 → w_M_arrays_117 P 1 σ5) ∧ (¬ z2 = 0 → ((z2 = 1 → w_M_arrays_117 P 2 σ5) ∧ (¬ z2 = 1 → ((r6 = 5 → w_M_arrays_117 P 5 σ5) ∧ (¬ r6 = 5 → w_M_arrays_117 P (((32 : Int32) + r6) - 64) σ5))))))))))
def w_M_arrays_63 (P : MST → Prop) (z1 : Int32) (z2 : Int32) (s0 : Int32) (σ : MST) : Prop := w_M_want s0 σ (fun σ11 => w_M_arrays_66 P z1 z2 σ11)
def w_M_arrays_33 (P : MST → Prop) (z1 : Int32) (s0 : Int32) (σ : MST) : Prop := ((z1 ≤ 78 → w_M_arrays_66 P z1 s0 σ) ∧ (¬ z1 ≤ 78 → ((s0 = 2 → w_M_popReference σ (fun r17 σ16 => w_M_arrays_66 P z1 s0 σ16)) ∧ (¬ s0 = 2 → ((s0 = 0 → w_M_arrays_63 P z1 s0 1 σ) ∧ (¬ s0 = 0 → w_M_arrays_63 P z1 s0 2 σ))))))
def w_M_arrays_12 (P : MST → Prop) (z1 : Int32) (σ : MST) : Prop := w_M_arrays_33 P z1 0 σ
def w_M_arrays_28 (P : MST → Prop) (z1 : Int32) (σ : MST) : Prop := w_M_arrays_33 P z1 1 σ
def w_M_arrays (x1 : Int32) (σ : MST) (P : MST → Prop) : Prop := ((x1 = 46 → w_M_arrays_12 P x1 σ) ∧ (¬ x1 = 46 → ((x1 = 79 → w_M_arrays_12 P x1 σ) ∧ (¬ x1 = 79 → ((x1 = 47 → w_M_arrays_28 P x1 σ) ∧ (¬ x1 = 47 → ((x1 = 80 → w_M_arrays_28 P x1 σ) ∧ (¬ x1 = 80 → w_M_arrays_33 P x1 2 σ))))))))
set_option maxHeartbeats 4000000 in
set_option maxRecDepth 100000 in
theorem K_M_arrays (l : Launch) (dC : Nat → ClassId) (dI : Nat → Nat → Nat) (mo : Nat) (rf : Nat → Nat) (ca : Nat → ClassId) (sz : Nat) (σ : MST) (x1 : Int32) {P : MST → Prop} (hw : w_M_arrays x1 σ P) : Met l z_M_arrays (mW z_M_arrays prog_14_method_44_code 4 none) ({ frames := 4, cells := 0, slots := 0, locals := 89 } : Room) (va_Pc [.ref mo, .int x1] (MPre (dC, dI) mo rf ca σ sz)) (va_Qv P (MB (dC, dI) mo rf ca sz) (mA mo rf sz)) 0 0 (mA mo rf sz) := by
  refine M_ofv (by decide) rfl (Nat.le_of_ble_eq_true rfl) ?_
  intro p e s m below meth cx Q A ls C hA hend h hl
  have C0 := C
  obtain ⟨⟨hx, hb, hml, hown, hts⟩, hsub⟩ := C0
  have K_117 : ∀ (u9 : Unit), ∀ (s0 : Int32) (σ : MST) (H : Heap) (locs : List Loc) (ls : Array Slot), w_M_arrays_117 P s0 σ → MH (dC, dI) A mo rf ca σ s H locs → lv_has ls 4 [] → W p l e ({ frames := 4, cells := 0, slots := 0, locals := 89 } : Room) s m ([.ref mo, .int x1] : List Value).toArray below meth cx H locs 0 0 Q (F0 m 117 ls [.int s0, .ref mo]) := by
    intro u9 s0 σ H locs ls hw h hl
    unfold w_M_arrays_117 at hw
    refine M_callv (As := [.int s0]) (rest := []) C h hA (K_M_push l dC dI mo rf ca H.size σ s0 hw) (cwV 1 hts (gV hsub v_121 v_122 v_123 v_7 v_124) rfl rfl rfl (by decide +kernel) ⟨(Nat.le_of_ble_eq_true rfl), (Nat.le_of_ble_eq_true rfl)⟩) rfl hl.1 (Nat.le_of_ble_eq_true rfl) e_M_arrays_117 ⟨(Nat.le_of_ble_eq_true rfl), (Nat.le_of_ble_eq_true rfl)⟩ (fun σ1 H locs hw h => ?_)
    refine W.eq (g2 := F0 m 120 ls []) rfl ?_
    exact hend σ1 _ _ _ _ hw h e_M_arrays_120
  have K_66 : ∀ (u9 : Unit), ∀ (z1 : Int32) (z2 : Int32) (σ : MST) (H : Heap) (locs : List Loc) (ls : Array Slot), w_M_arrays_66 P z1 z2 σ → MH (dC, dI) A mo rf ca σ s H locs → lv_has ls 4 [(0, .ref mo), (1, .int z1), (2, .int z2)] → W p l e ({ frames := 4, cells := 0, slots := 0, locals := 89 } : Room) s m ([.ref mo, .int x1] : List Value).toArray below meth cx H locs 0 0 Q (F0 m 66 ls []) := by
    intro u9 z1 z2 σ H locs ls hw h hl
    unfold w_M_arrays_66 at hw
    refine lv_aload_n hx hb e_M_arrays_66 rfl (lv_at hl 0 rfl) ?_
    refine lv_iconst (v := 1) hx hb e_M_arrays_67 (by decide) ?_
    refine M_callv (As := [.int 1]) (rest := []) C h hA (K_M_want l dC dI mo rf ca H.size σ (1 : Int32) hw) (cwV 1 hts (gV hsub v_129 v_130 v_131 v_7 v_132) rfl rfl rfl (by decide +kernel) ⟨(Nat.le_of_ble_eq_true rfl), (Nat.le_of_ble_eq_true rfl)⟩) rfl hl.1 (Nat.le_of_ble_eq_true rfl) e_M_arrays_68 ⟨(Nat.le_of_ble_eq_true rfl), (Nat.le_of_ble_eq_true rfl)⟩ (fun σ3 H locs hw h => ?_)
    refine W.eq (g2 := F0 m 71 ls []) rfl ?_
    refine lv_aload_n hx hb e_M_arrays_71 rfl (lv_at hl 0 rfl) ?_
    refine lv_iload_n hx hb e_M_arrays_72 rfl (lv_at hl 2 rfl) ?_
    refine M_calli (As := [.int z2]) (rest := []) C h hA (K_M_popArray l dC dI mo rf ca H.size σ3 z2 hw) (cwV 1 hts (gV hsub v_133 v_134 v_135 v_7 v_136) rfl rfl rfl (by decide +kernel) ⟨(Nat.le_of_ble_eq_true rfl), (Nat.le_of_ble_eq_true rfl)⟩) rfl hl.1 (Nat.le_of_ble_eq_true rfl) e_M_arrays_73 ⟨(Nat.le_of_ble_eq_true rfl), (Nat.le_of_ble_eq_true rfl)⟩ (fun r6 σ5 H locs hw h => ?_)
    refine W.eq (g2 := F0 m 76 ls [.int r6]) rfl ?_
    refine lv_istore_n (lv' := [(3, .int r6), (0, .ref mo), (1, .int z1), (2, .int z2)]) hx hb e_M_arrays_76 rfl hl (by decide) rfl (fun ls hl => ?_)
    refine lv_iload_n hx hb e_M_arrays_77 rfl (lv_at hl 2 rfl) ?_
    refine lv_bipush (v := 79) hx hb e_M_arrays_78 (by decide) ?_
    refine lv_icmp_ge (tgt := 120) hx hb e_M_arrays_80 (by decide) (fun c7 => ?_) (fun c7 => ?_)
    · skip
      replace hw := hw.1 c7
      exact hend σ5 _ _ _ _ hw h e_M_arrays_120
    · skip
      replace hw := hw.2 c7
      refine lv_aload_n hx hb e_M_arrays_83 rfl (lv_at hl 1 rfl) ?_
      refine lv_iload_n hx hb e_M_arrays_84 rfl (lv_at hl 3 rfl) ?_
      refine lv_if_ne (tgt := 92) hx hb e_M_arrays_85 (by decide) (fun c8 => ?_) (fun c8 => ?_)
      · skip
        replace hw := hw.2 c8
        refine lv_iload_n hx hb e_M_arrays_92 rfl (lv_at hl 3 rfl) ?_
        refine lv_iconst (v := 1) hx hb e_M_arrays_93 (by decide) ?_
        refine lv_icmp_ne (tgt := 101) hx hb e_M_arrays_94 (by decide) (fun c9 => ?_) (fun c9 => ?_)
        · skip
          replace hw := hw.2 c9
          refine lv_iload_n hx hb e_M_arrays_101 rfl (lv_at hl 0 rfl) ?_
          refine lv_iconst (v := 5) hx hb e_M_arrays_102 (by decide) ?_
          refine lv_icmp_ne (tgt := 110) hx hb e_M_arrays_103 (by decide) (fun c10 => ?_) (fun c10 => ?_)
          · skip
            replace hw := hw.2 c10
            refine lv_bipush (v := 32) hx hb e_M_arrays_110 (by decide) ?_
            refine lv_iload_n hx hb e_M_arrays_112 rfl (lv_at hl 0 rfl) ?_
            refine lv_iadd hx hb e_M_arrays_113 ?_
            refine lv_bipush (v := 64) hx hb e_M_arrays_114 (by decide) ?_
            refine lv_isub hx hb e_M_arrays_116 ?_
            exact K_117 () (((32 : Int32) + r6) - 64) σ5 _ _ _ hw h (lv_sub hl [] rfl)
          · skip
            replace hw := hw.1 c10
            refine lv_iconst (v := 5) hx hb e_M_arrays_106 (by decide) ?_
            refine lv_goto (tgt := 117) hx hb e_M_arrays_107 (by decide) ?_
            exact K_117 () 5 σ5 _ _ _ hw h (lv_sub hl [] rfl)
        · skip
          replace hw := hw.1 c9
          refine lv_iconst (v := 2) hx hb e_M_arrays_97 (by decide) ?_
          refine lv_goto (tgt := 117) hx hb e_M_arrays_98 (by decide) ?_
          exact K_117 () 2 σ5 _ _ _ hw h (lv_sub hl [] rfl)
      · skip
        replace hw := hw.1 c8
        refine lv_iconst (v := 1) hx hb e_M_arrays_88 (by decide) ?_
        refine lv_goto (tgt := 117) hx hb e_M_arrays_89 (by decide) ?_
        exact K_117 () 1 σ5 _ _ _ hw h (lv_sub hl [] rfl)
  have K_63 : ∀ (u9 : Unit), ∀ (z1 : Int32) (z2 : Int32) (s0 : Int32) (σ : MST) (H : Heap) (locs : List Loc) (ls : Array Slot), w_M_arrays_63 P z1 z2 s0 σ → MH (dC, dI) A mo rf ca σ s H locs → lv_has ls 4 [(0, .ref mo), (1, .int z1), (2, .int z2)] → W p l e ({ frames := 4, cells := 0, slots := 0, locals := 89 } : Room) s m ([.ref mo, .int x1] : List Value).toArray below meth cx H locs 0 0 Q (F0 m 63 ls [.int s0, .ref mo]) := by
    intro u9 z1 z2 s0 σ H locs ls hw h hl
    unfold w_M_arrays_63 at hw
    refine M_callv (As := [.int s0]) (rest := []) C h hA (K_M_want l dC dI mo rf ca H.size σ s0 hw) (cwV 1 hts (gV hsub v_129 v_130 v_131 v_7 v_132) rfl rfl rfl (by decide +kernel) ⟨(Nat.le_of_ble_eq_true rfl), (Nat.le_of_ble_eq_true rfl)⟩) rfl hl.1 (Nat.le_of_ble_eq_true rfl) e_M_arrays_63 ⟨(Nat.le_of_ble_eq_true rfl), (Nat.le_of_ble_eq_true rfl)⟩ (fun σ11 H locs hw h => ?_)
    refine W.eq (g2 := F0 m 66 ls []) rfl ?_
    exact K_66 () z1 z2 σ11 _ _ _ hw h (lv_sub hl [0, 1, 2] rfl)
  have K_33 : ∀ (u9 : Unit), ∀ (z1 : Int32) (s0 : Int32) (σ : MST) (H : Heap) (locs : List Loc) (ls : Array Slot), w_M_arrays_33 P z1 s0 σ → MH (dC, dI) A mo rf ca σ s H locs → lv_has ls 4 [(0, .ref mo), (1, .int z1)] → W p l e ({ frames := 4, cells := 0, slots := 0, locals := 89 } : Room) s m ([.ref mo, .int x1] : List Value).toArray below meth cx H locs 0 0 Q (F0 m 33 ls [.int s0]) := by
    intro u9 z1 s0 σ H locs ls hw h hl
    unfold w_M_arrays_33 at hw
    refine lv_istore_n (lv' := [(2, .int s0), (0, .ref mo), (1, .int z1)]) hx hb e_M_arrays_33 rfl hl (by decide) rfl (fun ls hl => ?_)
    refine lv_iload_n hx hb e_M_arrays_34 rfl (lv_at hl 2 rfl) ?_
    refine lv_bipush (v := 78) hx hb e_M_arrays_35 (by decide) ?_
    refine lv_icmp_le (tgt := 66) hx hb e_M_arrays_37 (by decide) (fun c13 => ?_) (fun c13 => ?_)
    · skip
      replace hw := hw.1 c13
      exact K_66 () z1 s0 σ _ _ _ hw h (lv_sub hl [1, 2, 0] rfl)
    · skip
      replace hw := hw.2 c13
      refine lv_iload_n hx hb e_M_arrays_40 rfl (lv_at hl 0 rfl) ?_
      refine lv_iconst (v := 2) hx hb e_M_arrays_41 (by decide) ?_
      refine lv_icmp_ne (tgt := 53) hx hb e_M_arrays_42 (by decide) (fun c14 => ?_) (fun c14 => ?_)
      · skip
        replace hw := hw.2 c14
        refine lv_aload_n hx hb e_M_arrays_53 rfl (lv_at hl 1 rfl) ?_
        refine lv_iload_n hx hb e_M_arrays_54 rfl (lv_at hl 0 rfl) ?_
        refine lv_if_ne (tgt := 62) hx hb e_M_arrays_55 (by decide) (fun c15 => ?_) (fun c15 => ?_)
        · skip
          replace hw := hw.2 c15
          refine lv_iconst (v := 2) hx hb e_M_arrays_62 (by decide) ?_
          exact K_63 () z1 s0 2 σ _ _ _ hw h (lv_sub hl [1, 2, 0] rfl)
        · skip
          replace hw := hw.1 c15
          refine lv_iconst (v := 1) hx hb e_M_arrays_58 (by decide) ?_
          refine lv_goto (tgt := 63) hx hb e_M_arrays_59 (by decide) ?_
          exact K_63 () z1 s0 1 σ _ _ _ hw h (lv_sub hl [1, 2, 0] rfl)
      · skip
        replace hw := hw.1 c14
        refine lv_aload_n hx hb e_M_arrays_45 rfl (lv_at hl 1 rfl) ?_
        refine M_calli (As := []) (rest := []) C h hA (K_M_popReference l dC dI mo rf ca H.size σ hw) (cwV 0 hts (gV hsub v_137 v_138 v_139 v_7 v_140) rfl rfl rfl (by decide +kernel) ⟨(Nat.le_of_ble_eq_true rfl), (Nat.le_of_ble_eq_true rfl)⟩) rfl hl.1 (Nat.le_of_ble_eq_true rfl) e_M_arrays_46 ⟨(Nat.le_of_ble_eq_true rfl), (Nat.le_of_ble_eq_true rfl)⟩ (fun r17 σ16 H locs hw h => ?_)
        refine W.eq (g2 := F0 m 49 ls [.int r17]) rfl ?_
        refine lv_istore_n (lv' := [(3, .int r17), (2, .int s0), (0, .ref mo), (1, .int z1)]) hx hb e_M_arrays_49 rfl hl (by decide) rfl (fun ls hl => ?_)
        refine lv_goto (tgt := 66) hx hb e_M_arrays_50 (by decide) ?_
        exact K_66 () z1 s0 σ16 _ _ _ hw h (lv_sub hl [2, 3, 1] rfl)
  have K_12 : ∀ (u9 : Unit), ∀ (z1 : Int32) (σ : MST) (H : Heap) (locs : List Loc) (ls : Array Slot), w_M_arrays_12 P z1 σ → MH (dC, dI) A mo rf ca σ s H locs → lv_has ls 4 [(0, .ref mo), (1, .int z1)] → W p l e ({ frames := 4, cells := 0, slots := 0, locals := 89 } : Room) s m ([.ref mo, .int x1] : List Value).toArray below meth cx H locs 0 0 Q (F0 m 12 ls []) := by
    intro u9 z1 σ H locs ls hw h hl
    unfold w_M_arrays_12 at hw
    refine lv_iconst (v := 0) hx hb e_M_arrays_12 (by decide) ?_
    refine lv_goto (tgt := 33) hx hb e_M_arrays_13 (by decide) ?_
    exact K_33 () z1 0 σ _ _ _ hw h (lv_sub hl [0, 1] rfl)
  have K_28 : ∀ (u9 : Unit), ∀ (z1 : Int32) (σ : MST) (H : Heap) (locs : List Loc) (ls : Array Slot), w_M_arrays_28 P z1 σ → MH (dC, dI) A mo rf ca σ s H locs → lv_has ls 4 [(0, .ref mo), (1, .int z1)] → W p l e ({ frames := 4, cells := 0, slots := 0, locals := 89 } : Room) s m ([.ref mo, .int x1] : List Value).toArray below meth cx H locs 0 0 Q (F0 m 28 ls []) := by
    intro u9 z1 σ H locs ls hw h hl
    unfold w_M_arrays_28 at hw
    refine lv_iconst (v := 1) hx hb e_M_arrays_28 (by decide) ?_
    refine lv_goto (tgt := 33) hx hb e_M_arrays_29 (by decide) ?_
    exact K_33 () z1 1 σ _ _ _ hw h (lv_sub hl [0, 1] rfl)
  have hl : lv_has ls 4 [(0, .ref mo), (1, .int x1)] := hl
  unfold w_M_arrays at hw
  refine lv_iload_n hx hb e_M_arrays_0 rfl (lv_at hl 1 rfl) ?_
  refine lv_bipush (v := 46) hx hb e_M_arrays_1 (by decide) ?_
  refine lv_icmp_eq (tgt := 12) hx hb e_M_arrays_3 (by decide) (fun c18 => ?_) (fun c18 => ?_)
  · skip
    replace hw := hw.1 c18
    exact K_12 () x1 σ _ _ _ hw h (lv_sub hl [0, 1] rfl)
  · skip
    replace hw := hw.2 c18
    refine lv_iload_n hx hb e_M_arrays_6 rfl (lv_at hl 1 rfl) ?_
    refine lv_bipush (v := 79) hx hb e_M_arrays_7 (by decide) ?_
    refine lv_icmp_ne (tgt := 16) hx hb e_M_arrays_9 (by decide) (fun c19 => ?_) (fun c19 => ?_)
    · skip
      replace hw := hw.2 c19
      refine lv_iload_n hx hb e_M_arrays_16 rfl (lv_at hl 1 rfl) ?_
      refine lv_bipush (v := 47) hx hb e_M_arrays_17 (by decide) ?_
      refine lv_icmp_eq (tgt := 28) hx hb e_M_arrays_19 (by decide) (fun c20 => ?_) (fun c20 => ?_)
      · skip
        replace hw := hw.1 c20
        exact K_28 () x1 σ _ _ _ hw h (lv_sub hl [0, 1] rfl)
      · skip
        replace hw := hw.2 c20
        refine lv_iload_n hx hb e_M_arrays_22 rfl (lv_at hl 1 rfl) ?_
        refine lv_bipush (v := 80) hx hb e_M_arrays_23 (by decide) ?_
        refine lv_icmp_ne (tgt := 32) hx hb e_M_arrays_25 (by decide) (fun c21 => ?_) (fun c21 => ?_)
        · skip
          replace hw := hw.2 c21
          refine lv_iconst (v := 2) hx hb e_M_arrays_32 (by decide) ?_
          exact K_33 () x1 2 σ _ _ _ hw h (lv_sub hl [0, 1] rfl)
        · skip
          replace hw := hw.1 c21
          exact K_28 () x1 σ _ _ _ hw h (lv_sub hl [0, 1] rfl)
    · skip
      replace hw := hw.1 c19
      exact K_12 () x1 σ _ _ _ hw h (lv_sub hl [0, 1] rfl)
abbrev z_M_shuffle : MethodName := ⟨"MapFramerModel", "shuffle", "(I)V"⟩
theorem v_141 : (Cond.methodLink "MapFramerModel" 288 ⟨"MapFramerModel", "popOne", "()I"⟩ : Cond) ∈ bigW := inB_9 215 (by decide +kernel) rfl
theorem v_142 : (Cond.instanceMethod ⟨"MapFramerModel", "popOne", "()I"⟩ : Cond) ∈ bigW := inB_9 217 (by decide +kernel) rfl
theorem v_143 : (Cond.selects "MapFramerModel" ⟨"MapFramerModel", "popOne", "()I"⟩ ⟨"MapFramerModel", "popOne", "()I"⟩ : Cond) ∈ bigW := inS (y := ⟨"MapFramerModel", "popOne", "()I"⟩) (n := 71) (List.mem_of_getElem? (i := 110) (by decide +kernel))
theorem v_144 : (Cond.code ⟨"MapFramerModel", "popOne", "()I"⟩ prog_14_method_39_code 2 (some .int) : Cond) ∈ bigW := inB_9 218 rfl rfl
theorem e_M_shuffle_0 : decode prog_14_method_45_code 0 = .ok (.iload_n 1, 1) := by decide +kernel
theorem e_M_shuffle_1 : decode prog_14_method_45_code 1 = .ok (.bipush 87, 2) := by decide +kernel
theorem e_M_shuffle_3 : decode prog_14_method_45_code 3 = .ok (.if_icmp .eq 9, 3) := by decide +kernel
theorem e_M_shuffle_6 : decode prog_14_method_45_code 6 = .ok (.iload_n 1, 1) := by decide +kernel
theorem e_M_shuffle_7 : decode prog_14_method_45_code 7 = .ok (.bipush 89, 2) := by decide +kernel
theorem e_M_shuffle_9 : decode prog_14_method_45_code 9 = .ok (.if_icmp .ne 10, 3) := by decide +kernel
theorem e_M_shuffle_12 : decode prog_14_method_45_code 12 = .ok (.aload_n 0, 1) := by decide +kernel
theorem e_M_shuffle_13 : decode prog_14_method_45_code 13 = .ok (.invokevirtual 288, 3) := by decide +kernel
theorem e_M_shuffle_16 : decode prog_14_method_45_code 16 = .ok (.goto 7, 3) := by decide +kernel
theorem e_M_shuffle_19 : decode prog_14_method_45_code 19 = .ok (.aload_n 0, 1) := by decide +kernel
theorem e_M_shuffle_20 : decode prog_14_method_45_code 20 = .ok (.invokevirtual 256, 3) := by decide +kernel
theorem e_M_shuffle_23 : decode prog_14_method_45_code 23 = .ok (.istore_n 2, 1) := by decide +kernel
theorem e_M_shuffle_24 : decode prog_14_method_45_code 24 = .ok (.iload_n 1, 1) := by decide +kernel
theorem e_M_shuffle_25 : decode prog_14_method_45_code 25 = .ok (.bipush 89, 2) := by decide +kernel
theorem e_M_shuffle_27 : decode prog_14_method_45_code 27 = .ok (.if_icmp .eq 14, 3) := by decide +kernel
theorem e_M_shuffle_30 : decode prog_14_method_45_code 30 = .ok (.iload_n 1, 1) := by decide +kernel
theorem e_M_shuffle_31 : decode prog_14_method_45_code 31 = .ok (.bipush 92, 2) := by decide +kernel
theorem e_M_shuffle_33 : decode prog_14_method_45_code 33 = .ok (.if_icmp .ne 13, 3) := by decide +kernel
theorem e_M_shuffle_36 : decode prog_14_method_45_code 36 = .ok (.iload_n 2, 1) := by decide +kernel
theorem e_M_shuffle_37 : decode prog_14_method_45_code 37 = .ok (.iconst 2, 1) := by decide +kernel
theorem e_M_shuffle_38 : decode prog_14_method_45_code 38 = .ok (.if_icmp .ne 8, 3) := by decide +kernel
theorem e_M_shuffle_41 : decode prog_14_method_45_code 41 = .ok (.aload_n 0, 1) := by decide +kernel
theorem e_M_shuffle_42 : decode prog_14_method_45_code 42 = .ok (.iload_n 2, 1) := by decide +kernel
theorem e_M_shuffle_43 : decode prog_14_method_45_code 43 = .ok (.invokevirtual 272, 3) := by decide +kernel
theorem e_M_shuffle_46 : decode prog_14_method_45_code 46 = .ok (.iload_n 1, 1) := by decide +kernel
theorem e_M_shuffle_47 : decode prog_14_method_45_code 47 = .ok (.bipush 89, 2) := by decide +kernel
theorem e_M_shuffle_49 : decode prog_14_method_45_code 49 = .ok (.if_icmp .eq 14, 3) := by decide +kernel
theorem e_M_shuffle_52 : decode prog_14_method_45_code 52 = .ok (.iload_n 1, 1) := by decide +kernel
theorem e_M_shuffle_53 : decode prog_14_method_45_code 53 = .ok (.bipush 92, 2) := by decide +kernel
theorem e_M_shuffle_55 : decode prog_14_method_45_code 55 = .ok (.if_icmp .ne 13, 3) := by decide +kernel
theorem e_M_shuffle_58 : decode prog_14_method_45_code 58 = .ok (.iload_n 2, 1) := by decide +kernel
theorem e_M_shuffle_59 : decode prog_14_method_45_code 59 = .ok (.iconst 2, 1) := by decide +kernel
theorem e_M_shuffle_60 : decode prog_14_method_45_code 60 = .ok (.if_icmp .ne 8, 3) := by decide +kernel
theorem e_M_shuffle_63 : decode prog_14_method_45_code 63 = .ok (.aload_n 0, 1) := by decide +kernel
theorem e_M_shuffle_64 : decode prog_14_method_45_code 64 = .ok (.iload_n 2, 1) := by decide +kernel
theorem e_M_shuffle_65 : decode prog_14_method_45_code 65 = .ok (.invokevirtual 272, 3) := by decide +kernel
theorem e_M_shuffle_68 : decode prog_14_method_45_code 68 = .ok (.iload_n 1, 1) := by decide +kernel
theorem e_M_shuffle_69 : decode prog_14_method_45_code 69 = .ok (.bipush 87, 2) := by decide +kernel
theorem e_M_shuffle_71 : decode prog_14_method_45_code 71 = .ok (.if_icmp .eq 26, 3) := by decide +kernel
theorem e_M_shuffle_74 : decode prog_14_method_45_code 74 = .ok (.iload_n 1, 1) := by decide +kernel
theorem e_M_shuffle_75 : decode prog_14_method_45_code 75 = .ok (.bipush 89, 2) := by decide +kernel
theorem e_M_shuffle_77 : decode prog_14_method_45_code 77 = .ok (.if_icmp .eq 20, 3) := by decide +kernel
theorem e_M_shuffle_80 : decode prog_14_method_45_code 80 = .ok (.iload_n 1, 1) := by decide +kernel
theorem e_M_shuffle_81 : decode prog_14_method_45_code 81 = .ok (.bipush 88, 2) := by decide +kernel
theorem e_M_shuffle_83 : decode prog_14_method_45_code 83 = .ok (.if_icmp .eq 9, 3) := by decide +kernel
theorem e_M_shuffle_86 : decode prog_14_method_45_code 86 = .ok (.iload_n 1, 1) := by decide +kernel
theorem e_M_shuffle_87 : decode prog_14_method_45_code 87 = .ok (.bipush 92, 2) := by decide +kernel
theorem e_M_shuffle_89 : decode prog_14_method_45_code 89 = .ok (.if_icmp .ne 9, 3) := by decide +kernel
theorem e_M_shuffle_92 : decode prog_14_method_45_code 92 = .ok (.iload_n 2, 1) := by decide +kernel
theorem e_M_shuffle_93 : decode prog_14_method_45_code 93 = .ok (.iconst 2, 1) := by decide +kernel
theorem e_M_shuffle_94 : decode prog_14_method_45_code 94 = .ok (.if_icmp .ne 4, 3) := by decide +kernel
theorem e_M_shuffle_97 : decode prog_14_method_45_code 97 = .ok (.return_, 1) := by decide +kernel
theorem e_M_shuffle_98 : decode prog_14_method_45_code 98 = .ok (.iload_n 2, 1) := by decide +kernel
theorem e_M_shuffle_99 : decode prog_14_method_45_code 99 = .ok (.iconst 2, 1) := by decide +kernel
theorem e_M_shuffle_100 : decode prog_14_method_45_code 100 = .ok (.if_icmp .ne 9, 3) := by decide +kernel
theorem e_M_shuffle_103 : decode prog_14_method_45_code 103 = .ok (.aload_n 0, 1) := by decide +kernel
theorem e_M_shuffle_104 : decode prog_14_method_45_code 104 = .ok (.bipush 6, 2) := by decide +kernel
theorem e_M_shuffle_106 : decode prog_14_method_45_code 106 = .ok (.invokevirtual 252, 3) := by decide +kernel
theorem e_M_shuffle_109 : decode prog_14_method_45_code 109 = .ok (.aload_n 0, 1) := by decide +kernel
theorem e_M_shuffle_110 : decode prog_14_method_45_code 110 = .ok (.invokevirtual 288, 3) := by decide +kernel
theorem e_M_shuffle_113 : decode prog_14_method_45_code 113 = .ok (.istore_n 3, 1) := by decide +kernel
theorem e_M_shuffle_114 : decode prog_14_method_45_code 114 = .ok (.iload_n 1, 1) := by decide +kernel
theorem e_M_shuffle_115 : decode prog_14_method_45_code 115 = .ok (.bipush 88, 2) := by decide +kernel
theorem e_M_shuffle_117 : decode prog_14_method_45_code 117 = .ok (.if_icmp .ne 4, 3) := by decide +kernel
theorem e_M_shuffle_120 : decode prog_14_method_45_code 120 = .ok (.return_, 1) := by decide +kernel
theorem e_M_shuffle_121 : decode prog_14_method_45_code 121 = .ok (.iload_n 1, 1) := by decide +kernel
theorem e_M_shuffle_122 : decode prog_14_method_45_code 122 = .ok (.bipush 92, 2) := by decide +kernel
theorem e_M_shuffle_124 : decode prog_14_method_45_code 124 = .ok (.if_icmp .ne 8, 3) := by decide +kernel
theorem e_M_shuffle_127 : decode prog_14_method_45_code 127 = .ok (.aload_n 0, 1) := by decide +kernel
theorem e_M_shuffle_128 : decode prog_14_method_45_code 128 = .ok (.iload_n 3, 1) := by decide +kernel
theorem e_M_shuffle_129 : decode prog_14_method_45_code 129 = .ok (.invokevirtual 272, 3) := by decide +kernel
theorem e_M_shuffle_132 : decode prog_14_method_45_code 132 = .ok (.aload_n 0, 1) := by decide +kernel
theorem e_M_shuffle_133 : decode prog_14_method_45_code 133 = .ok (.iload_n 2, 1) := by decide +kernel
theorem e_M_shuffle_134 : decode prog_14_method_45_code 134 = .ok (.invokevirtual 272, 3) := by decide +kernel
theorem e_M_shuffle_137 : decode prog_14_method_45_code 137 = .ok (.aload_n 0, 1) := by decide +kernel
theorem e_M_shuffle_138 : decode prog_14_method_45_code 138 = .ok (.iload_n 3, 1) := by decide +kernel
theorem e_M_shuffle_139 : decode prog_14_method_45_code 139 = .ok (.invokevirtual 272, 3) := by decide +kernel
theorem e_M_shuffle_142 : decode prog_14_method_45_code 142 = .ok (.iload_n 1, 1) := by decide +kernel
theorem e_M_shuffle_143 : decode prog_14_method_45_code 143 = .ok (.bipush 90, 2) := by decide +kernel
theorem e_M_shuffle_145 : decode prog_14_method_45_code 145 = .ok (.if_icmp .eq 9, 3) := by decide +kernel
theorem e_M_shuffle_148 : decode prog_14_method_45_code 148 = .ok (.iload_n 1, 1) := by decide +kernel
theorem e_M_shuffle_149 : decode prog_14_method_45_code 149 = .ok (.bipush 92, 2) := by decide +kernel
theorem e_M_shuffle_151 : decode prog_14_method_45_code 151 = .ok (.if_icmp .ne 8, 3) := by decide +kernel
theorem e_M_shuffle_154 : decode prog_14_method_45_code 154 = .ok (.aload_n 0, 1) := by decide +kernel
theorem e_M_shuffle_155 : decode prog_14_method_45_code 155 = .ok (.iload_n 2, 1) := by decide +kernel
theorem e_M_shuffle_156 : decode prog_14_method_45_code 156 = .ok (.invokevirtual 272, 3) := by decide +kernel
theorem e_M_shuffle_159 : decode prog_14_method_45_code 159 = .ok (.return_, 1) := by decide +kernel
def w_M_shuffle_154 (P : MST → Prop) (z2 : Int32) (σ : MST) : Prop := w_M_push z2 σ (fun σ1 => P σ1)
def w_M_shuffle_132 (P : MST → Prop) (z1 : Int32) (z2 : Int32) (z3 : Int32) (σ : MST) : Prop := w_M_push z2 σ (fun σ3 => w_M_push z3 σ3 (fun σ5 => ((z1 = 90 → w_M_shuffle_154 P z2 σ5) ∧ (¬ z1 = 90 → ((z1 = 92 → w_M_shuffle_154 P z2 σ5) ∧ (¬ z1 = 92 → P σ5))))))
def w_M_shuffle_109 (P : MST → Prop) (z1 : Int32) (z2 : Int32) (σ : MST) : Prop := w_M_popOne σ (fun r10 σ9 => ((z1 = 88 → P σ9) ∧ (¬ z1 = 88 → ((z1 = 92 → w_M_push r10 σ9 (fun σ13 => w_M_shuffle_132 P z1 z2 r10 σ13)) ∧ (¬ z1 = 92 → w_M_shuffle_132 P z1 z2 r10 σ9)))))
def w_M_shuffle_98 (P : MST → Prop) (z1 : Int32) (z2 : Int32) (σ : MST) : Prop := ((z2 = 2 → w_M_miss (6 : Int32) σ (fun σ16 => w_M_shuffle_109 P z1 z2 σ16)) ∧ (¬ z2 = 2 → w_M_shuffle_109 P z1 z2 σ))
def w_M_shuffle_92 (P : MST → Prop) (z1 : Int32) (z2 : Int32) (σ : MST) : Prop := ((z2 = 2 → P σ) ∧ (¬ z2 = 2 → w_M_shuffle_98 P z1 z2 σ))
def w_M_shuffle_68 (P : MST → Prop) (z1 : Int32) (z2 : Int32) (σ : MST) : Prop := ((z1 = 87 → P σ) ∧ (¬ z1 = 87 → ((z1 = 89 → P σ) ∧ (¬ z1 = 89 → ((z1 = 88 → w_M_shuffle_92 P z1 z2 σ) ∧ (¬ z1 = 88 → ((z1 = 92 → w_M_shuffle_92 P z1 z2 σ) ∧ (¬ z1 = 92 → w_M_shuffle_98 P z1 z2 σ))))))))
def w_M_shuffle_63 (P : MST → Prop) (z1 : Int32) (z2 : Int32) (σ : MST) : Prop := w_M_push z2 σ (fun σ23 => w_M_shuffle_68 P z1 z2 σ23)
def w_M_shuffle_46 (P : MST → Prop) (z1 : Int32) (z2 : Int32) (σ : MST) : Prop := ((z1 = 89 → w_M_shuffle_63 P z1 z2 σ) ∧ (¬ z1 = 89 → ((z1 = 92 → ((z2 = 2 → w_M_shuffle_63 P z1 z2 σ) ∧ (¬ z2 = 2 → w_M_shuffle_68 P z1 z2 σ))) ∧ (¬ z1 = 92 → w_M_shuffle_68 P z1 z2 σ))))
def w_M_shuffle_41 (P : MST → Prop) (z1 : Int32) (z2 : Int32) (σ : MST) : Prop := w_M_push z2 σ (fun σ28 => w_M_shuffle_46 P z1 z2 σ28)
def w_M_shuffle_23 (P : MST → Prop) (z1 : Int32) (s0 : Int32) (σ : MST) : Prop := ((z1 = 89 → w_M_shuffle_41 P z1 s0 σ) ∧ (¬ z1 = 89 → ((z1 = 92 → ((s0 = 2 → w_M_shuffle_41 P z1 s0 σ) ∧ (¬ s0 = 2 → w_M_shuffle_46 P z1 s0 σ))) ∧ (¬ z1 = 92 → w_M_shuffle_46 P z1 s0 σ))))
def w_M_shuffle_12 (P : MST → Prop) (z1 : Int32) (σ : MST) : Prop := w_M_popOne σ (fun r34 σ33 => w_M_shuffle_23 P z1 r34 σ33)
def w_M_shuffle (x1 : Int32) (σ : MST) (P : MST → Prop) : Prop := ((x1 = 87 → w_M_shuffle_12 P x1 σ) ∧ (¬ x1 = 87 → ((x1 = 89 → w_M_shuffle_12 P x1 σ) ∧ (¬ x1 = 89 → w_M_pop σ (fun r38 σ37 => w_M_shuffle_23 P x1 r38 σ37)))))
set_option maxHeartbeats 4000000 in
set_option maxRecDepth 100000 in
theorem K_M_shuffle (l : Launch) (dC : Nat → ClassId) (dI : Nat → Nat → Nat) (mo : Nat) (rf : Nat → Nat) (ca : Nat → ClassId) (sz : Nat) (σ : MST) (x1 : Int32) {P : MST → Prop} (hw : w_M_shuffle x1 σ P) : Met l z_M_shuffle (mW z_M_shuffle prog_14_method_45_code 4 none) ({ frames := 3, cells := 0, slots := 0, locals := 62 } : Room) (va_Pc [.ref mo, .int x1] (MPre (dC, dI) mo rf ca σ sz)) (va_Qv P (MB (dC, dI) mo rf ca sz) (mA mo rf sz)) 0 0 (mA mo rf sz) := by
  refine M_ofv (by decide) rfl (Nat.le_of_ble_eq_true rfl) ?_
  intro p e s m below meth cx Q A ls C hA hend h hl
  have C0 := C
  obtain ⟨⟨hx, hb, hml, hown, hts⟩, hsub⟩ := C0
  have K_154 : ∀ (u9 : Unit), ∀ (z2 : Int32) (σ : MST) (H : Heap) (locs : List Loc) (ls : Array Slot), w_M_shuffle_154 P z2 σ → MH (dC, dI) A mo rf ca σ s H locs → lv_has ls 4 [(0, .ref mo), (2, .int z2)] → W p l e ({ frames := 3, cells := 0, slots := 0, locals := 62 } : Room) s m ([.ref mo, .int x1] : List Value).toArray below meth cx H locs 0 0 Q (F0 m 154 ls []) := by
    intro u9 z2 σ H locs ls hw h hl
    unfold w_M_shuffle_154 at hw
    refine lv_aload_n hx hb e_M_shuffle_154 rfl (lv_at hl 0 rfl) ?_
    refine lv_iload_n hx hb e_M_shuffle_155 rfl (lv_at hl 1 rfl) ?_
    refine M_callv (As := [.int z2]) (rest := []) C h hA (K_M_push l dC dI mo rf ca H.size σ z2 hw) (cwV 1 hts (gV hsub v_121 v_122 v_123 v_7 v_124) rfl rfl rfl (by decide +kernel) ⟨(Nat.le_of_ble_eq_true rfl), (Nat.le_of_ble_eq_true rfl)⟩) rfl hl.1 (Nat.le_of_ble_eq_true rfl) e_M_shuffle_156 ⟨(Nat.le_of_ble_eq_true rfl), (Nat.le_of_ble_eq_true rfl)⟩ (fun σ1 H locs hw h => ?_)
    refine W.eq (g2 := F0 m 159 ls []) rfl ?_
    exact hend σ1 _ _ _ _ hw h e_M_shuffle_159
  have K_132 : ∀ (u9 : Unit), ∀ (z1 : Int32) (z2 : Int32) (z3 : Int32) (σ : MST) (H : Heap) (locs : List Loc) (ls : Array Slot), w_M_shuffle_132 P z1 z2 z3 σ → MH (dC, dI) A mo rf ca σ s H locs → lv_has ls 4 [(0, .ref mo), (1, .int z1), (2, .int z2), (3, .int z3)] → W p l e ({ frames := 3, cells := 0, slots := 0, locals := 62 } : Room) s m ([.ref mo, .int x1] : List Value).toArray below meth cx H locs 0 0 Q (F0 m 132 ls []) := by
    intro u9 z1 z2 z3 σ H locs ls hw h hl
    unfold w_M_shuffle_132 at hw
    refine lv_aload_n hx hb e_M_shuffle_132 rfl (lv_at hl 0 rfl) ?_
    refine lv_iload_n hx hb e_M_shuffle_133 rfl (lv_at hl 2 rfl) ?_
    refine M_callv (As := [.int z2]) (rest := []) C h hA (K_M_push l dC dI mo rf ca H.size σ z2 hw) (cwV 1 hts (gV hsub v_121 v_122 v_123 v_7 v_124) rfl rfl rfl (by decide +kernel) ⟨(Nat.le_of_ble_eq_true rfl), (Nat.le_of_ble_eq_true rfl)⟩) rfl hl.1 (Nat.le_of_ble_eq_true rfl) e_M_shuffle_134 ⟨(Nat.le_of_ble_eq_true rfl), (Nat.le_of_ble_eq_true rfl)⟩ (fun σ3 H locs hw h => ?_)
    refine W.eq (g2 := F0 m 137 ls []) rfl ?_
    refine lv_aload_n hx hb e_M_shuffle_137 rfl (lv_at hl 0 rfl) ?_
    refine lv_iload_n hx hb e_M_shuffle_138 rfl (lv_at hl 3 rfl) ?_
    refine M_callv (As := [.int z3]) (rest := []) C h hA (K_M_push l dC dI mo rf ca H.size σ3 z3 hw) (cwV 1 hts (gV hsub v_121 v_122 v_123 v_7 v_124) rfl rfl rfl (by decide +kernel) ⟨(Nat.le_of_ble_eq_true rfl), (Nat.le_of_ble_eq_true rfl)⟩) rfl hl.1 (Nat.le_of_ble_eq_true rfl) e_M_shuffle_139 ⟨(Nat.le_of_ble_eq_true rfl), (Nat.le_of_ble_eq_true rfl)⟩ (fun σ5 H locs hw h => ?_)
    refine W.eq (g2 := F0 m 142 ls []) rfl ?_
    refine lv_iload_n hx hb e_M_shuffle_142 rfl (lv_at hl 1 rfl) ?_
    refine lv_bipush (v := 90) hx hb e_M_shuffle_143 (by decide) ?_
    refine lv_icmp_eq (tgt := 154) hx hb e_M_shuffle_145 (by decide) (fun c7 => ?_) (fun c7 => ?_)
    · skip
      replace hw := hw.1 c7
      exact K_154 () z2 σ5 _ _ _ hw h (lv_sub hl [0, 2] rfl)
    · skip
      replace hw := hw.2 c7
      refine lv_iload_n hx hb e_M_shuffle_148 rfl (lv_at hl 1 rfl) ?_
      refine lv_bipush (v := 92) hx hb e_M_shuffle_149 (by decide) ?_
      refine lv_icmp_ne (tgt := 159) hx hb e_M_shuffle_151 (by decide) (fun c8 => ?_) (fun c8 => ?_)
      · skip
        replace hw := hw.2 c8
        exact hend σ5 _ _ _ _ hw h e_M_shuffle_159
      · skip
        replace hw := hw.1 c8
        exact K_154 () z2 σ5 _ _ _ hw h (lv_sub hl [0, 2] rfl)
  have K_109 : ∀ (u9 : Unit), ∀ (z1 : Int32) (z2 : Int32) (σ : MST) (H : Heap) (locs : List Loc) (ls : Array Slot), w_M_shuffle_109 P z1 z2 σ → MH (dC, dI) A mo rf ca σ s H locs → lv_has ls 4 [(0, .ref mo), (1, .int z1), (2, .int z2)] → W p l e ({ frames := 3, cells := 0, slots := 0, locals := 62 } : Room) s m ([.ref mo, .int x1] : List Value).toArray below meth cx H locs 0 0 Q (F0 m 109 ls []) := by
    intro u9 z1 z2 σ H locs ls hw h hl
    unfold w_M_shuffle_109 at hw
    refine lv_aload_n hx hb e_M_shuffle_109 rfl (lv_at hl 0 rfl) ?_
    refine M_calli (As := []) (rest := []) C h hA (K_M_popOne l dC dI mo rf ca H.size σ hw) (cwV 0 hts (gV hsub v_141 v_142 v_143 v_7 v_144) rfl rfl rfl (by decide +kernel) ⟨(Nat.le_of_ble_eq_true rfl), (Nat.le_of_ble_eq_true rfl)⟩) rfl hl.1 (Nat.le_of_ble_eq_true rfl) e_M_shuffle_110 ⟨(Nat.le_of_ble_eq_true rfl), (Nat.le_of_ble_eq_true rfl)⟩ (fun r10 σ9 H locs hw h => ?_)
    refine W.eq (g2 := F0 m 113 ls [.int r10]) rfl ?_
    refine lv_istore_n (lv' := [(3, .int r10), (0, .ref mo), (1, .int z1), (2, .int z2)]) hx hb e_M_shuffle_113 rfl hl (by decide) rfl (fun ls hl => ?_)
    refine lv_iload_n hx hb e_M_shuffle_114 rfl (lv_at hl 2 rfl) ?_
    refine lv_bipush (v := 88) hx hb e_M_shuffle_115 (by decide) ?_
    refine lv_icmp_ne (tgt := 121) hx hb e_M_shuffle_117 (by decide) (fun c11 => ?_) (fun c11 => ?_)
    · skip
      replace hw := hw.2 c11
      refine lv_iload_n hx hb e_M_shuffle_121 rfl (lv_at hl 2 rfl) ?_
      refine lv_bipush (v := 92) hx hb e_M_shuffle_122 (by decide) ?_
      refine lv_icmp_ne (tgt := 132) hx hb e_M_shuffle_124 (by decide) (fun c12 => ?_) (fun c12 => ?_)
      · skip
        replace hw := hw.2 c12
        exact K_132 () z1 z2 r10 σ9 _ _ _ hw h (lv_sub hl [1, 2, 3, 0] rfl)
      · skip
        replace hw := hw.1 c12
        refine lv_aload_n hx hb e_M_shuffle_127 rfl (lv_at hl 1 rfl) ?_
        refine lv_iload_n hx hb e_M_shuffle_128 rfl (lv_at hl 0 rfl) ?_
        refine M_callv (As := [.int r10]) (rest := []) C h hA (K_M_push l dC dI mo rf ca H.size σ9 r10 hw) (cwV 1 hts (gV hsub v_121 v_122 v_123 v_7 v_124) rfl rfl rfl (by decide +kernel) ⟨(Nat.le_of_ble_eq_true rfl), (Nat.le_of_ble_eq_true rfl)⟩) rfl hl.1 (Nat.le_of_ble_eq_true rfl) e_M_shuffle_129 ⟨(Nat.le_of_ble_eq_true rfl), (Nat.le_of_ble_eq_true rfl)⟩ (fun σ13 H locs hw h => ?_)
        refine W.eq (g2 := F0 m 132 ls []) rfl ?_
        exact K_132 () z1 z2 r10 σ13 _ _ _ hw h (lv_sub hl [1, 2, 3, 0] rfl)
    · skip
      replace hw := hw.1 c11
      exact hend σ9 _ _ _ _ hw h e_M_shuffle_120
  have K_98 : ∀ (u9 : Unit), ∀ (z1 : Int32) (z2 : Int32) (σ : MST) (H : Heap) (locs : List Loc) (ls : Array Slot), w_M_shuffle_98 P z1 z2 σ → MH (dC, dI) A mo rf ca σ s H locs → lv_has ls 4 [(0, .ref mo), (1, .int z1), (2, .int z2)] → W p l e ({ frames := 3, cells := 0, slots := 0, locals := 62 } : Room) s m ([.ref mo, .int x1] : List Value).toArray below meth cx H locs 0 0 Q (F0 m 98 ls []) := by
    intro u9 z1 z2 σ H locs ls hw h hl
    unfold w_M_shuffle_98 at hw
    refine lv_iload_n hx hb e_M_shuffle_98 rfl (lv_at hl 2 rfl) ?_
    refine lv_iconst (v := 2) hx hb e_M_shuffle_99 (by decide) ?_
    refine lv_icmp_ne (tgt := 109) hx hb e_M_shuffle_100 (by decide) (fun c15 => ?_) (fun c15 => ?_)
    · skip
      replace hw := hw.2 c15
      exact K_109 () z1 z2 σ _ _ _ hw h (lv_sub hl [0, 1, 2] rfl)
    · skip
      replace hw := hw.1 c15
      refine lv_aload_n hx hb e_M_shuffle_103 rfl (lv_at hl 0 rfl) ?_
      refine lv_bipush (v := 6) hx hb e_M_shuffle_104 (by decide) ?_
      refine M_callv (As := [.int 6]) (rest := []) C h hA (K_M_miss l dC dI mo rf ca H.size σ (6 : Int32) hw) (cwV 1 hts (gV hsub v_100 v_101 v_102 v_7 v_103) rfl rfl rfl (by decide +kernel) ⟨(Nat.le_of_ble_eq_true rfl), (Nat.le_of_ble_eq_true rfl)⟩) rfl hl.1 (Nat.le_of_ble_eq_true rfl) e_M_shuffle_106 ⟨(Nat.le_of_ble_eq_true rfl), (Nat.le_of_ble_eq_true rfl)⟩ (fun σ16 H locs hw h => ?_)
      refine W.eq (g2 := F0 m 109 ls []) rfl ?_
      exact K_109 () z1 z2 σ16 _ _ _ hw h (lv_sub hl [0, 1, 2] rfl)
  have K_92 : ∀ (u9 : Unit), ∀ (z1 : Int32) (z2 : Int32) (σ : MST) (H : Heap) (locs : List Loc) (ls : Array Slot), w_M_shuffle_92 P z1 z2 σ → MH (dC, dI) A mo rf ca σ s H locs → lv_has ls 4 [(0, .ref mo), (1, .int z1), (2, .int z2)] → W p l e ({ frames := 3, cells := 0, slots := 0, locals := 62 } : Room) s m ([.ref mo, .int x1] : List Value).toArray below meth cx H locs 0 0 Q (F0 m 92 ls []) := by
    intro u9 z1 z2 σ H locs ls hw h hl
    unfold w_M_shuffle_92 at hw
    refine lv_iload_n hx hb e_M_shuffle_92 rfl (lv_at hl 2 rfl) ?_
    refine lv_iconst (v := 2) hx hb e_M_shuffle_93 (by decide) ?_
    refine lv_icmp_ne (tgt := 98) hx hb e_M_shuffle_94 (by decide) (fun c18 => ?_) (fun c18 => ?_)
    · skip
      replace hw := hw.2 c18
      exact K_98 () z1 z2 σ _ _ _ hw h (lv_sub hl [0, 1, 2] rfl)
    · skip
      replace hw := hw.1 c18
      exact hend σ _ _ _ _ hw h e_M_shuffle_97
  have K_68 : ∀ (u9 : Unit), ∀ (z1 : Int32) (z2 : Int32) (σ : MST) (H : Heap) (locs : List Loc) (ls : Array Slot), w_M_shuffle_68 P z1 z2 σ → MH (dC, dI) A mo rf ca σ s H locs → lv_has ls 4 [(0, .ref mo), (1, .int z1), (2, .int z2)] → W p l e ({ frames := 3, cells := 0, slots := 0, locals := 62 } : Room) s m ([.ref mo, .int x1] : List Value).toArray below meth cx H locs 0 0 Q (F0 m 68 ls []) := by
    intro u9 z1 z2 σ H locs ls hw h hl
    unfold w_M_shuffle_68 at hw
    refine lv_iload_n hx hb e_M_shuffle_68 rfl (lv_at hl 1 rfl) ?_
    refine lv_bipush (v := 87) hx hb e_M_shuffle_69 (by decide) ?_
    refine lv_icmp_eq (tgt := 97) hx hb e_M_shuffle_71 (by decide) (fun c19 => ?_) (fun c19 => ?_)
    · skip
      replace hw := hw.1 c19
      exact hend σ _ _ _ _ hw h e_M_shuffle_97
    · skip
      replace hw := hw.2 c19
      refine lv_iload_n hx hb e_M_shuffle_74 rfl (lv_at hl 1 rfl) ?_
      refine lv_bipush (v := 89) hx hb e_M_shuffle_75 (by decide) ?_
      refine lv_icmp_eq (tgt := 97) hx hb e_M_shuffle_77 (by decide) (fun c20 => ?_) (fun c20 => ?_)
      · skip
        replace hw := hw.1 c20
        exact hend σ _ _ _ _ hw h e_M_shuffle_97
      · skip
        replace hw := hw.2 c20
        refine lv_iload_n hx hb e_M_shuffle_80 rfl (lv_at hl 1 rfl) ?_
        refine lv_bipush (v := 88) hx hb e_M_shuffle_81 (by decide) ?_
        refine lv_icmp_eq (tgt := 92) hx hb e_M_shuffle_83 (by decide) (fun c21 => ?_) (fun c21 => ?_)
        · skip
          replace hw := hw.1 c21
          exact K_92 () z1 z2 σ _ _ _ hw h (lv_sub hl [0, 1, 2] rfl)
        · skip
          replace hw := hw.2 c21
          refine lv_iload_n hx hb e_M_shuffle_86 rfl (lv_at hl 1 rfl) ?_
          refine lv_bipush (v := 92) hx hb e_M_shuffle_87 (by decide) ?_
          refine lv_icmp_ne (tgt := 98) hx hb e_M_shuffle_89 (by decide) (fun c22 => ?_) (fun c22 => ?_)
          · skip
            replace hw := hw.2 c22
            exact K_98 () z1 z2 σ _ _ _ hw h (lv_sub hl [0, 1, 2] rfl)
          · skip
            replace hw := hw.1 c22
            exact K_92 () z1 z2 σ _ _ _ hw h (lv_sub hl [0, 1, 2] rfl)
  have K_63 : ∀ (u9 : Unit), ∀ (z1 : Int32) (z2 : Int32) (σ : MST) (H : Heap) (locs : List Loc) (ls : Array Slot), w_M_shuffle_63 P z1 z2 σ → MH (dC, dI) A mo rf ca σ s H locs → lv_has ls 4 [(0, .ref mo), (1, .int z1), (2, .int z2)] → W p l e ({ frames := 3, cells := 0, slots := 0, locals := 62 } : Room) s m ([.ref mo, .int x1] : List Value).toArray below meth cx H locs 0 0 Q (F0 m 63 ls []) := by
    intro u9 z1 z2 σ H locs ls hw h hl
    unfold w_M_shuffle_63 at hw
    refine lv_aload_n hx hb e_M_shuffle_63 rfl (lv_at hl 0 rfl) ?_
    refine lv_iload_n hx hb e_M_shuffle_64 rfl (lv_at hl 2 rfl) ?_
    refine M_callv (As := [.int z2]) (rest := []) C h hA (K_M_push l dC dI mo rf ca H.size σ z2 hw) (cwV 1 hts (gV hsub v_121 v_122 v_123 v_7 v_124) rfl rfl rfl (by decide +kernel) ⟨(Nat.le_of_ble_eq_true rfl), (Nat.le_of_ble_eq_true rfl)⟩) rfl hl.1 (Nat.le_of_ble_eq_true rfl) e_M_shuffle_65 ⟨(Nat.le_of_ble_eq_true rfl), (Nat.le_of_ble_eq_true rfl)⟩ (fun σ23 H locs hw h => ?_)
    refine W.eq (g2 := F0 m 68 ls []) rfl ?_
    exact K_68 () z1 z2 σ23 _ _ _ hw h (lv_sub hl [0, 1, 2] rfl)
  have K_46 : ∀ (u9 : Unit), ∀ (z1 : Int32) (z2 : Int32) (σ : MST) (H : Heap) (locs : List Loc) (ls : Array Slot), w_M_shuffle_46 P z1 z2 σ → MH (dC, dI) A mo rf ca σ s H locs → lv_has ls 4 [(0, .ref mo), (1, .int z1), (2, .int z2)] → W p l e ({ frames := 3, cells := 0, slots := 0, locals := 62 } : Room) s m ([.ref mo, .int x1] : List Value).toArray below meth cx H locs 0 0 Q (F0 m 46 ls []) := by
    intro u9 z1 z2 σ H locs ls hw h hl
    unfold w_M_shuffle_46 at hw
    refine lv_iload_n hx hb e_M_shuffle_46 rfl (lv_at hl 1 rfl) ?_
    refine lv_bipush (v := 89) hx hb e_M_shuffle_47 (by decide) ?_
    refine lv_icmp_eq (tgt := 63) hx hb e_M_shuffle_49 (by decide) (fun c25 => ?_) (fun c25 => ?_)
    · skip
      replace hw := hw.1 c25
      exact K_63 () z1 z2 σ _ _ _ hw h (lv_sub hl [0, 1, 2] rfl)
    · skip
      replace hw := hw.2 c25
      refine lv_iload_n hx hb e_M_shuffle_52 rfl (lv_at hl 1 rfl) ?_
      refine lv_bipush (v := 92) hx hb e_M_shuffle_53 (by decide) ?_
      refine lv_icmp_ne (tgt := 68) hx hb e_M_shuffle_55 (by decide) (fun c26 => ?_) (fun c26 => ?_)
      · skip
        replace hw := hw.2 c26
        exact K_68 () z1 z2 σ _ _ _ hw h (lv_sub hl [0, 1, 2] rfl)
      · skip
        replace hw := hw.1 c26
        refine lv_iload_n hx hb e_M_shuffle_58 rfl (lv_at hl 2 rfl) ?_
        refine lv_iconst (v := 2) hx hb e_M_shuffle_59 (by decide) ?_
        refine lv_icmp_ne (tgt := 68) hx hb e_M_shuffle_60 (by decide) (fun c27 => ?_) (fun c27 => ?_)
        · skip
          replace hw := hw.2 c27
          exact K_68 () z1 z2 σ _ _ _ hw h (lv_sub hl [0, 1, 2] rfl)
        · skip
          replace hw := hw.1 c27
          exact K_63 () z1 z2 σ _ _ _ hw h (lv_sub hl [0, 1, 2] rfl)
  have K_41 : ∀ (u9 : Unit), ∀ (z1 : Int32) (z2 : Int32) (σ : MST) (H : Heap) (locs : List Loc) (ls : Array Slot), w_M_shuffle_41 P z1 z2 σ → MH (dC, dI) A mo rf ca σ s H locs → lv_has ls 4 [(0, .ref mo), (1, .int z1), (2, .int z2)] → W p l e ({ frames := 3, cells := 0, slots := 0, locals := 62 } : Room) s m ([.ref mo, .int x1] : List Value).toArray below meth cx H locs 0 0 Q (F0 m 41 ls []) := by
    intro u9 z1 z2 σ H locs ls hw h hl
    unfold w_M_shuffle_41 at hw
    refine lv_aload_n hx hb e_M_shuffle_41 rfl (lv_at hl 0 rfl) ?_
    refine lv_iload_n hx hb e_M_shuffle_42 rfl (lv_at hl 2 rfl) ?_
    refine M_callv (As := [.int z2]) (rest := []) C h hA (K_M_push l dC dI mo rf ca H.size σ z2 hw) (cwV 1 hts (gV hsub v_121 v_122 v_123 v_7 v_124) rfl rfl rfl (by decide +kernel) ⟨(Nat.le_of_ble_eq_true rfl), (Nat.le_of_ble_eq_true rfl)⟩) rfl hl.1 (Nat.le_of_ble_eq_true rfl) e_M_shuffle_43 ⟨(Nat.le_of_ble_eq_true rfl), (Nat.le_of_ble_eq_true rfl)⟩ (fun σ28 H locs hw h => ?_)
    refine W.eq (g2 := F0 m 46 ls []) rfl ?_
    exact K_46 () z1 z2 σ28 _ _ _ hw h (lv_sub hl [0, 1, 2] rfl)
  have K_23 : ∀ (u9 : Unit), ∀ (z1 : Int32) (s0 : Int32) (σ : MST) (H : Heap) (locs : List Loc) (ls : Array Slot), w_M_shuffle_23 P z1 s0 σ → MH (dC, dI) A mo rf ca σ s H locs → lv_has ls 4 [(0, .ref mo), (1, .int z1)] → W p l e ({ frames := 3, cells := 0, slots := 0, locals := 62 } : Room) s m ([.ref mo, .int x1] : List Value).toArray below meth cx H locs 0 0 Q (F0 m 23 ls [.int s0]) := by
    intro u9 z1 s0 σ H locs ls hw h hl
    unfold w_M_shuffle_23 at hw
    refine lv_istore_n (lv' := [(2, .int s0), (0, .ref mo), (1, .int z1)]) hx hb e_M_shuffle_23 rfl hl (by decide) rfl (fun ls hl => ?_)
    refine lv_iload_n hx hb e_M_shuffle_24 rfl (lv_at hl 2 rfl) ?_
    refine lv_bipush (v := 89) hx hb e_M_shuffle_25 (by decide) ?_
    refine lv_icmp_eq (tgt := 41) hx hb e_M_shuffle_27 (by decide) (fun c30 => ?_) (fun c30 => ?_)
    · skip
      replace hw := hw.1 c30
      exact K_41 () z1 s0 σ _ _ _ hw h (lv_sub hl [1, 2, 0] rfl)
    · skip
      replace hw := hw.2 c30
      refine lv_iload_n hx hb e_M_shuffle_30 rfl (lv_at hl 2 rfl) ?_
      refine lv_bipush (v := 92) hx hb e_M_shuffle_31 (by decide) ?_
      refine lv_icmp_ne (tgt := 46) hx hb e_M_shuffle_33 (by decide) (fun c31 => ?_) (fun c31 => ?_)
      · skip
        replace hw := hw.2 c31
        exact K_46 () z1 s0 σ _ _ _ hw h (lv_sub hl [1, 2, 0] rfl)
      · skip
        replace hw := hw.1 c31
        refine lv_iload_n hx hb e_M_shuffle_36 rfl (lv_at hl 0 rfl) ?_
        refine lv_iconst (v := 2) hx hb e_M_shuffle_37 (by decide) ?_
        refine lv_icmp_ne (tgt := 46) hx hb e_M_shuffle_38 (by decide) (fun c32 => ?_) (fun c32 => ?_)
        · skip
          replace hw := hw.2 c32
          exact K_46 () z1 s0 σ _ _ _ hw h (lv_sub hl [1, 2, 0] rfl)
        · skip
          replace hw := hw.1 c32
          exact K_41 () z1 s0 σ _ _ _ hw h (lv_sub hl [1, 2, 0] rfl)
  have K_12 : ∀ (u9 : Unit), ∀ (z1 : Int32) (σ : MST) (H : Heap) (locs : List Loc) (ls : Array Slot), w_M_shuffle_12 P z1 σ → MH (dC, dI) A mo rf ca σ s H locs → lv_has ls 4 [(0, .ref mo), (1, .int z1)] → W p l e ({ frames := 3, cells := 0, slots := 0, locals := 62 } : Room) s m ([.ref mo, .int x1] : List Value).toArray below meth cx H locs 0 0 Q (F0 m 12 ls []) := by
    intro u9 z1 σ H locs ls hw h hl
    unfold w_M_shuffle_12 at hw
    refine lv_aload_n hx hb e_M_shuffle_12 rfl (lv_at hl 0 rfl) ?_
    refine M_calli (As := []) (rest := []) C h hA (K_M_popOne l dC dI mo rf ca H.size σ hw) (cwV 0 hts (gV hsub v_141 v_142 v_143 v_7 v_144) rfl rfl rfl (by decide +kernel) ⟨(Nat.le_of_ble_eq_true rfl), (Nat.le_of_ble_eq_true rfl)⟩) rfl hl.1 (Nat.le_of_ble_eq_true rfl) e_M_shuffle_13 ⟨(Nat.le_of_ble_eq_true rfl), (Nat.le_of_ble_eq_true rfl)⟩ (fun r34 σ33 H locs hw h => ?_)
    refine W.eq (g2 := F0 m 16 ls [.int r34]) rfl ?_
    refine lv_goto (tgt := 23) hx hb e_M_shuffle_16 (by decide) ?_
    exact K_23 () z1 r34 σ33 _ _ _ hw h (lv_sub hl [0, 1] rfl)
  have hl : lv_has ls 4 [(0, .ref mo), (1, .int x1)] := hl
  unfold w_M_shuffle at hw
  refine lv_iload_n hx hb e_M_shuffle_0 rfl (lv_at hl 1 rfl) ?_
  refine lv_bipush (v := 87) hx hb e_M_shuffle_1 (by decide) ?_
  refine lv_icmp_eq (tgt := 12) hx hb e_M_shuffle_3 (by decide) (fun c35 => ?_) (fun c35 => ?_)
  · skip
    replace hw := hw.1 c35
    exact K_12 () x1 σ _ _ _ hw h (lv_sub hl [0, 1] rfl)
  · skip
    replace hw := hw.2 c35
    refine lv_iload_n hx hb e_M_shuffle_6 rfl (lv_at hl 1 rfl) ?_
    refine lv_bipush (v := 89) hx hb e_M_shuffle_7 (by decide) ?_
    refine lv_icmp_ne (tgt := 19) hx hb e_M_shuffle_9 (by decide) (fun c36 => ?_) (fun c36 => ?_)
    · skip
      replace hw := hw.2 c36
      refine lv_aload_n hx hb e_M_shuffle_19 rfl (lv_at hl 0 rfl) ?_
      refine M_calli (As := []) (rest := []) C h hA (K_M_pop l dC dI mo rf ca s.heap.size σ hw) (cwV 0 hts (gV hsub v_104 v_105 v_106 v_7 v_107) rfl rfl rfl (by decide +kernel) ⟨(Nat.le_of_ble_eq_true rfl), (Nat.le_of_ble_eq_true rfl)⟩) rfl hl.1 (Nat.le_of_ble_eq_true rfl) e_M_shuffle_20 ⟨(Nat.le_of_ble_eq_true rfl), (Nat.le_of_ble_eq_true rfl)⟩ (fun r38 σ37 H locs hw h => ?_)
      refine W.eq (g2 := F0 m 23 ls [.int r38]) rfl ?_
      exact K_23 () x1 r38 σ37 _ _ _ hw h (lv_sub hl [0, 1] rfl)
    · skip
      replace hw := hw.1 c36
      exact K_12 () x1 σ _ _ _ hw h (lv_sub hl [0, 1] rfl)
abbrev z_M_reckon : MethodName := ⟨"MapFramerModel", "reckon", "(I)V"⟩
theorem v_145 : (Cond.fieldLink "MapFramerModel" 291 "MapFramerModel" "here" "I" : Cond) ∈ bigW := inB_8 95 (by decide +kernel) rfl
theorem e_M_reckon_0 : decode prog_14_method_46_code 0 = .ok (.iload_n 1, 1) := by decide +kernel
theorem e_M_reckon_1 : decode prog_14_method_46_code 1 = .ok (.bipush 110, 2) := by decide +kernel
theorem e_M_reckon_3 : decode prog_14_method_46_code 3 = .ok (.if_icmp .ge 33, 3) := by decide +kernel
theorem e_M_reckon_6 : decode prog_14_method_46_code 6 = .ok (.iload_n 1, 1) := by decide +kernel
theorem e_M_reckon_7 : decode prog_14_method_46_code 7 = .ok (.iconst 1, 1) := by decide +kernel
theorem e_M_reckon_8 : decode prog_14_method_46_code 8 = .ok (.iand, 1) := by decide +kernel
theorem e_M_reckon_9 : decode prog_14_method_46_code 9 = .ok (.ifCond .ne 7, 3) := by decide +kernel
theorem e_M_reckon_12 : decode prog_14_method_46_code 12 = .ok (.iconst 1, 1) := by decide +kernel
theorem e_M_reckon_13 : decode prog_14_method_46_code 13 = .ok (.goto 4, 3) := by decide +kernel
theorem e_M_reckon_16 : decode prog_14_method_46_code 16 = .ok (.iconst 2, 1) := by decide +kernel
theorem e_M_reckon_17 : decode prog_14_method_46_code 17 = .ok (.istore_n 2, 1) := by decide +kernel
theorem e_M_reckon_18 : decode prog_14_method_46_code 18 = .ok (.aload_n 0, 1) := by decide +kernel
theorem e_M_reckon_19 : decode prog_14_method_46_code 19 = .ok (.iload_n 2, 1) := by decide +kernel
theorem e_M_reckon_20 : decode prog_14_method_46_code 20 = .ok (.invokevirtual 282, 3) := by decide +kernel
theorem e_M_reckon_23 : decode prog_14_method_46_code 23 = .ok (.aload_n 0, 1) := by decide +kernel
theorem e_M_reckon_24 : decode prog_14_method_46_code 24 = .ok (.iload_n 2, 1) := by decide +kernel
theorem e_M_reckon_25 : decode prog_14_method_46_code 25 = .ok (.invokevirtual 282, 3) := by decide +kernel
theorem e_M_reckon_28 : decode prog_14_method_46_code 28 = .ok (.aload_n 0, 1) := by decide +kernel
theorem e_M_reckon_29 : decode prog_14_method_46_code 29 = .ok (.iload_n 2, 1) := by decide +kernel
theorem e_M_reckon_30 : decode prog_14_method_46_code 30 = .ok (.invokevirtual 272, 3) := by decide +kernel
theorem e_M_reckon_33 : decode prog_14_method_46_code 33 = .ok (.goto 99, 3) := by decide +kernel
theorem e_M_reckon_36 : decode prog_14_method_46_code 36 = .ok (.iload_n 1, 1) := by decide +kernel
theorem e_M_reckon_37 : decode prog_14_method_46_code 37 = .ok (.sipush 132, 3) := by decide +kernel
theorem e_M_reckon_40 : decode prog_14_method_46_code 40 = .ok (.if_icmp .ne 35, 3) := by decide +kernel
theorem e_M_reckon_43 : decode prog_14_method_46_code 43 = .ok (.aload_n 0, 1) := by decide +kernel
theorem e_M_reckon_44 : decode prog_14_method_46_code 44 = .ok (.getfield 99, 3) := by decide +kernel
theorem e_M_reckon_47 : decode prog_14_method_46_code 47 = .ok (.aload_n 0, 1) := by decide +kernel
theorem e_M_reckon_48 : decode prog_14_method_46_code 48 = .ok (.aload_n 0, 1) := by decide +kernel
theorem e_M_reckon_49 : decode prog_14_method_46_code 49 = .ok (.getfield 266, 3) := by decide +kernel
theorem e_M_reckon_52 : decode prog_14_method_46_code 52 = .ok (.aload_n 0, 1) := by decide +kernel
theorem e_M_reckon_53 : decode prog_14_method_46_code 53 = .ok (.getfield 291, 3) := by decide +kernel
theorem e_M_reckon_56 : decode prog_14_method_46_code 56 = .ok (.iconst 1, 1) := by decide +kernel
theorem e_M_reckon_57 : decode prog_14_method_46_code 57 = .ok (.iadd, 1) := by decide +kernel
theorem e_M_reckon_58 : decode prog_14_method_46_code 58 = .ok (.invokevirtual 222, 3) := by decide +kernel
theorem e_M_reckon_61 : decode prog_14_method_46_code 61 = .ok (.iaload, 1) := by decide +kernel
theorem e_M_reckon_62 : decode prog_14_method_46_code 62 = .ok (.iconst 1, 1) := by decide +kernel
theorem e_M_reckon_63 : decode prog_14_method_46_code 63 = .ok (.if_icmp .eq 69, 3) := by decide +kernel
theorem e_M_reckon_66 : decode prog_14_method_46_code 66 = .ok (.aload_n 0, 1) := by decide +kernel
theorem e_M_reckon_67 : decode prog_14_method_46_code 67 = .ok (.bipush 6, 2) := by decide +kernel
theorem e_M_reckon_69 : decode prog_14_method_46_code 69 = .ok (.invokevirtual 252, 3) := by decide +kernel
theorem e_M_reckon_72 : decode prog_14_method_46_code 72 = .ok (.goto 60, 3) := by decide +kernel
theorem e_M_reckon_75 : decode prog_14_method_46_code 75 = .ok (.iload_n 1, 1) := by decide +kernel
theorem e_M_reckon_76 : decode prog_14_method_46_code 76 = .ok (.sipush 148, 3) := by decide +kernel
theorem e_M_reckon_79 : decode prog_14_method_46_code 79 = .ok (.if_icmp .ne 21, 3) := by decide +kernel
theorem e_M_reckon_82 : decode prog_14_method_46_code 82 = .ok (.aload_n 0, 1) := by decide +kernel
theorem e_M_reckon_83 : decode prog_14_method_46_code 83 = .ok (.iconst 2, 1) := by decide +kernel
theorem e_M_reckon_84 : decode prog_14_method_46_code 84 = .ok (.invokevirtual 282, 3) := by decide +kernel
theorem e_M_reckon_87 : decode prog_14_method_46_code 87 = .ok (.aload_n 0, 1) := by decide +kernel
theorem e_M_reckon_88 : decode prog_14_method_46_code 88 = .ok (.iconst 2, 1) := by decide +kernel
theorem e_M_reckon_89 : decode prog_14_method_46_code 89 = .ok (.invokevirtual 282, 3) := by decide +kernel
theorem e_M_reckon_92 : decode prog_14_method_46_code 92 = .ok (.aload_n 0, 1) := by decide +kernel
theorem e_M_reckon_93 : decode prog_14_method_46_code 93 = .ok (.iconst 1, 1) := by decide +kernel
theorem e_M_reckon_94 : decode prog_14_method_46_code 94 = .ok (.invokevirtual 272, 3) := by decide +kernel
theorem e_M_reckon_97 : decode prog_14_method_46_code 97 = .ok (.goto 35, 3) := by decide +kernel
theorem e_M_reckon_100 : decode prog_14_method_46_code 100 = .ok (.aload_n 0, 1) := by decide +kernel
theorem e_M_reckon_101 : decode prog_14_method_46_code 101 = .ok (.iload_n 1, 1) := by decide +kernel
theorem e_M_reckon_102 : decode prog_14_method_46_code 102 = .ok (.sipush 133, 3) := by decide +kernel
theorem e_M_reckon_105 : decode prog_14_method_46_code 105 = .ok (.if_icmp .ne 7, 3) := by decide +kernel
theorem e_M_reckon_108 : decode prog_14_method_46_code 108 = .ok (.iconst 1, 1) := by decide +kernel
theorem e_M_reckon_109 : decode prog_14_method_46_code 109 = .ok (.goto 4, 3) := by decide +kernel
theorem e_M_reckon_112 : decode prog_14_method_46_code 112 = .ok (.iconst 2, 1) := by decide +kernel
theorem e_M_reckon_113 : decode prog_14_method_46_code 113 = .ok (.invokevirtual 282, 3) := by decide +kernel
theorem e_M_reckon_116 : decode prog_14_method_46_code 116 = .ok (.aload_n 0, 1) := by decide +kernel
theorem e_M_reckon_117 : decode prog_14_method_46_code 117 = .ok (.iload_n 1, 1) := by decide +kernel
theorem e_M_reckon_118 : decode prog_14_method_46_code 118 = .ok (.sipush 133, 3) := by decide +kernel
theorem e_M_reckon_121 : decode prog_14_method_46_code 121 = .ok (.if_icmp .ne 7, 3) := by decide +kernel
theorem e_M_reckon_124 : decode prog_14_method_46_code 124 = .ok (.iconst 2, 1) := by decide +kernel
theorem e_M_reckon_125 : decode prog_14_method_46_code 125 = .ok (.goto 4, 3) := by decide +kernel
theorem e_M_reckon_128 : decode prog_14_method_46_code 128 = .ok (.iconst 1, 1) := by decide +kernel
theorem e_M_reckon_129 : decode prog_14_method_46_code 129 = .ok (.invokevirtual 272, 3) := by decide +kernel
theorem e_M_reckon_132 : decode prog_14_method_46_code 132 = .ok (.return_, 1) := by decide +kernel
def w_M_reckon_17 (P : MST → Prop) (s0 : Int32) (σ : MST) : Prop := w_M_want s0 σ (fun σ1 => w_M_want s0 σ1 (fun σ3 => w_M_push s0 σ3 (fun σ5 => P σ5)))
def w_M_reckon_129 (P : MST → Prop) (s0 : Int32) (σ : MST) : Prop := w_M_push s0 σ (fun σ7 => P σ7)
def w_M_reckon_113 (P : MST → Prop) (z1 : Int32) (s0 : Int32) (σ : MST) : Prop := w_M_want s0 σ (fun σ9 => ((z1 = 133 → w_M_reckon_129 P 2 σ9) ∧ (¬ z1 = 133 → w_M_reckon_129 P 1 σ9)))
def w_M_reckon (x1 : Int32) (σ : MST) (P : MST → Prop) : Prop := ((110 ≤ x1 → ((x1 = 132 → w_M_at (σ.1 33) ((σ.1 34) + 1) σ (fun r23 σ22 => vp_in r23 13 ∧ (∀ a24 : Int32, a24 = (σ22.2.1 37 (r23 : Int32).toNatClampNeg) → ((a24 = 1 → P σ22) ∧ (¬ a24 = 1 → w_M_miss (6 : Int32) σ22 (fun σ26 => P σ26)))))) ∧ (¬ x1 = 132 → ((x1 = 148 → w_M_want (2 : Int32) σ (fun σ16 => w_M_want (2 : Int32) σ16 (fun σ18 => w_M_push (1 : Int32) σ18 (fun σ20 => P σ20)))) ∧ (¬ x1 = 148 → ((x1 = 133 → w_M_reckon_113 P x1 1 σ) ∧ (¬ x1 = 133 → w_M_reckon_113 P x1 2 σ))))))) ∧ (¬ 110 ≤ x1 → ∀ a28 : Int32, a28 = (x1 &&& 1) → ((a28 = 0 → w_M_reckon_17 P 1 σ) ∧ (¬ a28 = 0 → w_M_reckon_17 P 2 σ))))
set_option maxHeartbeats 4000000 in
set_option maxRecDepth 100000 in
theorem K_M_reckon (l : Launch) (dC : Nat → ClassId) (dI : Nat → Nat → Nat) (mo : Nat) (rf : Nat → Nat) (ca : Nat → ClassId) (sz : Nat) (σ : MST) (x1 : Int32) {P : MST → Prop} (hw : w_M_reckon x1 σ P) : Met l z_M_reckon (mW z_M_reckon prog_14_method_46_code 3 none) ({ frames := 4, cells := 0, slots := 0, locals := 89 } : Room) (va_Pc [.ref mo, .int x1] (MPre (dC, dI) mo rf ca σ sz)) (va_Qv P (MB (dC, dI) mo rf ca sz) (mA mo rf sz)) 0 0 (mA mo rf sz) := by
  refine M_ofv (by decide) rfl (Nat.le_of_ble_eq_true rfl) ?_
  intro p e s m below meth cx Q A ls C hA hend h hl
  have C0 := C
  obtain ⟨⟨hx, hb, hml, hown, hts⟩, hsub⟩ := C0
  have K_17 : ∀ (u9 : Unit), ∀ (s0 : Int32) (σ : MST) (H : Heap) (locs : List Loc) (ls : Array Slot), w_M_reckon_17 P s0 σ → MH (dC, dI) A mo rf ca σ s H locs → lv_has ls 3 [(0, .ref mo)] → W p l e ({ frames := 4, cells := 0, slots := 0, locals := 89 } : Room) s m ([.ref mo, .int x1] : List Value).toArray below meth cx H locs 0 0 Q (F0 m 17 ls [.int s0]) := by
    intro u9 s0 σ H locs ls hw h hl
    unfold w_M_reckon_17 at hw
    refine lv_istore_n (lv' := [(2, .int s0), (0, .ref mo)]) hx hb e_M_reckon_17 rfl hl (by decide) rfl (fun ls hl => ?_)
    refine lv_aload_n hx hb e_M_reckon_18 rfl (lv_at hl 1 rfl) ?_
    refine lv_iload_n hx hb e_M_reckon_19 rfl (lv_at hl 0 rfl) ?_
    refine M_callv (As := [.int s0]) (rest := []) C h hA (K_M_want l dC dI mo rf ca H.size σ s0 hw) (cwV 1 hts (gV hsub v_129 v_130 v_131 v_7 v_132) rfl rfl rfl (by decide +kernel) ⟨(Nat.le_of_ble_eq_true rfl), (Nat.le_of_ble_eq_true rfl)⟩) rfl hl.1 (Nat.le_of_ble_eq_true rfl) e_M_reckon_20 ⟨(Nat.le_of_ble_eq_true rfl), (Nat.le_of_ble_eq_true rfl)⟩ (fun σ1 H locs hw h => ?_)
    refine W.eq (g2 := F0 m 23 ls []) rfl ?_
    refine lv_aload_n hx hb e_M_reckon_23 rfl (lv_at hl 1 rfl) ?_
    refine lv_iload_n hx hb e_M_reckon_24 rfl (lv_at hl 0 rfl) ?_
    refine M_callv (As := [.int s0]) (rest := []) C h hA (K_M_want l dC dI mo rf ca H.size σ1 s0 hw) (cwV 1 hts (gV hsub v_129 v_130 v_131 v_7 v_132) rfl rfl rfl (by decide +kernel) ⟨(Nat.le_of_ble_eq_true rfl), (Nat.le_of_ble_eq_true rfl)⟩) rfl hl.1 (Nat.le_of_ble_eq_true rfl) e_M_reckon_25 ⟨(Nat.le_of_ble_eq_true rfl), (Nat.le_of_ble_eq_true rfl)⟩ (fun σ3 H locs hw h => ?_)
    refine W.eq (g2 := F0 m 28 ls []) rfl ?_
    refine lv_aload_n hx hb e_M_reckon_28 rfl (lv_at hl 1 rfl) ?_
    refine lv_iload_n hx hb e_M_reckon_29 rfl (lv_at hl 0 rfl) ?_
    refine M_callv (As := [.int s0]) (rest := []) C h hA (K_M_push l dC dI mo rf ca H.size σ3 s0 hw) (cwV 1 hts (gV hsub v_121 v_122 v_123 v_7 v_124) rfl rfl rfl (by decide +kernel) ⟨(Nat.le_of_ble_eq_true rfl), (Nat.le_of_ble_eq_true rfl)⟩) rfl hl.1 (Nat.le_of_ble_eq_true rfl) e_M_reckon_30 ⟨(Nat.le_of_ble_eq_true rfl), (Nat.le_of_ble_eq_true rfl)⟩ (fun σ5 H locs hw h => ?_)
    refine W.eq (g2 := F0 m 33 ls []) rfl ?_
    refine lv_goto (tgt := 132) hx hb e_M_reckon_33 (by decide) ?_
    exact hend σ5 _ _ _ _ hw h e_M_reckon_132
  have K_129 : ∀ (u9 : Unit), ∀ (s0 : Int32) (σ : MST) (H : Heap) (locs : List Loc) (ls : Array Slot), w_M_reckon_129 P s0 σ → MH (dC, dI) A mo rf ca σ s H locs → lv_has ls 3 [] → W p l e ({ frames := 4, cells := 0, slots := 0, locals := 89 } : Room) s m ([.ref mo, .int x1] : List Value).toArray below meth cx H locs 0 0 Q (F0 m 129 ls [.int s0, .ref mo]) := by
    intro u9 s0 σ H locs ls hw h hl
    unfold w_M_reckon_129 at hw
    refine M_callv (As := [.int s0]) (rest := []) C h hA (K_M_push l dC dI mo rf ca H.size σ s0 hw) (cwV 1 hts (gV hsub v_121 v_122 v_123 v_7 v_124) rfl rfl rfl (by decide +kernel) ⟨(Nat.le_of_ble_eq_true rfl), (Nat.le_of_ble_eq_true rfl)⟩) rfl hl.1 (Nat.le_of_ble_eq_true rfl) e_M_reckon_129 ⟨(Nat.le_of_ble_eq_true rfl), (Nat.le_of_ble_eq_true rfl)⟩ (fun σ7 H locs hw h => ?_)
    refine W.eq (g2 := F0 m 132 ls []) rfl ?_
    exact hend σ7 _ _ _ _ hw h e_M_reckon_132
  have K_113 : ∀ (u9 : Unit), ∀ (z1 : Int32) (s0 : Int32) (σ : MST) (H : Heap) (locs : List Loc) (ls : Array Slot), w_M_reckon_113 P z1 s0 σ → MH (dC, dI) A mo rf ca σ s H locs → lv_has ls 3 [(0, .ref mo), (1, .int z1)] → W p l e ({ frames := 4, cells := 0, slots := 0, locals := 89 } : Room) s m ([.ref mo, .int x1] : List Value).toArray below meth cx H locs 0 0 Q (F0 m 113 ls [.int s0, .ref mo]) := by
    intro u9 z1 s0 σ H locs ls hw h hl
    unfold w_M_reckon_113 at hw
    refine M_callv (As := [.int s0]) (rest := []) C h hA (K_M_want l dC dI mo rf ca H.size σ s0 hw) (cwV 1 hts (gV hsub v_129 v_130 v_131 v_7 v_132) rfl rfl rfl (by decide +kernel) ⟨(Nat.le_of_ble_eq_true rfl), (Nat.le_of_ble_eq_true rfl)⟩) rfl hl.1 (Nat.le_of_ble_eq_true rfl) e_M_reckon_113 ⟨(Nat.le_of_ble_eq_true rfl), (Nat.le_of_ble_eq_true rfl)⟩ (fun σ9 H locs hw h => ?_)
    refine W.eq (g2 := F0 m 116 ls []) rfl ?_
    refine lv_aload_n hx hb e_M_reckon_116 rfl (lv_at hl 0 rfl) ?_
    refine lv_iload_n hx hb e_M_reckon_117 rfl (lv_at hl 1 rfl) ?_
    refine lv_sipush (v := 133) hx hb e_M_reckon_118 (by decide) ?_
    refine lv_icmp_ne (tgt := 128) hx hb e_M_reckon_121 (by decide) (fun c11 => ?_) (fun c11 => ?_)
    · skip
      replace hw := hw.2 c11
      refine lv_iconst (v := 1) hx hb e_M_reckon_128 (by decide) ?_
      exact K_129 () 1 σ9 _ _ _ hw h (lv_sub hl [] rfl)
    · skip
      replace hw := hw.1 c11
      refine lv_iconst (v := 2) hx hb e_M_reckon_124 (by decide) ?_
      refine lv_goto (tgt := 129) hx hb e_M_reckon_125 (by decide) ?_
      exact K_129 () 2 σ9 _ _ _ hw h (lv_sub hl [] rfl)
  have hl : lv_has ls 3 [(0, .ref mo), (1, .int x1)] := hl
  unfold w_M_reckon at hw
  refine lv_iload_n hx hb e_M_reckon_0 rfl (lv_at hl 1 rfl) ?_
  refine lv_bipush (v := 110) hx hb e_M_reckon_1 (by decide) ?_
  refine lv_icmp_ge (tgt := 36) hx hb e_M_reckon_3 (by decide) (fun c12 => ?_) (fun c12 => ?_)
  · skip
    replace hw := hw.1 c12
    refine lv_iload_n hx hb e_M_reckon_36 rfl (lv_at hl 1 rfl) ?_
    refine lv_sipush (v := 132) hx hb e_M_reckon_37 (by decide) ?_
    refine lv_icmp_ne (tgt := 75) hx hb e_M_reckon_40 (by decide) (fun c13 => ?_) (fun c13 => ?_)
    · skip
      replace hw := hw.2 c13
      refine lv_iload_n hx hb e_M_reckon_75 rfl (lv_at hl 1 rfl) ?_
      refine lv_sipush (v := 148) hx hb e_M_reckon_76 (by decide) ?_
      refine lv_icmp_ne (tgt := 100) hx hb e_M_reckon_79 (by decide) (fun c14 => ?_) (fun c14 => ?_)
      · skip
        replace hw := hw.2 c14
        refine lv_aload_n hx hb e_M_reckon_100 rfl (lv_at hl 0 rfl) ?_
        refine lv_iload_n hx hb e_M_reckon_101 rfl (lv_at hl 1 rfl) ?_
        refine lv_sipush (v := 133) hx hb e_M_reckon_102 (by decide) ?_
        refine lv_icmp_ne (tgt := 112) hx hb e_M_reckon_105 (by decide) (fun c15 => ?_) (fun c15 => ?_)
        · skip
          replace hw := hw.2 c15
          refine lv_iconst (v := 2) hx hb e_M_reckon_112 (by decide) ?_
          exact K_113 () x1 2 σ _ _ _ hw h (lv_sub hl [0, 1] rfl)
        · skip
          replace hw := hw.1 c15
          refine lv_iconst (v := 1) hx hb e_M_reckon_108 (by decide) ?_
          refine lv_goto (tgt := 113) hx hb e_M_reckon_109 (by decide) ?_
          exact K_113 () x1 1 σ _ _ _ hw h (lv_sub hl [0, 1] rfl)
      · skip
        replace hw := hw.1 c14
        refine lv_aload_n hx hb e_M_reckon_82 rfl (lv_at hl 0 rfl) ?_
        refine lv_iconst (v := 2) hx hb e_M_reckon_83 (by decide) ?_
        refine M_callv (As := [.int 2]) (rest := []) C h hA (K_M_want l dC dI mo rf ca s.heap.size σ (2 : Int32) hw) (cwV 1 hts (gV hsub v_129 v_130 v_131 v_7 v_132) rfl rfl rfl (by decide +kernel) ⟨(Nat.le_of_ble_eq_true rfl), (Nat.le_of_ble_eq_true rfl)⟩) rfl hl.1 (Nat.le_of_ble_eq_true rfl) e_M_reckon_84 ⟨(Nat.le_of_ble_eq_true rfl), (Nat.le_of_ble_eq_true rfl)⟩ (fun σ16 H locs hw h => ?_)
        refine W.eq (g2 := F0 m 87 ls []) rfl ?_
        refine lv_aload_n hx hb e_M_reckon_87 rfl (lv_at hl 0 rfl) ?_
        refine lv_iconst (v := 2) hx hb e_M_reckon_88 (by decide) ?_
        refine M_callv (As := [.int 2]) (rest := []) C h hA (K_M_want l dC dI mo rf ca H.size σ16 (2 : Int32) hw) (cwV 1 hts (gV hsub v_129 v_130 v_131 v_7 v_132) rfl rfl rfl (by decide +kernel) ⟨(Nat.le_of_ble_eq_true rfl), (Nat.le_of_ble_eq_true rfl)⟩) rfl hl.1 (Nat.le_of_ble_eq_true rfl) e_M_reckon_89 ⟨(Nat.le_of_ble_eq_true rfl), (Nat.le_of_ble_eq_true rfl)⟩ (fun σ18 H locs hw h => ?_)
        refine W.eq (g2 := F0 m 92 ls []) rfl ?_
        refine lv_aload_n hx hb e_M_reckon_92 rfl (lv_at hl 0 rfl) ?_
        refine lv_iconst (v := 1) hx hb e_M_reckon_93 (by decide) ?_
        refine M_callv (As := [.int 1]) (rest := []) C h hA (K_M_push l dC dI mo rf ca H.size σ18 (1 : Int32) hw) (cwV 1 hts (gV hsub v_121 v_122 v_123 v_7 v_124) rfl rfl rfl (by decide +kernel) ⟨(Nat.le_of_ble_eq_true rfl), (Nat.le_of_ble_eq_true rfl)⟩) rfl hl.1 (Nat.le_of_ble_eq_true rfl) e_M_reckon_94 ⟨(Nat.le_of_ble_eq_true rfl), (Nat.le_of_ble_eq_true rfl)⟩ (fun σ20 H locs hw h => ?_)
        refine W.eq (g2 := F0 m 97 ls []) rfl ?_
        refine lv_goto (tgt := 132) hx hb e_M_reckon_97 (by decide) ?_
        exact hend σ20 _ _ _ _ hw h e_M_reckon_132
    · skip
      replace hw := hw.1 c13
      refine lv_aload_n hx hb e_M_reckon_43 rfl (lv_at hl 0 rfl) ?_
      refine M_get C h 37 (v := .ref (rf 37)) rfl (by decide) v_120 e_M_reckon_44 ?_
      refine lv_aload_n hx hb e_M_reckon_47 rfl (lv_at hl 0 rfl) ?_
      refine lv_aload_n hx hb e_M_reckon_48 rfl (lv_at hl 0 rfl) ?_
      refine M_get C h 33 (v := .int (σ.1 33)) rfl (by decide) v_116 e_M_reckon_49 ?_
      refine lv_aload_n hx hb e_M_reckon_52 rfl (lv_at hl 0 rfl) ?_
      refine M_get C h 34 (v := .int (σ.1 34)) rfl (by decide) v_145 e_M_reckon_53 ?_
      refine lv_iconst (v := 1) hx hb e_M_reckon_56 (by decide) ?_
      refine lv_iadd hx hb e_M_reckon_57 ?_
      refine M_calli (As := [.int (σ.1 33), .int ((σ.1 34) + 1)]) (rest := [.ref (rf 37)]) C h hA (K_M_at l dC dI mo rf ca s.heap.size σ (σ.1 33) ((σ.1 34) + 1) hw) (cwV 2 hts (gV hsub v_69 v_70 v_71 v_7 v_72) rfl rfl rfl (by decide +kernel) ⟨(Nat.le_of_ble_eq_true rfl), (Nat.le_of_ble_eq_true rfl)⟩) rfl hl.1 (Nat.le_of_ble_eq_true rfl) e_M_reckon_58 ⟨(Nat.le_of_ble_eq_true rfl), (Nat.le_of_ble_eq_true rfl)⟩ (fun r23 σ22 H locs hw h => ?_)
      refine W.eq (g2 := F0 m 61 ls [.int r23, .ref (rf 37)]) rfl ?_
      refine M_ald C h 37 (by decide) rfl hw.1 e_M_reckon_61 ?_
      replace hw := hw.2
      refine lv_topi (fun a24 e_a24 => ?_)
      replace hw := hw a24 e_a24
      refine lv_iconst (v := 1) hx hb e_M_reckon_62 (by decide) ?_
      refine lv_icmp_eq (tgt := 132) hx hb e_M_reckon_63 (by decide) (fun c25 => ?_) (fun c25 => ?_)
      · skip
        replace hw := hw.1 c25
        exact hend σ22 _ _ _ _ hw h e_M_reckon_132
      · skip
        replace hw := hw.2 c25
        refine lv_aload_n hx hb e_M_reckon_66 rfl (lv_at hl 0 rfl) ?_
        refine lv_bipush (v := 6) hx hb e_M_reckon_67 (by decide) ?_
        refine M_callv (As := [.int 6]) (rest := []) C h hA (K_M_miss l dC dI mo rf ca H.size σ22 (6 : Int32) hw) (cwV 1 hts (gV hsub v_100 v_101 v_102 v_7 v_103) rfl rfl rfl (by decide +kernel) ⟨(Nat.le_of_ble_eq_true rfl), (Nat.le_of_ble_eq_true rfl)⟩) rfl hl.1 (Nat.le_of_ble_eq_true rfl) e_M_reckon_69 ⟨(Nat.le_of_ble_eq_true rfl), (Nat.le_of_ble_eq_true rfl)⟩ (fun σ26 H locs hw h => ?_)
        refine W.eq (g2 := F0 m 72 ls []) rfl ?_
        refine lv_goto (tgt := 132) hx hb e_M_reckon_72 (by decide) ?_
        exact hend σ26 _ _ _ _ hw h e_M_reckon_132
  · skip
    replace hw := hw.2 c12
    refine lv_iload_n hx hb e_M_reckon_6 rfl (lv_at hl 1 rfl) ?_
    refine lv_iconst (v := 1) hx hb e_M_reckon_7 (by decide) ?_
    refine lv_iand hx hb e_M_reckon_8 ?_
    refine lv_topi (fun a28 e_a28 => ?_)
    replace hw := hw a28 e_a28
    refine lv_if_ne (tgt := 16) hx hb e_M_reckon_9 (by decide) (fun c29 => ?_) (fun c29 => ?_)
    · skip
      replace hw := hw.2 c29
      refine lv_iconst (v := 2) hx hb e_M_reckon_16 (by decide) ?_
      exact K_17 () 2 σ _ _ _ hw h (lv_sub hl [0] rfl)
    · skip
      replace hw := hw.1 c29
      refine lv_iconst (v := 1) hx hb e_M_reckon_12 (by decide) ?_
      refine lv_goto (tgt := 17) hx hb e_M_reckon_13 (by decide) ?_
      exact K_17 () 1 σ _ _ _ hw h (lv_sub hl [0] rfl)
abbrev z_M_test : MethodName := ⟨"MapFramerModel", "test", "(I)V"⟩
theorem e_M_test_0 : decode prog_14_method_47_code 0 = .ok (.iload_n 1, 1) := by decide +kernel
theorem e_M_test_1 : decode prog_14_method_47_code 1 = .ok (.sipush 167, 3) := by decide +kernel
theorem e_M_test_4 : decode prog_14_method_47_code 4 = .ok (.if_icmp .ne 4, 3) := by decide +kernel
theorem e_M_test_7 : decode prog_14_method_47_code 7 = .ok (.return_, 1) := by decide +kernel
theorem e_M_test_8 : decode prog_14_method_47_code 8 = .ok (.iload_n 1, 1) := by decide +kernel
theorem e_M_test_9 : decode prog_14_method_47_code 9 = .ok (.sipush 159, 3) := by decide +kernel
theorem e_M_test_12 : decode prog_14_method_47_code 12 = .ok (.sipush 166, 3) := by decide +kernel
theorem e_M_test_15 : decode prog_14_method_47_code 15 = .ok (.invokestatic 218, 3) := by decide +kernel
theorem e_M_test_18 : decode prog_14_method_47_code 18 = .ok (.ifCond .eq 7, 3) := by decide +kernel
theorem e_M_test_21 : decode prog_14_method_47_code 21 = .ok (.iconst 2, 1) := by decide +kernel
theorem e_M_test_22 : decode prog_14_method_47_code 22 = .ok (.goto 4, 3) := by decide +kernel
theorem e_M_test_25 : decode prog_14_method_47_code 25 = .ok (.iconst 1, 1) := by decide +kernel
theorem e_M_test_26 : decode prog_14_method_47_code 26 = .ok (.istore_n 2, 1) := by decide +kernel
theorem e_M_test_27 : decode prog_14_method_47_code 27 = .ok (.iconst 0, 1) := by decide +kernel
theorem e_M_test_28 : decode prog_14_method_47_code 28 = .ok (.istore_n 3, 1) := by decide +kernel
theorem e_M_test_29 : decode prog_14_method_47_code 29 = .ok (.iload_n 3, 1) := by decide +kernel
theorem e_M_test_30 : decode prog_14_method_47_code 30 = .ok (.iload_n 2, 1) := by decide +kernel
theorem e_M_test_31 : decode prog_14_method_47_code 31 = .ok (.if_icmp .ge 30, 3) := by decide +kernel
theorem e_M_test_34 : decode prog_14_method_47_code 34 = .ok (.iload_n 1, 1) := by decide +kernel
theorem e_M_test_35 : decode prog_14_method_47_code 35 = .ok (.sipush 165, 3) := by decide +kernel
theorem e_M_test_38 : decode prog_14_method_47_code 38 = .ok (.if_icmp .ge 11, 3) := by decide +kernel
theorem e_M_test_41 : decode prog_14_method_47_code 41 = .ok (.aload_n 0, 1) := by decide +kernel
theorem e_M_test_42 : decode prog_14_method_47_code 42 = .ok (.iconst 1, 1) := by decide +kernel
theorem e_M_test_43 : decode prog_14_method_47_code 43 = .ok (.invokevirtual 282, 3) := by decide +kernel
theorem e_M_test_46 : decode prog_14_method_47_code 46 = .ok (.goto 9, 3) := by decide +kernel
theorem e_M_test_49 : decode prog_14_method_47_code 49 = .ok (.aload_n 0, 1) := by decide +kernel
theorem e_M_test_50 : decode prog_14_method_47_code 50 = .ok (.invokevirtual 279, 3) := by decide +kernel
theorem e_M_test_53 : decode prog_14_method_47_code 53 = .ok (.istore 4, 2) := by decide +kernel
theorem e_M_test_55 : decode prog_14_method_47_code 55 = .ok (.iinc 3 1, 3) := by decide +kernel
theorem e_M_test_58 : decode prog_14_method_47_code 58 = .ok (.goto (-29), 3) := by decide +kernel
theorem e_M_test_61 : decode prog_14_method_47_code 61 = .ok (.return_, 1) := by decide +kernel
def w_M_test_55 (K29 : Int32 → Int32 → Int32 → MST → Prop) (P : MST → Prop) (z1 : Int32) (z2 : Int32) (z3 : Int32) (σ : MST) : Prop := K29 z1 z2 (z3 + 1) σ
def w_M_test_29 (P : MST → Prop) : Nat → Int32 → Int32 → Int32 → MST → Prop
  | 0, _, _, _, _ => False
  | n + 1, z1, z2, z3, σ => ((z2 ≤ z3 → P σ) ∧ (¬ z2 ≤ z3 → ((165 ≤ z1 → w_M_popReference σ (fun r4 σ3 => w_M_test_55 (w_M_test_29 P n) P z1 z2 z3 σ3)) ∧ (¬ 165 ≤ z1 → w_M_want (1 : Int32) σ (fun σ5 => w_M_test_55 (w_M_test_29 P n) P z1 z2 z3 σ5)))))
def w_M_test_26 (P : MST → Prop) (z1 : Int32) (s0 : Int32) (σ : MST) : Prop := (∃ n9 : Nat, w_M_test_29 P n9 z1 s0 0 σ)
def w_M_test (x1 : Int32) (σ : MST) (P : MST → Prop) : Prop := ((x1 = 167 → P σ) ∧ (¬ x1 = 167 → w_M_in x1 (159 : Int32) (166 : Int32) σ (fun r9 σ8 => ((r9 = 0 → w_M_test_26 P x1 1 σ8) ∧ (¬ r9 = 0 → w_M_test_26 P x1 2 σ8)))))
set_option maxHeartbeats 4000000 in
set_option maxRecDepth 100000 in
theorem K_M_test (l : Launch) (dC : Nat → ClassId) (dI : Nat → Nat → Nat) (mo : Nat) (rf : Nat → Nat) (ca : Nat → ClassId) (sz : Nat) (σ : MST) (x1 : Int32) {P : MST → Prop} (hw : w_M_test x1 σ P) : Met l z_M_test (mW z_M_test prog_14_method_47_code 5 none) ({ frames := 4, cells := 0, slots := 0, locals := 89 } : Room) (va_Pc [.ref mo, .int x1] (MPre (dC, dI) mo rf ca σ sz)) (va_Qv P (MB (dC, dI) mo rf ca sz) (mA mo rf sz)) 0 0 (mA mo rf sz) := by
  refine M_ofv (by decide) rfl (Nat.le_of_ble_eq_true rfl) ?_
  intro p e s m below meth cx Q A ls C hA hend h hl
  have C0 := C
  obtain ⟨⟨hx, hb, hml, hown, hts⟩, hsub⟩ := C0
  have K_55 : ∀ (K29 : Int32 → Int32 → Int32 → MST → Prop) (hK29 : ∀ (z1 : Int32) (z2 : Int32) (z3 : Int32) (σ : MST) (H : Heap) (locs : List Loc) (ls : Array Slot), K29 z1 z2 z3 σ → MH (dC, dI) A mo rf ca σ s H locs → lv_has ls 5 [(0, .ref mo), (1, .int z1), (2, .int z2), (3, .int z3)] → W p l e ({ frames := 4, cells := 0, slots := 0, locals := 89 } : Room) s m ([.ref mo, .int x1] : List Value).toArray below meth cx H locs 0 0 Q (F0 m 29 ls [])), ∀ (z1 : Int32) (z2 : Int32) (z3 : Int32) (σ : MST) (H : Heap) (locs : List Loc) (ls : Array Slot), w_M_test_55 K29 P z1 z2 z3 σ → MH (dC, dI) A mo rf ca σ s H locs → lv_has ls 5 [(0, .ref mo), (1, .int z1), (2, .int z2), (3, .int z3)] → W p l e ({ frames := 4, cells := 0, slots := 0, locals := 89 } : Room) s m ([.ref mo, .int x1] : List Value).toArray below meth cx H locs 0 0 Q (F0 m 55 ls []) := by
    intro K29 hK29 z1 z2 z3 σ H locs ls hw h hl
    unfold w_M_test_55 at hw
    refine lv_iinc (v := (z3 + 1)) (lv' := [(3, .int (z3 + 1)), (0, .ref mo), (1, .int z1), (2, .int z2)]) hx hb e_M_test_55 hl (k := 3) rfl (rfl) (by decide) rfl (fun ls hl => ?_)
    refine lv_goto (tgt := 29) hx hb e_M_test_58 (by decide) ?_
    exact hK29 z1 z2 (z3 + 1) σ _ _ _ hw h (lv_sub hl [1, 2, 3, 0] rfl)
  have K_29 : ∀ (n : Nat), ∀ (z1 : Int32) (z2 : Int32) (z3 : Int32) (σ : MST) (H : Heap) (locs : List Loc) (ls : Array Slot), w_M_test_29 P n z1 z2 z3 σ → MH (dC, dI) A mo rf ca σ s H locs → lv_has ls 5 [(0, .ref mo), (1, .int z1), (2, .int z2), (3, .int z3)] → W p l e ({ frames := 4, cells := 0, slots := 0, locals := 89 } : Room) s m ([.ref mo, .int x1] : List Value).toArray below meth cx H locs 0 0 Q (F0 m 29 ls []) := by
    intro  n
    induction n with
    | zero => intro z1 z2 z3 σ H locs ls hw h hl; unfold w_M_test_29 at hw; exact hw.elim
    | succ n ih =>
      intro z1 z2 z3 σ H locs ls hw h hl
      unfold w_M_test_29 at hw
      refine lv_iload_n hx hb e_M_test_29 rfl (lv_at hl 3 rfl) ?_
      refine lv_iload_n hx hb e_M_test_30 rfl (lv_at hl 2 rfl) ?_
      refine lv_icmp_ge (tgt := 61) hx hb e_M_test_31 (by decide) (fun c1 => ?_) (fun c1 => ?_)
      · skip
        replace hw := hw.1 c1
        exact hend σ _ _ _ _ hw h e_M_test_61
      · skip
        replace hw := hw.2 c1
        refine lv_iload_n hx hb e_M_test_34 rfl (lv_at hl 1 rfl) ?_
        refine lv_sipush (v := 165) hx hb e_M_test_35 (by decide) ?_
        refine lv_icmp_ge (tgt := 49) hx hb e_M_test_38 (by decide) (fun c2 => ?_) (fun c2 => ?_)
        · skip
          replace hw := hw.1 c2
          refine lv_aload_n hx hb e_M_test_49 rfl (lv_at hl 0 rfl) ?_
          refine M_calli (As := []) (rest := []) C h hA (K_M_popReference l dC dI mo rf ca H.size σ hw) (cwV 0 hts (gV hsub v_137 v_138 v_139 v_7 v_140) rfl rfl rfl (by decide +kernel) ⟨(Nat.le_of_ble_eq_true rfl), (Nat.le_of_ble_eq_true rfl)⟩) rfl hl.1 (Nat.le_of_ble_eq_true rfl) e_M_test_50 ⟨(Nat.le_of_ble_eq_true rfl), (Nat.le_of_ble_eq_true rfl)⟩ (fun r4 σ3 H locs hw h => ?_)
          refine W.eq (g2 := F0 m 53 ls [.int r4]) rfl ?_
          refine lv_istore (lv' := [(4, .int r4), (0, .ref mo), (1, .int z1), (2, .int z2), (3, .int z3)]) hx hb e_M_test_53 hl (by decide) rfl (fun ls hl => ?_)
          exact K_55 _ ih z1 z2 z3 σ3 _ _ _ hw h (lv_sub hl [1, 2, 3, 4] rfl)
        · skip
          replace hw := hw.2 c2
          refine lv_aload_n hx hb e_M_test_41 rfl (lv_at hl 0 rfl) ?_
          refine lv_iconst (v := 1) hx hb e_M_test_42 (by decide) ?_
          refine M_callv (As := [.int 1]) (rest := []) C h hA (K_M_want l dC dI mo rf ca H.size σ (1 : Int32) hw) (cwV 1 hts (gV hsub v_129 v_130 v_131 v_7 v_132) rfl rfl rfl (by decide +kernel) ⟨(Nat.le_of_ble_eq_true rfl), (Nat.le_of_ble_eq_true rfl)⟩) rfl hl.1 (Nat.le_of_ble_eq_true rfl) e_M_test_43 ⟨(Nat.le_of_ble_eq_true rfl), (Nat.le_of_ble_eq_true rfl)⟩ (fun σ5 H locs hw h => ?_)
          refine W.eq (g2 := F0 m 46 ls []) rfl ?_
          refine lv_goto (tgt := 55) hx hb e_M_test_46 (by decide) ?_
          exact K_55 _ ih z1 z2 z3 σ5 _ _ _ hw h (lv_sub hl [0, 1, 2, 3] rfl)
  have K_26 : ∀ (u9 : Unit), ∀ (z1 : Int32) (s0 : Int32) (σ : MST) (H : Heap) (locs : List Loc) (ls : Array Slot), w_M_test_26 P z1 s0 σ → MH (dC, dI) A mo rf ca σ s H locs → lv_has ls 5 [(0, .ref mo), (1, .int z1)] → W p l e ({ frames := 4, cells := 0, slots := 0, locals := 89 } : Room) s m ([.ref mo, .int x1] : List Value).toArray below meth cx H locs 0 0 Q (F0 m 26 ls [.int s0]) := by
    intro u9 z1 s0 σ H locs ls hw h hl
    unfold w_M_test_26 at hw
    refine lv_istore_n (lv' := [(2, .int s0), (0, .ref mo), (1, .int z1)]) hx hb e_M_test_26 rfl hl (by decide) rfl (fun ls hl => ?_)
    refine lv_iconst (v := 0) hx hb e_M_test_27 (by decide) ?_
    refine lv_istore_n (lv' := [(3, .int 0), (2, .int s0), (0, .ref mo), (1, .int z1)]) hx hb e_M_test_28 rfl hl (by decide) rfl (fun ls hl => ?_)
    obtain ⟨n9, hw⟩ := hw
    exact K_29 n9 z1 s0 0 σ _ _ _ hw h (lv_sub hl [2, 3, 1, 0] rfl)
  have hl : lv_has ls 5 [(0, .ref mo), (1, .int x1)] := hl
  unfold w_M_test at hw
  refine lv_iload_n hx hb e_M_test_0 rfl (lv_at hl 1 rfl) ?_
  refine lv_sipush (v := 167) hx hb e_M_test_1 (by decide) ?_
  refine lv_icmp_ne (tgt := 8) hx hb e_M_test_4 (by decide) (fun c7 => ?_) (fun c7 => ?_)
  · skip
    replace hw := hw.2 c7
    refine lv_iload_n hx hb e_M_test_8 rfl (lv_at hl 1 rfl) ?_
    refine lv_sipush (v := 159) hx hb e_M_test_9 (by decide) ?_
    refine lv_sipush (v := 166) hx hb e_M_test_12 (by decide) ?_
    refine M_scalli (As := [.int x1, .int 159, .int 166]) (rest := []) C h hA (K_M_in l dC dI mo rf ca s.heap.size σ x1 (159 : Int32) (166 : Int32) hw) (va_cwS 3 hts (gS hsub v_66 v_67 v_7 v_68) rfl rfl rfl (by decide +kernel) ⟨(Nat.le_of_ble_eq_true rfl), (Nat.le_of_ble_eq_true rfl)⟩) rfl hl.1 (Nat.le_of_ble_eq_true rfl) e_M_test_15 ⟨(Nat.le_of_ble_eq_true rfl), (Nat.le_of_ble_eq_true rfl)⟩ (fun r9 σ8 H locs hw h => ?_)
    refine W.eq (g2 := F0 m 18 ls [.int r9]) rfl ?_
    refine lv_if_eq (tgt := 25) hx hb e_M_test_18 (by decide) (fun c10 => ?_) (fun c10 => ?_)
    · skip
      replace hw := hw.1 c10
      refine lv_iconst (v := 1) hx hb e_M_test_25 (by decide) ?_
      exact K_26 () x1 1 σ8 _ _ _ hw h (lv_sub hl [0, 1] rfl)
    · skip
      replace hw := hw.2 c10
      refine lv_iconst (v := 2) hx hb e_M_test_21 (by decide) ?_
      refine lv_goto (tgt := 26) hx hb e_M_test_22 (by decide) ?_
      exact K_26 () x1 2 σ8 _ _ _ hw h (lv_sub hl [0, 1] rfl)
  · skip
    replace hw := hw.1 c7
    exact hend σ _ _ _ _ hw h e_M_test_7
abbrev z_M_leave : MethodName := ⟨"MapFramerModel", "leave", "(I)V"⟩
theorem e_M_leave_0 : decode prog_14_method_48_code 0 = .ok (.aload_n 0, 1) := by decide +kernel
theorem e_M_leave_1 : decode prog_14_method_48_code 1 = .ok (.getfield 36, 3) := by decide +kernel
theorem e_M_leave_4 : decode prog_14_method_48_code 4 = .ok (.aload_n 0, 1) := by decide +kernel
theorem e_M_leave_5 : decode prog_14_method_48_code 5 = .ok (.getfield 266, 3) := by decide +kernel
theorem e_M_leave_8 : decode prog_14_method_48_code 8 = .ok (.iaload, 1) := by decide +kernel
theorem e_M_leave_9 : decode prog_14_method_48_code 9 = .ok (.istore_n 2, 1) := by decide +kernel
theorem e_M_leave_10 : decode prog_14_method_48_code 10 = .ok (.iload_n 1, 1) := by decide +kernel
theorem e_M_leave_11 : decode prog_14_method_48_code 11 = .ok (.sipush 177, 3) := by decide +kernel
theorem e_M_leave_14 : decode prog_14_method_48_code 14 = .ok (.if_icmp .ne 16, 3) := by decide +kernel
theorem e_M_leave_17 : decode prog_14_method_48_code 17 = .ok (.iload_n 2, 1) := by decide +kernel
theorem e_M_leave_18 : decode prog_14_method_48_code 18 = .ok (.ifCond .eq 94, 3) := by decide +kernel
theorem e_M_leave_21 : decode prog_14_method_48_code 21 = .ok (.aload_n 0, 1) := by decide +kernel
theorem e_M_leave_22 : decode prog_14_method_48_code 22 = .ok (.bipush 6, 2) := by decide +kernel
theorem e_M_leave_24 : decode prog_14_method_48_code 24 = .ok (.invokevirtual 252, 3) := by decide +kernel
theorem e_M_leave_27 : decode prog_14_method_48_code 27 = .ok (.goto 85, 3) := by decide +kernel
theorem e_M_leave_30 : decode prog_14_method_48_code 30 = .ok (.iload_n 1, 1) := by decide +kernel
theorem e_M_leave_31 : decode prog_14_method_48_code 31 = .ok (.sipush 176, 3) := by decide +kernel
theorem e_M_leave_34 : decode prog_14_method_48_code 34 = .ok (.if_icmp .ne 40, 3) := by decide +kernel
theorem e_M_leave_37 : decode prog_14_method_48_code 37 = .ok (.aload_n 0, 1) := by decide +kernel
theorem e_M_leave_38 : decode prog_14_method_48_code 38 = .ok (.invokevirtual 279, 3) := by decide +kernel
theorem e_M_leave_41 : decode prog_14_method_48_code 41 = .ok (.istore_n 3, 1) := by decide +kernel
theorem e_M_leave_42 : decode prog_14_method_48_code 42 = .ok (.aload_n 0, 1) := by decide +kernel
theorem e_M_leave_43 : decode prog_14_method_48_code 43 = .ok (.getfield 225, 3) := by decide +kernel
theorem e_M_leave_46 : decode prog_14_method_48_code 46 = .ok (.ifCond .ne 25, 3) := by decide +kernel
theorem e_M_leave_49 : decode prog_14_method_48_code 49 = .ok (.iload_n 2, 1) := by decide +kernel
theorem e_M_leave_50 : decode prog_14_method_48_code 50 = .ok (.invokestatic 172, 3) := by decide +kernel
theorem e_M_leave_53 : decode prog_14_method_48_code 53 = .ok (.ifCond .eq 12, 3) := by decide +kernel
theorem e_M_leave_56 : decode prog_14_method_48_code 56 = .ok (.aload_n 0, 1) := by decide +kernel
theorem e_M_leave_57 : decode prog_14_method_48_code 57 = .ok (.iload_n 3, 1) := by decide +kernel
theorem e_M_leave_58 : decode prog_14_method_48_code 58 = .ok (.iload_n 2, 1) := by decide +kernel
theorem e_M_leave_59 : decode prog_14_method_48_code 59 = .ok (.invokevirtual 260, 3) := by decide +kernel
theorem e_M_leave_62 : decode prog_14_method_48_code 62 = .ok (.ifCond .ne 9, 3) := by decide +kernel
theorem e_M_leave_65 : decode prog_14_method_48_code 65 = .ok (.aload_n 0, 1) := by decide +kernel
theorem e_M_leave_66 : decode prog_14_method_48_code 66 = .ok (.bipush 6, 2) := by decide +kernel
theorem e_M_leave_68 : decode prog_14_method_48_code 68 = .ok (.invokevirtual 252, 3) := by decide +kernel
theorem e_M_leave_71 : decode prog_14_method_48_code 71 = .ok (.goto 41, 3) := by decide +kernel
theorem e_M_leave_74 : decode prog_14_method_48_code 74 = .ok (.aload_n 0, 1) := by decide +kernel
theorem e_M_leave_75 : decode prog_14_method_48_code 75 = .ok (.iload_n 1, 1) := by decide +kernel
theorem e_M_leave_76 : decode prog_14_method_48_code 76 = .ok (.sipush 172, 3) := by decide +kernel
theorem e_M_leave_79 : decode prog_14_method_48_code 79 = .ok (.if_icmp .ne 7, 3) := by decide +kernel
theorem e_M_leave_82 : decode prog_14_method_48_code 82 = .ok (.iconst 1, 1) := by decide +kernel
theorem e_M_leave_83 : decode prog_14_method_48_code 83 = .ok (.goto 4, 3) := by decide +kernel
theorem e_M_leave_86 : decode prog_14_method_48_code 86 = .ok (.iconst 2, 1) := by decide +kernel
theorem e_M_leave_87 : decode prog_14_method_48_code 87 = .ok (.invokevirtual 282, 3) := by decide +kernel
theorem e_M_leave_90 : decode prog_14_method_48_code 90 = .ok (.iload_n 2, 1) := by decide +kernel
theorem e_M_leave_91 : decode prog_14_method_48_code 91 = .ok (.iload_n 1, 1) := by decide +kernel
theorem e_M_leave_92 : decode prog_14_method_48_code 92 = .ok (.sipush 172, 3) := by decide +kernel
theorem e_M_leave_95 : decode prog_14_method_48_code 95 = .ok (.if_icmp .ne 7, 3) := by decide +kernel
theorem e_M_leave_98 : decode prog_14_method_48_code 98 = .ok (.iconst 1, 1) := by decide +kernel
theorem e_M_leave_99 : decode prog_14_method_48_code 99 = .ok (.goto 4, 3) := by decide +kernel
theorem e_M_leave_102 : decode prog_14_method_48_code 102 = .ok (.iconst 2, 1) := by decide +kernel
theorem e_M_leave_103 : decode prog_14_method_48_code 103 = .ok (.if_icmp .eq 9, 3) := by decide +kernel
theorem e_M_leave_106 : decode prog_14_method_48_code 106 = .ok (.aload_n 0, 1) := by decide +kernel
theorem e_M_leave_107 : decode prog_14_method_48_code 107 = .ok (.bipush 6, 2) := by decide +kernel
theorem e_M_leave_109 : decode prog_14_method_48_code 109 = .ok (.invokevirtual 252, 3) := by decide +kernel
theorem e_M_leave_112 : decode prog_14_method_48_code 112 = .ok (.return_, 1) := by decide +kernel
def w_M_leave_65 (P : MST → Prop) (σ : MST) : Prop := w_M_miss (6 : Int32) σ (fun σ1 => P σ1)
def w_M_leave_103 (P : MST → Prop) (s0 : Int32) (s1 : Int32) (σ : MST) : Prop := ((s1 = s0 → P σ) ∧ (¬ s1 = s0 → w_M_miss (6 : Int32) σ (fun σ4 => P σ4)))
def w_M_leave_87 (P : MST → Prop) (z1 : Int32) (z2 : Int32) (s0 : Int32) (σ : MST) : Prop := w_M_want s0 σ (fun σ6 => ((z1 = 172 → w_M_leave_103 P 1 z2 σ6) ∧ (¬ z1 = 172 → w_M_leave_103 P 2 z2 σ6)))
def w_M_leave (x1 : Int32) (σ : MST) (P : MST → Prop) : Prop := vp_in (σ.1 33) 8 ∧ (∀ a9 : Int32, a9 = (σ.2.1 11 ((σ.1 33) : Int32).toNatClampNeg) → ((x1 = 177 → ((a9 = 0 → P σ) ∧ (¬ a9 = 0 → w_M_miss (6 : Int32) σ (fun σ23 => P σ23)))) ∧ (¬ x1 = 177 → ((x1 = 176 → w_M_popReference σ (fun r14 σ13 => (((σ13.1 35) = 0 → w_M_isThing a9 σ13 (fun r17 σ16 => ((r17 = 0 → w_M_leave_65 P σ16) ∧ (¬ r17 = 0 → w_M_goesInto r14 a9 σ16 (fun r20 σ19 => ((r20 = 0 → w_M_leave_65 P σ19) ∧ (¬ r20 = 0 → P σ19))))))) ∧ (¬ (σ13.1 35) = 0 → P σ13)))) ∧ (¬ x1 = 176 → ((x1 = 172 → w_M_leave_87 P x1 a9 1 σ) ∧ (¬ x1 = 172 → w_M_leave_87 P x1 a9 2 σ)))))))
set_option maxHeartbeats 4000000 in
set_option maxRecDepth 100000 in
theorem K_M_leave (l : Launch) (dC : Nat → ClassId) (dI : Nat → Nat → Nat) (mo : Nat) (rf : Nat → Nat) (ca : Nat → ClassId) (sz : Nat) (σ : MST) (x1 : Int32) {P : MST → Prop} (hw : w_M_leave x1 σ P) : Met l z_M_leave (mW z_M_leave prog_14_method_48_code 4 none) ({ frames := 4, cells := 0, slots := 0, locals := 89 } : Room) (va_Pc [.ref mo, .int x1] (MPre (dC, dI) mo rf ca σ sz)) (va_Qv P (MB (dC, dI) mo rf ca sz) (mA mo rf sz)) 0 0 (mA mo rf sz) := by
  refine M_ofv (by decide) rfl (Nat.le_of_ble_eq_true rfl) ?_
  intro p e s m below meth cx Q A ls C hA hend h hl
  have C0 := C
  obtain ⟨⟨hx, hb, hml, hown, hts⟩, hsub⟩ := C0
  have K_65 : ∀ (u9 : Unit), ∀ (σ : MST) (H : Heap) (locs : List Loc) (ls : Array Slot), w_M_leave_65 P σ → MH (dC, dI) A mo rf ca σ s H locs → lv_has ls 4 [(0, .ref mo)] → W p l e ({ frames := 4, cells := 0, slots := 0, locals := 89 } : Room) s m ([.ref mo, .int x1] : List Value).toArray below meth cx H locs 0 0 Q (F0 m 65 ls []) := by
    intro u9  σ H locs ls hw h hl
    unfold w_M_leave_65 at hw
    refine lv_aload_n hx hb e_M_leave_65 rfl (lv_at hl 0 rfl) ?_
    refine lv_bipush (v := 6) hx hb e_M_leave_66 (by decide) ?_
    refine M_callv (As := [.int 6]) (rest := []) C h hA (K_M_miss l dC dI mo rf ca H.size σ (6 : Int32) hw) (cwV 1 hts (gV hsub v_100 v_101 v_102 v_7 v_103) rfl rfl rfl (by decide +kernel) ⟨(Nat.le_of_ble_eq_true rfl), (Nat.le_of_ble_eq_true rfl)⟩) rfl hl.1 (Nat.le_of_ble_eq_true rfl) e_M_leave_68 ⟨(Nat.le_of_ble_eq_true rfl), (Nat.le_of_ble_eq_true rfl)⟩ (fun σ1 H locs hw h => ?_)
    refine W.eq (g2 := F0 m 71 ls []) rfl ?_
    refine lv_goto (tgt := 112) hx hb e_M_leave_71 (by decide) ?_
    exact hend σ1 _ _ _ _ hw h e_M_leave_112
  have K_103 : ∀ (u9 : Unit), ∀ (s0 : Int32) (s1 : Int32) (σ : MST) (H : Heap) (locs : List Loc) (ls : Array Slot), w_M_leave_103 P s0 s1 σ → MH (dC, dI) A mo rf ca σ s H locs → lv_has ls 4 [(0, .ref mo)] → W p l e ({ frames := 4, cells := 0, slots := 0, locals := 89 } : Room) s m ([.ref mo, .int x1] : List Value).toArray below meth cx H locs 0 0 Q (F0 m 103 ls [.int s0, .int s1]) := by
    intro u9 s0 s1 σ H locs ls hw h hl
    unfold w_M_leave_103 at hw
    refine lv_icmp_eq (tgt := 112) hx hb e_M_leave_103 (by decide) (fun c3 => ?_) (fun c3 => ?_)
    · skip
      replace hw := hw.1 c3
      exact hend σ _ _ _ _ hw h e_M_leave_112
    · skip
      replace hw := hw.2 c3
      refine lv_aload_n hx hb e_M_leave_106 rfl (lv_at hl 0 rfl) ?_
      refine lv_bipush (v := 6) hx hb e_M_leave_107 (by decide) ?_
      refine M_callv (As := [.int 6]) (rest := []) C h hA (K_M_miss l dC dI mo rf ca H.size σ (6 : Int32) hw) (cwV 1 hts (gV hsub v_100 v_101 v_102 v_7 v_103) rfl rfl rfl (by decide +kernel) ⟨(Nat.le_of_ble_eq_true rfl), (Nat.le_of_ble_eq_true rfl)⟩) rfl hl.1 (Nat.le_of_ble_eq_true rfl) e_M_leave_109 ⟨(Nat.le_of_ble_eq_true rfl), (Nat.le_of_ble_eq_true rfl)⟩ (fun σ4 H locs hw h => ?_)
      refine W.eq (g2 := F0 m 112 ls []) rfl ?_
      exact hend σ4 _ _ _ _ hw h e_M_leave_112
  have K_87 : ∀ (u9 : Unit), ∀ (z1 : Int32) (z2 : Int32) (s0 : Int32) (σ : MST) (H : Heap) (locs : List Loc) (ls : Array Slot), w_M_leave_87 P z1 z2 s0 σ → MH (dC, dI) A mo rf ca σ s H locs → lv_has ls 4 [(0, .ref mo), (1, .int z1), (2, .int z2)] → W p l e ({ frames := 4, cells := 0, slots := 0, locals := 89 } : Room) s m ([.ref mo, .int x1] : List Value).toArray below meth cx H locs 0 0 Q (F0 m 87 ls [.int s0, .ref mo]) := by
    intro u9 z1 z2 s0 σ H locs ls hw h hl
    unfold w_M_leave_87 at hw
    refine M_callv (As := [.int s0]) (rest := []) C h hA (K_M_want l dC dI mo rf ca H.size σ s0 hw) (cwV 1 hts (gV hsub v_129 v_130 v_131 v_7 v_132) rfl rfl rfl (by decide +kernel) ⟨(Nat.le_of_ble_eq_true rfl), (Nat.le_of_ble_eq_true rfl)⟩) rfl hl.1 (Nat.le_of_ble_eq_true rfl) e_M_leave_87 ⟨(Nat.le_of_ble_eq_true rfl), (Nat.le_of_ble_eq_true rfl)⟩ (fun σ6 H locs hw h => ?_)
    refine W.eq (g2 := F0 m 90 ls []) rfl ?_
    refine lv_iload_n hx hb e_M_leave_90 rfl (lv_at hl 2 rfl) ?_
    refine lv_iload_n hx hb e_M_leave_91 rfl (lv_at hl 1 rfl) ?_
    refine lv_sipush (v := 172) hx hb e_M_leave_92 (by decide) ?_
    refine lv_icmp_ne (tgt := 102) hx hb e_M_leave_95 (by decide) (fun c8 => ?_) (fun c8 => ?_)
    · skip
      replace hw := hw.2 c8
      refine lv_iconst (v := 2) hx hb e_M_leave_102 (by decide) ?_
      exact K_103 () 2 z2 σ6 _ _ _ hw h (lv_sub hl [0] rfl)
    · skip
      replace hw := hw.1 c8
      refine lv_iconst (v := 1) hx hb e_M_leave_98 (by decide) ?_
      refine lv_goto (tgt := 103) hx hb e_M_leave_99 (by decide) ?_
      exact K_103 () 1 z2 σ6 _ _ _ hw h (lv_sub hl [0] rfl)
  have hl : lv_has ls 4 [(0, .ref mo), (1, .int x1)] := hl
  unfold w_M_leave at hw
  refine lv_aload_n hx hb e_M_leave_0 rfl (lv_at hl 0 rfl) ?_
  refine M_get C h 11 (v := .ref (rf 11)) rfl (by decide) v_44 e_M_leave_1 ?_
  refine lv_aload_n hx hb e_M_leave_4 rfl (lv_at hl 0 rfl) ?_
  refine M_get C h 33 (v := .int (σ.1 33)) rfl (by decide) v_116 e_M_leave_5 ?_
  refine M_ald C h 11 (by decide) rfl hw.1 e_M_leave_8 ?_
  replace hw := hw.2
  refine lv_topi (fun a9 e_a9 => ?_)
  replace hw := hw a9 e_a9
  refine lv_istore_n (lv' := [(2, .int a9), (0, .ref mo), (1, .int x1)]) hx hb e_M_leave_9 rfl hl (by decide) rfl (fun ls hl => ?_)
  refine lv_iload_n hx hb e_M_leave_10 rfl (lv_at hl 2 rfl) ?_
  refine lv_sipush (v := 177) hx hb e_M_leave_11 (by decide) ?_
  refine lv_icmp_ne (tgt := 30) hx hb e_M_leave_14 (by decide) (fun c10 => ?_) (fun c10 => ?_)
  · skip
    replace hw := hw.2 c10
    refine lv_iload_n hx hb e_M_leave_30 rfl (lv_at hl 2 rfl) ?_
    refine lv_sipush (v := 176) hx hb e_M_leave_31 (by decide) ?_
    refine lv_icmp_ne (tgt := 74) hx hb e_M_leave_34 (by decide) (fun c11 => ?_) (fun c11 => ?_)
    · skip
      replace hw := hw.2 c11
      refine lv_aload_n hx hb e_M_leave_74 rfl (lv_at hl 1 rfl) ?_
      refine lv_iload_n hx hb e_M_leave_75 rfl (lv_at hl 2 rfl) ?_
      refine lv_sipush (v := 172) hx hb e_M_leave_76 (by decide) ?_
      refine lv_icmp_ne (tgt := 86) hx hb e_M_leave_79 (by decide) (fun c12 => ?_) (fun c12 => ?_)
      · skip
        replace hw := hw.2 c12
        refine lv_iconst (v := 2) hx hb e_M_leave_86 (by decide) ?_
        exact K_87 () x1 a9 2 σ _ _ _ hw h (lv_sub hl [1, 2, 0] rfl)
      · skip
        replace hw := hw.1 c12
        refine lv_iconst (v := 1) hx hb e_M_leave_82 (by decide) ?_
        refine lv_goto (tgt := 87) hx hb e_M_leave_83 (by decide) ?_
        exact K_87 () x1 a9 1 σ _ _ _ hw h (lv_sub hl [1, 2, 0] rfl)
    · skip
      replace hw := hw.1 c11
      refine lv_aload_n hx hb e_M_leave_37 rfl (lv_at hl 1 rfl) ?_
      refine M_calli (As := []) (rest := []) C h hA (K_M_popReference l dC dI mo rf ca s.heap.size σ hw) (cwV 0 hts (gV hsub v_137 v_138 v_139 v_7 v_140) rfl rfl rfl (by decide +kernel) ⟨(Nat.le_of_ble_eq_true rfl), (Nat.le_of_ble_eq_true rfl)⟩) rfl hl.1 (Nat.le_of_ble_eq_true rfl) e_M_leave_38 ⟨(Nat.le_of_ble_eq_true rfl), (Nat.le_of_ble_eq_true rfl)⟩ (fun r14 σ13 H locs hw h => ?_)
      refine W.eq (g2 := F0 m 41 ls [.int r14]) rfl ?_
      refine lv_istore_n (lv' := [(3, .int r14), (2, .int a9), (0, .ref mo), (1, .int x1)]) hx hb e_M_leave_41 rfl hl (by decide) rfl (fun ls hl => ?_)
      refine lv_aload_n hx hb e_M_leave_42 rfl (lv_at hl 2 rfl) ?_
      refine M_get C h 35 (v := .int (σ13.1 35)) rfl (by decide) v_73 e_M_leave_43 ?_
      refine lv_if_ne (tgt := 71) hx hb e_M_leave_46 (by decide) (fun c15 => ?_) (fun c15 => ?_)
      · skip
        replace hw := hw.2 c15
        refine lv_goto (tgt := 112) hx hb e_M_leave_71 (by decide) ?_
        exact hend σ13 _ _ _ _ hw h e_M_leave_112
      · skip
        replace hw := hw.1 c15
        refine lv_iload_n hx hb e_M_leave_49 rfl (lv_at hl 1 rfl) ?_
        refine M_scalli (As := [.int a9]) (rest := []) C h hA (K_M_isThing l dC dI mo rf ca H.size σ13 a9 hw) (va_cwS 1 hts (gS hsub v_19 v_20 v_7 v_21) rfl rfl rfl (by decide +kernel) ⟨(Nat.le_of_ble_eq_true rfl), (Nat.le_of_ble_eq_true rfl)⟩) rfl hl.1 (Nat.le_of_ble_eq_true rfl) e_M_leave_50 ⟨(Nat.le_of_ble_eq_true rfl), (Nat.le_of_ble_eq_true rfl)⟩ (fun r17 σ16 H locs hw h => ?_)
        refine W.eq (g2 := F0 m 53 ls [.int r17]) rfl ?_
        refine lv_if_eq (tgt := 65) hx hb e_M_leave_53 (by decide) (fun c18 => ?_) (fun c18 => ?_)
        · skip
          replace hw := hw.1 c18
          exact K_65 () σ16 _ _ _ hw h (lv_sub hl [2] rfl)
        · skip
          replace hw := hw.2 c18
          refine lv_aload_n hx hb e_M_leave_56 rfl (lv_at hl 2 rfl) ?_
          refine lv_iload_n hx hb e_M_leave_57 rfl (lv_at hl 0 rfl) ?_
          refine lv_iload_n hx hb e_M_leave_58 rfl (lv_at hl 1 rfl) ?_
          refine M_calli (As := [.int r14, .int a9]) (rest := []) C h hA (K_M_goesInto l dC dI mo rf ca H.size σ16 r14 a9 hw) (cwV 2 hts (gV hsub v_108 v_109 v_110 v_7 v_111) rfl rfl rfl (by decide +kernel) ⟨(Nat.le_of_ble_eq_true rfl), (Nat.le_of_ble_eq_true rfl)⟩) rfl hl.1 (Nat.le_of_ble_eq_true rfl) e_M_leave_59 ⟨(Nat.le_of_ble_eq_true rfl), (Nat.le_of_ble_eq_true rfl)⟩ (fun r20 σ19 H locs hw h => ?_)
          refine W.eq (g2 := F0 m 62 ls [.int r20]) rfl ?_
          refine lv_if_ne (tgt := 71) hx hb e_M_leave_62 (by decide) (fun c21 => ?_) (fun c21 => ?_)
          · skip
            replace hw := hw.2 c21
            refine lv_goto (tgt := 112) hx hb e_M_leave_71 (by decide) ?_
            exact hend σ19 _ _ _ _ hw h e_M_leave_112
          · skip
            replace hw := hw.1 c21
            exact K_65 () σ19 _ _ _ hw h (lv_sub hl [2] rfl)
  · skip
    replace hw := hw.1 c10
    refine lv_iload_n hx hb e_M_leave_17 rfl (lv_at hl 0 rfl) ?_
    refine lv_if_eq (tgt := 112) hx hb e_M_leave_18 (by decide) (fun c22 => ?_) (fun c22 => ?_)
    · skip
      replace hw := hw.1 c22
      exact hend σ _ _ _ _ hw h e_M_leave_112
    · skip
      replace hw := hw.2 c22
      refine lv_aload_n hx hb e_M_leave_21 rfl (lv_at hl 1 rfl) ?_
      refine lv_bipush (v := 6) hx hb e_M_leave_22 (by decide) ?_
      refine M_callv (As := [.int 6]) (rest := []) C h hA (K_M_miss l dC dI mo rf ca s.heap.size σ (6 : Int32) hw) (cwV 1 hts (gV hsub v_100 v_101 v_102 v_7 v_103) rfl rfl rfl (by decide +kernel) ⟨(Nat.le_of_ble_eq_true rfl), (Nat.le_of_ble_eq_true rfl)⟩) rfl hl.1 (Nat.le_of_ble_eq_true rfl) e_M_leave_24 ⟨(Nat.le_of_ble_eq_true rfl), (Nat.le_of_ble_eq_true rfl)⟩ (fun σ23 H locs hw h => ?_)
      refine W.eq (g2 := F0 m 27 ls []) rfl ?_
      refine lv_goto (tgt := 112) hx hb e_M_leave_27 (by decide) ?_
      exact hend σ23 _ _ _ _ hw h e_M_leave_112
abbrev z_M_fieldOf : MethodName := ⟨"MapFramerModel", "fieldOf", "(II)V"⟩
theorem e_M_fieldOf_0 : decode prog_14_method_49_code 0 = .ok (.iload_n 1, 1) := by decide +kernel
theorem e_M_fieldOf_1 : decode prog_14_method_49_code 1 = .ok (.sipush 179, 3) := by decide +kernel
theorem e_M_fieldOf_4 : decode prog_14_method_49_code 4 = .ok (.if_icmp .eq 10, 3) := by decide +kernel
theorem e_M_fieldOf_7 : decode prog_14_method_49_code 7 = .ok (.iload_n 1, 1) := by decide +kernel
theorem e_M_fieldOf_8 : decode prog_14_method_49_code 8 = .ok (.sipush 181, 3) := by decide +kernel
theorem e_M_fieldOf_11 : decode prog_14_method_49_code 11 = .ok (.if_icmp .ne 13, 3) := by decide +kernel
theorem e_M_fieldOf_14 : decode prog_14_method_49_code 14 = .ok (.aload_n 0, 1) := by decide +kernel
theorem e_M_fieldOf_15 : decode prog_14_method_49_code 15 = .ok (.aload_n 0, 1) := by decide +kernel
theorem e_M_fieldOf_16 : decode prog_14_method_49_code 16 = .ok (.getfield 24, 3) := by decide +kernel
theorem e_M_fieldOf_19 : decode prog_14_method_49_code 19 = .ok (.iload_n 2, 1) := by decide +kernel
theorem e_M_fieldOf_20 : decode prog_14_method_49_code 20 = .ok (.iaload, 1) := by decide +kernel
theorem e_M_fieldOf_21 : decode prog_14_method_49_code 21 = .ok (.invokevirtual 282, 3) := by decide +kernel
theorem e_M_fieldOf_24 : decode prog_14_method_49_code 24 = .ok (.iload_n 1, 1) := by decide +kernel
theorem e_M_fieldOf_25 : decode prog_14_method_49_code 25 = .ok (.sipush 179, 3) := by decide +kernel
theorem e_M_fieldOf_28 : decode prog_14_method_49_code 28 = .ok (.if_icmp .le 16, 3) := by decide +kernel
theorem e_M_fieldOf_31 : decode prog_14_method_49_code 31 = .ok (.aload_n 0, 1) := by decide +kernel
theorem e_M_fieldOf_32 : decode prog_14_method_49_code 32 = .ok (.bipush 32, 2) := by decide +kernel
theorem e_M_fieldOf_34 : decode prog_14_method_49_code 34 = .ok (.aload_n 0, 1) := by decide +kernel
theorem e_M_fieldOf_35 : decode prog_14_method_49_code 35 = .ok (.getfield 21, 3) := by decide +kernel
theorem e_M_fieldOf_38 : decode prog_14_method_49_code 38 = .ok (.iload_n 2, 1) := by decide +kernel
theorem e_M_fieldOf_39 : decode prog_14_method_49_code 39 = .ok (.iaload, 1) := by decide +kernel
theorem e_M_fieldOf_40 : decode prog_14_method_49_code 40 = .ok (.iadd, 1) := by decide +kernel
theorem e_M_fieldOf_41 : decode prog_14_method_49_code 41 = .ok (.invokevirtual 282, 3) := by decide +kernel
theorem e_M_fieldOf_44 : decode prog_14_method_49_code 44 = .ok (.iload_n 1, 1) := by decide +kernel
theorem e_M_fieldOf_45 : decode prog_14_method_49_code 45 = .ok (.sipush 178, 3) := by decide +kernel
theorem e_M_fieldOf_48 : decode prog_14_method_49_code 48 = .ok (.if_icmp .eq 10, 3) := by decide +kernel
theorem e_M_fieldOf_51 : decode prog_14_method_49_code 51 = .ok (.iload_n 1, 1) := by decide +kernel
theorem e_M_fieldOf_52 : decode prog_14_method_49_code 52 = .ok (.sipush 180, 3) := by decide +kernel
theorem e_M_fieldOf_55 : decode prog_14_method_49_code 55 = .ok (.if_icmp .ne 13, 3) := by decide +kernel
theorem e_M_fieldOf_58 : decode prog_14_method_49_code 58 = .ok (.aload_n 0, 1) := by decide +kernel
theorem e_M_fieldOf_59 : decode prog_14_method_49_code 59 = .ok (.aload_n 0, 1) := by decide +kernel
theorem e_M_fieldOf_60 : decode prog_14_method_49_code 60 = .ok (.getfield 24, 3) := by decide +kernel
theorem e_M_fieldOf_63 : decode prog_14_method_49_code 63 = .ok (.iload_n 2, 1) := by decide +kernel
theorem e_M_fieldOf_64 : decode prog_14_method_49_code 64 = .ok (.iaload, 1) := by decide +kernel
theorem e_M_fieldOf_65 : decode prog_14_method_49_code 65 = .ok (.invokevirtual 272, 3) := by decide +kernel
theorem e_M_fieldOf_68 : decode prog_14_method_49_code 68 = .ok (.return_, 1) := by decide +kernel
def w_M_fieldOf_58 (P : MST → Prop) (z2 : Int32) (σ : MST) : Prop := vp_in z2 16 ∧ (∀ a1 : Int32, a1 = (σ.2.1 6 (z2 : Int32).toNatClampNeg) → w_M_push a1 σ (fun σ2 => P σ2))
def w_M_fieldOf_44 (P : MST → Prop) (z1 : Int32) (z2 : Int32) (σ : MST) : Prop := ((z1 = 178 → w_M_fieldOf_58 P z2 σ) ∧ (¬ z1 = 178 → ((z1 = 180 → w_M_fieldOf_58 P z2 σ) ∧ (¬ z1 = 180 → P σ))))
def w_M_fieldOf_24 (P : MST → Prop) (z1 : Int32) (z2 : Int32) (σ : MST) : Prop := ((z1 ≤ 179 → w_M_fieldOf_44 P z1 z2 σ) ∧ (¬ z1 ≤ 179 → vp_in z2 16 ∧ (∀ a7 : Int32, a7 = (σ.2.1 5 (z2 : Int32).toNatClampNeg) → w_M_want ((32 : Int32) + a7) σ (fun σ8 => w_M_fieldOf_44 P z1 z2 σ8))))
def w_M_fieldOf_14 (P : MST → Prop) (z1 : Int32) (z2 : Int32) (σ : MST) : Prop := vp_in z2 16 ∧ (∀ a10 : Int32, a10 = (σ.2.1 6 (z2 : Int32).toNatClampNeg) → w_M_want a10 σ (fun σ11 => w_M_fieldOf_24 P z1 z2 σ11))
def w_M_fieldOf (x1 : Int32) (x2 : Int32) (σ : MST) (P : MST → Prop) : Prop := ((x1 = 179 → w_M_fieldOf_14 P x1 x2 σ) ∧ (¬ x1 = 179 → ((x1 = 181 → w_M_fieldOf_14 P x1 x2 σ) ∧ (¬ x1 = 181 → w_M_fieldOf_24 P x1 x2 σ))))
set_option maxHeartbeats 4000000 in
set_option maxRecDepth 100000 in
theorem K_M_fieldOf (l : Launch) (dC : Nat → ClassId) (dI : Nat → Nat → Nat) (mo : Nat) (rf : Nat → Nat) (ca : Nat → ClassId) (sz : Nat) (σ : MST) (x1 : Int32) (x2 : Int32) {P : MST → Prop} (hw : w_M_fieldOf x1 x2 σ P) : Met l z_M_fieldOf (mW z_M_fieldOf prog_14_method_49_code 3 none) ({ frames := 4, cells := 0, slots := 0, locals := 89 } : Room) (va_Pc [.ref mo, .int x1, .int x2] (MPre (dC, dI) mo rf ca σ sz)) (va_Qv P (MB (dC, dI) mo rf ca sz) (mA mo rf sz)) 0 0 (mA mo rf sz) := by
  refine M_ofv (by decide) rfl (Nat.le_of_ble_eq_true rfl) ?_
  intro p e s m below meth cx Q A ls C hA hend h hl
  have C0 := C
  obtain ⟨⟨hx, hb, hml, hown, hts⟩, hsub⟩ := C0
  have K_58 : ∀ (u9 : Unit), ∀ (z2 : Int32) (σ : MST) (H : Heap) (locs : List Loc) (ls : Array Slot), w_M_fieldOf_58 P z2 σ → MH (dC, dI) A mo rf ca σ s H locs → lv_has ls 3 [(0, .ref mo), (2, .int z2)] → W p l e ({ frames := 4, cells := 0, slots := 0, locals := 89 } : Room) s m ([.ref mo, .int x1, .int x2] : List Value).toArray below meth cx H locs 0 0 Q (F0 m 58 ls []) := by
    intro u9 z2 σ H locs ls hw h hl
    unfold w_M_fieldOf_58 at hw
    refine lv_aload_n hx hb e_M_fieldOf_58 rfl (lv_at hl 0 rfl) ?_
    refine lv_aload_n hx hb e_M_fieldOf_59 rfl (lv_at hl 0 rfl) ?_
    refine M_get C h 6 (v := .ref (rf 6)) rfl (by decide) v_36 e_M_fieldOf_60 ?_
    refine lv_iload_n hx hb e_M_fieldOf_63 rfl (lv_at hl 1 rfl) ?_
    refine M_ald C h 6 (by decide) rfl hw.1 e_M_fieldOf_64 ?_
    replace hw := hw.2
    refine lv_topi (fun a1 e_a1 => ?_)
    replace hw := hw a1 e_a1
    refine M_callv (As := [.int a1]) (rest := []) C h hA (K_M_push l dC dI mo rf ca H.size σ a1 hw) (cwV 1 hts (gV hsub v_121 v_122 v_123 v_7 v_124) rfl rfl rfl (by decide +kernel) ⟨(Nat.le_of_ble_eq_true rfl), (Nat.le_of_ble_eq_true rfl)⟩) rfl hl.1 (Nat.le_of_ble_eq_true rfl) e_M_fieldOf_65 ⟨(Nat.le_of_ble_eq_true rfl), (Nat.le_of_ble_eq_true rfl)⟩ (fun σ2 H locs hw h => ?_)
    refine W.eq (g2 := F0 m 68 ls []) rfl ?_
    exact hend σ2 _ _ _ _ hw h e_M_fieldOf_68
  have K_44 : ∀ (u9 : Unit), ∀ (z1 : Int32) (z2 : Int32) (σ : MST) (H : Heap) (locs : List Loc) (ls : Array Slot), w_M_fieldOf_44 P z1 z2 σ → MH (dC, dI) A mo rf ca σ s H locs → lv_has ls 3 [(0, .ref mo), (1, .int z1), (2, .int z2)] → W p l e ({ frames := 4, cells := 0, slots := 0, locals := 89 } : Room) s m ([.ref mo, .int x1, .int x2] : List Value).toArray below meth cx H locs 0 0 Q (F0 m 44 ls []) := by
    intro u9 z1 z2 σ H locs ls hw h hl
    unfold w_M_fieldOf_44 at hw
    refine lv_iload_n hx hb e_M_fieldOf_44 rfl (lv_at hl 1 rfl) ?_
    refine lv_sipush (v := 178) hx hb e_M_fieldOf_45 (by decide) ?_
    refine lv_icmp_eq (tgt := 58) hx hb e_M_fieldOf_48 (by decide) (fun c4 => ?_) (fun c4 => ?_)
    · skip
      replace hw := hw.1 c4
      exact K_58 () z2 σ _ _ _ hw h (lv_sub hl [0, 2] rfl)
    · skip
      replace hw := hw.2 c4
      refine lv_iload_n hx hb e_M_fieldOf_51 rfl (lv_at hl 1 rfl) ?_
      refine lv_sipush (v := 180) hx hb e_M_fieldOf_52 (by decide) ?_
      refine lv_icmp_ne (tgt := 68) hx hb e_M_fieldOf_55 (by decide) (fun c5 => ?_) (fun c5 => ?_)
      · skip
        replace hw := hw.2 c5
        exact hend σ _ _ _ _ hw h e_M_fieldOf_68
      · skip
        replace hw := hw.1 c5
        exact K_58 () z2 σ _ _ _ hw h (lv_sub hl [0, 2] rfl)
  have K_24 : ∀ (u9 : Unit), ∀ (z1 : Int32) (z2 : Int32) (σ : MST) (H : Heap) (locs : List Loc) (ls : Array Slot), w_M_fieldOf_24 P z1 z2 σ → MH (dC, dI) A mo rf ca σ s H locs → lv_has ls 3 [(0, .ref mo), (1, .int z1), (2, .int z2)] → W p l e ({ frames := 4, cells := 0, slots := 0, locals := 89 } : Room) s m ([.ref mo, .int x1, .int x2] : List Value).toArray below meth cx H locs 0 0 Q (F0 m 24 ls []) := by
    intro u9 z1 z2 σ H locs ls hw h hl
    unfold w_M_fieldOf_24 at hw
    refine lv_iload_n hx hb e_M_fieldOf_24 rfl (lv_at hl 1 rfl) ?_
    refine lv_sipush (v := 179) hx hb e_M_fieldOf_25 (by decide) ?_
    refine lv_icmp_le (tgt := 44) hx hb e_M_fieldOf_28 (by decide) (fun c6 => ?_) (fun c6 => ?_)
    · skip
      replace hw := hw.1 c6
      exact K_44 () z1 z2 σ _ _ _ hw h (lv_sub hl [0, 1, 2] rfl)
    · skip
      replace hw := hw.2 c6
      refine lv_aload_n hx hb e_M_fieldOf_31 rfl (lv_at hl 0 rfl) ?_
      refine lv_bipush (v := 32) hx hb e_M_fieldOf_32 (by decide) ?_
      refine lv_aload_n hx hb e_M_fieldOf_34 rfl (lv_at hl 0 rfl) ?_
      refine M_get C h 5 (v := .ref (rf 5)) rfl (by decide) v_35 e_M_fieldOf_35 ?_
      refine lv_iload_n hx hb e_M_fieldOf_38 rfl (lv_at hl 2 rfl) ?_
      refine M_ald C h 5 (by decide) rfl hw.1 e_M_fieldOf_39 ?_
      replace hw := hw.2
      refine lv_topi (fun a7 e_a7 => ?_)
      replace hw := hw a7 e_a7
      refine lv_iadd hx hb e_M_fieldOf_40 ?_
      refine M_callv (As := [.int ((32 : Int32) + a7)]) (rest := []) C h hA (K_M_want l dC dI mo rf ca H.size σ ((32 : Int32) + a7) hw) (cwV 1 hts (gV hsub v_129 v_130 v_131 v_7 v_132) rfl rfl rfl (by decide +kernel) ⟨(Nat.le_of_ble_eq_true rfl), (Nat.le_of_ble_eq_true rfl)⟩) rfl hl.1 (Nat.le_of_ble_eq_true rfl) e_M_fieldOf_41 ⟨(Nat.le_of_ble_eq_true rfl), (Nat.le_of_ble_eq_true rfl)⟩ (fun σ8 H locs hw h => ?_)
      refine W.eq (g2 := F0 m 44 ls []) rfl ?_
      exact K_44 () z1 z2 σ8 _ _ _ hw h (lv_sub hl [0, 1, 2] rfl)
  have K_14 : ∀ (u9 : Unit), ∀ (z1 : Int32) (z2 : Int32) (σ : MST) (H : Heap) (locs : List Loc) (ls : Array Slot), w_M_fieldOf_14 P z1 z2 σ → MH (dC, dI) A mo rf ca σ s H locs → lv_has ls 3 [(0, .ref mo), (1, .int z1), (2, .int z2)] → W p l e ({ frames := 4, cells := 0, slots := 0, locals := 89 } : Room) s m ([.ref mo, .int x1, .int x2] : List Value).toArray below meth cx H locs 0 0 Q (F0 m 14 ls []) := by
    intro u9 z1 z2 σ H locs ls hw h hl
    unfold w_M_fieldOf_14 at hw
    refine lv_aload_n hx hb e_M_fieldOf_14 rfl (lv_at hl 0 rfl) ?_
    refine lv_aload_n hx hb e_M_fieldOf_15 rfl (lv_at hl 0 rfl) ?_
    refine M_get C h 6 (v := .ref (rf 6)) rfl (by decide) v_36 e_M_fieldOf_16 ?_
    refine lv_iload_n hx hb e_M_fieldOf_19 rfl (lv_at hl 2 rfl) ?_
    refine M_ald C h 6 (by decide) rfl hw.1 e_M_fieldOf_20 ?_
    replace hw := hw.2
    refine lv_topi (fun a10 e_a10 => ?_)
    replace hw := hw a10 e_a10
    refine M_callv (As := [.int a10]) (rest := []) C h hA (K_M_want l dC dI mo rf ca H.size σ a10 hw) (cwV 1 hts (gV hsub v_129 v_130 v_131 v_7 v_132) rfl rfl rfl (by decide +kernel) ⟨(Nat.le_of_ble_eq_true rfl), (Nat.le_of_ble_eq_true rfl)⟩) rfl hl.1 (Nat.le_of_ble_eq_true rfl) e_M_fieldOf_21 ⟨(Nat.le_of_ble_eq_true rfl), (Nat.le_of_ble_eq_true rfl)⟩ (fun σ11 H locs hw h => ?_)
    refine W.eq (g2 := F0 m 24 ls []) rfl ?_
    exact K_24 () z1 z2 σ11 _ _ _ hw h (lv_sub hl [0, 1, 2] rfl)
  have hl : lv_has ls 3 [(0, .ref mo), (1, .int x1), (2, .int x2)] := hl
  unfold w_M_fieldOf at hw
  refine lv_iload_n hx hb e_M_fieldOf_0 rfl (lv_at hl 1 rfl) ?_
  refine lv_sipush (v := 179) hx hb e_M_fieldOf_1 (by decide) ?_
  refine lv_icmp_eq (tgt := 14) hx hb e_M_fieldOf_4 (by decide) (fun c13 => ?_) (fun c13 => ?_)
  · skip
    replace hw := hw.1 c13
    exact K_14 () x1 x2 σ _ _ _ hw h (lv_sub hl [0, 1, 2] rfl)
  · skip
    replace hw := hw.2 c13
    refine lv_iload_n hx hb e_M_fieldOf_7 rfl (lv_at hl 1 rfl) ?_
    refine lv_sipush (v := 181) hx hb e_M_fieldOf_8 (by decide) ?_
    refine lv_icmp_ne (tgt := 24) hx hb e_M_fieldOf_11 (by decide) (fun c14 => ?_) (fun c14 => ?_)
    · skip
      replace hw := hw.2 c14
      exact K_24 () x1 x2 σ _ _ _ hw h (lv_sub hl [0, 1, 2] rfl)
    · skip
      replace hw := hw.1 c14
      exact K_14 () x1 x2 σ _ _ _ hw h (lv_sub hl [0, 1, 2] rfl)
