abbrev z_M_toHandler : MethodName := ⟨"MapFramerModel", "toHandler", "(I[I)Z"⟩
theorem v_201 : (Cond.methodLink "MapFramerModel" 337 ⟨"MapFramerModel", "give", "(I)Z"⟩ : Cond) ∈ bigW := inB_9 127 (by decide +kernel) rfl
theorem v_202 : (Cond.instanceMethod ⟨"MapFramerModel", "give", "(I)Z"⟩ : Cond) ∈ bigW := inB_9 129 (by decide +kernel) rfl
theorem v_203 : (Cond.selects "MapFramerModel" ⟨"MapFramerModel", "give", "(I)Z"⟩ ⟨"MapFramerModel", "give", "(I)Z"⟩ : Cond) ∈ bigW := inS (y := ⟨"MapFramerModel", "give", "(I)Z"⟩) (n := 71) (List.mem_of_getElem? (i := 91) (by decide +kernel))
theorem v_204 : (Cond.code ⟨"MapFramerModel", "give", "(I)Z"⟩ prog_14_method_54_code 7 (some .boolean) : Cond) ∈ bigW := inB_9 130 rfl rfl
theorem v_205 : (Cond.methodLink "MapFramerModel" 333 ⟨"MapFramerModel", "giveLocals", "([I)V"⟩ : Cond) ∈ bigW := inB_10 14 (by decide +kernel) rfl
theorem v_206 : (Cond.instanceMethod ⟨"MapFramerModel", "giveLocals", "([I)V"⟩ : Cond) ∈ bigW := inB_10 16 (by decide +kernel) rfl
theorem v_207 : (Cond.selects "MapFramerModel" ⟨"MapFramerModel", "giveLocals", "([I)V"⟩ ⟨"MapFramerModel", "giveLocals", "([I)V"⟩ : Cond) ∈ bigW := inS (y := ⟨"MapFramerModel", "giveLocals", "([I)V"⟩) (n := 71) (List.mem_of_getElem? (i := 119) (by decide +kernel))
theorem v_208 : (Cond.code ⟨"MapFramerModel", "giveLocals", "([I)V"⟩ prog_14_method_55_code 3 none : Cond) ∈ bigW := inB_10 17 rfl rfl
theorem e_M_toHandler_0 : decode prog_14_method_56_code 0 = .ok (.aload_n 0, 1) := by decide +kernel
theorem e_M_toHandler_1 : decode prog_14_method_56_code 1 = .ok (.getfield 45, 3) := by decide +kernel
theorem e_M_toHandler_4 : decode prog_14_method_56_code 4 = .ok (.aload_n 0, 1) := by decide +kernel
theorem e_M_toHandler_5 : decode prog_14_method_56_code 5 = .ok (.getfield 266, 3) := by decide +kernel
theorem e_M_toHandler_8 : decode prog_14_method_56_code 8 = .ok (.iaload, 1) := by decide +kernel
theorem e_M_toHandler_9 : decode prog_14_method_56_code 9 = .ok (.ifCond .ne 14, 3) := by decide +kernel
theorem e_M_toHandler_12 : decode prog_14_method_56_code 12 = .ok (.aload_n 0, 1) := by decide +kernel
theorem e_M_toHandler_13 : decode prog_14_method_56_code 13 = .ok (.bipush 7, 2) := by decide +kernel
theorem e_M_toHandler_15 : decode prog_14_method_56_code 15 = .ok (.aload_n 0, 1) := by decide +kernel
theorem e_M_toHandler_16 : decode prog_14_method_56_code 16 = .ok (.getfield 291, 3) := by decide +kernel
theorem e_M_toHandler_19 : decode prog_14_method_56_code 19 = .ok (.invokevirtual 237, 3) := by decide +kernel
theorem e_M_toHandler_22 : decode prog_14_method_56_code 22 = .ok (.ireturn, 1) := by decide +kernel
theorem e_M_toHandler_23 : decode prog_14_method_56_code 23 = .ok (.aload_n 0, 1) := by decide +kernel
theorem e_M_toHandler_24 : decode prog_14_method_56_code 24 = .ok (.aload_n 2, 1) := by decide +kernel
theorem e_M_toHandler_25 : decode prog_14_method_56_code 25 = .ok (.invokevirtual 333, 3) := by decide +kernel
theorem e_M_toHandler_28 : decode prog_14_method_56_code 28 = .ok (.aload_n 0, 1) := by decide +kernel
theorem e_M_toHandler_29 : decode prog_14_method_56_code 29 = .ok (.getfield 111, 3) := by decide +kernel
theorem e_M_toHandler_32 : decode prog_14_method_56_code 32 = .ok (.iconst 0, 1) := by decide +kernel
theorem e_M_toHandler_33 : decode prog_14_method_56_code 33 = .ok (.bipush 32, 2) := by decide +kernel
theorem e_M_toHandler_35 : decode prog_14_method_56_code 35 = .ok (.aload_n 0, 1) := by decide +kernel
theorem e_M_toHandler_36 : decode prog_14_method_56_code 36 = .ok (.getfield 63, 3) := by decide +kernel
theorem e_M_toHandler_39 : decode prog_14_method_56_code 39 = .ok (.iload_n 1, 1) := by decide +kernel
theorem e_M_toHandler_40 : decode prog_14_method_56_code 40 = .ok (.iaload, 1) := by decide +kernel
theorem e_M_toHandler_41 : decode prog_14_method_56_code 41 = .ok (.iconst (-1), 1) := by decide +kernel
theorem e_M_toHandler_42 : decode prog_14_method_56_code 42 = .ok (.if_icmp .ne 7, 3) := by decide +kernel
theorem e_M_toHandler_45 : decode prog_14_method_56_code 45 = .ok (.iconst 1, 1) := by decide +kernel
theorem e_M_toHandler_46 : decode prog_14_method_56_code 46 = .ok (.goto 9, 3) := by decide +kernel
theorem e_M_toHandler_49 : decode prog_14_method_56_code 49 = .ok (.aload_n 0, 1) := by decide +kernel
theorem e_M_toHandler_50 : decode prog_14_method_56_code 50 = .ok (.getfield 63, 3) := by decide +kernel
theorem e_M_toHandler_53 : decode prog_14_method_56_code 53 = .ok (.iload_n 1, 1) := by decide +kernel
theorem e_M_toHandler_54 : decode prog_14_method_56_code 54 = .ok (.iaload, 1) := by decide +kernel
theorem e_M_toHandler_55 : decode prog_14_method_56_code 55 = .ok (.iadd, 1) := by decide +kernel
theorem e_M_toHandler_56 : decode prog_14_method_56_code 56 = .ok (.iastore, 1) := by decide +kernel
theorem e_M_toHandler_57 : decode prog_14_method_56_code 57 = .ok (.aload_n 0, 1) := by decide +kernel
theorem e_M_toHandler_58 : decode prog_14_method_56_code 58 = .ok (.iconst 1, 1) := by decide +kernel
theorem e_M_toHandler_59 : decode prog_14_method_56_code 59 = .ok (.putfield 327, 3) := by decide +kernel
theorem e_M_toHandler_62 : decode prog_14_method_56_code 62 = .ok (.aload_n 0, 1) := by decide +kernel
theorem e_M_toHandler_63 : decode prog_14_method_56_code 63 = .ok (.aload_n 0, 1) := by decide +kernel
theorem e_M_toHandler_64 : decode prog_14_method_56_code 64 = .ok (.getfield 60, 3) := by decide +kernel
theorem e_M_toHandler_67 : decode prog_14_method_56_code 67 = .ok (.iload_n 1, 1) := by decide +kernel
theorem e_M_toHandler_68 : decode prog_14_method_56_code 68 = .ok (.iaload, 1) := by decide +kernel
theorem e_M_toHandler_69 : decode prog_14_method_56_code 69 = .ok (.invokevirtual 337, 3) := by decide +kernel
theorem e_M_toHandler_72 : decode prog_14_method_56_code 72 = .ok (.ireturn, 1) := by decide +kernel
def w_M_toHandler_37_55 (P : Int32 → MST → Prop) (z1 : Int32) (s0 : Int32) (s1 : Int32) (s2 : Int32) (σ : MST) : Prop := vp_in s2 20 ∧ (∀ σ1 : MST, σ1 = setA σ 42 (upd (σ.2.1 42) (s2 : Int32).toNatClampNeg (s1 + s0)) → ∀ σ2 : MST, σ2 = setI σ1 43 1 → vp_in z1 128 ∧ (∀ a3 : Int32, a3 = (σ2.2.1 19 (z1 : Int32).toNatClampNeg) → w_M_give a3 σ2 (fun r5 σ4 => (narrow .boolean (.int r5) = .int r5 ∧ P r5 σ4))))
def w_M_toHandler_37 (x1 : Int32) (σ : MST) (P : Int32 → MST → Prop) : Prop := vp_in (σ.1 33) 8 ∧ (∀ a6 : Int32, a6 = (σ.2.1 14 ((σ.1 33) : Int32).toNatClampNeg) → ((a6 = 0 → w_M_faulty (7 : Int32) (σ.1 34) σ (fun r14 σ13 => (narrow .boolean (.int r14) = .int r14 ∧ P r14 σ13))) ∧ (¬ a6 = 0 → w_M_giveLocals_37 σ (fun σ8 => vp_in x1 128 ∧ (∀ a10 : Int32, a10 = (σ8.2.1 20 (x1 : Int32).toNatClampNeg) → ((a10 = (-1) → w_M_toHandler_37_55 P x1 1 32 0 σ8) ∧ (¬ a10 = (-1) → vp_in x1 128 ∧ (∀ a12 : Int32, a12 = (σ8.2.1 20 (x1 : Int32).toNatClampNeg) → w_M_toHandler_37_55 P x1 a12 32 0 σ8))))))))
set_option maxHeartbeats 4000000 in
set_option maxRecDepth 100000 in
theorem K_M_toHandler_37 (l : Launch) (dC : Nat → ClassId) (dI : Nat → Nat → Nat) (mo : Nat) (rf : Nat → Nat) (ca : Nat → ClassId) (sz : Nat) (σ : MST) (x1 : Int32) {P : Int32 → MST → Prop} (hw : w_M_toHandler_37 x1 σ P) : Met l z_M_toHandler (mW z_M_toHandler prog_14_method_56_code 3 (some .boolean)) ({ frames := 4, cells := 0, slots := 0, locals := 94 } : Room) (va_Pc [.ref mo, .int x1, .ref (rf 37)] (MPre (dC, dI) mo rf ca σ sz)) (va_Qi P (MB (dC, dI) mo rf ca sz) (mA mo rf sz)) 0 0 (mA mo rf sz) := by
  refine M_ofz (by decide) rfl (Nat.le_of_ble_eq_true rfl) ?_
  intro p e s m below meth cx Q A ls C hA hend h hl
  have C0 := C
  obtain ⟨⟨hx, hb, hml, hown, hts⟩, hsub⟩ := C0
  have K_55 : ∀ (u9 : Unit), ∀ (z1 : Int32) (s0 : Int32) (s1 : Int32) (s2 : Int32) (σ : MST) (H : Heap) (locs : List Loc) (ls : Array Slot), w_M_toHandler_37_55 P z1 s0 s1 s2 σ → MH (dC, dI) A mo rf ca σ s H locs → lv_has ls 3 [(0, .ref mo), (1, .int z1)] → W p l e ({ frames := 4, cells := 0, slots := 0, locals := 94 } : Room) s m ([.ref mo, .int x1, .ref (rf 37)] : List Value).toArray below meth cx H locs 0 0 Q (F0 m 55 ls [.int s0, .int s1, .int s2, .ref (rf 42)]) := by
    intro u9 z1 s0 s1 s2 σ H locs ls hw h hl
    unfold w_M_toHandler_37_55 at hw
    refine lv_iadd hx hb e_M_toHandler_55 ?_
    refine M_ast C h 42 (by decide) rfl hw.1 e_M_toHandler_56 (fun H locs h => ?_)
    replace hw := hw.2
    obtain ⟨σ1, e_σ1⟩ : ∃ z : MST, z = setA σ 42 (upd (σ.2.1 42) (s2 : Int32).toNatClampNeg (s1 + s0)) := ⟨_, rfl⟩
    rw [← e_σ1] at h
    replace hw := hw σ1 e_σ1
    refine lv_aload_n hx hb e_M_toHandler_57 rfl (lv_at hl 0 rfl) ?_
    refine lv_iconst (v := 1) hx hb e_M_toHandler_58 (by decide) ?_
    refine M_puti C h 43 (by decide) rfl rfl (by decide +kernel) v_190 e_M_toHandler_59 (fun H locs h => ?_)
    obtain ⟨σ2, e_σ2⟩ : ∃ z : MST, z = setI σ1 43 1 := ⟨_, rfl⟩
    rw [← e_σ2] at h
    replace hw := hw σ2 e_σ2
    refine lv_aload_n hx hb e_M_toHandler_62 rfl (lv_at hl 0 rfl) ?_
    refine lv_aload_n hx hb e_M_toHandler_63 rfl (lv_at hl 0 rfl) ?_
    refine M_get C h 19 (v := .ref (rf 19)) rfl (by decide) v_64 e_M_toHandler_64 ?_
    refine lv_iload_n hx hb e_M_toHandler_67 rfl (lv_at hl 1 rfl) ?_
    refine M_ald C h 19 (by decide) rfl hw.1 e_M_toHandler_68 ?_
    replace hw := hw.2
    refine lv_topi (fun a3 e_a3 => ?_)
    replace hw := hw a3 e_a3
    refine M_calli (As := [.int a3]) (rest := []) C h hA (K_M_give l dC dI mo rf ca H.size σ2 a3 hw) (cwV 1 hts (gV hsub v_201 v_202 v_203 v_7 v_204) rfl rfl rfl (by decide +kernel) ⟨(Nat.le_of_ble_eq_true rfl), (Nat.le_of_ble_eq_true rfl)⟩) rfl hl.1 (Nat.le_of_ble_eq_true rfl) e_M_toHandler_69 ⟨(Nat.le_of_ble_eq_true rfl), (Nat.le_of_ble_eq_true rfl)⟩ (fun r5 σ4 H locs hw h => ?_)
    refine W.eq (g2 := F0 m 72 ls [.int r5]) rfl ?_
    exact hend r5 σ4 _ _ _ _ hw.1 hw.2 h e_M_toHandler_72
  have hl : lv_has ls 3 [(0, .ref mo), (1, .int x1), (2, .ref (rf 37))] := hl
  unfold w_M_toHandler_37 at hw
  refine lv_aload_n hx hb e_M_toHandler_0 rfl (lv_at hl 0 rfl) ?_
  refine M_get C h 14 (v := .ref (rf 14)) rfl (by decide) v_48 e_M_toHandler_1 ?_
  refine lv_aload_n hx hb e_M_toHandler_4 rfl (lv_at hl 0 rfl) ?_
  refine M_get C h 33 (v := .int (σ.1 33)) rfl (by decide) v_116 e_M_toHandler_5 ?_
  refine M_ald C h 14 (by decide) rfl hw.1 e_M_toHandler_8 ?_
  replace hw := hw.2
  refine lv_topi (fun a6 e_a6 => ?_)
  replace hw := hw a6 e_a6
  refine lv_if_ne (tgt := 23) hx hb e_M_toHandler_9 (by decide) (fun c7 => ?_) (fun c7 => ?_)
  · skip
    replace hw := hw.2 c7
    refine lv_aload_n hx hb e_M_toHandler_23 rfl (lv_at hl 0 rfl) ?_
    refine lv_aload_n hx hb e_M_toHandler_24 rfl (lv_at hl 2 rfl) ?_
    refine M_callv (As := [.ref (rf 37)]) (rest := []) C h hA (K_M_giveLocals_37 l dC dI mo rf ca s.heap.size σ hw) (cwV 1 hts (gV hsub v_205 v_206 v_207 v_7 v_208) rfl rfl rfl (by decide +kernel) ⟨(Nat.le_of_ble_eq_true rfl), (Nat.le_of_ble_eq_true rfl)⟩) rfl hl.1 (Nat.le_of_ble_eq_true rfl) e_M_toHandler_25 ⟨(Nat.le_of_ble_eq_true rfl), (Nat.le_of_ble_eq_true rfl)⟩ (fun σ8 H locs hw h => ?_)
    refine W.eq (g2 := F0 m 28 ls []) rfl ?_
    refine lv_aload_n hx hb e_M_toHandler_28 rfl (lv_at hl 0 rfl) ?_
    refine M_get C h 42 (v := .ref (rf 42)) rfl (by decide) v_193 e_M_toHandler_29 ?_
    refine lv_iconst (v := 0) hx hb e_M_toHandler_32 (by decide) ?_
    refine lv_bipush (v := 32) hx hb e_M_toHandler_33 (by decide) ?_
    refine lv_aload_n hx hb e_M_toHandler_35 rfl (lv_at hl 0 rfl) ?_
    refine M_get C h 20 (v := .ref (rf 20)) rfl (by decide) v_65 e_M_toHandler_36 ?_
    refine lv_iload_n hx hb e_M_toHandler_39 rfl (lv_at hl 1 rfl) ?_
    refine M_ald C h 20 (by decide) rfl hw.1 e_M_toHandler_40 ?_
    replace hw := hw.2
    refine lv_topi (fun a10 e_a10 => ?_)
    replace hw := hw a10 e_a10
    refine lv_iconst (v := (-1)) hx hb e_M_toHandler_41 (by decide) ?_
    refine lv_icmp_ne (tgt := 49) hx hb e_M_toHandler_42 (by decide) (fun c11 => ?_) (fun c11 => ?_)
    · skip
      replace hw := hw.2 c11
      refine lv_aload_n hx hb e_M_toHandler_49 rfl (lv_at hl 0 rfl) ?_
      refine M_get C h 20 (v := .ref (rf 20)) rfl (by decide) v_65 e_M_toHandler_50 ?_
      refine lv_iload_n hx hb e_M_toHandler_53 rfl (lv_at hl 1 rfl) ?_
      refine M_ald C h 20 (by decide) rfl hw.1 e_M_toHandler_54 ?_
      replace hw := hw.2
      refine lv_topi (fun a12 e_a12 => ?_)
      replace hw := hw a12 e_a12
      exact K_55 () x1 a12 32 0 σ8 _ _ _ hw h (lv_sub hl [0, 1] rfl)
    · skip
      replace hw := hw.1 c11
      refine lv_iconst (v := 1) hx hb e_M_toHandler_45 (by decide) ?_
      refine lv_goto (tgt := 55) hx hb e_M_toHandler_46 (by decide) ?_
      exact K_55 () x1 1 32 0 σ8 _ _ _ hw h (lv_sub hl [0, 1] rfl)
  · skip
    replace hw := hw.1 c7
    refine lv_aload_n hx hb e_M_toHandler_12 rfl (lv_at hl 0 rfl) ?_
    refine lv_bipush (v := 7) hx hb e_M_toHandler_13 (by decide) ?_
    refine lv_aload_n hx hb e_M_toHandler_15 rfl (lv_at hl 0 rfl) ?_
    refine M_get C h 34 (v := .int (σ.1 34)) rfl (by decide) v_145 e_M_toHandler_16 ?_
    refine M_calli (As := [.int 7, .int (σ.1 34)]) (rest := []) C h hA (K_M_faulty l dC dI mo rf ca s.heap.size σ (7 : Int32) (σ.1 34) hw) (cwV 2 hts (gV hsub v_79 v_80 v_81 v_7 v_82) rfl rfl rfl (by decide +kernel) ⟨(Nat.le_of_ble_eq_true rfl), (Nat.le_of_ble_eq_true rfl)⟩) rfl hl.1 (Nat.le_of_ble_eq_true rfl) e_M_toHandler_19 ⟨(Nat.le_of_ble_eq_true rfl), (Nat.le_of_ble_eq_true rfl)⟩ (fun r14 σ13 H locs hw h => ?_)
    refine W.eq (g2 := F0 m 22 ls [.int r14]) rfl ?_
    exact hend r14 σ13 _ _ _ _ hw.1 hw.2 h e_M_toHandler_22
def w_M_toHandler_38_55 (P : Int32 → MST → Prop) (z1 : Int32) (s0 : Int32) (s1 : Int32) (s2 : Int32) (σ : MST) : Prop := vp_in s2 20 ∧ (∀ σ1 : MST, σ1 = setA σ 42 (upd (σ.2.1 42) (s2 : Int32).toNatClampNeg (s1 + s0)) → ∀ σ2 : MST, σ2 = setI σ1 43 1 → vp_in z1 128 ∧ (∀ a3 : Int32, a3 = (σ2.2.1 19 (z1 : Int32).toNatClampNeg) → w_M_give a3 σ2 (fun r5 σ4 => (narrow .boolean (.int r5) = .int r5 ∧ P r5 σ4))))
def w_M_toHandler_38 (x1 : Int32) (σ : MST) (P : Int32 → MST → Prop) : Prop := vp_in (σ.1 33) 8 ∧ (∀ a6 : Int32, a6 = (σ.2.1 14 ((σ.1 33) : Int32).toNatClampNeg) → ((a6 = 0 → w_M_faulty (7 : Int32) (σ.1 34) σ (fun r14 σ13 => (narrow .boolean (.int r14) = .int r14 ∧ P r14 σ13))) ∧ (¬ a6 = 0 → w_M_giveLocals_38 σ (fun σ8 => vp_in x1 128 ∧ (∀ a10 : Int32, a10 = (σ8.2.1 20 (x1 : Int32).toNatClampNeg) → ((a10 = (-1) → w_M_toHandler_38_55 P x1 1 32 0 σ8) ∧ (¬ a10 = (-1) → vp_in x1 128 ∧ (∀ a12 : Int32, a12 = (σ8.2.1 20 (x1 : Int32).toNatClampNeg) → w_M_toHandler_38_55 P x1 a12 32 0 σ8))))))))
set_option maxHeartbeats 4000000 in
set_option maxRecDepth 100000 in
theorem K_M_toHandler_38 (l : Launch) (dC : Nat → ClassId) (dI : Nat → Nat → Nat) (mo : Nat) (rf : Nat → Nat) (ca : Nat → ClassId) (sz : Nat) (σ : MST) (x1 : Int32) {P : Int32 → MST → Prop} (hw : w_M_toHandler_38 x1 σ P) : Met l z_M_toHandler (mW z_M_toHandler prog_14_method_56_code 3 (some .boolean)) ({ frames := 4, cells := 0, slots := 0, locals := 94 } : Room) (va_Pc [.ref mo, .int x1, .ref (rf 38)] (MPre (dC, dI) mo rf ca σ sz)) (va_Qi P (MB (dC, dI) mo rf ca sz) (mA mo rf sz)) 0 0 (mA mo rf sz) := by
  refine M_ofz (by decide) rfl (Nat.le_of_ble_eq_true rfl) ?_
  intro p e s m below meth cx Q A ls C hA hend h hl
  have C0 := C
  obtain ⟨⟨hx, hb, hml, hown, hts⟩, hsub⟩ := C0
  have K_55 : ∀ (u9 : Unit), ∀ (z1 : Int32) (s0 : Int32) (s1 : Int32) (s2 : Int32) (σ : MST) (H : Heap) (locs : List Loc) (ls : Array Slot), w_M_toHandler_38_55 P z1 s0 s1 s2 σ → MH (dC, dI) A mo rf ca σ s H locs → lv_has ls 3 [(0, .ref mo), (1, .int z1)] → W p l e ({ frames := 4, cells := 0, slots := 0, locals := 94 } : Room) s m ([.ref mo, .int x1, .ref (rf 38)] : List Value).toArray below meth cx H locs 0 0 Q (F0 m 55 ls [.int s0, .int s1, .int s2, .ref (rf 42)]) := by
    intro u9 z1 s0 s1 s2 σ H locs ls hw h hl
    unfold w_M_toHandler_38_55 at hw
    refine lv_iadd hx hb e_M_toHandler_55 ?_
    refine M_ast C h 42 (by decide) rfl hw.1 e_M_toHandler_56 (fun H locs h => ?_)
    replace hw := hw.2
    obtain ⟨σ1, e_σ1⟩ : ∃ z : MST, z = setA σ 42 (upd (σ.2.1 42) (s2 : Int32).toNatClampNeg (s1 + s0)) := ⟨_, rfl⟩
    rw [← e_σ1] at h
    replace hw := hw σ1 e_σ1
    refine lv_aload_n hx hb e_M_toHandler_57 rfl (lv_at hl 0 rfl) ?_
    refine lv_iconst (v := 1) hx hb e_M_toHandler_58 (by decide) ?_
    refine M_puti C h 43 (by decide) rfl rfl (by decide +kernel) v_190 e_M_toHandler_59 (fun H locs h => ?_)
    obtain ⟨σ2, e_σ2⟩ : ∃ z : MST, z = setI σ1 43 1 := ⟨_, rfl⟩
    rw [← e_σ2] at h
    replace hw := hw σ2 e_σ2
    refine lv_aload_n hx hb e_M_toHandler_62 rfl (lv_at hl 0 rfl) ?_
    refine lv_aload_n hx hb e_M_toHandler_63 rfl (lv_at hl 0 rfl) ?_
    refine M_get C h 19 (v := .ref (rf 19)) rfl (by decide) v_64 e_M_toHandler_64 ?_
    refine lv_iload_n hx hb e_M_toHandler_67 rfl (lv_at hl 1 rfl) ?_
    refine M_ald C h 19 (by decide) rfl hw.1 e_M_toHandler_68 ?_
    replace hw := hw.2
    refine lv_topi (fun a3 e_a3 => ?_)
    replace hw := hw a3 e_a3
    refine M_calli (As := [.int a3]) (rest := []) C h hA (K_M_give l dC dI mo rf ca H.size σ2 a3 hw) (cwV 1 hts (gV hsub v_201 v_202 v_203 v_7 v_204) rfl rfl rfl (by decide +kernel) ⟨(Nat.le_of_ble_eq_true rfl), (Nat.le_of_ble_eq_true rfl)⟩) rfl hl.1 (Nat.le_of_ble_eq_true rfl) e_M_toHandler_69 ⟨(Nat.le_of_ble_eq_true rfl), (Nat.le_of_ble_eq_true rfl)⟩ (fun r5 σ4 H locs hw h => ?_)
    refine W.eq (g2 := F0 m 72 ls [.int r5]) rfl ?_
    exact hend r5 σ4 _ _ _ _ hw.1 hw.2 h e_M_toHandler_72
  have hl : lv_has ls 3 [(0, .ref mo), (1, .int x1), (2, .ref (rf 38))] := hl
  unfold w_M_toHandler_38 at hw
  refine lv_aload_n hx hb e_M_toHandler_0 rfl (lv_at hl 0 rfl) ?_
  refine M_get C h 14 (v := .ref (rf 14)) rfl (by decide) v_48 e_M_toHandler_1 ?_
  refine lv_aload_n hx hb e_M_toHandler_4 rfl (lv_at hl 0 rfl) ?_
  refine M_get C h 33 (v := .int (σ.1 33)) rfl (by decide) v_116 e_M_toHandler_5 ?_
  refine M_ald C h 14 (by decide) rfl hw.1 e_M_toHandler_8 ?_
  replace hw := hw.2
  refine lv_topi (fun a6 e_a6 => ?_)
  replace hw := hw a6 e_a6
  refine lv_if_ne (tgt := 23) hx hb e_M_toHandler_9 (by decide) (fun c7 => ?_) (fun c7 => ?_)
  · skip
    replace hw := hw.2 c7
    refine lv_aload_n hx hb e_M_toHandler_23 rfl (lv_at hl 0 rfl) ?_
    refine lv_aload_n hx hb e_M_toHandler_24 rfl (lv_at hl 2 rfl) ?_
    refine M_callv (As := [.ref (rf 38)]) (rest := []) C h hA (K_M_giveLocals_38 l dC dI mo rf ca s.heap.size σ hw) (cwV 1 hts (gV hsub v_205 v_206 v_207 v_7 v_208) rfl rfl rfl (by decide +kernel) ⟨(Nat.le_of_ble_eq_true rfl), (Nat.le_of_ble_eq_true rfl)⟩) rfl hl.1 (Nat.le_of_ble_eq_true rfl) e_M_toHandler_25 ⟨(Nat.le_of_ble_eq_true rfl), (Nat.le_of_ble_eq_true rfl)⟩ (fun σ8 H locs hw h => ?_)
    refine W.eq (g2 := F0 m 28 ls []) rfl ?_
    refine lv_aload_n hx hb e_M_toHandler_28 rfl (lv_at hl 0 rfl) ?_
    refine M_get C h 42 (v := .ref (rf 42)) rfl (by decide) v_193 e_M_toHandler_29 ?_
    refine lv_iconst (v := 0) hx hb e_M_toHandler_32 (by decide) ?_
    refine lv_bipush (v := 32) hx hb e_M_toHandler_33 (by decide) ?_
    refine lv_aload_n hx hb e_M_toHandler_35 rfl (lv_at hl 0 rfl) ?_
    refine M_get C h 20 (v := .ref (rf 20)) rfl (by decide) v_65 e_M_toHandler_36 ?_
    refine lv_iload_n hx hb e_M_toHandler_39 rfl (lv_at hl 1 rfl) ?_
    refine M_ald C h 20 (by decide) rfl hw.1 e_M_toHandler_40 ?_
    replace hw := hw.2
    refine lv_topi (fun a10 e_a10 => ?_)
    replace hw := hw a10 e_a10
    refine lv_iconst (v := (-1)) hx hb e_M_toHandler_41 (by decide) ?_
    refine lv_icmp_ne (tgt := 49) hx hb e_M_toHandler_42 (by decide) (fun c11 => ?_) (fun c11 => ?_)
    · skip
      replace hw := hw.2 c11
      refine lv_aload_n hx hb e_M_toHandler_49 rfl (lv_at hl 0 rfl) ?_
      refine M_get C h 20 (v := .ref (rf 20)) rfl (by decide) v_65 e_M_toHandler_50 ?_
      refine lv_iload_n hx hb e_M_toHandler_53 rfl (lv_at hl 1 rfl) ?_
      refine M_ald C h 20 (by decide) rfl hw.1 e_M_toHandler_54 ?_
      replace hw := hw.2
      refine lv_topi (fun a12 e_a12 => ?_)
      replace hw := hw a12 e_a12
      exact K_55 () x1 a12 32 0 σ8 _ _ _ hw h (lv_sub hl [0, 1] rfl)
    · skip
      replace hw := hw.1 c11
      refine lv_iconst (v := 1) hx hb e_M_toHandler_45 (by decide) ?_
      refine lv_goto (tgt := 55) hx hb e_M_toHandler_46 (by decide) ?_
      exact K_55 () x1 1 32 0 σ8 _ _ _ hw h (lv_sub hl [0, 1] rfl)
  · skip
    replace hw := hw.1 c7
    refine lv_aload_n hx hb e_M_toHandler_12 rfl (lv_at hl 0 rfl) ?_
    refine lv_bipush (v := 7) hx hb e_M_toHandler_13 (by decide) ?_
    refine lv_aload_n hx hb e_M_toHandler_15 rfl (lv_at hl 0 rfl) ?_
    refine M_get C h 34 (v := .int (σ.1 34)) rfl (by decide) v_145 e_M_toHandler_16 ?_
    refine M_calli (As := [.int 7, .int (σ.1 34)]) (rest := []) C h hA (K_M_faulty l dC dI mo rf ca s.heap.size σ (7 : Int32) (σ.1 34) hw) (cwV 2 hts (gV hsub v_79 v_80 v_81 v_7 v_82) rfl rfl rfl (by decide +kernel) ⟨(Nat.le_of_ble_eq_true rfl), (Nat.le_of_ble_eq_true rfl)⟩) rfl hl.1 (Nat.le_of_ble_eq_true rfl) e_M_toHandler_19 ⟨(Nat.le_of_ble_eq_true rfl), (Nat.le_of_ble_eq_true rfl)⟩ (fun r14 σ13 H locs hw h => ?_)
    refine W.eq (g2 := F0 m 22 ls [.int r14]) rfl ?_
    exact hend r14 σ13 _ _ _ _ hw.1 hw.2 h e_M_toHandler_22
abbrev z_M_look : MethodName := ⟨"MapFramerModel", "look", "(I)Z"⟩
theorem v_209 : (Cond.fieldLink "MapFramerModel" 102 "MapFramerModel" "before" "[I" : Cond) ∈ bigW := inB_8 99 (by decide +kernel) rfl
theorem v_210 : (Cond.methodLink "MapFramerModel" 346 ⟨"MapFramerModel", "toHandler", "(I[I)Z"⟩ : Cond) ∈ bigW := inB_10 10 (by decide +kernel) rfl
theorem v_211 : (Cond.instanceMethod ⟨"MapFramerModel", "toHandler", "(I[I)Z"⟩ : Cond) ∈ bigW := inB_10 12 (by decide +kernel) rfl
theorem v_212 : (Cond.selects "MapFramerModel" ⟨"MapFramerModel", "toHandler", "(I[I)Z"⟩ ⟨"MapFramerModel", "toHandler", "(I[I)Z"⟩ : Cond) ∈ bigW := inS (y := ⟨"MapFramerModel", "toHandler", "(I[I)Z"⟩) (n := 71) (List.mem_of_getElem? (i := 118) (by decide +kernel))
theorem v_213 : (Cond.code ⟨"MapFramerModel", "toHandler", "(I[I)Z"⟩ prog_14_method_56_code 3 (some .boolean) : Cond) ∈ bigW := inB_10 13 rfl rfl
theorem v_214 : (Cond.methodLink "MapFramerModel" 343 ⟨"MapFramerModel", "stops", "(I)Z"⟩ : Cond) ∈ bigW := inB_10 7 (by decide +kernel) rfl
theorem v_215 : (Cond.static ⟨"MapFramerModel", "stops", "(I)Z"⟩ : Cond) ∈ bigW := inB_10 8 (by decide +kernel) rfl
theorem v_216 : (Cond.code ⟨"MapFramerModel", "stops", "(I)Z"⟩ prog_14_method_26_code 1 (some .boolean) : Cond) ∈ bigW := inB_10 9 rfl rfl
theorem v_217 : (Cond.methodLink "MapFramerModel" 340 ⟨"MapFramerModel", "simulate", "(II)V"⟩ : Cond) ∈ bigW := inB_9 152 (by decide +kernel) rfl
theorem v_218 : (Cond.instanceMethod ⟨"MapFramerModel", "simulate", "(II)V"⟩ : Cond) ∈ bigW := inB_9 154 (by decide +kernel) rfl
theorem v_219 : (Cond.selects "MapFramerModel" ⟨"MapFramerModel", "simulate", "(II)V"⟩ ⟨"MapFramerModel", "simulate", "(II)V"⟩ : Cond) ∈ bigW := inS (y := ⟨"MapFramerModel", "simulate", "(II)V"⟩) (n := 71) (List.mem_of_getElem? (i := 95) (by decide +kernel))
theorem v_220 : (Cond.code ⟨"MapFramerModel", "simulate", "(II)V"⟩ prog_14_method_53_code 3 none : Cond) ∈ bigW := inB_9 155 rfl rfl
theorem e_M_look_0 : decode prog_14_method_57_code 0 = .ok (.bipush 12, 2) := by decide +kernel
theorem e_M_look_2 : decode prog_14_method_57_code 2 = .ok (.bipush 120, 2) := by decide +kernel
theorem e_M_look_4 : decode prog_14_method_57_code 4 = .ok (.aload_n 0, 1) := by decide +kernel
theorem e_M_look_5 : decode prog_14_method_57_code 5 = .ok (.getfield 266, 3) := by decide +kernel
theorem e_M_look_8 : decode prog_14_method_57_code 8 = .ok (.imul, 1) := by decide +kernel
theorem e_M_look_9 : decode prog_14_method_57_code 9 = .ok (.iload_n 1, 1) := by decide +kernel
theorem e_M_look_10 : decode prog_14_method_57_code 10 = .ok (.iadd, 1) := by decide +kernel
theorem e_M_look_11 : decode prog_14_method_57_code 11 = .ok (.imul, 1) := by decide +kernel
theorem e_M_look_12 : decode prog_14_method_57_code 12 = .ok (.istore_n 2, 1) := by decide +kernel
theorem e_M_look_13 : decode prog_14_method_57_code 13 = .ok (.aload_n 0, 1) := by decide +kernel
theorem e_M_look_14 : decode prog_14_method_57_code 14 = .ok (.iload_n 1, 1) := by decide +kernel
theorem e_M_look_15 : decode prog_14_method_57_code 15 = .ok (.putfield 291, 3) := by decide +kernel
theorem e_M_look_18 : decode prog_14_method_57_code 18 = .ok (.aload_n 0, 1) := by decide +kernel
theorem e_M_look_19 : decode prog_14_method_57_code 19 = .ok (.aload_n 0, 1) := by decide +kernel
theorem e_M_look_20 : decode prog_14_method_57_code 20 = .ok (.getfield 81, 3) := by decide +kernel
theorem e_M_look_23 : decode prog_14_method_57_code 23 = .ok (.bipush 120, 2) := by decide +kernel
theorem e_M_look_25 : decode prog_14_method_57_code 25 = .ok (.aload_n 0, 1) := by decide +kernel
theorem e_M_look_26 : decode prog_14_method_57_code 26 = .ok (.getfield 266, 3) := by decide +kernel
theorem e_M_look_29 : decode prog_14_method_57_code 29 = .ok (.imul, 1) := by decide +kernel
theorem e_M_look_30 : decode prog_14_method_57_code 30 = .ok (.iload_n 1, 1) := by decide +kernel
theorem e_M_look_31 : decode prog_14_method_57_code 31 = .ok (.iadd, 1) := by decide +kernel
theorem e_M_look_32 : decode prog_14_method_57_code 32 = .ok (.iaload, 1) := by decide +kernel
theorem e_M_look_33 : decode prog_14_method_57_code 33 = .ok (.putfield 249, 3) := by decide +kernel
theorem e_M_look_36 : decode prog_14_method_57_code 36 = .ok (.iconst 0, 1) := by decide +kernel
theorem e_M_look_37 : decode prog_14_method_57_code 37 = .ok (.istore_n 3, 1) := by decide +kernel
theorem e_M_look_38 : decode prog_14_method_57_code 38 = .ok (.iload_n 3, 1) := by decide +kernel
theorem e_M_look_39 : decode prog_14_method_57_code 39 = .ok (.aload_n 0, 1) := by decide +kernel
theorem e_M_look_40 : decode prog_14_method_57_code 40 = .ok (.getfield 48, 3) := by decide +kernel
theorem e_M_look_43 : decode prog_14_method_57_code 43 = .ok (.aload_n 0, 1) := by decide +kernel
theorem e_M_look_44 : decode prog_14_method_57_code 44 = .ok (.getfield 266, 3) := by decide +kernel
theorem e_M_look_47 : decode prog_14_method_57_code 47 = .ok (.iaload, 1) := by decide +kernel
theorem e_M_look_48 : decode prog_14_method_57_code 48 = .ok (.if_icmp .ge 37, 3) := by decide +kernel
theorem e_M_look_51 : decode prog_14_method_57_code 51 = .ok (.aload_n 0, 1) := by decide +kernel
theorem e_M_look_52 : decode prog_14_method_57_code 52 = .ok (.getfield 99, 3) := by decide +kernel
theorem e_M_look_55 : decode prog_14_method_57_code 55 = .ok (.iload_n 3, 1) := by decide +kernel
theorem e_M_look_56 : decode prog_14_method_57_code 56 = .ok (.aload_n 0, 1) := by decide +kernel
theorem e_M_look_57 : decode prog_14_method_57_code 57 = .ok (.getfield 84, 3) := by decide +kernel
theorem e_M_look_60 : decode prog_14_method_57_code 60 = .ok (.iload_n 2, 1) := by decide +kernel
theorem e_M_look_61 : decode prog_14_method_57_code 61 = .ok (.iload_n 3, 1) := by decide +kernel
theorem e_M_look_62 : decode prog_14_method_57_code 62 = .ok (.iadd, 1) := by decide +kernel
theorem e_M_look_63 : decode prog_14_method_57_code 63 = .ok (.iaload, 1) := by decide +kernel
theorem e_M_look_64 : decode prog_14_method_57_code 64 = .ok (.iastore, 1) := by decide +kernel
theorem e_M_look_65 : decode prog_14_method_57_code 65 = .ok (.aload_n 0, 1) := by decide +kernel
theorem e_M_look_66 : decode prog_14_method_57_code 66 = .ok (.getfield 102, 3) := by decide +kernel
theorem e_M_look_69 : decode prog_14_method_57_code 69 = .ok (.iload_n 3, 1) := by decide +kernel
theorem e_M_look_70 : decode prog_14_method_57_code 70 = .ok (.aload_n 0, 1) := by decide +kernel
theorem e_M_look_71 : decode prog_14_method_57_code 71 = .ok (.getfield 84, 3) := by decide +kernel
theorem e_M_look_74 : decode prog_14_method_57_code 74 = .ok (.iload_n 2, 1) := by decide +kernel
theorem e_M_look_75 : decode prog_14_method_57_code 75 = .ok (.iload_n 3, 1) := by decide +kernel
theorem e_M_look_76 : decode prog_14_method_57_code 76 = .ok (.iadd, 1) := by decide +kernel
theorem e_M_look_77 : decode prog_14_method_57_code 77 = .ok (.iaload, 1) := by decide +kernel
theorem e_M_look_78 : decode prog_14_method_57_code 78 = .ok (.iastore, 1) := by decide +kernel
theorem e_M_look_79 : decode prog_14_method_57_code 79 = .ok (.iinc 3 1, 3) := by decide +kernel
theorem e_M_look_82 : decode prog_14_method_57_code 82 = .ok (.goto (-44), 3) := by decide +kernel
theorem e_M_look_85 : decode prog_14_method_57_code 85 = .ok (.iconst 0, 1) := by decide +kernel
theorem e_M_look_86 : decode prog_14_method_57_code 86 = .ok (.istore_n 3, 1) := by decide +kernel
theorem e_M_look_87 : decode prog_14_method_57_code 87 = .ok (.iload_n 3, 1) := by decide +kernel
theorem e_M_look_88 : decode prog_14_method_57_code 88 = .ok (.aload_n 0, 1) := by decide +kernel
theorem e_M_look_89 : decode prog_14_method_57_code 89 = .ok (.getfield 249, 3) := by decide +kernel
theorem e_M_look_92 : decode prog_14_method_57_code 92 = .ok (.if_icmp .ge 23, 3) := by decide +kernel
theorem e_M_look_95 : decode prog_14_method_57_code 95 = .ok (.aload_n 0, 1) := by decide +kernel
theorem e_M_look_96 : decode prog_14_method_57_code 96 = .ok (.getfield 105, 3) := by decide +kernel
theorem e_M_look_99 : decode prog_14_method_57_code 99 = .ok (.iload_n 3, 1) := by decide +kernel
theorem e_M_look_100 : decode prog_14_method_57_code 100 = .ok (.aload_n 0, 1) := by decide +kernel
theorem e_M_look_101 : decode prog_14_method_57_code 101 = .ok (.getfield 87, 3) := by decide +kernel
theorem e_M_look_104 : decode prog_14_method_57_code 104 = .ok (.iload_n 2, 1) := by decide +kernel
theorem e_M_look_105 : decode prog_14_method_57_code 105 = .ok (.iload_n 3, 1) := by decide +kernel
theorem e_M_look_106 : decode prog_14_method_57_code 106 = .ok (.iadd, 1) := by decide +kernel
theorem e_M_look_107 : decode prog_14_method_57_code 107 = .ok (.iaload, 1) := by decide +kernel
theorem e_M_look_108 : decode prog_14_method_57_code 108 = .ok (.iastore, 1) := by decide +kernel
theorem e_M_look_109 : decode prog_14_method_57_code 109 = .ok (.iinc 3 1, 3) := by decide +kernel
theorem e_M_look_112 : decode prog_14_method_57_code 112 = .ok (.goto (-25), 3) := by decide +kernel
theorem e_M_look_115 : decode prog_14_method_57_code 115 = .ok (.aload_n 0, 1) := by decide +kernel
theorem e_M_look_116 : decode prog_14_method_57_code 116 = .ok (.aload_n 0, 1) := by decide +kernel
theorem e_M_look_117 : decode prog_14_method_57_code 117 = .ok (.getfield 266, 3) := by decide +kernel
theorem e_M_look_120 : decode prog_14_method_57_code 120 = .ok (.iload_n 1, 1) := by decide +kernel
theorem e_M_look_121 : decode prog_14_method_57_code 121 = .ok (.invokevirtual 222, 3) := by decide +kernel
theorem e_M_look_124 : decode prog_14_method_57_code 124 = .ok (.istore_n 3, 1) := by decide +kernel
theorem e_M_look_125 : decode prog_14_method_57_code 125 = .ok (.iload_n 1, 1) := by decide +kernel
theorem e_M_look_126 : decode prog_14_method_57_code 126 = .ok (.iload_n 3, 1) := by decide +kernel
theorem e_M_look_127 : decode prog_14_method_57_code 127 = .ok (.invokestatic 231, 3) := by decide +kernel
theorem e_M_look_130 : decode prog_14_method_57_code 130 = .ok (.iadd, 1) := by decide +kernel
theorem e_M_look_131 : decode prog_14_method_57_code 131 = .ok (.istore 4, 2) := by decide +kernel
theorem e_M_look_133 : decode prog_14_method_57_code 133 = .ok (.aload_n 0, 1) := by decide +kernel
theorem e_M_look_134 : decode prog_14_method_57_code 134 = .ok (.iload_n 3, 1) := by decide +kernel
theorem e_M_look_135 : decode prog_14_method_57_code 135 = .ok (.iload_n 3, 1) := by decide +kernel
theorem e_M_look_136 : decode prog_14_method_57_code 136 = .ok (.invokestatic 231, 3) := by decide +kernel
theorem e_M_look_139 : decode prog_14_method_57_code 139 = .ok (.iconst 1, 1) := by decide +kernel
theorem e_M_look_140 : decode prog_14_method_57_code 140 = .ok (.if_icmp .le 17, 3) := by decide +kernel
theorem e_M_look_143 : decode prog_14_method_57_code 143 = .ok (.aload_n 0, 1) := by decide +kernel
theorem e_M_look_144 : decode prog_14_method_57_code 144 = .ok (.aload_n 0, 1) := by decide +kernel
theorem e_M_look_145 : decode prog_14_method_57_code 145 = .ok (.getfield 266, 3) := by decide +kernel
theorem e_M_look_148 : decode prog_14_method_57_code 148 = .ok (.iload_n 1, 1) := by decide +kernel
theorem e_M_look_149 : decode prog_14_method_57_code 149 = .ok (.iconst 1, 1) := by decide +kernel
theorem e_M_look_150 : decode prog_14_method_57_code 150 = .ok (.iadd, 1) := by decide +kernel
theorem e_M_look_151 : decode prog_14_method_57_code 151 = .ok (.invokevirtual 222, 3) := by decide +kernel
theorem e_M_look_154 : decode prog_14_method_57_code 154 = .ok (.goto 4, 3) := by decide +kernel
theorem e_M_look_157 : decode prog_14_method_57_code 157 = .ok (.iconst 0, 1) := by decide +kernel
theorem e_M_look_158 : decode prog_14_method_57_code 158 = .ok (.invokevirtual 340, 3) := by decide +kernel
theorem e_M_look_161 : decode prog_14_method_57_code 161 = .ok (.aload_n 0, 1) := by decide +kernel
theorem e_M_look_162 : decode prog_14_method_57_code 162 = .ok (.getfield 225, 3) := by decide +kernel
theorem e_M_look_165 : decode prog_14_method_57_code 165 = .ok (.ifCond .ne 30, 3) := by decide +kernel
theorem e_M_look_168 : decode prog_14_method_57_code 168 = .ok (.iload_n 3, 1) := by decide +kernel
theorem e_M_look_169 : decode prog_14_method_57_code 169 = .ok (.invokestatic 343, 3) := by decide +kernel
theorem e_M_look_172 : decode prog_14_method_57_code 172 = .ok (.ifCond .ne 23, 3) := by decide +kernel
theorem e_M_look_175 : decode prog_14_method_57_code 175 = .ok (.iload 4, 2) := by decide +kernel
theorem e_M_look_177 : decode prog_14_method_57_code 177 = .ok (.aload_n 0, 1) := by decide +kernel
theorem e_M_look_178 : decode prog_14_method_57_code 178 = .ok (.getfield 39, 3) := by decide +kernel
theorem e_M_look_181 : decode prog_14_method_57_code 181 = .ok (.aload_n 0, 1) := by decide +kernel
theorem e_M_look_182 : decode prog_14_method_57_code 182 = .ok (.getfield 266, 3) := by decide +kernel
theorem e_M_look_185 : decode prog_14_method_57_code 185 = .ok (.iaload, 1) := by decide +kernel
theorem e_M_look_186 : decode prog_14_method_57_code 186 = .ok (.if_icmp .ne 9, 3) := by decide +kernel
theorem e_M_look_189 : decode prog_14_method_57_code 189 = .ok (.aload_n 0, 1) := by decide +kernel
theorem e_M_look_190 : decode prog_14_method_57_code 190 = .ok (.bipush 8, 2) := by decide +kernel
theorem e_M_look_192 : decode prog_14_method_57_code 192 = .ok (.invokevirtual 252, 3) := by decide +kernel
theorem e_M_look_195 : decode prog_14_method_57_code 195 = .ok (.aload_n 0, 1) := by decide +kernel
theorem e_M_look_196 : decode prog_14_method_57_code 196 = .ok (.getfield 225, 3) := by decide +kernel
theorem e_M_look_199 : decode prog_14_method_57_code 199 = .ok (.ifCond .le 13, 3) := by decide +kernel
theorem e_M_look_202 : decode prog_14_method_57_code 202 = .ok (.aload_n 0, 1) := by decide +kernel
theorem e_M_look_203 : decode prog_14_method_57_code 203 = .ok (.aload_n 0, 1) := by decide +kernel
theorem e_M_look_204 : decode prog_14_method_57_code 204 = .ok (.getfield 225, 3) := by decide +kernel
theorem e_M_look_207 : decode prog_14_method_57_code 207 = .ok (.iload_n 1, 1) := by decide +kernel
theorem e_M_look_208 : decode prog_14_method_57_code 208 = .ok (.invokevirtual 237, 3) := by decide +kernel
theorem e_M_look_211 : decode prog_14_method_57_code 211 = .ok (.ireturn, 1) := by decide +kernel
theorem e_M_look_212 : decode prog_14_method_57_code 212 = .ok (.iload_n 3, 1) := by decide +kernel
theorem e_M_look_213 : decode prog_14_method_57_code 213 = .ok (.bipush 54, 2) := by decide +kernel
theorem e_M_look_215 : decode prog_14_method_57_code 215 = .ok (.bipush 58, 2) := by decide +kernel
theorem e_M_look_217 : decode prog_14_method_57_code 217 = .ok (.invokestatic 218, 3) := by decide +kernel
theorem e_M_look_220 : decode prog_14_method_57_code 220 = .ok (.istore 5, 2) := by decide +kernel
theorem e_M_look_222 : decode prog_14_method_57_code 222 = .ok (.bipush 16, 2) := by decide +kernel
theorem e_M_look_224 : decode prog_14_method_57_code 224 = .ok (.aload_n 0, 1) := by decide +kernel
theorem e_M_look_225 : decode prog_14_method_57_code 225 = .ok (.getfield 266, 3) := by decide +kernel
theorem e_M_look_228 : decode prog_14_method_57_code 228 = .ok (.imul, 1) := by decide +kernel
theorem e_M_look_229 : decode prog_14_method_57_code 229 = .ok (.istore 6, 2) := by decide +kernel
theorem e_M_look_231 : decode prog_14_method_57_code 231 = .ok (.iload 6, 2) := by decide +kernel
theorem e_M_look_233 : decode prog_14_method_57_code 233 = .ok (.bipush 16, 2) := by decide +kernel
theorem e_M_look_235 : decode prog_14_method_57_code 235 = .ok (.aload_n 0, 1) := by decide +kernel
theorem e_M_look_236 : decode prog_14_method_57_code 236 = .ok (.getfield 266, 3) := by decide +kernel
theorem e_M_look_239 : decode prog_14_method_57_code 239 = .ok (.imul, 1) := by decide +kernel
theorem e_M_look_240 : decode prog_14_method_57_code 240 = .ok (.aload_n 0, 1) := by decide +kernel
theorem e_M_look_241 : decode prog_14_method_57_code 241 = .ok (.getfield 51, 3) := by decide +kernel
theorem e_M_look_244 : decode prog_14_method_57_code 244 = .ok (.aload_n 0, 1) := by decide +kernel
theorem e_M_look_245 : decode prog_14_method_57_code 245 = .ok (.getfield 266, 3) := by decide +kernel
theorem e_M_look_248 : decode prog_14_method_57_code 248 = .ok (.iaload, 1) := by decide +kernel
theorem e_M_look_249 : decode prog_14_method_57_code 249 = .ok (.iadd, 1) := by decide +kernel
theorem e_M_look_250 : decode prog_14_method_57_code 250 = .ok (.if_icmp .ge 76, 3) := by decide +kernel
theorem e_M_look_253 : decode prog_14_method_57_code 253 = .ok (.aload_n 0, 1) := by decide +kernel
theorem e_M_look_254 : decode prog_14_method_57_code 254 = .ok (.getfield 54, 3) := by decide +kernel
theorem e_M_look_257 : decode prog_14_method_57_code 257 = .ok (.iload 6, 2) := by decide +kernel
theorem e_M_look_259 : decode prog_14_method_57_code 259 = .ok (.iaload, 1) := by decide +kernel
theorem e_M_look_260 : decode prog_14_method_57_code 260 = .ok (.iload_n 1, 1) := by decide +kernel
theorem e_M_look_261 : decode prog_14_method_57_code 261 = .ok (.if_icmp .gt 18, 3) := by decide +kernel
theorem e_M_look_264 : decode prog_14_method_57_code 264 = .ok (.iload_n 1, 1) := by decide +kernel
theorem e_M_look_265 : decode prog_14_method_57_code 265 = .ok (.aload_n 0, 1) := by decide +kernel
theorem e_M_look_266 : decode prog_14_method_57_code 266 = .ok (.getfield 57, 3) := by decide +kernel
theorem e_M_look_269 : decode prog_14_method_57_code 269 = .ok (.iload 6, 2) := by decide +kernel
theorem e_M_look_271 : decode prog_14_method_57_code 271 = .ok (.iaload, 1) := by decide +kernel
theorem e_M_look_272 : decode prog_14_method_57_code 272 = .ok (.if_icmp .ge 7, 3) := by decide +kernel
theorem e_M_look_275 : decode prog_14_method_57_code 275 = .ok (.iconst 1, 1) := by decide +kernel
theorem e_M_look_276 : decode prog_14_method_57_code 276 = .ok (.goto 4, 3) := by decide +kernel
theorem e_M_look_279 : decode prog_14_method_57_code 279 = .ok (.iconst 0, 1) := by decide +kernel
theorem e_M_look_280 : decode prog_14_method_57_code 280 = .ok (.istore 7, 2) := by decide +kernel
theorem e_M_look_282 : decode prog_14_method_57_code 282 = .ok (.iload 7, 2) := by decide +kernel
theorem e_M_look_284 : decode prog_14_method_57_code 284 = .ok (.ifCond .eq 36, 3) := by decide +kernel
theorem e_M_look_287 : decode prog_14_method_57_code 287 = .ok (.aload_n 0, 1) := by decide +kernel
theorem e_M_look_288 : decode prog_14_method_57_code 288 = .ok (.iload 6, 2) := by decide +kernel
theorem e_M_look_290 : decode prog_14_method_57_code 290 = .ok (.aload_n 0, 1) := by decide +kernel
theorem e_M_look_291 : decode prog_14_method_57_code 291 = .ok (.getfield 102, 3) := by decide +kernel
theorem e_M_look_294 : decode prog_14_method_57_code 294 = .ok (.invokevirtual 346, 3) := by decide +kernel
theorem e_M_look_297 : decode prog_14_method_57_code 297 = .ok (.ifCond .eq 21, 3) := by decide +kernel
theorem e_M_look_300 : decode prog_14_method_57_code 300 = .ok (.iload 5, 2) := by decide +kernel
theorem e_M_look_302 : decode prog_14_method_57_code 302 = .ok (.ifCond .eq 18, 3) := by decide +kernel
theorem e_M_look_305 : decode prog_14_method_57_code 305 = .ok (.aload_n 0, 1) := by decide +kernel
theorem e_M_look_306 : decode prog_14_method_57_code 306 = .ok (.iload 6, 2) := by decide +kernel
theorem e_M_look_308 : decode prog_14_method_57_code 308 = .ok (.aload_n 0, 1) := by decide +kernel
theorem e_M_look_309 : decode prog_14_method_57_code 309 = .ok (.getfield 99, 3) := by decide +kernel
theorem e_M_look_312 : decode prog_14_method_57_code 312 = .ok (.invokevirtual 346, 3) := by decide +kernel
theorem e_M_look_315 : decode prog_14_method_57_code 315 = .ok (.ifCond .ne 5, 3) := by decide +kernel
theorem e_M_look_318 : decode prog_14_method_57_code 318 = .ok (.iconst 0, 1) := by decide +kernel
theorem e_M_look_319 : decode prog_14_method_57_code 319 = .ok (.ireturn, 1) := by decide +kernel
theorem e_M_look_320 : decode prog_14_method_57_code 320 = .ok (.iinc 6 1, 3) := by decide +kernel
theorem e_M_look_323 : decode prog_14_method_57_code 323 = .ok (.goto (-92), 3) := by decide +kernel
theorem e_M_look_326 : decode prog_14_method_57_code 326 = .ok (.aload_n 0, 1) := by decide +kernel
theorem e_M_look_327 : decode prog_14_method_57_code 327 = .ok (.aload_n 0, 1) := by decide +kernel
theorem e_M_look_328 : decode prog_14_method_57_code 328 = .ok (.getfield 99, 3) := by decide +kernel
theorem e_M_look_331 : decode prog_14_method_57_code 331 = .ok (.invokevirtual 333, 3) := by decide +kernel
theorem e_M_look_334 : decode prog_14_method_57_code 334 = .ok (.aload_n 0, 1) := by decide +kernel
theorem e_M_look_335 : decode prog_14_method_57_code 335 = .ok (.aload_n 0, 1) := by decide +kernel
theorem e_M_look_336 : decode prog_14_method_57_code 336 = .ok (.getfield 249, 3) := by decide +kernel
theorem e_M_look_339 : decode prog_14_method_57_code 339 = .ok (.putfield 327, 3) := by decide +kernel
theorem e_M_look_342 : decode prog_14_method_57_code 342 = .ok (.iconst 0, 1) := by decide +kernel
theorem e_M_look_343 : decode prog_14_method_57_code 343 = .ok (.istore 6, 2) := by decide +kernel
theorem e_M_look_345 : decode prog_14_method_57_code 345 = .ok (.iload 6, 2) := by decide +kernel
theorem e_M_look_347 : decode prog_14_method_57_code 347 = .ok (.aload_n 0, 1) := by decide +kernel
theorem e_M_look_348 : decode prog_14_method_57_code 348 = .ok (.getfield 249, 3) := by decide +kernel
theorem e_M_look_351 : decode prog_14_method_57_code 351 = .ok (.if_icmp .ge 23, 3) := by decide +kernel
theorem e_M_look_354 : decode prog_14_method_57_code 354 = .ok (.aload_n 0, 1) := by decide +kernel
theorem e_M_look_355 : decode prog_14_method_57_code 355 = .ok (.getfield 111, 3) := by decide +kernel
theorem e_M_look_358 : decode prog_14_method_57_code 358 = .ok (.iload 6, 2) := by decide +kernel
theorem e_M_look_360 : decode prog_14_method_57_code 360 = .ok (.aload_n 0, 1) := by decide +kernel
theorem e_M_look_361 : decode prog_14_method_57_code 361 = .ok (.getfield 105, 3) := by decide +kernel
theorem e_M_look_364 : decode prog_14_method_57_code 364 = .ok (.iload 6, 2) := by decide +kernel
theorem e_M_look_366 : decode prog_14_method_57_code 366 = .ok (.iaload, 1) := by decide +kernel
theorem e_M_look_367 : decode prog_14_method_57_code 367 = .ok (.iastore, 1) := by decide +kernel
theorem e_M_look_368 : decode prog_14_method_57_code 368 = .ok (.iinc 6 1, 3) := by decide +kernel
theorem e_M_look_371 : decode prog_14_method_57_code 371 = .ok (.goto (-26), 3) := by decide +kernel
theorem e_M_look_374 : decode prog_14_method_57_code 374 = .ok (.iload_n 3, 1) := by decide +kernel
theorem e_M_look_375 : decode prog_14_method_57_code 375 = .ok (.invokestatic 343, 3) := by decide +kernel
theorem e_M_look_378 : decode prog_14_method_57_code 378 = .ok (.ifCond .ne 12, 3) := by decide +kernel
theorem e_M_look_381 : decode prog_14_method_57_code 381 = .ok (.aload_n 0, 1) := by decide +kernel
theorem e_M_look_382 : decode prog_14_method_57_code 382 = .ok (.iload 4, 2) := by decide +kernel
theorem e_M_look_384 : decode prog_14_method_57_code 384 = .ok (.invokevirtual 337, 3) := by decide +kernel
theorem e_M_look_387 : decode prog_14_method_57_code 387 = .ok (.ifCond .eq 30, 3) := by decide +kernel
theorem e_M_look_390 : decode prog_14_method_57_code 390 = .ok (.iload_n 3, 1) := by decide +kernel
theorem e_M_look_391 : decode prog_14_method_57_code 391 = .ok (.invokestatic 240, 3) := by decide +kernel
theorem e_M_look_394 : decode prog_14_method_57_code 394 = .ok (.ifCond .eq 19, 3) := by decide +kernel
theorem e_M_look_397 : decode prog_14_method_57_code 397 = .ok (.aload_n 0, 1) := by decide +kernel
theorem e_M_look_398 : decode prog_14_method_57_code 398 = .ok (.aload_n 0, 1) := by decide +kernel
theorem e_M_look_399 : decode prog_14_method_57_code 399 = .ok (.aload_n 0, 1) := by decide +kernel
theorem e_M_look_400 : decode prog_14_method_57_code 400 = .ok (.getfield 266, 3) := by decide +kernel
theorem e_M_look_403 : decode prog_14_method_57_code 403 = .ok (.iload_n 1, 1) := by decide +kernel
theorem e_M_look_404 : decode prog_14_method_57_code 404 = .ok (.invokevirtual 243, 3) := by decide +kernel
theorem e_M_look_407 : decode prog_14_method_57_code 407 = .ok (.invokevirtual 337, 3) := by decide +kernel
theorem e_M_look_410 : decode prog_14_method_57_code 410 = .ok (.ifCond .eq 7, 3) := by decide +kernel
theorem e_M_look_413 : decode prog_14_method_57_code 413 = .ok (.iconst 1, 1) := by decide +kernel
theorem e_M_look_414 : decode prog_14_method_57_code 414 = .ok (.goto 4, 3) := by decide +kernel
theorem e_M_look_417 : decode prog_14_method_57_code 417 = .ok (.iconst 0, 1) := by decide +kernel
theorem e_M_look_418 : decode prog_14_method_57_code 418 = .ok (.ireturn, 1) := by decide +kernel
def w_M_look_320 (K231 : Int32 → Int32 → Int32 → Int32 → Int32 → MST → Prop) (P : Int32 → MST → Prop) (z1 : Int32) (z3 : Int32) (z4 : Int32) (z5 : Int32) (z6 : Int32) (σ : MST) : Prop := K231 z1 z3 z4 z5 (z6 + 1) σ
def w_M_look_280 (K231 : Int32 → Int32 → Int32 → Int32 → Int32 → MST → Prop) (P : Int32 → MST → Prop) (z1 : Int32) (z3 : Int32) (z4 : Int32) (z5 : Int32) (z6 : Int32) (s0 : Int32) (σ : MST) : Prop := ((s0 = 0 → w_M_look_320 K231 P z1 z3 z4 z5 z6 σ) ∧ (¬ s0 = 0 → w_M_toHandler_38 z6 σ (fun r3 σ2 => ((r3 = 0 → P (0 : Int32) σ2) ∧ (¬ r3 = 0 → ((z5 = 0 → w_M_look_320 K231 P z1 z3 z4 z5 z6 σ2) ∧ (¬ z5 = 0 → w_M_toHandler_37 z6 σ2 (fun r7 σ6 => ((r7 = 0 → P (0 : Int32) σ6) ∧ (¬ r7 = 0 → w_M_look_320 K231 P z1 z3 z4 z5 z6 σ6))))))))))
def w_M_look_279 (K231 : Int32 → Int32 → Int32 → Int32 → Int32 → MST → Prop) (P : Int32 → MST → Prop) (z1 : Int32) (z3 : Int32) (z4 : Int32) (z5 : Int32) (z6 : Int32) (σ : MST) : Prop := w_M_look_280 K231 P z1 z3 z4 z5 z6 0 σ
def w_M_look_413 (P : Int32 → MST → Prop) (σ : MST) : Prop := P (1 : Int32) σ
def w_M_look_390 (P : Int32 → MST → Prop) (z1 : Int32) (z3 : Int32) (σ : MST) : Prop := w_M_branches z3 σ (fun r10 σ9 => ((r10 = 0 → w_M_look_413 P σ9) ∧ (¬ r10 = 0 → w_M_target (σ9.1 33) z1 σ9 (fun r13 σ12 => w_M_give r13 σ12 (fun r15 σ14 => ((r15 = 0 → P (0 : Int32) σ14) ∧ (¬ r15 = 0 → w_M_look_413 P σ14)))))))
def w_M_look_345 (P : Int32 → MST → Prop) : Nat → Int32 → Int32 → Int32 → Int32 → MST → Prop
  | 0, _, _, _, _, _ => False
  | n + 1, z1, z3, z4, z6, σ => (((σ.1 40) ≤ z6 → w_M_stops z3 σ (fun r19 σ18 => ((r19 = 0 → w_M_give z4 σ18 (fun r22 σ21 => ((r22 = 0 → P (0 : Int32) σ21) ∧ (¬ r22 = 0 → w_M_look_390 P z1 z3 σ21)))) ∧ (¬ r19 = 0 → w_M_look_390 P z1 z3 σ18)))) ∧ (¬ (σ.1 40) ≤ z6 → vp_in z6 20 ∧ (∀ a24 : Int32, a24 = (σ.2.1 39 (z6 : Int32).toNatClampNeg) → vp_in z6 20 ∧ (∀ σ25 : MST, σ25 = setA σ 42 (upd (σ.2.1 42) (z6 : Int32).toNatClampNeg a24) → w_M_look_345 P n z1 z3 z4 (z6 + 1) σ25))))
def w_M_look_231 (P : Int32 → MST → Prop) : Nat → Int32 → Int32 → Int32 → Int32 → Int32 → MST → Prop
  | 0, _, _, _, _, _, _ => False
  | n + 1, z1, z3, z4, z5, z6, σ => vp_in (σ.1 33) 8 ∧ (∀ a26 : Int32, a26 = (σ.2.1 16 ((σ.1 33) : Int32).toNatClampNeg) → (((((16 : Int32) * (σ.1 33)) + a26) ≤ z6 → w_M_giveLocals_37 σ (fun σ28 => ∀ σ30 : MST, σ30 = setI σ28 43 (σ28.1 40) → (∃ n9 : Nat, w_M_look_345 P n9 z1 z3 z4 0 σ30))) ∧ (¬ (((16 : Int32) * (σ.1 33)) + a26) ≤ z6 → vp_in z6 128 ∧ (∀ a31 : Int32, a31 = (σ.2.1 17 (z6 : Int32).toNatClampNeg) → ((z1 < a31 → w_M_look_279 (w_M_look_231 P n) P z1 z3 z4 z5 z6 σ) ∧ (¬ z1 < a31 → vp_in z6 128 ∧ (∀ a33 : Int32, a33 = (σ.2.1 18 (z6 : Int32).toNatClampNeg) → ((a33 ≤ z1 → w_M_look_279 (w_M_look_231 P n) P z1 z3 z4 z5 z6 σ) ∧ (¬ a33 ≤ z1 → w_M_look_280 (w_M_look_231 P n) P z1 z3 z4 z5 z6 1 σ)))))))))
def w_M_look_195 (P : Int32 → MST → Prop) (z1 : Int32) (z3 : Int32) (z4 : Int32) (σ : MST) : Prop := (((σ.1 35) ≤ 0 → w_M_in z3 (54 : Int32) (58 : Int32) σ (fun r37 σ36 => (∃ n9 : Nat, w_M_look_231 P n9 z1 z3 z4 r37 ((16 : Int32) * (σ36.1 33)) σ36))) ∧ (¬ (σ.1 35) ≤ 0 → w_M_faulty (σ.1 35) z1 σ (fun r39 σ38 => (narrow .boolean (.int r39) = .int r39 ∧ P r39 σ38))))
def w_M_look_158 (P : Int32 → MST → Prop) (z1 : Int32) (z3 : Int32) (z4 : Int32) (s0 : Int32) (s1 : Int32) (σ : MST) : Prop := w_M_simulate s1 s0 σ (fun σ40 => (((σ40.1 35) = 0 → w_M_stops z3 σ40 (fun r44 σ43 => ((r44 = 0 → vp_in (σ43.1 33) 8 ∧ (∀ a46 : Int32, a46 = (σ43.2.1 12 ((σ43.1 33) : Int32).toNatClampNeg) → ((z4 = a46 → w_M_miss (8 : Int32) σ43 (fun σ48 => w_M_look_195 P z1 z3 z4 σ48)) ∧ (¬ z4 = a46 → w_M_look_195 P z1 z3 z4 σ43)))) ∧ (¬ r44 = 0 → w_M_look_195 P z1 z3 z4 σ43)))) ∧ (¬ (σ40.1 35) = 0 → w_M_look_195 P z1 z3 z4 σ40)))
def w_M_look_87 (P : Int32 → MST → Prop) : Nat → Int32 → Int32 → Int32 → MST → Prop
  | 0, _, _, _, _ => False
  | n + 1, z1, z2, z3, σ => (((σ.1 40) ≤ z3 → w_M_at (σ.1 33) z1 σ (fun r52 σ51 => w_M_length r52 σ51 (fun r54 σ53 => w_M_length r52 σ53 (fun r56 σ55 => ((r56 ≤ 1 → w_M_look_158 P z1 r52 (z1 + r54) 0 r52 σ55) ∧ (¬ r56 ≤ 1 → w_M_at (σ55.1 33) (z1 + 1) σ55 (fun r59 σ58 => w_M_look_158 P z1 r52 (z1 + r54) r59 r52 σ58))))))) ∧ (¬ (σ.1 40) ≤ z3 → vp_in (z2 + z3) 11520 ∧ (∀ a60 : Int32, a60 = (σ.2.1 29 ((z2 + z3) : Int32).toNatClampNeg) → vp_in z3 20 ∧ (∀ σ61 : MST, σ61 = setA σ 39 (upd (σ.2.1 39) (z3 : Int32).toNatClampNeg a60) → w_M_look_87 P n z1 z2 (z3 + 1) σ61))))
def w_M_look_38 (P : Int32 → MST → Prop) : Nat → Int32 → Int32 → Int32 → MST → Prop
  | 0, _, _, _, _ => False
  | n + 1, z1, z2, z3, σ => vp_in (σ.1 33) 8 ∧ (∀ a62 : Int32, a62 = (σ.2.1 15 ((σ.1 33) : Int32).toNatClampNeg) → ((a62 ≤ z3 → (∃ n9 : Nat, w_M_look_87 P n9 z1 z2 0 σ)) ∧ (¬ a62 ≤ z3 → vp_in (z2 + z3) 11520 ∧ (∀ a64 : Int32, a64 = (σ.2.1 28 ((z2 + z3) : Int32).toNatClampNeg) → vp_in z3 13 ∧ (∀ σ65 : MST, σ65 = setA σ 37 (upd (σ.2.1 37) (z3 : Int32).toNatClampNeg a64) → vp_in (z2 + z3) 11520 ∧ (∀ a66 : Int32, a66 = (σ65.2.1 28 ((z2 + z3) : Int32).toNatClampNeg) → vp_in z3 12 ∧ (∀ σ67 : MST, σ67 = setA σ65 38 (upd (σ65.2.1 38) (z3 : Int32).toNatClampNeg a66) → w_M_look_38 P n z1 z2 (z3 + 1) σ67)))))))
def w_M_look (x1 : Int32) (σ : MST) (P : Int32 → MST → Prop) : Prop := ∀ σ68 : MST, σ68 = setI σ 34 x1 → vp_in (((120 : Int32) * (σ68.1 33)) + x1) 960 ∧ (∀ a69 : Int32, a69 = (σ68.2.1 27 ((((120 : Int32) * (σ68.1 33)) + x1) : Int32).toNatClampNeg) → ∀ σ70 : MST, σ70 = setI σ68 40 a69 → (∃ n9 : Nat, w_M_look_38 P n9 x1 ((12 : Int32) * (((120 : Int32) * (σ.1 33)) + x1)) 0 σ70))
set_option maxHeartbeats 4000000 in
set_option maxRecDepth 100000 in
theorem K_M_look (l : Launch) (dC : Nat → ClassId) (dI : Nat → Nat → Nat) (mo : Nat) (rf : Nat → Nat) (ca : Nat → ClassId) (sz : Nat) (σ : MST) (x1 : Int32) {P : Int32 → MST → Prop} (hw : w_M_look x1 σ P) : Met l z_M_look (mW z_M_look prog_14_method_57_code 8 (some .boolean)) ({ frames := 6, cells := 0, slots := 0, locals := 135 } : Room) (va_Pc [.ref mo, .int x1] (MPre (dC, dI) mo rf ca σ sz)) (va_Qi P (MB (dC, dI) mo rf ca sz) (mA mo rf sz)) 0 0 (mA mo rf sz) := by
  refine M_ofz (by decide) rfl (Nat.le_of_ble_eq_true rfl) ?_
  intro p e s m below meth cx Q A ls C hA hend h hl
  have C0 := C
  obtain ⟨⟨hx, hb, hml, hown, hts⟩, hsub⟩ := C0
  have K_320 : ∀ (K231 : Int32 → Int32 → Int32 → Int32 → Int32 → MST → Prop) (hK231 : ∀ (z1 : Int32) (z3 : Int32) (z4 : Int32) (z5 : Int32) (z6 : Int32) (σ : MST) (H : Heap) (locs : List Loc) (ls : Array Slot), K231 z1 z3 z4 z5 z6 σ → MH (dC, dI) A mo rf ca σ s H locs → lv_has ls 8 [(0, .ref mo), (1, .int z1), (3, .int z3), (4, .int z4), (5, .int z5), (6, .int z6)] → W p l e ({ frames := 6, cells := 0, slots := 0, locals := 135 } : Room) s m ([.ref mo, .int x1] : List Value).toArray below meth cx H locs 0 0 Q (F0 m 231 ls [])), ∀ (z1 : Int32) (z3 : Int32) (z4 : Int32) (z5 : Int32) (z6 : Int32) (σ : MST) (H : Heap) (locs : List Loc) (ls : Array Slot), w_M_look_320 K231 P z1 z3 z4 z5 z6 σ → MH (dC, dI) A mo rf ca σ s H locs → lv_has ls 8 [(0, .ref mo), (1, .int z1), (3, .int z3), (4, .int z4), (5, .int z5), (6, .int z6)] → W p l e ({ frames := 6, cells := 0, slots := 0, locals := 135 } : Room) s m ([.ref mo, .int x1] : List Value).toArray below meth cx H locs 0 0 Q (F0 m 320 ls []) := by
    intro K231 hK231 z1 z3 z4 z5 z6 σ H locs ls hw h hl
    unfold w_M_look_320 at hw
    refine lv_iinc (v := (z6 + 1)) (lv' := [(6, .int (z6 + 1)), (0, .ref mo), (1, .int z1), (3, .int z3), (4, .int z4), (5, .int z5)]) hx hb e_M_look_320 hl (k := 5) rfl (rfl) (by decide) rfl (fun ls hl => ?_)
    refine lv_goto (tgt := 231) hx hb e_M_look_323 (by decide) ?_
    exact hK231 z1 z3 z4 z5 (z6 + 1) σ _ _ _ hw h (lv_sub hl [1, 2, 3, 4, 5, 0] rfl)
  have K_280 : ∀ (K231 : Int32 → Int32 → Int32 → Int32 → Int32 → MST → Prop) (hK231 : ∀ (z1 : Int32) (z3 : Int32) (z4 : Int32) (z5 : Int32) (z6 : Int32) (σ : MST) (H : Heap) (locs : List Loc) (ls : Array Slot), K231 z1 z3 z4 z5 z6 σ → MH (dC, dI) A mo rf ca σ s H locs → lv_has ls 8 [(0, .ref mo), (1, .int z1), (3, .int z3), (4, .int z4), (5, .int z5), (6, .int z6)] → W p l e ({ frames := 6, cells := 0, slots := 0, locals := 135 } : Room) s m ([.ref mo, .int x1] : List Value).toArray below meth cx H locs 0 0 Q (F0 m 231 ls [])), ∀ (z1 : Int32) (z3 : Int32) (z4 : Int32) (z5 : Int32) (z6 : Int32) (s0 : Int32) (σ : MST) (H : Heap) (locs : List Loc) (ls : Array Slot), w_M_look_280 K231 P z1 z3 z4 z5 z6 s0 σ → MH (dC, dI) A mo rf ca σ s H locs → lv_has ls 8 [(0, .ref mo), (1, .int z1), (3, .int z3), (4, .int z4), (5, .int z5), (6, .int z6)] → W p l e ({ frames := 6, cells := 0, slots := 0, locals := 135 } : Room) s m ([.ref mo, .int x1] : List Value).toArray below meth cx H locs 0 0 Q (F0 m 280 ls [.int s0]) := by
    intro K231 hK231 z1 z3 z4 z5 z6 s0 σ H locs ls hw h hl
    unfold w_M_look_280 at hw
    refine lv_istore (lv' := [(7, .int s0), (0, .ref mo), (1, .int z1), (3, .int z3), (4, .int z4), (5, .int z5), (6, .int z6)]) hx hb e_M_look_280 hl (by decide) rfl (fun ls hl => ?_)
    refine lv_iload hx hb e_M_look_282 (lv_at hl 0 rfl) ?_
    refine lv_if_eq (tgt := 320) hx hb e_M_look_284 (by decide) (fun c1 => ?_) (fun c1 => ?_)
    · skip
      replace hw := hw.1 c1
      exact K_320 _ hK231 z1 z3 z4 z5 z6 σ _ _ _ hw h (lv_sub hl [1, 2, 3, 4, 5, 6] rfl)
    · skip
      replace hw := hw.2 c1
      refine lv_aload_n hx hb e_M_look_287 rfl (lv_at hl 1 rfl) ?_
      refine lv_iload hx hb e_M_look_288 (lv_at hl 6 rfl) ?_
      refine lv_aload_n hx hb e_M_look_290 rfl (lv_at hl 1 rfl) ?_
      refine M_get C h 38 (v := .ref (rf 38)) rfl (by decide) v_209 e_M_look_291 ?_
      refine M_calli (As := [.int z6, .ref (rf 38)]) (rest := []) C h hA (K_M_toHandler_38 l dC dI mo rf ca H.size σ z6 hw) (cwV 2 hts (gV hsub v_210 v_211 v_212 v_7 v_213) rfl rfl rfl (by decide +kernel) ⟨(Nat.le_of_ble_eq_true rfl), (Nat.le_of_ble_eq_true rfl)⟩) rfl hl.1 (Nat.le_of_ble_eq_true rfl) e_M_look_294 ⟨(Nat.le_of_ble_eq_true rfl), (Nat.le_of_ble_eq_true rfl)⟩ (fun r3 σ2 H locs hw h => ?_)
      refine W.eq (g2 := F0 m 297 ls [.int r3]) rfl ?_
      refine lv_if_eq (tgt := 318) hx hb e_M_look_297 (by decide) (fun c4 => ?_) (fun c4 => ?_)
      · skip
        replace hw := hw.1 c4
        refine lv_iconst (v := 0) hx hb e_M_look_318 (by decide) ?_
        exact hend (0 : Int32) σ2 _ _ _ _ rfl hw h e_M_look_319
      · skip
        replace hw := hw.2 c4
        refine lv_iload hx hb e_M_look_300 (lv_at hl 5 rfl) ?_
        refine lv_if_eq (tgt := 320) hx hb e_M_look_302 (by decide) (fun c5 => ?_) (fun c5 => ?_)
        · skip
          replace hw := hw.1 c5
          exact K_320 _ hK231 z1 z3 z4 z5 z6 σ2 _ _ _ hw h (lv_sub hl [1, 2, 3, 4, 5, 6] rfl)
        · skip
          replace hw := hw.2 c5
          refine lv_aload_n hx hb e_M_look_305 rfl (lv_at hl 1 rfl) ?_
          refine lv_iload hx hb e_M_look_306 (lv_at hl 6 rfl) ?_
          refine lv_aload_n hx hb e_M_look_308 rfl (lv_at hl 1 rfl) ?_
          refine M_get C h 37 (v := .ref (rf 37)) rfl (by decide) v_120 e_M_look_309 ?_
          refine M_calli (As := [.int z6, .ref (rf 37)]) (rest := []) C h hA (K_M_toHandler_37 l dC dI mo rf ca H.size σ2 z6 hw) (cwV 2 hts (gV hsub v_210 v_211 v_212 v_7 v_213) rfl rfl rfl (by decide +kernel) ⟨(Nat.le_of_ble_eq_true rfl), (Nat.le_of_ble_eq_true rfl)⟩) rfl hl.1 (Nat.le_of_ble_eq_true rfl) e_M_look_312 ⟨(Nat.le_of_ble_eq_true rfl), (Nat.le_of_ble_eq_true rfl)⟩ (fun r7 σ6 H locs hw h => ?_)
          refine W.eq (g2 := F0 m 315 ls [.int r7]) rfl ?_
          refine lv_if_ne (tgt := 320) hx hb e_M_look_315 (by decide) (fun c8 => ?_) (fun c8 => ?_)
          · skip
            replace hw := hw.2 c8
            exact K_320 _ hK231 z1 z3 z4 z5 z6 σ6 _ _ _ hw h (lv_sub hl [1, 2, 3, 4, 5, 6] rfl)
          · skip
            replace hw := hw.1 c8
            refine lv_iconst (v := 0) hx hb e_M_look_318 (by decide) ?_
            exact hend (0 : Int32) σ6 _ _ _ _ rfl hw h e_M_look_319
  have K_279 : ∀ (K231 : Int32 → Int32 → Int32 → Int32 → Int32 → MST → Prop) (hK231 : ∀ (z1 : Int32) (z3 : Int32) (z4 : Int32) (z5 : Int32) (z6 : Int32) (σ : MST) (H : Heap) (locs : List Loc) (ls : Array Slot), K231 z1 z3 z4 z5 z6 σ → MH (dC, dI) A mo rf ca σ s H locs → lv_has ls 8 [(0, .ref mo), (1, .int z1), (3, .int z3), (4, .int z4), (5, .int z5), (6, .int z6)] → W p l e ({ frames := 6, cells := 0, slots := 0, locals := 135 } : Room) s m ([.ref mo, .int x1] : List Value).toArray below meth cx H locs 0 0 Q (F0 m 231 ls [])), ∀ (z1 : Int32) (z3 : Int32) (z4 : Int32) (z5 : Int32) (z6 : Int32) (σ : MST) (H : Heap) (locs : List Loc) (ls : Array Slot), w_M_look_279 K231 P z1 z3 z4 z5 z6 σ → MH (dC, dI) A mo rf ca σ s H locs → lv_has ls 8 [(0, .ref mo), (1, .int z1), (3, .int z3), (4, .int z4), (5, .int z5), (6, .int z6)] → W p l e ({ frames := 6, cells := 0, slots := 0, locals := 135 } : Room) s m ([.ref mo, .int x1] : List Value).toArray below meth cx H locs 0 0 Q (F0 m 279 ls []) := by
    intro K231 hK231 z1 z3 z4 z5 z6 σ H locs ls hw h hl
    unfold w_M_look_279 at hw
    refine lv_iconst (v := 0) hx hb e_M_look_279 (by decide) ?_
    exact K_280 _ hK231 z1 z3 z4 z5 z6 0 σ _ _ _ hw h (lv_sub hl [0, 1, 2, 3, 4, 5] rfl)
  have K_413 : ∀ (u9 : Unit), ∀ (σ : MST) (H : Heap) (locs : List Loc) (ls : Array Slot), w_M_look_413 P σ → MH (dC, dI) A mo rf ca σ s H locs → lv_has ls 8 [] → W p l e ({ frames := 6, cells := 0, slots := 0, locals := 135 } : Room) s m ([.ref mo, .int x1] : List Value).toArray below meth cx H locs 0 0 Q (F0 m 413 ls []) := by
    intro u9  σ H locs ls hw h hl
    unfold w_M_look_413 at hw
    refine lv_iconst (v := 1) hx hb e_M_look_413 (by decide) ?_
    refine lv_goto (tgt := 418) hx hb e_M_look_414 (by decide) ?_
    exact hend (1 : Int32) σ _ _ _ _ rfl hw h e_M_look_418
  have K_390 : ∀ (u9 : Unit), ∀ (z1 : Int32) (z3 : Int32) (σ : MST) (H : Heap) (locs : List Loc) (ls : Array Slot), w_M_look_390 P z1 z3 σ → MH (dC, dI) A mo rf ca σ s H locs → lv_has ls 8 [(0, .ref mo), (1, .int z1), (3, .int z3)] → W p l e ({ frames := 6, cells := 0, slots := 0, locals := 135 } : Room) s m ([.ref mo, .int x1] : List Value).toArray below meth cx H locs 0 0 Q (F0 m 390 ls []) := by
    intro u9 z1 z3 σ H locs ls hw h hl
    unfold w_M_look_390 at hw
    refine lv_iload_n hx hb e_M_look_390 rfl (lv_at hl 2 rfl) ?_
    refine M_scalli (As := [.int z3]) (rest := []) C h hA (K_M_branches l dC dI mo rf ca H.size σ z3 hw) (va_cwS 1 hts (gS hsub v_87 v_88 v_7 v_89) rfl rfl rfl (by decide +kernel) ⟨(Nat.le_of_ble_eq_true rfl), (Nat.le_of_ble_eq_true rfl)⟩) rfl hl.1 (Nat.le_of_ble_eq_true rfl) e_M_look_391 ⟨(Nat.le_of_ble_eq_true rfl), (Nat.le_of_ble_eq_true rfl)⟩ (fun r10 σ9 H locs hw h => ?_)
    refine W.eq (g2 := F0 m 394 ls [.int r10]) rfl ?_
    refine lv_if_eq (tgt := 413) hx hb e_M_look_394 (by decide) (fun c11 => ?_) (fun c11 => ?_)
    · skip
      replace hw := hw.1 c11
      exact K_413 () σ9 _ _ _ hw h (lv_sub hl [] rfl)
    · skip
      replace hw := hw.2 c11
      refine lv_aload_n hx hb e_M_look_397 rfl (lv_at hl 0 rfl) ?_
      refine lv_aload_n hx hb e_M_look_398 rfl (lv_at hl 0 rfl) ?_
      refine lv_aload_n hx hb e_M_look_399 rfl (lv_at hl 0 rfl) ?_
      refine M_get C h 33 (v := .int (σ9.1 33)) rfl (by decide) v_116 e_M_look_400 ?_
      refine lv_iload_n hx hb e_M_look_403 rfl (lv_at hl 1 rfl) ?_
      refine M_calli (As := [.int (σ9.1 33), .int z1]) (rest := [.ref mo]) C h hA (K_M_target l dC dI mo rf ca H.size σ9 (σ9.1 33) z1 hw) (cwV 2 hts (gV hsub v_90 v_91 v_92 v_7 v_93) rfl rfl rfl (by decide +kernel) ⟨(Nat.le_of_ble_eq_true rfl), (Nat.le_of_ble_eq_true rfl)⟩) rfl hl.1 (Nat.le_of_ble_eq_true rfl) e_M_look_404 ⟨(Nat.le_of_ble_eq_true rfl), (Nat.le_of_ble_eq_true rfl)⟩ (fun r13 σ12 H locs hw h => ?_)
      refine W.eq (g2 := F0 m 407 ls [.int r13, .ref mo]) rfl ?_
      refine M_calli (As := [.int r13]) (rest := []) C h hA (K_M_give l dC dI mo rf ca H.size σ12 r13 hw) (cwV 1 hts (gV hsub v_201 v_202 v_203 v_7 v_204) rfl rfl rfl (by decide +kernel) ⟨(Nat.le_of_ble_eq_true rfl), (Nat.le_of_ble_eq_true rfl)⟩) rfl hl.1 (Nat.le_of_ble_eq_true rfl) e_M_look_407 ⟨(Nat.le_of_ble_eq_true rfl), (Nat.le_of_ble_eq_true rfl)⟩ (fun r15 σ14 H locs hw h => ?_)
      refine W.eq (g2 := F0 m 410 ls [.int r15]) rfl ?_
      refine lv_if_eq (tgt := 417) hx hb e_M_look_410 (by decide) (fun c16 => ?_) (fun c16 => ?_)
      · skip
        replace hw := hw.1 c16
        refine lv_iconst (v := 0) hx hb e_M_look_417 (by decide) ?_
        exact hend (0 : Int32) σ14 _ _ _ _ rfl hw h e_M_look_418
      · skip
        replace hw := hw.2 c16
        exact K_413 () σ14 _ _ _ hw h (lv_sub hl [] rfl)
  have K_345 : ∀ (n : Nat), ∀ (z1 : Int32) (z3 : Int32) (z4 : Int32) (z6 : Int32) (σ : MST) (H : Heap) (locs : List Loc) (ls : Array Slot), w_M_look_345 P n z1 z3 z4 z6 σ → MH (dC, dI) A mo rf ca σ s H locs → lv_has ls 8 [(0, .ref mo), (1, .int z1), (3, .int z3), (4, .int z4), (6, .int z6)] → W p l e ({ frames := 6, cells := 0, slots := 0, locals := 135 } : Room) s m ([.ref mo, .int x1] : List Value).toArray below meth cx H locs 0 0 Q (F0 m 345 ls []) := by
    intro  n
    induction n with
    | zero => intro z1 z3 z4 z6 σ H locs ls hw h hl; unfold w_M_look_345 at hw; exact hw.elim
    | succ n ih =>
      intro z1 z3 z4 z6 σ H locs ls hw h hl
      unfold w_M_look_345 at hw
      refine lv_iload hx hb e_M_look_345 (lv_at hl 4 rfl) ?_
      refine lv_aload_n hx hb e_M_look_347 rfl (lv_at hl 0 rfl) ?_
      refine M_get C h 40 (v := .int (σ.1 40)) rfl (by decide) v_98 e_M_look_348 ?_
      refine lv_icmp_ge (tgt := 374) hx hb e_M_look_351 (by decide) (fun c17 => ?_) (fun c17 => ?_)
      · skip
        replace hw := hw.1 c17
        refine lv_iload_n hx hb e_M_look_374 rfl (lv_at hl 2 rfl) ?_
        refine M_scalli (As := [.int z3]) (rest := []) C h hA (K_M_stops l dC dI mo rf ca H.size σ z3 hw) (va_cwS 1 hts (gS hsub v_214 v_215 v_7 v_216) rfl rfl rfl (by decide +kernel) ⟨(Nat.le_of_ble_eq_true rfl), (Nat.le_of_ble_eq_true rfl)⟩) rfl hl.1 (Nat.le_of_ble_eq_true rfl) e_M_look_375 ⟨(Nat.le_of_ble_eq_true rfl), (Nat.le_of_ble_eq_true rfl)⟩ (fun r19 σ18 H locs hw h => ?_)
        refine W.eq (g2 := F0 m 378 ls [.int r19]) rfl ?_
        refine lv_if_ne (tgt := 390) hx hb e_M_look_378 (by decide) (fun c20 => ?_) (fun c20 => ?_)
        · skip
          replace hw := hw.2 c20
          exact K_390 () z1 z3 σ18 _ _ _ hw h (lv_sub hl [0, 1, 2] rfl)
        · skip
          replace hw := hw.1 c20
          refine lv_aload_n hx hb e_M_look_381 rfl (lv_at hl 0 rfl) ?_
          refine lv_iload hx hb e_M_look_382 (lv_at hl 3 rfl) ?_
          refine M_calli (As := [.int z4]) (rest := []) C h hA (K_M_give l dC dI mo rf ca H.size σ18 z4 hw) (cwV 1 hts (gV hsub v_201 v_202 v_203 v_7 v_204) rfl rfl rfl (by decide +kernel) ⟨(Nat.le_of_ble_eq_true rfl), (Nat.le_of_ble_eq_true rfl)⟩) rfl hl.1 (Nat.le_of_ble_eq_true rfl) e_M_look_384 ⟨(Nat.le_of_ble_eq_true rfl), (Nat.le_of_ble_eq_true rfl)⟩ (fun r22 σ21 H locs hw h => ?_)
          refine W.eq (g2 := F0 m 387 ls [.int r22]) rfl ?_
          refine lv_if_eq (tgt := 417) hx hb e_M_look_387 (by decide) (fun c23 => ?_) (fun c23 => ?_)
          · skip
            replace hw := hw.1 c23
            refine lv_iconst (v := 0) hx hb e_M_look_417 (by decide) ?_
            exact hend (0 : Int32) σ21 _ _ _ _ rfl hw h e_M_look_418
          · skip
            replace hw := hw.2 c23
            exact K_390 () z1 z3 σ21 _ _ _ hw h (lv_sub hl [0, 1, 2] rfl)
      · skip
        replace hw := hw.2 c17
        refine lv_aload_n hx hb e_M_look_354 rfl (lv_at hl 0 rfl) ?_
        refine M_get C h 42 (v := .ref (rf 42)) rfl (by decide) v_193 e_M_look_355 ?_
        refine lv_iload hx hb e_M_look_358 (lv_at hl 4 rfl) ?_
        refine lv_aload_n hx hb e_M_look_360 rfl (lv_at hl 0 rfl) ?_
        refine M_get C h 39 (v := .ref (rf 39)) rfl (by decide) v_99 e_M_look_361 ?_
        refine lv_iload hx hb e_M_look_364 (lv_at hl 4 rfl) ?_
        refine M_ald C h 39 (by decide) rfl hw.1 e_M_look_366 ?_
        replace hw := hw.2
        refine lv_topi (fun a24 e_a24 => ?_)
        replace hw := hw a24 e_a24
        refine M_ast C h 42 (by decide) rfl hw.1 e_M_look_367 (fun H locs h => ?_)
        replace hw := hw.2
        obtain ⟨σ25, e_σ25⟩ : ∃ z : MST, z = setA σ 42 (upd (σ.2.1 42) (z6 : Int32).toNatClampNeg a24) := ⟨_, rfl⟩
        rw [← e_σ25] at h
        replace hw := hw σ25 e_σ25
        refine lv_iinc (v := (z6 + 1)) (lv' := [(6, .int (z6 + 1)), (0, .ref mo), (1, .int z1), (3, .int z3), (4, .int z4)]) hx hb e_M_look_368 hl (k := 4) rfl (rfl) (by decide) rfl (fun ls hl => ?_)
        refine lv_goto (tgt := 345) hx hb e_M_look_371 (by decide) ?_
        exact ih z1 z3 z4 (z6 + 1) σ25 _ _ _ hw h (lv_sub hl [1, 2, 3, 4, 0] rfl)
  have K_231 : ∀ (n : Nat), ∀ (z1 : Int32) (z3 : Int32) (z4 : Int32) (z5 : Int32) (z6 : Int32) (σ : MST) (H : Heap) (locs : List Loc) (ls : Array Slot), w_M_look_231 P n z1 z3 z4 z5 z6 σ → MH (dC, dI) A mo rf ca σ s H locs → lv_has ls 8 [(0, .ref mo), (1, .int z1), (3, .int z3), (4, .int z4), (5, .int z5), (6, .int z6)] → W p l e ({ frames := 6, cells := 0, slots := 0, locals := 135 } : Room) s m ([.ref mo, .int x1] : List Value).toArray below meth cx H locs 0 0 Q (F0 m 231 ls []) := by
    intro  n
    induction n with
    | zero => intro z1 z3 z4 z5 z6 σ H locs ls hw h hl; unfold w_M_look_231 at hw; exact hw.elim
    | succ n ih =>
      intro z1 z3 z4 z5 z6 σ H locs ls hw h hl
      unfold w_M_look_231 at hw
      refine lv_iload hx hb e_M_look_231 (lv_at hl 5 rfl) ?_
      refine lv_bipush (v := 16) hx hb e_M_look_233 (by decide) ?_
      refine lv_aload_n hx hb e_M_look_235 rfl (lv_at hl 0 rfl) ?_
      refine M_get C h 33 (v := .int (σ.1 33)) rfl (by decide) v_116 e_M_look_236 ?_
      refine lv_imul hx hb e_M_look_239 ?_
      refine lv_aload_n hx hb e_M_look_240 rfl (lv_at hl 0 rfl) ?_
      refine M_get C h 16 (v := .ref (rf 16)) rfl (by decide) v_61 e_M_look_241 ?_
      refine lv_aload_n hx hb e_M_look_244 rfl (lv_at hl 0 rfl) ?_
      refine M_get C h 33 (v := .int (σ.1 33)) rfl (by decide) v_116 e_M_look_245 ?_
      refine M_ald C h 16 (by decide) rfl hw.1 e_M_look_248 ?_
      replace hw := hw.2
      refine lv_topi (fun a26 e_a26 => ?_)
      replace hw := hw a26 e_a26
      refine lv_iadd hx hb e_M_look_249 ?_
      refine lv_icmp_ge (tgt := 326) hx hb e_M_look_250 (by decide) (fun c27 => ?_) (fun c27 => ?_)
      · skip
        replace hw := hw.1 c27
        refine lv_aload_n hx hb e_M_look_326 rfl (lv_at hl 0 rfl) ?_
        refine lv_aload_n hx hb e_M_look_327 rfl (lv_at hl 0 rfl) ?_
        refine M_get C h 37 (v := .ref (rf 37)) rfl (by decide) v_120 e_M_look_328 ?_
        refine M_callv (As := [.ref (rf 37)]) (rest := []) C h hA (K_M_giveLocals_37 l dC dI mo rf ca H.size σ hw) (cwV 1 hts (gV hsub v_205 v_206 v_207 v_7 v_208) rfl rfl rfl (by decide +kernel) ⟨(Nat.le_of_ble_eq_true rfl), (Nat.le_of_ble_eq_true rfl)⟩) rfl hl.1 (Nat.le_of_ble_eq_true rfl) e_M_look_331 ⟨(Nat.le_of_ble_eq_true rfl), (Nat.le_of_ble_eq_true rfl)⟩ (fun σ28 H locs hw h => ?_)
        refine W.eq (g2 := F0 m 334 ls []) rfl ?_
        refine lv_aload_n hx hb e_M_look_334 rfl (lv_at hl 0 rfl) ?_
        refine lv_aload_n hx hb e_M_look_335 rfl (lv_at hl 0 rfl) ?_
        refine M_get C h 40 (v := .int (σ28.1 40)) rfl (by decide) v_98 e_M_look_336 ?_
        refine M_puti C h 43 (by decide) rfl rfl (by decide +kernel) v_190 e_M_look_339 (fun H locs h => ?_)
        obtain ⟨σ30, e_σ30⟩ : ∃ z : MST, z = setI σ28 43 (σ28.1 40) := ⟨_, rfl⟩
        rw [← e_σ30] at h
        replace hw := hw σ30 e_σ30
        refine lv_iconst (v := 0) hx hb e_M_look_342 (by decide) ?_
        refine lv_istore (lv' := [(6, .int 0), (0, .ref mo), (1, .int z1), (3, .int z3), (4, .int z4), (5, .int z5)]) hx hb e_M_look_343 hl (by decide) rfl (fun ls hl => ?_)
        obtain ⟨n9, hw⟩ := hw
        exact K_345 n9 z1 z3 z4 0 σ30 _ _ _ hw h (lv_sub hl [1, 2, 3, 4, 0] rfl)
      · skip
        replace hw := hw.2 c27
        refine lv_aload_n hx hb e_M_look_253 rfl (lv_at hl 0 rfl) ?_
        refine M_get C h 17 (v := .ref (rf 17)) rfl (by decide) v_62 e_M_look_254 ?_
        refine lv_iload hx hb e_M_look_257 (lv_at hl 5 rfl) ?_
        refine M_ald C h 17 (by decide) rfl hw.1 e_M_look_259 ?_
        replace hw := hw.2
        refine lv_topi (fun a31 e_a31 => ?_)
        replace hw := hw a31 e_a31
        refine lv_iload_n hx hb e_M_look_260 rfl (lv_at hl 1 rfl) ?_
        refine lv_icmp_gt (tgt := 279) hx hb e_M_look_261 (by decide) (fun c32 => ?_) (fun c32 => ?_)
        · skip
          replace hw := hw.1 c32
          exact K_279 _ ih z1 z3 z4 z5 z6 σ _ _ _ hw h (lv_sub hl [0, 1, 2, 3, 4, 5] rfl)
        · skip
          replace hw := hw.2 c32
          refine lv_iload_n hx hb e_M_look_264 rfl (lv_at hl 1 rfl) ?_
          refine lv_aload_n hx hb e_M_look_265 rfl (lv_at hl 0 rfl) ?_
          refine M_get C h 18 (v := .ref (rf 18)) rfl (by decide) v_63 e_M_look_266 ?_
          refine lv_iload hx hb e_M_look_269 (lv_at hl 5 rfl) ?_
          refine M_ald C h 18 (by decide) rfl hw.1 e_M_look_271 ?_
          replace hw := hw.2
          refine lv_topi (fun a33 e_a33 => ?_)
          replace hw := hw a33 e_a33
          refine lv_icmp_ge (tgt := 279) hx hb e_M_look_272 (by decide) (fun c34 => ?_) (fun c34 => ?_)
          · skip
            replace hw := hw.1 c34
            exact K_279 _ ih z1 z3 z4 z5 z6 σ _ _ _ hw h (lv_sub hl [0, 1, 2, 3, 4, 5] rfl)
          · skip
            replace hw := hw.2 c34
            refine lv_iconst (v := 1) hx hb e_M_look_275 (by decide) ?_
            refine lv_goto (tgt := 280) hx hb e_M_look_276 (by decide) ?_
            exact K_280 _ ih z1 z3 z4 z5 z6 1 σ _ _ _ hw h (lv_sub hl [0, 1, 2, 3, 4, 5] rfl)
  have K_195 : ∀ (u9 : Unit), ∀ (z1 : Int32) (z3 : Int32) (z4 : Int32) (σ : MST) (H : Heap) (locs : List Loc) (ls : Array Slot), w_M_look_195 P z1 z3 z4 σ → MH (dC, dI) A mo rf ca σ s H locs → lv_has ls 8 [(0, .ref mo), (1, .int z1), (3, .int z3), (4, .int z4)] → W p l e ({ frames := 6, cells := 0, slots := 0, locals := 135 } : Room) s m ([.ref mo, .int x1] : List Value).toArray below meth cx H locs 0 0 Q (F0 m 195 ls []) := by
    intro u9 z1 z3 z4 σ H locs ls hw h hl
    unfold w_M_look_195 at hw
    refine lv_aload_n hx hb e_M_look_195 rfl (lv_at hl 0 rfl) ?_
    refine M_get C h 35 (v := .int (σ.1 35)) rfl (by decide) v_73 e_M_look_196 ?_
    refine lv_if_le (tgt := 212) hx hb e_M_look_199 (by decide) (fun c35 => ?_) (fun c35 => ?_)
    · skip
      replace hw := hw.1 c35
      refine lv_iload_n hx hb e_M_look_212 rfl (lv_at hl 2 rfl) ?_
      refine lv_bipush (v := 54) hx hb e_M_look_213 (by decide) ?_
      refine lv_bipush (v := 58) hx hb e_M_look_215 (by decide) ?_
      refine M_scalli (As := [.int z3, .int 54, .int 58]) (rest := []) C h hA (K_M_in l dC dI mo rf ca H.size σ z3 (54 : Int32) (58 : Int32) hw) (va_cwS 3 hts (gS hsub v_66 v_67 v_7 v_68) rfl rfl rfl (by decide +kernel) ⟨(Nat.le_of_ble_eq_true rfl), (Nat.le_of_ble_eq_true rfl)⟩) rfl hl.1 (Nat.le_of_ble_eq_true rfl) e_M_look_217 ⟨(Nat.le_of_ble_eq_true rfl), (Nat.le_of_ble_eq_true rfl)⟩ (fun r37 σ36 H locs hw h => ?_)
      refine W.eq (g2 := F0 m 220 ls [.int r37]) rfl ?_
      refine lv_istore (lv' := [(5, .int r37), (0, .ref mo), (1, .int z1), (3, .int z3), (4, .int z4)]) hx hb e_M_look_220 hl (by decide) rfl (fun ls hl => ?_)
      refine lv_bipush (v := 16) hx hb e_M_look_222 (by decide) ?_
      refine lv_aload_n hx hb e_M_look_224 rfl (lv_at hl 1 rfl) ?_
      refine M_get C h 33 (v := .int (σ36.1 33)) rfl (by decide) v_116 e_M_look_225 ?_
      refine lv_imul hx hb e_M_look_228 ?_
      refine lv_istore (lv' := [(6, .int ((16 : Int32) * (σ36.1 33))), (5, .int r37), (0, .ref mo), (1, .int z1), (3, .int z3), (4, .int z4)]) hx hb e_M_look_229 hl (by decide) rfl (fun ls hl => ?_)
      obtain ⟨n9, hw⟩ := hw
      exact K_231 n9 z1 z3 z4 r37 ((16 : Int32) * (σ36.1 33)) σ36 _ _ _ hw h (lv_sub hl [2, 3, 4, 5, 1, 0] rfl)
    · skip
      replace hw := hw.2 c35
      refine lv_aload_n hx hb e_M_look_202 rfl (lv_at hl 0 rfl) ?_
      refine lv_aload_n hx hb e_M_look_203 rfl (lv_at hl 0 rfl) ?_
      refine M_get C h 35 (v := .int (σ.1 35)) rfl (by decide) v_73 e_M_look_204 ?_
      refine lv_iload_n hx hb e_M_look_207 rfl (lv_at hl 1 rfl) ?_
      refine M_calli (As := [.int (σ.1 35), .int z1]) (rest := []) C h hA (K_M_faulty l dC dI mo rf ca H.size σ (σ.1 35) z1 hw) (cwV 2 hts (gV hsub v_79 v_80 v_81 v_7 v_82) rfl rfl rfl (by decide +kernel) ⟨(Nat.le_of_ble_eq_true rfl), (Nat.le_of_ble_eq_true rfl)⟩) rfl hl.1 (Nat.le_of_ble_eq_true rfl) e_M_look_208 ⟨(Nat.le_of_ble_eq_true rfl), (Nat.le_of_ble_eq_true rfl)⟩ (fun r39 σ38 H locs hw h => ?_)
      refine W.eq (g2 := F0 m 211 ls [.int r39]) rfl ?_
      exact hend r39 σ38 _ _ _ _ hw.1 hw.2 h e_M_look_211
  have K_158 : ∀ (u9 : Unit), ∀ (z1 : Int32) (z3 : Int32) (z4 : Int32) (s0 : Int32) (s1 : Int32) (σ : MST) (H : Heap) (locs : List Loc) (ls : Array Slot), w_M_look_158 P z1 z3 z4 s0 s1 σ → MH (dC, dI) A mo rf ca σ s H locs → lv_has ls 8 [(0, .ref mo), (1, .int z1), (3, .int z3), (4, .int z4)] → W p l e ({ frames := 6, cells := 0, slots := 0, locals := 135 } : Room) s m ([.ref mo, .int x1] : List Value).toArray below meth cx H locs 0 0 Q (F0 m 158 ls [.int s0, .int s1, .ref mo]) := by
    intro u9 z1 z3 z4 s0 s1 σ H locs ls hw h hl
    unfold w_M_look_158 at hw
    refine M_callv (As := [.int s1, .int s0]) (rest := []) C h hA (K_M_simulate l dC dI mo rf ca H.size σ s1 s0 hw) (cwV 2 hts (gV hsub v_217 v_218 v_219 v_7 v_220) rfl rfl rfl (by decide +kernel) ⟨(Nat.le_of_ble_eq_true rfl), (Nat.le_of_ble_eq_true rfl)⟩) rfl hl.1 (Nat.le_of_ble_eq_true rfl) e_M_look_158 ⟨(Nat.le_of_ble_eq_true rfl), (Nat.le_of_ble_eq_true rfl)⟩ (fun σ40 H locs hw h => ?_)
    refine W.eq (g2 := F0 m 161 ls []) rfl ?_
    refine lv_aload_n hx hb e_M_look_161 rfl (lv_at hl 0 rfl) ?_
    refine M_get C h 35 (v := .int (σ40.1 35)) rfl (by decide) v_73 e_M_look_162 ?_
    refine lv_if_ne (tgt := 195) hx hb e_M_look_165 (by decide) (fun c42 => ?_) (fun c42 => ?_)
    · skip
      replace hw := hw.2 c42
      exact K_195 () z1 z3 z4 σ40 _ _ _ hw h (lv_sub hl [0, 1, 2, 3] rfl)
    · skip
      replace hw := hw.1 c42
      refine lv_iload_n hx hb e_M_look_168 rfl (lv_at hl 2 rfl) ?_
      refine M_scalli (As := [.int z3]) (rest := []) C h hA (K_M_stops l dC dI mo rf ca H.size σ40 z3 hw) (va_cwS 1 hts (gS hsub v_214 v_215 v_7 v_216) rfl rfl rfl (by decide +kernel) ⟨(Nat.le_of_ble_eq_true rfl), (Nat.le_of_ble_eq_true rfl)⟩) rfl hl.1 (Nat.le_of_ble_eq_true rfl) e_M_look_169 ⟨(Nat.le_of_ble_eq_true rfl), (Nat.le_of_ble_eq_true rfl)⟩ (fun r44 σ43 H locs hw h => ?_)
      refine W.eq (g2 := F0 m 172 ls [.int r44]) rfl ?_
      refine lv_if_ne (tgt := 195) hx hb e_M_look_172 (by decide) (fun c45 => ?_) (fun c45 => ?_)
      · skip
        replace hw := hw.2 c45
        exact K_195 () z1 z3 z4 σ43 _ _ _ hw h (lv_sub hl [0, 1, 2, 3] rfl)
      · skip
        replace hw := hw.1 c45
        refine lv_iload hx hb e_M_look_175 (lv_at hl 3 rfl) ?_
        refine lv_aload_n hx hb e_M_look_177 rfl (lv_at hl 0 rfl) ?_
        refine M_get C h 12 (v := .ref (rf 12)) rfl (by decide) v_51 e_M_look_178 ?_
        refine lv_aload_n hx hb e_M_look_181 rfl (lv_at hl 0 rfl) ?_
        refine M_get C h 33 (v := .int (σ43.1 33)) rfl (by decide) v_116 e_M_look_182 ?_
        refine M_ald C h 12 (by decide) rfl hw.1 e_M_look_185 ?_
        replace hw := hw.2
        refine lv_topi (fun a46 e_a46 => ?_)
        replace hw := hw a46 e_a46
        refine lv_icmp_ne (tgt := 195) hx hb e_M_look_186 (by decide) (fun c47 => ?_) (fun c47 => ?_)
        · skip
          replace hw := hw.2 c47
          exact K_195 () z1 z3 z4 σ43 _ _ _ hw h (lv_sub hl [0, 1, 2, 3] rfl)
        · skip
          replace hw := hw.1 c47
          refine lv_aload_n hx hb e_M_look_189 rfl (lv_at hl 0 rfl) ?_
          refine lv_bipush (v := 8) hx hb e_M_look_190 (by decide) ?_
          refine M_callv (As := [.int 8]) (rest := []) C h hA (K_M_miss l dC dI mo rf ca H.size σ43 (8 : Int32) hw) (cwV 1 hts (gV hsub v_100 v_101 v_102 v_7 v_103) rfl rfl rfl (by decide +kernel) ⟨(Nat.le_of_ble_eq_true rfl), (Nat.le_of_ble_eq_true rfl)⟩) rfl hl.1 (Nat.le_of_ble_eq_true rfl) e_M_look_192 ⟨(Nat.le_of_ble_eq_true rfl), (Nat.le_of_ble_eq_true rfl)⟩ (fun σ48 H locs hw h => ?_)
          refine W.eq (g2 := F0 m 195 ls []) rfl ?_
          exact K_195 () z1 z3 z4 σ48 _ _ _ hw h (lv_sub hl [0, 1, 2, 3] rfl)
  have K_87 : ∀ (n : Nat), ∀ (z1 : Int32) (z2 : Int32) (z3 : Int32) (σ : MST) (H : Heap) (locs : List Loc) (ls : Array Slot), w_M_look_87 P n z1 z2 z3 σ → MH (dC, dI) A mo rf ca σ s H locs → lv_has ls 8 [(0, .ref mo), (1, .int z1), (2, .int z2), (3, .int z3)] → W p l e ({ frames := 6, cells := 0, slots := 0, locals := 135 } : Room) s m ([.ref mo, .int x1] : List Value).toArray below meth cx H locs 0 0 Q (F0 m 87 ls []) := by
    intro  n
    induction n with
    | zero => intro z1 z2 z3 σ H locs ls hw h hl; unfold w_M_look_87 at hw; exact hw.elim
    | succ n ih =>
      intro z1 z2 z3 σ H locs ls hw h hl
      unfold w_M_look_87 at hw
      refine lv_iload_n hx hb e_M_look_87 rfl (lv_at hl 3 rfl) ?_
      refine lv_aload_n hx hb e_M_look_88 rfl (lv_at hl 0 rfl) ?_
      refine M_get C h 40 (v := .int (σ.1 40)) rfl (by decide) v_98 e_M_look_89 ?_
      refine lv_icmp_ge (tgt := 115) hx hb e_M_look_92 (by decide) (fun c50 => ?_) (fun c50 => ?_)
      · skip
        replace hw := hw.1 c50
        refine lv_aload_n hx hb e_M_look_115 rfl (lv_at hl 0 rfl) ?_
        refine lv_aload_n hx hb e_M_look_116 rfl (lv_at hl 0 rfl) ?_
        refine M_get C h 33 (v := .int (σ.1 33)) rfl (by decide) v_116 e_M_look_117 ?_
        refine lv_iload_n hx hb e_M_look_120 rfl (lv_at hl 1 rfl) ?_
        refine M_calli (As := [.int (σ.1 33), .int z1]) (rest := []) C h hA (K_M_at l dC dI mo rf ca H.size σ (σ.1 33) z1 hw) (cwV 2 hts (gV hsub v_69 v_70 v_71 v_7 v_72) rfl rfl rfl (by decide +kernel) ⟨(Nat.le_of_ble_eq_true rfl), (Nat.le_of_ble_eq_true rfl)⟩) rfl hl.1 (Nat.le_of_ble_eq_true rfl) e_M_look_121 ⟨(Nat.le_of_ble_eq_true rfl), (Nat.le_of_ble_eq_true rfl)⟩ (fun r52 σ51 H locs hw h => ?_)
        refine W.eq (g2 := F0 m 124 ls [.int r52]) rfl ?_
        refine lv_istore_n (lv' := [(3, .int r52), (0, .ref mo), (1, .int z1), (2, .int z2)]) hx hb e_M_look_124 rfl hl (by decide) rfl (fun ls hl => ?_)
        refine lv_iload_n hx hb e_M_look_125 rfl (lv_at hl 2 rfl) ?_
        refine lv_iload_n hx hb e_M_look_126 rfl (lv_at hl 0 rfl) ?_
        refine M_scalli (As := [.int r52]) (rest := [.int z1]) C h hA (K_M_length l dC dI mo rf ca H.size σ51 r52 hw) (va_cwS 1 hts (gS hsub v_75 v_76 v_7 v_77) rfl rfl rfl (by decide +kernel) ⟨(Nat.le_of_ble_eq_true rfl), (Nat.le_of_ble_eq_true rfl)⟩) rfl hl.1 (Nat.le_of_ble_eq_true rfl) e_M_look_127 ⟨(Nat.le_of_ble_eq_true rfl), (Nat.le_of_ble_eq_true rfl)⟩ (fun r54 σ53 H locs hw h => ?_)
        refine W.eq (g2 := F0 m 130 ls [.int r54, .int z1]) rfl ?_
        refine lv_iadd hx hb e_M_look_130 ?_
        refine lv_istore (lv' := [(4, .int (z1 + r54)), (3, .int r52), (0, .ref mo), (1, .int z1), (2, .int z2)]) hx hb e_M_look_131 hl (by decide) rfl (fun ls hl => ?_)
        refine lv_aload_n hx hb e_M_look_133 rfl (lv_at hl 2 rfl) ?_
        refine lv_iload_n hx hb e_M_look_134 rfl (lv_at hl 1 rfl) ?_
        refine lv_iload_n hx hb e_M_look_135 rfl (lv_at hl 1 rfl) ?_
        refine M_scalli (As := [.int r52]) (rest := [.int r52, .ref mo]) C h hA (K_M_length l dC dI mo rf ca H.size σ53 r52 hw) (va_cwS 1 hts (gS hsub v_75 v_76 v_7 v_77) rfl rfl rfl (by decide +kernel) ⟨(Nat.le_of_ble_eq_true rfl), (Nat.le_of_ble_eq_true rfl)⟩) rfl hl.1 (Nat.le_of_ble_eq_true rfl) e_M_look_136 ⟨(Nat.le_of_ble_eq_true rfl), (Nat.le_of_ble_eq_true rfl)⟩ (fun r56 σ55 H locs hw h => ?_)
        refine W.eq (g2 := F0 m 139 ls [.int r56, .int r52, .ref mo]) rfl ?_
        refine lv_iconst (v := 1) hx hb e_M_look_139 (by decide) ?_
        refine lv_icmp_le (tgt := 157) hx hb e_M_look_140 (by decide) (fun c57 => ?_) (fun c57 => ?_)
        · skip
          replace hw := hw.1 c57
          refine lv_iconst (v := 0) hx hb e_M_look_157 (by decide) ?_
          exact K_158 () z1 r52 (z1 + r54) 0 r52 σ55 _ _ _ hw h (lv_sub hl [2, 3, 1, 0] rfl)
        · skip
          replace hw := hw.2 c57
          refine lv_aload_n hx hb e_M_look_143 rfl (lv_at hl 2 rfl) ?_
          refine lv_aload_n hx hb e_M_look_144 rfl (lv_at hl 2 rfl) ?_
          refine M_get C h 33 (v := .int (σ55.1 33)) rfl (by decide) v_116 e_M_look_145 ?_
          refine lv_iload_n hx hb e_M_look_148 rfl (lv_at hl 3 rfl) ?_
          refine lv_iconst (v := 1) hx hb e_M_look_149 (by decide) ?_
          refine lv_iadd hx hb e_M_look_150 ?_
          refine M_calli (As := [.int (σ55.1 33), .int (z1 + 1)]) (rest := [.int r52, .ref mo]) C h hA (K_M_at l dC dI mo rf ca H.size σ55 (σ55.1 33) (z1 + 1) hw) (cwV 2 hts (gV hsub v_69 v_70 v_71 v_7 v_72) rfl rfl rfl (by decide +kernel) ⟨(Nat.le_of_ble_eq_true rfl), (Nat.le_of_ble_eq_true rfl)⟩) rfl hl.1 (Nat.le_of_ble_eq_true rfl) e_M_look_151 ⟨(Nat.le_of_ble_eq_true rfl), (Nat.le_of_ble_eq_true rfl)⟩ (fun r59 σ58 H locs hw h => ?_)
          refine W.eq (g2 := F0 m 154 ls [.int r59, .int r52, .ref mo]) rfl ?_
          refine lv_goto (tgt := 158) hx hb e_M_look_154 (by decide) ?_
          exact K_158 () z1 r52 (z1 + r54) r59 r52 σ58 _ _ _ hw h (lv_sub hl [2, 3, 1, 0] rfl)
      · skip
        replace hw := hw.2 c50
        refine lv_aload_n hx hb e_M_look_95 rfl (lv_at hl 0 rfl) ?_
        refine M_get C h 39 (v := .ref (rf 39)) rfl (by decide) v_99 e_M_look_96 ?_
        refine lv_iload_n hx hb e_M_look_99 rfl (lv_at hl 3 rfl) ?_
        refine lv_aload_n hx hb e_M_look_100 rfl (lv_at hl 0 rfl) ?_
        refine M_get C h 29 (v := .ref (rf 29)) rfl (by decide) v_192 e_M_look_101 ?_
        refine lv_iload_n hx hb e_M_look_104 rfl (lv_at hl 2 rfl) ?_
        refine lv_iload_n hx hb e_M_look_105 rfl (lv_at hl 3 rfl) ?_
        refine lv_iadd hx hb e_M_look_106 ?_
        refine M_ald C h 29 (by decide) rfl hw.1 e_M_look_107 ?_
        replace hw := hw.2
        refine lv_topi (fun a60 e_a60 => ?_)
        replace hw := hw a60 e_a60
        refine M_ast C h 39 (by decide) rfl hw.1 e_M_look_108 (fun H locs h => ?_)
        replace hw := hw.2
        obtain ⟨σ61, e_σ61⟩ : ∃ z : MST, z = setA σ 39 (upd (σ.2.1 39) (z3 : Int32).toNatClampNeg a60) := ⟨_, rfl⟩
        rw [← e_σ61] at h
        replace hw := hw σ61 e_σ61
        refine lv_iinc (v := (z3 + 1)) (lv' := [(3, .int (z3 + 1)), (0, .ref mo), (1, .int z1), (2, .int z2)]) hx hb e_M_look_109 hl (k := 3) rfl (rfl) (by decide) rfl (fun ls hl => ?_)
        refine lv_goto (tgt := 87) hx hb e_M_look_112 (by decide) ?_
        exact ih z1 z2 (z3 + 1) σ61 _ _ _ hw h (lv_sub hl [1, 2, 3, 0] rfl)
  have K_38 : ∀ (n : Nat), ∀ (z1 : Int32) (z2 : Int32) (z3 : Int32) (σ : MST) (H : Heap) (locs : List Loc) (ls : Array Slot), w_M_look_38 P n z1 z2 z3 σ → MH (dC, dI) A mo rf ca σ s H locs → lv_has ls 8 [(0, .ref mo), (1, .int z1), (2, .int z2), (3, .int z3)] → W p l e ({ frames := 6, cells := 0, slots := 0, locals := 135 } : Room) s m ([.ref mo, .int x1] : List Value).toArray below meth cx H locs 0 0 Q (F0 m 38 ls []) := by
    intro  n
    induction n with
    | zero => intro z1 z2 z3 σ H locs ls hw h hl; unfold w_M_look_38 at hw; exact hw.elim
    | succ n ih =>
      intro z1 z2 z3 σ H locs ls hw h hl
      unfold w_M_look_38 at hw
      refine lv_iload_n hx hb e_M_look_38 rfl (lv_at hl 3 rfl) ?_
      refine lv_aload_n hx hb e_M_look_39 rfl (lv_at hl 0 rfl) ?_
      refine M_get C h 15 (v := .ref (rf 15)) rfl (by decide) v_49 e_M_look_40 ?_
      refine lv_aload_n hx hb e_M_look_43 rfl (lv_at hl 0 rfl) ?_
      refine M_get C h 33 (v := .int (σ.1 33)) rfl (by decide) v_116 e_M_look_44 ?_
      refine M_ald C h 15 (by decide) rfl hw.1 e_M_look_47 ?_
      replace hw := hw.2
      refine lv_topi (fun a62 e_a62 => ?_)
      replace hw := hw a62 e_a62
      refine lv_icmp_ge (tgt := 85) hx hb e_M_look_48 (by decide) (fun c63 => ?_) (fun c63 => ?_)
      · skip
        replace hw := hw.1 c63
        refine lv_iconst (v := 0) hx hb e_M_look_85 (by decide) ?_
        refine lv_istore_n (lv' := [(3, .int 0), (0, .ref mo), (1, .int z1), (2, .int z2)]) hx hb e_M_look_86 rfl hl (by decide) rfl (fun ls hl => ?_)
        obtain ⟨n9, hw⟩ := hw
        exact K_87 n9 z1 z2 0 σ _ _ _ hw h (lv_sub hl [1, 2, 3, 0] rfl)
      · skip
        replace hw := hw.2 c63
        refine lv_aload_n hx hb e_M_look_51 rfl (lv_at hl 0 rfl) ?_
        refine M_get C h 37 (v := .ref (rf 37)) rfl (by decide) v_120 e_M_look_52 ?_
        refine lv_iload_n hx hb e_M_look_55 rfl (lv_at hl 3 rfl) ?_
        refine lv_aload_n hx hb e_M_look_56 rfl (lv_at hl 0 rfl) ?_
        refine M_get C h 28 (v := .ref (rf 28)) rfl (by decide) v_194 e_M_look_57 ?_
        refine lv_iload_n hx hb e_M_look_60 rfl (lv_at hl 2 rfl) ?_
        refine lv_iload_n hx hb e_M_look_61 rfl (lv_at hl 3 rfl) ?_
        refine lv_iadd hx hb e_M_look_62 ?_
        refine M_ald C h 28 (by decide) rfl hw.1 e_M_look_63 ?_
        replace hw := hw.2
        refine lv_topi (fun a64 e_a64 => ?_)
        replace hw := hw a64 e_a64
        refine M_ast C h 37 (by decide) rfl hw.1 e_M_look_64 (fun H locs h => ?_)
        replace hw := hw.2
        obtain ⟨σ65, e_σ65⟩ : ∃ z : MST, z = setA σ 37 (upd (σ.2.1 37) (z3 : Int32).toNatClampNeg a64) := ⟨_, rfl⟩
        rw [← e_σ65] at h
        replace hw := hw σ65 e_σ65
        refine lv_aload_n hx hb e_M_look_65 rfl (lv_at hl 0 rfl) ?_
        refine M_get C h 38 (v := .ref (rf 38)) rfl (by decide) v_209 e_M_look_66 ?_
        refine lv_iload_n hx hb e_M_look_69 rfl (lv_at hl 3 rfl) ?_
        refine lv_aload_n hx hb e_M_look_70 rfl (lv_at hl 0 rfl) ?_
        refine M_get C h 28 (v := .ref (rf 28)) rfl (by decide) v_194 e_M_look_71 ?_
        refine lv_iload_n hx hb e_M_look_74 rfl (lv_at hl 2 rfl) ?_
        refine lv_iload_n hx hb e_M_look_75 rfl (lv_at hl 3 rfl) ?_
        refine lv_iadd hx hb e_M_look_76 ?_
        refine M_ald C h 28 (by decide) rfl hw.1 e_M_look_77 ?_
        replace hw := hw.2
        refine lv_topi (fun a66 e_a66 => ?_)
        replace hw := hw a66 e_a66
        refine M_ast C h 38 (by decide) rfl hw.1 e_M_look_78 (fun H locs h => ?_)
        replace hw := hw.2
        obtain ⟨σ67, e_σ67⟩ : ∃ z : MST, z = setA σ65 38 (upd (σ65.2.1 38) (z3 : Int32).toNatClampNeg a66) := ⟨_, rfl⟩
        rw [← e_σ67] at h
        replace hw := hw σ67 e_σ67
        refine lv_iinc (v := (z3 + 1)) (lv' := [(3, .int (z3 + 1)), (0, .ref mo), (1, .int z1), (2, .int z2)]) hx hb e_M_look_79 hl (k := 3) rfl (rfl) (by decide) rfl (fun ls hl => ?_)
        refine lv_goto (tgt := 38) hx hb e_M_look_82 (by decide) ?_
        exact ih z1 z2 (z3 + 1) σ67 _ _ _ hw h (lv_sub hl [1, 2, 3, 0] rfl)
  have hl : lv_has ls 8 [(0, .ref mo), (1, .int x1)] := hl
  unfold w_M_look at hw
  refine lv_bipush (v := 12) hx hb e_M_look_0 (by decide) ?_
  refine lv_bipush (v := 120) hx hb e_M_look_2 (by decide) ?_
  refine lv_aload_n hx hb e_M_look_4 rfl (lv_at hl 0 rfl) ?_
  refine M_get C h 33 (v := .int (σ.1 33)) rfl (by decide) v_116 e_M_look_5 ?_
  refine lv_imul hx hb e_M_look_8 ?_
  refine lv_iload_n hx hb e_M_look_9 rfl (lv_at hl 1 rfl) ?_
  refine lv_iadd hx hb e_M_look_10 ?_
  refine lv_imul hx hb e_M_look_11 ?_
  refine lv_istore_n (lv' := [(2, .int ((12 : Int32) * (((120 : Int32) * (σ.1 33)) + x1))), (0, .ref mo), (1, .int x1)]) hx hb e_M_look_12 rfl hl (by decide) rfl (fun ls hl => ?_)
  refine lv_aload_n hx hb e_M_look_13 rfl (lv_at hl 1 rfl) ?_
  refine lv_iload_n hx hb e_M_look_14 rfl (lv_at hl 2 rfl) ?_
  refine M_puti C h 34 (by decide) rfl rfl (by decide +kernel) v_145 e_M_look_15 (fun H locs h => ?_)
  obtain ⟨σ68, e_σ68⟩ : ∃ z : MST, z = setI σ 34 x1 := ⟨_, rfl⟩
  rw [← e_σ68] at h
  replace hw := hw σ68 e_σ68
  refine lv_aload_n hx hb e_M_look_18 rfl (lv_at hl 1 rfl) ?_
  refine lv_aload_n hx hb e_M_look_19 rfl (lv_at hl 1 rfl) ?_
  refine M_get C h 27 (v := .ref (rf 27)) rfl (by decide) v_200 e_M_look_20 ?_
  refine lv_bipush (v := 120) hx hb e_M_look_23 (by decide) ?_
  refine lv_aload_n hx hb e_M_look_25 rfl (lv_at hl 1 rfl) ?_
  refine M_get C h 33 (v := .int (σ68.1 33)) rfl (by decide) v_116 e_M_look_26 ?_
  refine lv_imul hx hb e_M_look_29 ?_
  refine lv_iload_n hx hb e_M_look_30 rfl (lv_at hl 2 rfl) ?_
  refine lv_iadd hx hb e_M_look_31 ?_
  refine M_ald C h 27 (by decide) rfl hw.1 e_M_look_32 ?_
  replace hw := hw.2
  refine lv_topi (fun a69 e_a69 => ?_)
  replace hw := hw a69 e_a69
  refine M_puti C h 40 (by decide) rfl rfl (by decide +kernel) v_98 e_M_look_33 (fun H locs h => ?_)
  obtain ⟨σ70, e_σ70⟩ : ∃ z : MST, z = setI σ68 40 a69 := ⟨_, rfl⟩
  rw [← e_σ70] at h
  replace hw := hw σ70 e_σ70
  refine lv_iconst (v := 0) hx hb e_M_look_36 (by decide) ?_
  refine lv_istore_n (lv' := [(3, .int 0), (2, .int ((12 : Int32) * (((120 : Int32) * (σ.1 33)) + x1))), (0, .ref mo), (1, .int x1)]) hx hb e_M_look_37 rfl hl (by decide) rfl (fun ls hl => ?_)
  obtain ⟨n9, hw⟩ := hw
  exact K_38 n9 x1 ((12 : Int32) * (((120 : Int32) * (σ.1 33)) + x1)) 0 σ70 _ _ _ hw h (lv_sub hl [2, 3, 1, 0] rfl)
abbrev z_M_flows : MethodName := ⟨"MapFramerModel", "flows", "()Z"⟩
theorem v_221 : (Cond.methodLink "MapFramerModel" 350 ⟨"MapFramerModel", "look", "(I)Z"⟩ : Cond) ∈ bigW := inB_9 148 (by decide +kernel) rfl
theorem v_222 : (Cond.instanceMethod ⟨"MapFramerModel", "look", "(I)Z"⟩ : Cond) ∈ bigW := inB_9 150 (by decide +kernel) rfl
theorem v_223 : (Cond.selects "MapFramerModel" ⟨"MapFramerModel", "look", "(I)Z"⟩ ⟨"MapFramerModel", "look", "(I)Z"⟩ : Cond) ∈ bigW := inS (y := ⟨"MapFramerModel", "look", "(I)Z"⟩) (n := 71) (List.mem_of_getElem? (i := 94) (by decide +kernel))
theorem v_224 : (Cond.code ⟨"MapFramerModel", "look", "(I)Z"⟩ prog_14_method_57_code 8 (some .boolean) : Cond) ∈ bigW := inB_9 151 rfl rfl
theorem e_M_flows_0 : decode prog_14_method_58_code 0 = .ok (.iconst 0, 1) := by decide +kernel
theorem e_M_flows_1 : decode prog_14_method_58_code 1 = .ok (.istore_n 1, 1) := by decide +kernel
theorem e_M_flows_2 : decode prog_14_method_58_code 2 = .ok (.iload_n 1, 1) := by decide +kernel
theorem e_M_flows_3 : decode prog_14_method_58_code 3 = .ok (.bipush 120, 2) := by decide +kernel
theorem e_M_flows_5 : decode prog_14_method_58_code 5 = .ok (.if_icmp .ge 31, 3) := by decide +kernel
theorem e_M_flows_8 : decode prog_14_method_58_code 8 = .ok (.aload_n 0, 1) := by decide +kernel
theorem e_M_flows_9 : decode prog_14_method_58_code 9 = .ok (.getfield 81, 3) := by decide +kernel
theorem e_M_flows_12 : decode prog_14_method_58_code 12 = .ok (.bipush 120, 2) := by decide +kernel
theorem e_M_flows_14 : decode prog_14_method_58_code 14 = .ok (.aload_n 0, 1) := by decide +kernel
theorem e_M_flows_15 : decode prog_14_method_58_code 15 = .ok (.getfield 266, 3) := by decide +kernel
theorem e_M_flows_18 : decode prog_14_method_58_code 18 = .ok (.imul, 1) := by decide +kernel
theorem e_M_flows_19 : decode prog_14_method_58_code 19 = .ok (.iload_n 1, 1) := by decide +kernel
theorem e_M_flows_20 : decode prog_14_method_58_code 20 = .ok (.iadd, 1) := by decide +kernel
theorem e_M_flows_21 : decode prog_14_method_58_code 21 = .ok (.iconst (-1), 1) := by decide +kernel
theorem e_M_flows_22 : decode prog_14_method_58_code 22 = .ok (.iastore, 1) := by decide +kernel
theorem e_M_flows_23 : decode prog_14_method_58_code 23 = .ok (.aload_n 0, 1) := by decide +kernel
theorem e_M_flows_24 : decode prog_14_method_58_code 24 = .ok (.getfield 90, 3) := by decide +kernel
theorem e_M_flows_27 : decode prog_14_method_58_code 27 = .ok (.iload_n 1, 1) := by decide +kernel
theorem e_M_flows_28 : decode prog_14_method_58_code 28 = .ok (.iconst 0, 1) := by decide +kernel
theorem e_M_flows_29 : decode prog_14_method_58_code 29 = .ok (.bastore, 1) := by decide +kernel
theorem e_M_flows_30 : decode prog_14_method_58_code 30 = .ok (.iinc 1 1, 3) := by decide +kernel
theorem e_M_flows_33 : decode prog_14_method_58_code 33 = .ok (.goto (-31), 3) := by decide +kernel
theorem e_M_flows_36 : decode prog_14_method_58_code 36 = .ok (.aload_n 0, 1) := by decide +kernel
theorem e_M_flows_37 : decode prog_14_method_58_code 37 = .ok (.iconst 0, 1) := by decide +kernel
theorem e_M_flows_38 : decode prog_14_method_58_code 38 = .ok (.putfield 327, 3) := by decide +kernel
theorem e_M_flows_41 : decode prog_14_method_58_code 41 = .ok (.iconst 0, 1) := by decide +kernel
theorem e_M_flows_42 : decode prog_14_method_58_code 42 = .ok (.istore_n 1, 1) := by decide +kernel
theorem e_M_flows_43 : decode prog_14_method_58_code 43 = .ok (.iload_n 1, 1) := by decide +kernel
theorem e_M_flows_44 : decode prog_14_method_58_code 44 = .ok (.bipush 12, 2) := by decide +kernel
theorem e_M_flows_46 : decode prog_14_method_58_code 46 = .ok (.if_icmp .ge 16, 3) := by decide +kernel
theorem e_M_flows_49 : decode prog_14_method_58_code 49 = .ok (.aload_n 0, 1) := by decide +kernel
theorem e_M_flows_50 : decode prog_14_method_58_code 50 = .ok (.getfield 108, 3) := by decide +kernel
theorem e_M_flows_53 : decode prog_14_method_58_code 53 = .ok (.iload_n 1, 1) := by decide +kernel
theorem e_M_flows_54 : decode prog_14_method_58_code 54 = .ok (.iconst 0, 1) := by decide +kernel
theorem e_M_flows_55 : decode prog_14_method_58_code 55 = .ok (.iastore, 1) := by decide +kernel
theorem e_M_flows_56 : decode prog_14_method_58_code 56 = .ok (.iinc 1 1, 3) := by decide +kernel
theorem e_M_flows_59 : decode prog_14_method_58_code 59 = .ok (.goto (-16), 3) := by decide +kernel
theorem e_M_flows_62 : decode prog_14_method_58_code 62 = .ok (.iconst 0, 1) := by decide +kernel
theorem e_M_flows_63 : decode prog_14_method_58_code 63 = .ok (.istore_n 1, 1) := by decide +kernel
theorem e_M_flows_64 : decode prog_14_method_58_code 64 = .ok (.iconst 0, 1) := by decide +kernel
theorem e_M_flows_65 : decode prog_14_method_58_code 65 = .ok (.istore_n 2, 1) := by decide +kernel
theorem e_M_flows_66 : decode prog_14_method_58_code 66 = .ok (.iload_n 2, 1) := by decide +kernel
theorem e_M_flows_67 : decode prog_14_method_58_code 67 = .ok (.aload_n 0, 1) := by decide +kernel
theorem e_M_flows_68 : decode prog_14_method_58_code 68 = .ok (.getfield 33, 3) := by decide +kernel
theorem e_M_flows_71 : decode prog_14_method_58_code 71 = .ok (.aload_n 0, 1) := by decide +kernel
theorem e_M_flows_72 : decode prog_14_method_58_code 72 = .ok (.getfield 266, 3) := by decide +kernel
theorem e_M_flows_75 : decode prog_14_method_58_code 75 = .ok (.iaload, 1) := by decide +kernel
theorem e_M_flows_76 : decode prog_14_method_58_code 76 = .ok (.if_icmp .ge 46, 3) := by decide +kernel
theorem e_M_flows_79 : decode prog_14_method_58_code 79 = .ok (.aload_n 0, 1) := by decide +kernel
theorem e_M_flows_80 : decode prog_14_method_58_code 80 = .ok (.getfield 108, 3) := by decide +kernel
theorem e_M_flows_83 : decode prog_14_method_58_code 83 = .ok (.iload_n 1, 1) := by decide +kernel
theorem e_M_flows_84 : decode prog_14_method_58_code 84 = .ok (.aload_n 0, 1) := by decide +kernel
theorem e_M_flows_85 : decode prog_14_method_58_code 85 = .ok (.getfield 30, 3) := by decide +kernel
theorem e_M_flows_88 : decode prog_14_method_58_code 88 = .ok (.iconst 4, 1) := by decide +kernel
theorem e_M_flows_89 : decode prog_14_method_58_code 89 = .ok (.aload_n 0, 1) := by decide +kernel
theorem e_M_flows_90 : decode prog_14_method_58_code 90 = .ok (.getfield 266, 3) := by decide +kernel
theorem e_M_flows_93 : decode prog_14_method_58_code 93 = .ok (.imul, 1) := by decide +kernel
theorem e_M_flows_94 : decode prog_14_method_58_code 94 = .ok (.iload_n 2, 1) := by decide +kernel
theorem e_M_flows_95 : decode prog_14_method_58_code 95 = .ok (.iadd, 1) := by decide +kernel
theorem e_M_flows_96 : decode prog_14_method_58_code 96 = .ok (.iaload, 1) := by decide +kernel
theorem e_M_flows_97 : decode prog_14_method_58_code 97 = .ok (.iastore, 1) := by decide +kernel
theorem e_M_flows_98 : decode prog_14_method_58_code 98 = .ok (.iload_n 1, 1) := by decide +kernel
theorem e_M_flows_99 : decode prog_14_method_58_code 99 = .ok (.aload_n 0, 1) := by decide +kernel
theorem e_M_flows_100 : decode prog_14_method_58_code 100 = .ok (.getfield 108, 3) := by decide +kernel
theorem e_M_flows_103 : decode prog_14_method_58_code 103 = .ok (.iload_n 1, 1) := by decide +kernel
theorem e_M_flows_104 : decode prog_14_method_58_code 104 = .ok (.iaload, 1) := by decide +kernel
theorem e_M_flows_105 : decode prog_14_method_58_code 105 = .ok (.iconst 2, 1) := by decide +kernel
theorem e_M_flows_106 : decode prog_14_method_58_code 106 = .ok (.if_icmp .ne 7, 3) := by decide +kernel
theorem e_M_flows_109 : decode prog_14_method_58_code 109 = .ok (.iconst 2, 1) := by decide +kernel
theorem e_M_flows_110 : decode prog_14_method_58_code 110 = .ok (.goto 4, 3) := by decide +kernel
theorem e_M_flows_113 : decode prog_14_method_58_code 113 = .ok (.iconst 1, 1) := by decide +kernel
theorem e_M_flows_114 : decode prog_14_method_58_code 114 = .ok (.iadd, 1) := by decide +kernel
theorem e_M_flows_115 : decode prog_14_method_58_code 115 = .ok (.istore_n 1, 1) := by decide +kernel
theorem e_M_flows_116 : decode prog_14_method_58_code 116 = .ok (.iinc 2 1, 3) := by decide +kernel
theorem e_M_flows_119 : decode prog_14_method_58_code 119 = .ok (.goto (-53), 3) := by decide +kernel
theorem e_M_flows_122 : decode prog_14_method_58_code 122 = .ok (.aload_n 0, 1) := by decide +kernel
theorem e_M_flows_123 : decode prog_14_method_58_code 123 = .ok (.iconst 0, 1) := by decide +kernel
theorem e_M_flows_124 : decode prog_14_method_58_code 124 = .ok (.invokevirtual 337, 3) := by decide +kernel
theorem e_M_flows_127 : decode prog_14_method_58_code 127 = .ok (.istore_n 2, 1) := by decide +kernel
theorem e_M_flows_128 : decode prog_14_method_58_code 128 = .ok (.iconst 0, 1) := by decide +kernel
theorem e_M_flows_129 : decode prog_14_method_58_code 129 = .ok (.istore_n 3, 1) := by decide +kernel
theorem e_M_flows_130 : decode prog_14_method_58_code 130 = .ok (.iload_n 2, 1) := by decide +kernel
theorem e_M_flows_131 : decode prog_14_method_58_code 131 = .ok (.ifCond .eq 42, 3) := by decide +kernel
theorem e_M_flows_134 : decode prog_14_method_58_code 134 = .ok (.iload_n 3, 1) := by decide +kernel
theorem e_M_flows_135 : decode prog_14_method_58_code 135 = .ok (.bipush 120, 2) := by decide +kernel
theorem e_M_flows_137 : decode prog_14_method_58_code 137 = .ok (.if_icmp .ge 36, 3) := by decide +kernel
theorem e_M_flows_140 : decode prog_14_method_58_code 140 = .ok (.aload_n 0, 1) := by decide +kernel
theorem e_M_flows_141 : decode prog_14_method_58_code 141 = .ok (.getfield 90, 3) := by decide +kernel
theorem e_M_flows_144 : decode prog_14_method_58_code 144 = .ok (.iload_n 3, 1) := by decide +kernel
theorem e_M_flows_145 : decode prog_14_method_58_code 145 = .ok (.baload, 1) := by decide +kernel
theorem e_M_flows_146 : decode prog_14_method_58_code 146 = .ok (.ifCond .eq 21, 3) := by decide +kernel
theorem e_M_flows_149 : decode prog_14_method_58_code 149 = .ok (.aload_n 0, 1) := by decide +kernel
theorem e_M_flows_150 : decode prog_14_method_58_code 150 = .ok (.getfield 90, 3) := by decide +kernel
theorem e_M_flows_153 : decode prog_14_method_58_code 153 = .ok (.iload_n 3, 1) := by decide +kernel
theorem e_M_flows_154 : decode prog_14_method_58_code 154 = .ok (.iconst 0, 1) := by decide +kernel
theorem e_M_flows_155 : decode prog_14_method_58_code 155 = .ok (.bastore, 1) := by decide +kernel
theorem e_M_flows_156 : decode prog_14_method_58_code 156 = .ok (.aload_n 0, 1) := by decide +kernel
theorem e_M_flows_157 : decode prog_14_method_58_code 157 = .ok (.iload_n 3, 1) := by decide +kernel
theorem e_M_flows_158 : decode prog_14_method_58_code 158 = .ok (.invokevirtual 350, 3) := by decide +kernel
theorem e_M_flows_161 : decode prog_14_method_58_code 161 = .ok (.istore_n 2, 1) := by decide +kernel
theorem e_M_flows_162 : decode prog_14_method_58_code 162 = .ok (.iconst 0, 1) := by decide +kernel
theorem e_M_flows_163 : decode prog_14_method_58_code 163 = .ok (.istore_n 3, 1) := by decide +kernel
theorem e_M_flows_164 : decode prog_14_method_58_code 164 = .ok (.goto (-34), 3) := by decide +kernel
theorem e_M_flows_167 : decode prog_14_method_58_code 167 = .ok (.iinc 3 1, 3) := by decide +kernel
theorem e_M_flows_170 : decode prog_14_method_58_code 170 = .ok (.goto (-40), 3) := by decide +kernel
theorem e_M_flows_173 : decode prog_14_method_58_code 173 = .ok (.iload_n 2, 1) := by decide +kernel
theorem e_M_flows_174 : decode prog_14_method_58_code 174 = .ok (.ireturn, 1) := by decide +kernel
def w_M_flows_114 (K66 : Int32 → Int32 → MST → Prop) (P : Int32 → MST → Prop) (z2 : Int32) (s0 : Int32) (s1 : Int32) (σ : MST) : Prop := K66 (s1 + s0) (z2 + 1) σ
def w_M_flows_130 (P : Int32 → MST → Prop) : Nat → Int32 → Int32 → MST → Prop
  | 0, _, _, _ => False
  | n + 1, z2, z3, σ => ((z2 = 0 → (narrow .boolean (.int z2) = .int z2 ∧ P z2 σ)) ∧ (¬ z2 = 0 → ((120 ≤ z3 → (narrow .boolean (.int z2) = .int z2 ∧ P z2 σ)) ∧ (¬ 120 ≤ z3 → vp_in z3 120 ∧ (∀ a3 : Int32, a3 = (σ.2.1 30 (z3 : Int32).toNatClampNeg) → ((a3 = 0 → w_M_flows_130 P n z2 (z3 + 1) σ) ∧ (¬ a3 = 0 → vp_in z3 120 ∧ (∀ σ5 : MST, σ5 = setA σ 30 (upd (σ.2.1 30) (z3 : Int32).toNatClampNeg (vp_nar .boolean 0)) → w_M_look z3 σ5 (fun r7 σ6 => w_M_flows_130 P n r7 0 σ6)))))))))
def w_M_flows_66 (P : Int32 → MST → Prop) : Nat → Int32 → Int32 → MST → Prop
  | 0, _, _, _ => False
  | n + 1, z1, z2, σ => vp_in (σ.1 33) 8 ∧ (∀ a8 : Int32, a8 = (σ.2.1 10 ((σ.1 33) : Int32).toNatClampNeg) → ((a8 ≤ z2 → w_M_give (0 : Int32) σ (fun r11 σ10 => (∃ n9 : Nat, w_M_flows_130 P n9 r11 0 σ10))) ∧ (¬ a8 ≤ z2 → vp_in (((4 : Int32) * (σ.1 33)) + z2) 32 ∧ (∀ a12 : Int32, a12 = (σ.2.1 9 ((((4 : Int32) * (σ.1 33)) + z2) : Int32).toNatClampNeg) → vp_in z1 12 ∧ (∀ σ13 : MST, σ13 = setA σ 41 (upd (σ.2.1 41) (z1 : Int32).toNatClampNeg a12) → vp_in z1 12 ∧ (∀ a14 : Int32, a14 = (σ13.2.1 41 (z1 : Int32).toNatClampNeg) → ((a14 = 2 → w_M_flows_114 (w_M_flows_66 P n) P z2 2 z1 σ13) ∧ (¬ a14 = 2 → w_M_flows_114 (w_M_flows_66 P n) P z2 1 z1 σ13))))))))
def w_M_flows_43 (P : Int32 → MST → Prop) : Nat → Int32 → MST → Prop
  | 0, _, _ => False
  | n + 1, z1, σ => ((12 ≤ z1 → (∃ n9 : Nat, w_M_flows_66 P n9 0 0 σ)) ∧ (¬ 12 ≤ z1 → vp_in z1 12 ∧ (∀ σ17 : MST, σ17 = setA σ 41 (upd (σ.2.1 41) (z1 : Int32).toNatClampNeg 0) → w_M_flows_43 P n (z1 + 1) σ17)))
def w_M_flows_2 (P : Int32 → MST → Prop) : Nat → Int32 → MST → Prop
  | 0, _, _ => False
  | n + 1, z1, σ => ((120 ≤ z1 → ∀ σ19 : MST, σ19 = setI σ 43 0 → (∃ n9 : Nat, w_M_flows_43 P n9 0 σ19)) ∧ (¬ 120 ≤ z1 → vp_in (((120 : Int32) * (σ.1 33)) + z1) 960 ∧ (∀ σ20 : MST, σ20 = setA σ 27 (upd (σ.2.1 27) ((((120 : Int32) * (σ.1 33)) + z1) : Int32).toNatClampNeg (-1)) → vp_in z1 120 ∧ (∀ σ21 : MST, σ21 = setA σ20 30 (upd (σ20.2.1 30) (z1 : Int32).toNatClampNeg (vp_nar .boolean 0)) → w_M_flows_2 P n (z1 + 1) σ21))))
def w_M_flows (σ : MST) (P : Int32 → MST → Prop) : Prop := (∃ n9 : Nat, w_M_flows_2 P n9 0 σ)
set_option maxHeartbeats 4000000 in
set_option maxRecDepth 100000 in
theorem K_M_flows (l : Launch) (dC : Nat → ClassId) (dI : Nat → Nat → Nat) (mo : Nat) (rf : Nat → Nat) (ca : Nat → ClassId) (sz : Nat) (σ : MST) {P : Int32 → MST → Prop} (hw : w_M_flows σ P) : Met l z_M_flows (mW z_M_flows prog_14_method_58_code 4 (some .boolean)) ({ frames := 7, cells := 0, slots := 0, locals := 162 } : Room) (va_Pc [.ref mo] (MPre (dC, dI) mo rf ca σ sz)) (va_Qi P (MB (dC, dI) mo rf ca sz) (mA mo rf sz)) 0 0 (mA mo rf sz) := by
  refine M_ofz (by decide) rfl (Nat.le_of_ble_eq_true rfl) ?_
  intro p e s m below meth cx Q A ls C hA hend h hl
  have C0 := C
  obtain ⟨⟨hx, hb, hml, hown, hts⟩, hsub⟩ := C0
  have K_114 : ∀ (K66 : Int32 → Int32 → MST → Prop) (hK66 : ∀ (z1 : Int32) (z2 : Int32) (σ : MST) (H : Heap) (locs : List Loc) (ls : Array Slot), K66 z1 z2 σ → MH (dC, dI) A mo rf ca σ s H locs → lv_has ls 4 [(0, .ref mo), (1, .int z1), (2, .int z2)] → W p l e ({ frames := 7, cells := 0, slots := 0, locals := 162 } : Room) s m ([.ref mo] : List Value).toArray below meth cx H locs 0 0 Q (F0 m 66 ls [])), ∀ (z2 : Int32) (s0 : Int32) (s1 : Int32) (σ : MST) (H : Heap) (locs : List Loc) (ls : Array Slot), w_M_flows_114 K66 P z2 s0 s1 σ → MH (dC, dI) A mo rf ca σ s H locs → lv_has ls 4 [(0, .ref mo), (2, .int z2)] → W p l e ({ frames := 7, cells := 0, slots := 0, locals := 162 } : Room) s m ([.ref mo] : List Value).toArray below meth cx H locs 0 0 Q (F0 m 114 ls [.int s0, .int s1]) := by
    intro K66 hK66 z2 s0 s1 σ H locs ls hw h hl
    unfold w_M_flows_114 at hw
    refine lv_iadd hx hb e_M_flows_114 ?_
    refine lv_istore_n (lv' := [(1, .int (s1 + s0)), (0, .ref mo), (2, .int z2)]) hx hb e_M_flows_115 rfl hl (by decide) rfl (fun ls hl => ?_)
    refine lv_iinc (v := (z2 + 1)) (lv' := [(2, .int (z2 + 1)), (1, .int (s1 + s0)), (0, .ref mo)]) hx hb e_M_flows_116 hl (k := 2) rfl (rfl) (by decide) rfl (fun ls hl => ?_)
    refine lv_goto (tgt := 66) hx hb e_M_flows_119 (by decide) ?_
    exact hK66 (s1 + s0) (z2 + 1) σ _ _ _ hw h (lv_sub hl [2, 1, 0] rfl)
  have K_130 : ∀ (n : Nat), ∀ (z2 : Int32) (z3 : Int32) (σ : MST) (H : Heap) (locs : List Loc) (ls : Array Slot), w_M_flows_130 P n z2 z3 σ → MH (dC, dI) A mo rf ca σ s H locs → lv_has ls 4 [(0, .ref mo), (2, .int z2), (3, .int z3)] → W p l e ({ frames := 7, cells := 0, slots := 0, locals := 162 } : Room) s m ([.ref mo] : List Value).toArray below meth cx H locs 0 0 Q (F0 m 130 ls []) := by
    intro  n
    induction n with
    | zero => intro z2 z3 σ H locs ls hw h hl; unfold w_M_flows_130 at hw; exact hw.elim
    | succ n ih =>
      intro z2 z3 σ H locs ls hw h hl
      unfold w_M_flows_130 at hw
      refine lv_iload_n hx hb e_M_flows_130 rfl (lv_at hl 1 rfl) ?_
      refine lv_if_eq (tgt := 173) hx hb e_M_flows_131 (by decide) (fun c1 => ?_) (fun c1 => ?_)
      · skip
        replace hw := hw.1 c1
        refine lv_iload_n hx hb e_M_flows_173 rfl (lv_at hl 1 rfl) ?_
        exact hend z2 σ _ _ _ _ hw.1 hw.2 h e_M_flows_174
      · skip
        replace hw := hw.2 c1
        refine lv_iload_n hx hb e_M_flows_134 rfl (lv_at hl 2 rfl) ?_
        refine lv_bipush (v := 120) hx hb e_M_flows_135 (by decide) ?_
        refine lv_icmp_ge (tgt := 173) hx hb e_M_flows_137 (by decide) (fun c2 => ?_) (fun c2 => ?_)
        · skip
          replace hw := hw.1 c2
          refine lv_iload_n hx hb e_M_flows_173 rfl (lv_at hl 1 rfl) ?_
          exact hend z2 σ _ _ _ _ hw.1 hw.2 h e_M_flows_174
        · skip
          replace hw := hw.2 c2
          refine lv_aload_n hx hb e_M_flows_140 rfl (lv_at hl 0 rfl) ?_
          refine M_get C h 30 (v := .ref (rf 30)) rfl (by decide) v_191 e_M_flows_141 ?_
          refine lv_iload_n hx hb e_M_flows_144 rfl (lv_at hl 2 rfl) ?_
          refine M_zald C h 30 (by decide) rfl hw.1 e_M_flows_145 ?_
          replace hw := hw.2
          refine lv_topi (fun a3 e_a3 => ?_)
          replace hw := hw a3 e_a3
          refine lv_if_eq (tgt := 167) hx hb e_M_flows_146 (by decide) (fun c4 => ?_) (fun c4 => ?_)
          · skip
            replace hw := hw.1 c4
            refine lv_iinc (v := (z3 + 1)) (lv' := [(3, .int (z3 + 1)), (0, .ref mo), (2, .int z2)]) hx hb e_M_flows_167 hl (k := 2) rfl (rfl) (by decide) rfl (fun ls hl => ?_)
            refine lv_goto (tgt := 130) hx hb e_M_flows_170 (by decide) ?_
            exact ih z2 (z3 + 1) σ _ _ _ hw h (lv_sub hl [1, 2, 0] rfl)
          · skip
            replace hw := hw.2 c4
            refine lv_aload_n hx hb e_M_flows_149 rfl (lv_at hl 0 rfl) ?_
            refine M_get C h 30 (v := .ref (rf 30)) rfl (by decide) v_191 e_M_flows_150 ?_
            refine lv_iload_n hx hb e_M_flows_153 rfl (lv_at hl 2 rfl) ?_
            refine lv_iconst (v := 0) hx hb e_M_flows_154 (by decide) ?_
            refine M_zast C h 30 (by decide) rfl hw.1 e_M_flows_155 (fun H locs h => ?_)
            replace hw := hw.2
            obtain ⟨σ5, e_σ5⟩ : ∃ z : MST, z = setA σ 30 (upd (σ.2.1 30) (z3 : Int32).toNatClampNeg (vp_nar .boolean 0)) := ⟨_, rfl⟩
            rw [← e_σ5] at h
            replace hw := hw σ5 e_σ5
            refine lv_aload_n hx hb e_M_flows_156 rfl (lv_at hl 0 rfl) ?_
            refine lv_iload_n hx hb e_M_flows_157 rfl (lv_at hl 2 rfl) ?_
            refine M_calli (As := [.int z3]) (rest := []) C h hA (K_M_look l dC dI mo rf ca H.size σ5 z3 hw) (cwV 1 hts (gV hsub v_221 v_222 v_223 v_7 v_224) rfl rfl rfl (by decide +kernel) ⟨(Nat.le_of_ble_eq_true rfl), (Nat.le_of_ble_eq_true rfl)⟩) rfl hl.1 (Nat.le_of_ble_eq_true rfl) e_M_flows_158 ⟨(Nat.le_of_ble_eq_true rfl), (Nat.le_of_ble_eq_true rfl)⟩ (fun r7 σ6 H locs hw h => ?_)
            refine W.eq (g2 := F0 m 161 ls [.int r7]) rfl ?_
            refine lv_istore_n (lv' := [(2, .int r7), (0, .ref mo), (3, .int z3)]) hx hb e_M_flows_161 rfl hl (by decide) rfl (fun ls hl => ?_)
            refine lv_iconst (v := 0) hx hb e_M_flows_162 (by decide) ?_
            refine lv_istore_n (lv' := [(3, .int 0), (2, .int r7), (0, .ref mo)]) hx hb e_M_flows_163 rfl hl (by decide) rfl (fun ls hl => ?_)
            refine lv_goto (tgt := 130) hx hb e_M_flows_164 (by decide) ?_
            exact ih r7 0 σ6 _ _ _ hw h (lv_sub hl [2, 1, 0] rfl)
  have K_66 : ∀ (n : Nat), ∀ (z1 : Int32) (z2 : Int32) (σ : MST) (H : Heap) (locs : List Loc) (ls : Array Slot), w_M_flows_66 P n z1 z2 σ → MH (dC, dI) A mo rf ca σ s H locs → lv_has ls 4 [(0, .ref mo), (1, .int z1), (2, .int z2)] → W p l e ({ frames := 7, cells := 0, slots := 0, locals := 162 } : Room) s m ([.ref mo] : List Value).toArray below meth cx H locs 0 0 Q (F0 m 66 ls []) := by
    intro  n
    induction n with
    | zero => intro z1 z2 σ H locs ls hw h hl; unfold w_M_flows_66 at hw; exact hw.elim
    | succ n ih =>
      intro z1 z2 σ H locs ls hw h hl
      unfold w_M_flows_66 at hw
      refine lv_iload_n hx hb e_M_flows_66 rfl (lv_at hl 2 rfl) ?_
      refine lv_aload_n hx hb e_M_flows_67 rfl (lv_at hl 0 rfl) ?_
      refine M_get C h 10 (v := .ref (rf 10)) rfl (by decide) v_42 e_M_flows_68 ?_
      refine lv_aload_n hx hb e_M_flows_71 rfl (lv_at hl 0 rfl) ?_
      refine M_get C h 33 (v := .int (σ.1 33)) rfl (by decide) v_116 e_M_flows_72 ?_
      refine M_ald C h 10 (by decide) rfl hw.1 e_M_flows_75 ?_
      replace hw := hw.2
      refine lv_topi (fun a8 e_a8 => ?_)
      replace hw := hw a8 e_a8
      refine lv_icmp_ge (tgt := 122) hx hb e_M_flows_76 (by decide) (fun c9 => ?_) (fun c9 => ?_)
      · skip
        replace hw := hw.1 c9
        refine lv_aload_n hx hb e_M_flows_122 rfl (lv_at hl 0 rfl) ?_
        refine lv_iconst (v := 0) hx hb e_M_flows_123 (by decide) ?_
        refine M_calli (As := [.int 0]) (rest := []) C h hA (K_M_give l dC dI mo rf ca H.size σ (0 : Int32) hw) (cwV 1 hts (gV hsub v_201 v_202 v_203 v_7 v_204) rfl rfl rfl (by decide +kernel) ⟨(Nat.le_of_ble_eq_true rfl), (Nat.le_of_ble_eq_true rfl)⟩) rfl hl.1 (Nat.le_of_ble_eq_true rfl) e_M_flows_124 ⟨(Nat.le_of_ble_eq_true rfl), (Nat.le_of_ble_eq_true rfl)⟩ (fun r11 σ10 H locs hw h => ?_)
        refine W.eq (g2 := F0 m 127 ls [.int r11]) rfl ?_
        refine lv_istore_n (lv' := [(2, .int r11), (0, .ref mo), (1, .int z1)]) hx hb e_M_flows_127 rfl hl (by decide) rfl (fun ls hl => ?_)
        refine lv_iconst (v := 0) hx hb e_M_flows_128 (by decide) ?_
        refine lv_istore_n (lv' := [(3, .int 0), (2, .int r11), (0, .ref mo), (1, .int z1)]) hx hb e_M_flows_129 rfl hl (by decide) rfl (fun ls hl => ?_)
        obtain ⟨n9, hw⟩ := hw
        exact K_130 n9 r11 0 σ10 _ _ _ hw h (lv_sub hl [2, 1, 0] rfl)
      · skip
        replace hw := hw.2 c9
        refine lv_aload_n hx hb e_M_flows_79 rfl (lv_at hl 0 rfl) ?_
        refine M_get C h 41 (v := .ref (rf 41)) rfl (by decide) v_195 e_M_flows_80 ?_
        refine lv_iload_n hx hb e_M_flows_83 rfl (lv_at hl 1 rfl) ?_
        refine lv_aload_n hx hb e_M_flows_84 rfl (lv_at hl 0 rfl) ?_
        refine M_get C h 9 (v := .ref (rf 9)) rfl (by decide) v_45 e_M_flows_85 ?_
        refine lv_iconst (v := 4) hx hb e_M_flows_88 (by decide) ?_
        refine lv_aload_n hx hb e_M_flows_89 rfl (lv_at hl 0 rfl) ?_
        refine M_get C h 33 (v := .int (σ.1 33)) rfl (by decide) v_116 e_M_flows_90 ?_
        refine lv_imul hx hb e_M_flows_93 ?_
        refine lv_iload_n hx hb e_M_flows_94 rfl (lv_at hl 2 rfl) ?_
        refine lv_iadd hx hb e_M_flows_95 ?_
        refine M_ald C h 9 (by decide) rfl hw.1 e_M_flows_96 ?_
        replace hw := hw.2
        refine lv_topi (fun a12 e_a12 => ?_)
        replace hw := hw a12 e_a12
        refine M_ast C h 41 (by decide) rfl hw.1 e_M_flows_97 (fun H locs h => ?_)
        replace hw := hw.2
        obtain ⟨σ13, e_σ13⟩ : ∃ z : MST, z = setA σ 41 (upd (σ.2.1 41) (z1 : Int32).toNatClampNeg a12) := ⟨_, rfl⟩
        rw [← e_σ13] at h
        replace hw := hw σ13 e_σ13
        refine lv_iload_n hx hb e_M_flows_98 rfl (lv_at hl 1 rfl) ?_
        refine lv_aload_n hx hb e_M_flows_99 rfl (lv_at hl 0 rfl) ?_
        refine M_get C h 41 (v := .ref (rf 41)) rfl (by decide) v_195 e_M_flows_100 ?_
        refine lv_iload_n hx hb e_M_flows_103 rfl (lv_at hl 1 rfl) ?_
        refine M_ald C h 41 (by decide) rfl hw.1 e_M_flows_104 ?_
        replace hw := hw.2
        refine lv_topi (fun a14 e_a14 => ?_)
        replace hw := hw a14 e_a14
        refine lv_iconst (v := 2) hx hb e_M_flows_105 (by decide) ?_
        refine lv_icmp_ne (tgt := 113) hx hb e_M_flows_106 (by decide) (fun c15 => ?_) (fun c15 => ?_)
        · skip
          replace hw := hw.2 c15
          refine lv_iconst (v := 1) hx hb e_M_flows_113 (by decide) ?_
          exact K_114 _ ih z2 1 z1 σ13 _ _ _ hw h (lv_sub hl [0, 2] rfl)
        · skip
          replace hw := hw.1 c15
          refine lv_iconst (v := 2) hx hb e_M_flows_109 (by decide) ?_
          refine lv_goto (tgt := 114) hx hb e_M_flows_110 (by decide) ?_
          exact K_114 _ ih z2 2 z1 σ13 _ _ _ hw h (lv_sub hl [0, 2] rfl)
  have K_43 : ∀ (n : Nat), ∀ (z1 : Int32) (σ : MST) (H : Heap) (locs : List Loc) (ls : Array Slot), w_M_flows_43 P n z1 σ → MH (dC, dI) A mo rf ca σ s H locs → lv_has ls 4 [(0, .ref mo), (1, .int z1)] → W p l e ({ frames := 7, cells := 0, slots := 0, locals := 162 } : Room) s m ([.ref mo] : List Value).toArray below meth cx H locs 0 0 Q (F0 m 43 ls []) := by
    intro  n
    induction n with
    | zero => intro z1 σ H locs ls hw h hl; unfold w_M_flows_43 at hw; exact hw.elim
    | succ n ih =>
      intro z1 σ H locs ls hw h hl
      unfold w_M_flows_43 at hw
      refine lv_iload_n hx hb e_M_flows_43 rfl (lv_at hl 1 rfl) ?_
      refine lv_bipush (v := 12) hx hb e_M_flows_44 (by decide) ?_
      refine lv_icmp_ge (tgt := 62) hx hb e_M_flows_46 (by decide) (fun c16 => ?_) (fun c16 => ?_)
      · skip
        replace hw := hw.1 c16
        refine lv_iconst (v := 0) hx hb e_M_flows_62 (by decide) ?_
        refine lv_istore_n (lv' := [(1, .int 0), (0, .ref mo)]) hx hb e_M_flows_63 rfl hl (by decide) rfl (fun ls hl => ?_)
        refine lv_iconst (v := 0) hx hb e_M_flows_64 (by decide) ?_
        refine lv_istore_n (lv' := [(2, .int 0), (1, .int 0), (0, .ref mo)]) hx hb e_M_flows_65 rfl hl (by decide) rfl (fun ls hl => ?_)
        obtain ⟨n9, hw⟩ := hw
        exact K_66 n9 0 0 σ _ _ _ hw h (lv_sub hl [2, 1, 0] rfl)
      · skip
        replace hw := hw.2 c16
        refine lv_aload_n hx hb e_M_flows_49 rfl (lv_at hl 0 rfl) ?_
        refine M_get C h 41 (v := .ref (rf 41)) rfl (by decide) v_195 e_M_flows_50 ?_
        refine lv_iload_n hx hb e_M_flows_53 rfl (lv_at hl 1 rfl) ?_
        refine lv_iconst (v := 0) hx hb e_M_flows_54 (by decide) ?_
        refine M_ast C h 41 (by decide) rfl hw.1 e_M_flows_55 (fun H locs h => ?_)
        replace hw := hw.2
        obtain ⟨σ17, e_σ17⟩ : ∃ z : MST, z = setA σ 41 (upd (σ.2.1 41) (z1 : Int32).toNatClampNeg 0) := ⟨_, rfl⟩
        rw [← e_σ17] at h
        replace hw := hw σ17 e_σ17
        refine lv_iinc (v := (z1 + 1)) (lv' := [(1, .int (z1 + 1)), (0, .ref mo)]) hx hb e_M_flows_56 hl (k := 1) rfl (rfl) (by decide) rfl (fun ls hl => ?_)
        refine lv_goto (tgt := 43) hx hb e_M_flows_59 (by decide) ?_
        exact ih (z1 + 1) σ17 _ _ _ hw h (lv_sub hl [1, 0] rfl)
  have K_2 : ∀ (n : Nat), ∀ (z1 : Int32) (σ : MST) (H : Heap) (locs : List Loc) (ls : Array Slot), w_M_flows_2 P n z1 σ → MH (dC, dI) A mo rf ca σ s H locs → lv_has ls 4 [(0, .ref mo), (1, .int z1)] → W p l e ({ frames := 7, cells := 0, slots := 0, locals := 162 } : Room) s m ([.ref mo] : List Value).toArray below meth cx H locs 0 0 Q (F0 m 2 ls []) := by
    intro  n
    induction n with
    | zero => intro z1 σ H locs ls hw h hl; unfold w_M_flows_2 at hw; exact hw.elim
    | succ n ih =>
      intro z1 σ H locs ls hw h hl
      unfold w_M_flows_2 at hw
      refine lv_iload_n hx hb e_M_flows_2 rfl (lv_at hl 1 rfl) ?_
      refine lv_bipush (v := 120) hx hb e_M_flows_3 (by decide) ?_
      refine lv_icmp_ge (tgt := 36) hx hb e_M_flows_5 (by decide) (fun c18 => ?_) (fun c18 => ?_)
      · skip
        replace hw := hw.1 c18
        refine lv_aload_n hx hb e_M_flows_36 rfl (lv_at hl 0 rfl) ?_
        refine lv_iconst (v := 0) hx hb e_M_flows_37 (by decide) ?_
        refine M_puti C h 43 (by decide) rfl rfl (by decide +kernel) v_190 e_M_flows_38 (fun H locs h => ?_)
        obtain ⟨σ19, e_σ19⟩ : ∃ z : MST, z = setI σ 43 0 := ⟨_, rfl⟩
        rw [← e_σ19] at h
        replace hw := hw σ19 e_σ19
        refine lv_iconst (v := 0) hx hb e_M_flows_41 (by decide) ?_
        refine lv_istore_n (lv' := [(1, .int 0), (0, .ref mo)]) hx hb e_M_flows_42 rfl hl (by decide) rfl (fun ls hl => ?_)
        obtain ⟨n9, hw⟩ := hw
        exact K_43 n9 0 σ19 _ _ _ hw h (lv_sub hl [1, 0] rfl)
      · skip
        replace hw := hw.2 c18
        refine lv_aload_n hx hb e_M_flows_8 rfl (lv_at hl 0 rfl) ?_
        refine M_get C h 27 (v := .ref (rf 27)) rfl (by decide) v_200 e_M_flows_9 ?_
        refine lv_bipush (v := 120) hx hb e_M_flows_12 (by decide) ?_
        refine lv_aload_n hx hb e_M_flows_14 rfl (lv_at hl 0 rfl) ?_
        refine M_get C h 33 (v := .int (σ.1 33)) rfl (by decide) v_116 e_M_flows_15 ?_
        refine lv_imul hx hb e_M_flows_18 ?_
        refine lv_iload_n hx hb e_M_flows_19 rfl (lv_at hl 1 rfl) ?_
        refine lv_iadd hx hb e_M_flows_20 ?_
        refine lv_iconst (v := (-1)) hx hb e_M_flows_21 (by decide) ?_
        refine M_ast C h 27 (by decide) rfl hw.1 e_M_flows_22 (fun H locs h => ?_)
        replace hw := hw.2
        obtain ⟨σ20, e_σ20⟩ : ∃ z : MST, z = setA σ 27 (upd (σ.2.1 27) ((((120 : Int32) * (σ.1 33)) + z1) : Int32).toNatClampNeg (-1)) := ⟨_, rfl⟩
        rw [← e_σ20] at h
        replace hw := hw σ20 e_σ20
        refine lv_aload_n hx hb e_M_flows_23 rfl (lv_at hl 0 rfl) ?_
        refine M_get C h 30 (v := .ref (rf 30)) rfl (by decide) v_191 e_M_flows_24 ?_
        refine lv_iload_n hx hb e_M_flows_27 rfl (lv_at hl 1 rfl) ?_
        refine lv_iconst (v := 0) hx hb e_M_flows_28 (by decide) ?_
        refine M_zast C h 30 (by decide) rfl hw.1 e_M_flows_29 (fun H locs h => ?_)
        replace hw := hw.2
        obtain ⟨σ21, e_σ21⟩ : ∃ z : MST, z = setA σ20 30 (upd (σ20.2.1 30) (z1 : Int32).toNatClampNeg (vp_nar .boolean 0)) := ⟨_, rfl⟩
        rw [← e_σ21] at h
        replace hw := hw σ21 e_σ21
        refine lv_iinc (v := (z1 + 1)) (lv' := [(1, .int (z1 + 1)), (0, .ref mo)]) hx hb e_M_flows_30 hl (k := 1) rfl (rfl) (by decide) rfl (fun ls hl => ?_)
        refine lv_goto (tgt := 2) hx hb e_M_flows_33 (by decide) ?_
        exact ih (z1 + 1) σ21 _ _ _ hw h (lv_sub hl [1, 0] rfl)
  have hl : lv_has ls 4 [(0, .ref mo)] := hl
  unfold w_M_flows at hw
  refine lv_iconst (v := 0) hx hb e_M_flows_0 (by decide) ?_
  refine lv_istore_n (lv' := [(1, .int 0), (0, .ref mo)]) hx hb e_M_flows_1 rfl hl (by decide) rfl (fun ls hl => ?_)
  obtain ⟨n9, hw⟩ := hw
  exact K_2 n9 0 σ _ _ _ hw h (lv_sub hl [1, 0] rfl)
abbrev z_M_addCut : MethodName := ⟨"MapFramerModel", "addCut", "(IIII)V"⟩
theorem v_225 : (Cond.fieldLink "MapFramerModel" 114 "MapFramerModel" "cutFrom" "[I" : Cond) ∈ bigW := inB_8 106 (by decide +kernel) rfl
theorem v_226 : (Cond.fieldLink "MapFramerModel" 353 "MapFramerModel" "cuts" "I" : Cond) ∈ bigW := inB_8 105 (by decide +kernel) rfl
theorem v_227 : (Cond.fieldLink "MapFramerModel" 117 "MapFramerModel" "cutTo" "[I" : Cond) ∈ bigW := inB_8 107 (by decide +kernel) rfl
theorem v_228 : (Cond.fieldLink "MapFramerModel" 120 "MapFramerModel" "cutPlace" "[I" : Cond) ∈ bigW := inB_8 108 (by decide +kernel) rfl
theorem v_229 : (Cond.fieldLink "MapFramerModel" 123 "MapFramerModel" "cutClass" "[I" : Cond) ∈ bigW := inB_8 109 (by decide +kernel) rfl
theorem e_M_addCut_0 : decode prog_14_method_59_code 0 = .ok (.aload_n 0, 1) := by decide +kernel
theorem e_M_addCut_1 : decode prog_14_method_59_code 1 = .ok (.getfield 114, 3) := by decide +kernel
theorem e_M_addCut_4 : decode prog_14_method_59_code 4 = .ok (.aload_n 0, 1) := by decide +kernel
theorem e_M_addCut_5 : decode prog_14_method_59_code 5 = .ok (.getfield 353, 3) := by decide +kernel
theorem e_M_addCut_8 : decode prog_14_method_59_code 8 = .ok (.iload_n 1, 1) := by decide +kernel
theorem e_M_addCut_9 : decode prog_14_method_59_code 9 = .ok (.iastore, 1) := by decide +kernel
theorem e_M_addCut_10 : decode prog_14_method_59_code 10 = .ok (.aload_n 0, 1) := by decide +kernel
theorem e_M_addCut_11 : decode prog_14_method_59_code 11 = .ok (.getfield 117, 3) := by decide +kernel
theorem e_M_addCut_14 : decode prog_14_method_59_code 14 = .ok (.aload_n 0, 1) := by decide +kernel
theorem e_M_addCut_15 : decode prog_14_method_59_code 15 = .ok (.getfield 353, 3) := by decide +kernel
theorem e_M_addCut_18 : decode prog_14_method_59_code 18 = .ok (.iload_n 2, 1) := by decide +kernel
theorem e_M_addCut_19 : decode prog_14_method_59_code 19 = .ok (.iastore, 1) := by decide +kernel
theorem e_M_addCut_20 : decode prog_14_method_59_code 20 = .ok (.aload_n 0, 1) := by decide +kernel
theorem e_M_addCut_21 : decode prog_14_method_59_code 21 = .ok (.getfield 120, 3) := by decide +kernel
theorem e_M_addCut_24 : decode prog_14_method_59_code 24 = .ok (.aload_n 0, 1) := by decide +kernel
theorem e_M_addCut_25 : decode prog_14_method_59_code 25 = .ok (.getfield 353, 3) := by decide +kernel
theorem e_M_addCut_28 : decode prog_14_method_59_code 28 = .ok (.iload_n 3, 1) := by decide +kernel
theorem e_M_addCut_29 : decode prog_14_method_59_code 29 = .ok (.iastore, 1) := by decide +kernel
theorem e_M_addCut_30 : decode prog_14_method_59_code 30 = .ok (.aload_n 0, 1) := by decide +kernel
theorem e_M_addCut_31 : decode prog_14_method_59_code 31 = .ok (.getfield 123, 3) := by decide +kernel
theorem e_M_addCut_34 : decode prog_14_method_59_code 34 = .ok (.aload_n 0, 1) := by decide +kernel
theorem e_M_addCut_35 : decode prog_14_method_59_code 35 = .ok (.getfield 353, 3) := by decide +kernel
theorem e_M_addCut_38 : decode prog_14_method_59_code 38 = .ok (.iload 4, 2) := by decide +kernel
theorem e_M_addCut_40 : decode prog_14_method_59_code 40 = .ok (.iastore, 1) := by decide +kernel
theorem e_M_addCut_41 : decode prog_14_method_59_code 41 = .ok (.aload_n 0, 1) := by decide +kernel
theorem e_M_addCut_42 : decode prog_14_method_59_code 42 = .ok (.dup, 1) := by decide +kernel
theorem e_M_addCut_43 : decode prog_14_method_59_code 43 = .ok (.getfield 353, 3) := by decide +kernel
theorem e_M_addCut_46 : decode prog_14_method_59_code 46 = .ok (.iconst 1, 1) := by decide +kernel
theorem e_M_addCut_47 : decode prog_14_method_59_code 47 = .ok (.iadd, 1) := by decide +kernel
theorem e_M_addCut_48 : decode prog_14_method_59_code 48 = .ok (.putfield 353, 3) := by decide +kernel
theorem e_M_addCut_51 : decode prog_14_method_59_code 51 = .ok (.return_, 1) := by decide +kernel
def w_M_addCut (x1 : Int32) (x2 : Int32) (x3 : Int32) (x4 : Int32) (σ : MST) (P : MST → Prop) : Prop := vp_in (σ.1 45) 40 ∧ (∀ σ1 : MST, σ1 = setA σ 46 (upd (σ.2.1 46) ((σ.1 45) : Int32).toNatClampNeg x1) → vp_in (σ1.1 45) 40 ∧ (∀ σ2 : MST, σ2 = setA σ1 47 (upd (σ1.2.1 47) ((σ1.1 45) : Int32).toNatClampNeg x2) → vp_in (σ2.1 45) 40 ∧ (∀ σ3 : MST, σ3 = setA σ2 48 (upd (σ2.2.1 48) ((σ2.1 45) : Int32).toNatClampNeg x3) → vp_in (σ3.1 45) 40 ∧ (∀ σ4 : MST, σ4 = setA σ3 49 (upd (σ3.2.1 49) ((σ3.1 45) : Int32).toNatClampNeg x4) → ∀ σ5 : MST, σ5 = setI σ4 45 ((σ4.1 45) + 1) → P σ5))))
set_option maxHeartbeats 4000000 in
set_option maxRecDepth 100000 in
theorem K_M_addCut (l : Launch) (dC : Nat → ClassId) (dI : Nat → Nat → Nat) (mo : Nat) (rf : Nat → Nat) (ca : Nat → ClassId) (sz : Nat) (σ : MST) (x1 : Int32) (x2 : Int32) (x3 : Int32) (x4 : Int32) {P : MST → Prop} (hw : w_M_addCut x1 x2 x3 x4 σ P) : Met l z_M_addCut (mW z_M_addCut prog_14_method_59_code 5 none) ({ frames := 0, cells := 0, slots := 0, locals := 0 } : Room) (va_Pc [.ref mo, .int x1, .int x2, .int x3, .int x4] (MPre (dC, dI) mo rf ca σ sz)) (va_Qv P (MB (dC, dI) mo rf ca sz) (mA mo rf sz)) 0 0 (mA mo rf sz) := by
  refine M_ofv (by decide) rfl (Nat.le_of_ble_eq_true rfl) ?_
  intro p e s m below meth cx Q A ls C hA hend h hl
  have C0 := C
  obtain ⟨⟨hx, hb, hml, hown, hts⟩, hsub⟩ := C0
  have hl : lv_has ls 5 [(0, .ref mo), (1, .int x1), (2, .int x2), (3, .int x3), (4, .int x4)] := hl
  unfold w_M_addCut at hw
  refine lv_aload_n hx hb e_M_addCut_0 rfl (lv_at hl 0 rfl) ?_
  refine M_get C h 46 (v := .ref (rf 46)) rfl (by decide) v_225 e_M_addCut_1 ?_
  refine lv_aload_n hx hb e_M_addCut_4 rfl (lv_at hl 0 rfl) ?_
  refine M_get C h 45 (v := .int (σ.1 45)) rfl (by decide) v_226 e_M_addCut_5 ?_
  refine lv_iload_n hx hb e_M_addCut_8 rfl (lv_at hl 1 rfl) ?_
  refine M_ast C h 46 (by decide) rfl hw.1 e_M_addCut_9 (fun H locs h => ?_)
  replace hw := hw.2
  obtain ⟨σ1, e_σ1⟩ : ∃ z : MST, z = setA σ 46 (upd (σ.2.1 46) ((σ.1 45) : Int32).toNatClampNeg x1) := ⟨_, rfl⟩
  rw [← e_σ1] at h
  replace hw := hw σ1 e_σ1
  refine lv_aload_n hx hb e_M_addCut_10 rfl (lv_at hl 0 rfl) ?_
  refine M_get C h 47 (v := .ref (rf 47)) rfl (by decide) v_227 e_M_addCut_11 ?_
  refine lv_aload_n hx hb e_M_addCut_14 rfl (lv_at hl 0 rfl) ?_
  refine M_get C h 45 (v := .int (σ1.1 45)) rfl (by decide) v_226 e_M_addCut_15 ?_
  refine lv_iload_n hx hb e_M_addCut_18 rfl (lv_at hl 2 rfl) ?_
  refine M_ast C h 47 (by decide) rfl hw.1 e_M_addCut_19 (fun H locs h => ?_)
  replace hw := hw.2
  obtain ⟨σ2, e_σ2⟩ : ∃ z : MST, z = setA σ1 47 (upd (σ1.2.1 47) ((σ1.1 45) : Int32).toNatClampNeg x2) := ⟨_, rfl⟩
  rw [← e_σ2] at h
  replace hw := hw σ2 e_σ2
  refine lv_aload_n hx hb e_M_addCut_20 rfl (lv_at hl 0 rfl) ?_
  refine M_get C h 48 (v := .ref (rf 48)) rfl (by decide) v_228 e_M_addCut_21 ?_
  refine lv_aload_n hx hb e_M_addCut_24 rfl (lv_at hl 0 rfl) ?_
  refine M_get C h 45 (v := .int (σ2.1 45)) rfl (by decide) v_226 e_M_addCut_25 ?_
  refine lv_iload_n hx hb e_M_addCut_28 rfl (lv_at hl 3 rfl) ?_
  refine M_ast C h 48 (by decide) rfl hw.1 e_M_addCut_29 (fun H locs h => ?_)
  replace hw := hw.2
  obtain ⟨σ3, e_σ3⟩ : ∃ z : MST, z = setA σ2 48 (upd (σ2.2.1 48) ((σ2.1 45) : Int32).toNatClampNeg x3) := ⟨_, rfl⟩
  rw [← e_σ3] at h
  replace hw := hw σ3 e_σ3
  refine lv_aload_n hx hb e_M_addCut_30 rfl (lv_at hl 0 rfl) ?_
  refine M_get C h 49 (v := .ref (rf 49)) rfl (by decide) v_229 e_M_addCut_31 ?_
  refine lv_aload_n hx hb e_M_addCut_34 rfl (lv_at hl 0 rfl) ?_
  refine M_get C h 45 (v := .int (σ3.1 45)) rfl (by decide) v_226 e_M_addCut_35 ?_
  refine lv_iload hx hb e_M_addCut_38 (lv_at hl 4 rfl) ?_
  refine M_ast C h 49 (by decide) rfl hw.1 e_M_addCut_40 (fun H locs h => ?_)
  replace hw := hw.2
  obtain ⟨σ4, e_σ4⟩ : ∃ z : MST, z = setA σ3 49 (upd (σ3.2.1 49) ((σ3.1 45) : Int32).toNatClampNeg x4) := ⟨_, rfl⟩
  rw [← e_σ4] at h
  replace hw := hw σ4 e_σ4
  refine lv_aload_n hx hb e_M_addCut_41 rfl (lv_at hl 0 rfl) ?_
  refine lv_dup hx hb e_M_addCut_42 rfl ?_
  refine M_get C h 45 (v := .int (σ4.1 45)) rfl (by decide) v_226 e_M_addCut_43 ?_
  refine lv_iconst (v := 1) hx hb e_M_addCut_46 (by decide) ?_
  refine lv_iadd hx hb e_M_addCut_47 ?_
  refine M_puti C h 45 (by decide) rfl rfl (by decide +kernel) v_226 e_M_addCut_48 (fun H locs h => ?_)
  obtain ⟨σ5, e_σ5⟩ : ∃ z : MST, z = setI σ4 45 ((σ4.1 45) + 1) := ⟨_, rfl⟩
  rw [← e_σ5] at h
  replace hw := hw σ5 e_σ5
  exact hend σ5 _ _ _ _ hw h e_M_addCut_51
abbrev z_M_cut : MethodName := ⟨"MapFramerModel", "cut", "(II)V"⟩
theorem v_230 : (Cond.methodLink "MapFramerModel" 356 ⟨"MapFramerModel", "addCut", "(IIII)V"⟩ : Cond) ∈ bigW := inB_10 22 (by decide +kernel) rfl
theorem v_231 : (Cond.instanceMethod ⟨"MapFramerModel", "addCut", "(IIII)V"⟩ : Cond) ∈ bigW := inB_10 24 (by decide +kernel) rfl
theorem v_232 : (Cond.selects "MapFramerModel" ⟨"MapFramerModel", "addCut", "(IIII)V"⟩ ⟨"MapFramerModel", "addCut", "(IIII)V"⟩ : Cond) ∈ bigW := inS (y := ⟨"MapFramerModel", "addCut", "(IIII)V"⟩) (n := 71) (List.mem_of_getElem? (i := 121) (by decide +kernel))
theorem v_233 : (Cond.code ⟨"MapFramerModel", "addCut", "(IIII)V"⟩ prog_14_method_59_code 5 none : Cond) ∈ bigW := inB_10 25 rfl rfl
theorem e_M_cut_0 : decode prog_14_method_60_code 0 = .ok (.aload_n 0, 1) := by decide +kernel
theorem e_M_cut_1 : decode prog_14_method_60_code 1 = .ok (.getfield 353, 3) := by decide +kernel
theorem e_M_cut_4 : decode prog_14_method_60_code 4 = .ok (.istore_n 3, 1) := by decide +kernel
theorem e_M_cut_5 : decode prog_14_method_60_code 5 = .ok (.iconst 0, 1) := by decide +kernel
theorem e_M_cut_6 : decode prog_14_method_60_code 6 = .ok (.istore 4, 2) := by decide +kernel
theorem e_M_cut_8 : decode prog_14_method_60_code 8 = .ok (.iload 4, 2) := by decide +kernel
theorem e_M_cut_10 : decode prog_14_method_60_code 10 = .ok (.iload_n 3, 1) := by decide +kernel
theorem e_M_cut_11 : decode prog_14_method_60_code 11 = .ok (.if_icmp .ge 118, 3) := by decide +kernel
theorem e_M_cut_14 : decode prog_14_method_60_code 14 = .ok (.aload_n 0, 1) := by decide +kernel
theorem e_M_cut_15 : decode prog_14_method_60_code 15 = .ok (.getfield 114, 3) := by decide +kernel
theorem e_M_cut_18 : decode prog_14_method_60_code 18 = .ok (.iload 4, 2) := by decide +kernel
theorem e_M_cut_20 : decode prog_14_method_60_code 20 = .ok (.iaload, 1) := by decide +kernel
theorem e_M_cut_21 : decode prog_14_method_60_code 21 = .ok (.istore 5, 2) := by decide +kernel
theorem e_M_cut_23 : decode prog_14_method_60_code 23 = .ok (.aload_n 0, 1) := by decide +kernel
theorem e_M_cut_24 : decode prog_14_method_60_code 24 = .ok (.getfield 117, 3) := by decide +kernel
theorem e_M_cut_27 : decode prog_14_method_60_code 27 = .ok (.iload 4, 2) := by decide +kernel
theorem e_M_cut_29 : decode prog_14_method_60_code 29 = .ok (.iaload, 1) := by decide +kernel
theorem e_M_cut_30 : decode prog_14_method_60_code 30 = .ok (.istore 6, 2) := by decide +kernel
theorem e_M_cut_32 : decode prog_14_method_60_code 32 = .ok (.iload 6, 2) := by decide +kernel
theorem e_M_cut_34 : decode prog_14_method_60_code 34 = .ok (.iload_n 1, 1) := by decide +kernel
theorem e_M_cut_35 : decode prog_14_method_60_code 35 = .ok (.if_icmp .le 9, 3) := by decide +kernel
theorem e_M_cut_38 : decode prog_14_method_60_code 38 = .ok (.iload 5, 2) := by decide +kernel
theorem e_M_cut_40 : decode prog_14_method_60_code 40 = .ok (.iload_n 2, 1) := by decide +kernel
theorem e_M_cut_41 : decode prog_14_method_60_code 41 = .ok (.if_icmp .lt 28, 3) := by decide +kernel
theorem e_M_cut_44 : decode prog_14_method_60_code 44 = .ok (.aload_n 0, 1) := by decide +kernel
theorem e_M_cut_45 : decode prog_14_method_60_code 45 = .ok (.iload 5, 2) := by decide +kernel
theorem e_M_cut_47 : decode prog_14_method_60_code 47 = .ok (.iload 6, 2) := by decide +kernel
theorem e_M_cut_49 : decode prog_14_method_60_code 49 = .ok (.aload_n 0, 1) := by decide +kernel
theorem e_M_cut_50 : decode prog_14_method_60_code 50 = .ok (.getfield 120, 3) := by decide +kernel
theorem e_M_cut_53 : decode prog_14_method_60_code 53 = .ok (.iload 4, 2) := by decide +kernel
theorem e_M_cut_55 : decode prog_14_method_60_code 55 = .ok (.iaload, 1) := by decide +kernel
theorem e_M_cut_56 : decode prog_14_method_60_code 56 = .ok (.aload_n 0, 1) := by decide +kernel
theorem e_M_cut_57 : decode prog_14_method_60_code 57 = .ok (.getfield 123, 3) := by decide +kernel
theorem e_M_cut_60 : decode prog_14_method_60_code 60 = .ok (.iload 4, 2) := by decide +kernel
theorem e_M_cut_62 : decode prog_14_method_60_code 62 = .ok (.iaload, 1) := by decide +kernel
theorem e_M_cut_63 : decode prog_14_method_60_code 63 = .ok (.invokevirtual 356, 3) := by decide +kernel
theorem e_M_cut_66 : decode prog_14_method_60_code 66 = .ok (.goto 57, 3) := by decide +kernel
theorem e_M_cut_69 : decode prog_14_method_60_code 69 = .ok (.iload 5, 2) := by decide +kernel
theorem e_M_cut_71 : decode prog_14_method_60_code 71 = .ok (.iload_n 1, 1) := by decide +kernel
theorem e_M_cut_72 : decode prog_14_method_60_code 72 = .ok (.if_icmp .ge 24, 3) := by decide +kernel
theorem e_M_cut_75 : decode prog_14_method_60_code 75 = .ok (.aload_n 0, 1) := by decide +kernel
theorem e_M_cut_76 : decode prog_14_method_60_code 76 = .ok (.iload 5, 2) := by decide +kernel
theorem e_M_cut_78 : decode prog_14_method_60_code 78 = .ok (.iload_n 1, 1) := by decide +kernel
theorem e_M_cut_79 : decode prog_14_method_60_code 79 = .ok (.aload_n 0, 1) := by decide +kernel
theorem e_M_cut_80 : decode prog_14_method_60_code 80 = .ok (.getfield 120, 3) := by decide +kernel
theorem e_M_cut_83 : decode prog_14_method_60_code 83 = .ok (.iload 4, 2) := by decide +kernel
theorem e_M_cut_85 : decode prog_14_method_60_code 85 = .ok (.iaload, 1) := by decide +kernel
theorem e_M_cut_86 : decode prog_14_method_60_code 86 = .ok (.aload_n 0, 1) := by decide +kernel
theorem e_M_cut_87 : decode prog_14_method_60_code 87 = .ok (.getfield 123, 3) := by decide +kernel
theorem e_M_cut_90 : decode prog_14_method_60_code 90 = .ok (.iload 4, 2) := by decide +kernel
theorem e_M_cut_92 : decode prog_14_method_60_code 92 = .ok (.iaload, 1) := by decide +kernel
theorem e_M_cut_93 : decode prog_14_method_60_code 93 = .ok (.invokevirtual 356, 3) := by decide +kernel
theorem e_M_cut_96 : decode prog_14_method_60_code 96 = .ok (.iload 6, 2) := by decide +kernel
theorem e_M_cut_98 : decode prog_14_method_60_code 98 = .ok (.iload_n 2, 1) := by decide +kernel
theorem e_M_cut_99 : decode prog_14_method_60_code 99 = .ok (.if_icmp .le 24, 3) := by decide +kernel
theorem e_M_cut_102 : decode prog_14_method_60_code 102 = .ok (.aload_n 0, 1) := by decide +kernel
theorem e_M_cut_103 : decode prog_14_method_60_code 103 = .ok (.iload_n 2, 1) := by decide +kernel
theorem e_M_cut_104 : decode prog_14_method_60_code 104 = .ok (.iload 6, 2) := by decide +kernel
theorem e_M_cut_106 : decode prog_14_method_60_code 106 = .ok (.aload_n 0, 1) := by decide +kernel
theorem e_M_cut_107 : decode prog_14_method_60_code 107 = .ok (.getfield 120, 3) := by decide +kernel
theorem e_M_cut_110 : decode prog_14_method_60_code 110 = .ok (.iload 4, 2) := by decide +kernel
theorem e_M_cut_112 : decode prog_14_method_60_code 112 = .ok (.iaload, 1) := by decide +kernel
theorem e_M_cut_113 : decode prog_14_method_60_code 113 = .ok (.aload_n 0, 1) := by decide +kernel
theorem e_M_cut_114 : decode prog_14_method_60_code 114 = .ok (.getfield 123, 3) := by decide +kernel
theorem e_M_cut_117 : decode prog_14_method_60_code 117 = .ok (.iload 4, 2) := by decide +kernel
theorem e_M_cut_119 : decode prog_14_method_60_code 119 = .ok (.iaload, 1) := by decide +kernel
theorem e_M_cut_120 : decode prog_14_method_60_code 120 = .ok (.invokevirtual 356, 3) := by decide +kernel
theorem e_M_cut_123 : decode prog_14_method_60_code 123 = .ok (.iinc 4 1, 3) := by decide +kernel
theorem e_M_cut_126 : decode prog_14_method_60_code 126 = .ok (.goto (-118), 3) := by decide +kernel
theorem e_M_cut_129 : decode prog_14_method_60_code 129 = .ok (.iload_n 3, 1) := by decide +kernel
theorem e_M_cut_130 : decode prog_14_method_60_code 130 = .ok (.istore 4, 2) := by decide +kernel
theorem e_M_cut_132 : decode prog_14_method_60_code 132 = .ok (.iload 4, 2) := by decide +kernel
theorem e_M_cut_134 : decode prog_14_method_60_code 134 = .ok (.aload_n 0, 1) := by decide +kernel
theorem e_M_cut_135 : decode prog_14_method_60_code 135 = .ok (.getfield 353, 3) := by decide +kernel
theorem e_M_cut_138 : decode prog_14_method_60_code 138 = .ok (.if_icmp .ge 73, 3) := by decide +kernel
theorem e_M_cut_141 : decode prog_14_method_60_code 141 = .ok (.aload_n 0, 1) := by decide +kernel
theorem e_M_cut_142 : decode prog_14_method_60_code 142 = .ok (.getfield 114, 3) := by decide +kernel
theorem e_M_cut_145 : decode prog_14_method_60_code 145 = .ok (.iload 4, 2) := by decide +kernel
theorem e_M_cut_147 : decode prog_14_method_60_code 147 = .ok (.iload_n 3, 1) := by decide +kernel
theorem e_M_cut_148 : decode prog_14_method_60_code 148 = .ok (.isub, 1) := by decide +kernel
theorem e_M_cut_149 : decode prog_14_method_60_code 149 = .ok (.aload_n 0, 1) := by decide +kernel
theorem e_M_cut_150 : decode prog_14_method_60_code 150 = .ok (.getfield 114, 3) := by decide +kernel
theorem e_M_cut_153 : decode prog_14_method_60_code 153 = .ok (.iload 4, 2) := by decide +kernel
theorem e_M_cut_155 : decode prog_14_method_60_code 155 = .ok (.iaload, 1) := by decide +kernel
theorem e_M_cut_156 : decode prog_14_method_60_code 156 = .ok (.iastore, 1) := by decide +kernel
theorem e_M_cut_157 : decode prog_14_method_60_code 157 = .ok (.aload_n 0, 1) := by decide +kernel
theorem e_M_cut_158 : decode prog_14_method_60_code 158 = .ok (.getfield 117, 3) := by decide +kernel
theorem e_M_cut_161 : decode prog_14_method_60_code 161 = .ok (.iload 4, 2) := by decide +kernel
theorem e_M_cut_163 : decode prog_14_method_60_code 163 = .ok (.iload_n 3, 1) := by decide +kernel
theorem e_M_cut_164 : decode prog_14_method_60_code 164 = .ok (.isub, 1) := by decide +kernel
theorem e_M_cut_165 : decode prog_14_method_60_code 165 = .ok (.aload_n 0, 1) := by decide +kernel
theorem e_M_cut_166 : decode prog_14_method_60_code 166 = .ok (.getfield 117, 3) := by decide +kernel
theorem e_M_cut_169 : decode prog_14_method_60_code 169 = .ok (.iload 4, 2) := by decide +kernel
theorem e_M_cut_171 : decode prog_14_method_60_code 171 = .ok (.iaload, 1) := by decide +kernel
theorem e_M_cut_172 : decode prog_14_method_60_code 172 = .ok (.iastore, 1) := by decide +kernel
theorem e_M_cut_173 : decode prog_14_method_60_code 173 = .ok (.aload_n 0, 1) := by decide +kernel
theorem e_M_cut_174 : decode prog_14_method_60_code 174 = .ok (.getfield 120, 3) := by decide +kernel
theorem e_M_cut_177 : decode prog_14_method_60_code 177 = .ok (.iload 4, 2) := by decide +kernel
theorem e_M_cut_179 : decode prog_14_method_60_code 179 = .ok (.iload_n 3, 1) := by decide +kernel
theorem e_M_cut_180 : decode prog_14_method_60_code 180 = .ok (.isub, 1) := by decide +kernel
theorem e_M_cut_181 : decode prog_14_method_60_code 181 = .ok (.aload_n 0, 1) := by decide +kernel
theorem e_M_cut_182 : decode prog_14_method_60_code 182 = .ok (.getfield 120, 3) := by decide +kernel
theorem e_M_cut_185 : decode prog_14_method_60_code 185 = .ok (.iload 4, 2) := by decide +kernel
theorem e_M_cut_187 : decode prog_14_method_60_code 187 = .ok (.iaload, 1) := by decide +kernel
theorem e_M_cut_188 : decode prog_14_method_60_code 188 = .ok (.iastore, 1) := by decide +kernel
theorem e_M_cut_189 : decode prog_14_method_60_code 189 = .ok (.aload_n 0, 1) := by decide +kernel
theorem e_M_cut_190 : decode prog_14_method_60_code 190 = .ok (.getfield 123, 3) := by decide +kernel
theorem e_M_cut_193 : decode prog_14_method_60_code 193 = .ok (.iload 4, 2) := by decide +kernel
theorem e_M_cut_195 : decode prog_14_method_60_code 195 = .ok (.iload_n 3, 1) := by decide +kernel
theorem e_M_cut_196 : decode prog_14_method_60_code 196 = .ok (.isub, 1) := by decide +kernel
theorem e_M_cut_197 : decode prog_14_method_60_code 197 = .ok (.aload_n 0, 1) := by decide +kernel
theorem e_M_cut_198 : decode prog_14_method_60_code 198 = .ok (.getfield 123, 3) := by decide +kernel
theorem e_M_cut_201 : decode prog_14_method_60_code 201 = .ok (.iload 4, 2) := by decide +kernel
theorem e_M_cut_203 : decode prog_14_method_60_code 203 = .ok (.iaload, 1) := by decide +kernel
theorem e_M_cut_204 : decode prog_14_method_60_code 204 = .ok (.iastore, 1) := by decide +kernel
theorem e_M_cut_205 : decode prog_14_method_60_code 205 = .ok (.iinc 4 1, 3) := by decide +kernel
theorem e_M_cut_208 : decode prog_14_method_60_code 208 = .ok (.goto (-76), 3) := by decide +kernel
theorem e_M_cut_211 : decode prog_14_method_60_code 211 = .ok (.aload_n 0, 1) := by decide +kernel
theorem e_M_cut_212 : decode prog_14_method_60_code 212 = .ok (.dup, 1) := by decide +kernel
theorem e_M_cut_213 : decode prog_14_method_60_code 213 = .ok (.getfield 353, 3) := by decide +kernel
theorem e_M_cut_216 : decode prog_14_method_60_code 216 = .ok (.iload_n 3, 1) := by decide +kernel
theorem e_M_cut_217 : decode prog_14_method_60_code 217 = .ok (.isub, 1) := by decide +kernel
theorem e_M_cut_218 : decode prog_14_method_60_code 218 = .ok (.putfield 353, 3) := by decide +kernel
theorem e_M_cut_221 : decode prog_14_method_60_code 221 = .ok (.return_, 1) := by decide +kernel
def w_M_cut_123 (K8 : Int32 → Int32 → Int32 → Int32 → MST → Prop) (P : MST → Prop) (z1 : Int32) (z2 : Int32) (z3 : Int32) (z4 : Int32) (σ : MST) : Prop := K8 z1 z2 z3 (z4 + 1) σ
def w_M_cut_44 (K8 : Int32 → Int32 → Int32 → Int32 → MST → Prop) (P : MST → Prop) (z1 : Int32) (z2 : Int32) (z3 : Int32) (z4 : Int32) (z5 : Int32) (z6 : Int32) (σ : MST) : Prop := vp_in z4 40 ∧ (∀ a1 : Int32, a1 = (σ.2.1 48 (z4 : Int32).toNatClampNeg) → vp_in z4 40 ∧ (∀ a2 : Int32, a2 = (σ.2.1 49 (z4 : Int32).toNatClampNeg) → w_M_addCut z5 z6 a1 a2 σ (fun σ3 => w_M_cut_123 K8 P z1 z2 z3 z4 σ3)))
def w_M_cut_96 (K8 : Int32 → Int32 → Int32 → Int32 → MST → Prop) (P : MST → Prop) (z1 : Int32) (z2 : Int32) (z3 : Int32) (z4 : Int32) (z6 : Int32) (σ : MST) : Prop := ((z6 ≤ z2 → w_M_cut_123 K8 P z1 z2 z3 z4 σ) ∧ (¬ z6 ≤ z2 → vp_in z4 40 ∧ (∀ a6 : Int32, a6 = (σ.2.1 48 (z4 : Int32).toNatClampNeg) → vp_in z4 40 ∧ (∀ a7 : Int32, a7 = (σ.2.1 49 (z4 : Int32).toNatClampNeg) → w_M_addCut z2 z6 a6 a7 σ (fun σ8 => w_M_cut_123 K8 P z1 z2 z3 z4 σ8)))))
def w_M_cut_132 (P : MST → Prop) : Nat → Int32 → Int32 → MST → Prop
  | 0, _, _, _ => False
  | n + 1, z3, z4, σ => (((σ.1 45) ≤ z4 → ∀ σ11 : MST, σ11 = setI σ 45 ((σ.1 45) - z3) → P σ11) ∧ (¬ (σ.1 45) ≤ z4 → vp_in z4 40 ∧ (∀ a12 : Int32, a12 = (σ.2.1 46 (z4 : Int32).toNatClampNeg) → vp_in (z4 - z3) 40 ∧ (∀ σ13 : MST, σ13 = setA σ 46 (upd (σ.2.1 46) ((z4 - z3) : Int32).toNatClampNeg a12) → vp_in z4 40 ∧ (∀ a14 : Int32, a14 = (σ13.2.1 47 (z4 : Int32).toNatClampNeg) → vp_in (z4 - z3) 40 ∧ (∀ σ15 : MST, σ15 = setA σ13 47 (upd (σ13.2.1 47) ((z4 - z3) : Int32).toNatClampNeg a14) → vp_in z4 40 ∧ (∀ a16 : Int32, a16 = (σ15.2.1 48 (z4 : Int32).toNatClampNeg) → vp_in (z4 - z3) 40 ∧ (∀ σ17 : MST, σ17 = setA σ15 48 (upd (σ15.2.1 48) ((z4 - z3) : Int32).toNatClampNeg a16) → vp_in z4 40 ∧ (∀ a18 : Int32, a18 = (σ17.2.1 49 (z4 : Int32).toNatClampNeg) → vp_in (z4 - z3) 40 ∧ (∀ σ19 : MST, σ19 = setA σ17 49 (upd (σ17.2.1 49) ((z4 - z3) : Int32).toNatClampNeg a18) → w_M_cut_132 P n z3 (z4 + 1) σ19))))))))))
def w_M_cut_8 (P : MST → Prop) : Nat → Int32 → Int32 → Int32 → Int32 → MST → Prop
  | 0, _, _, _, _, _ => False
  | n + 1, z1, z2, z3, z4, σ => ((z3 ≤ z4 → (∃ n9 : Nat, w_M_cut_132 P n9 z3 z3 σ)) ∧ (¬ z3 ≤ z4 → vp_in z4 40 ∧ (∀ a21 : Int32, a21 = (σ.2.1 46 (z4 : Int32).toNatClampNeg) → vp_in z4 40 ∧ (∀ a22 : Int32, a22 = (σ.2.1 47 (z4 : Int32).toNatClampNeg) → ((a22 ≤ z1 → w_M_cut_44 (w_M_cut_8 P n) P z1 z2 z3 z4 a21 a22 σ) ∧ (¬ a22 ≤ z1 → ((a21 < z2 → ((z1 ≤ a21 → w_M_cut_96 (w_M_cut_8 P n) P z1 z2 z3 z4 a22 σ) ∧ (¬ z1 ≤ a21 → vp_in z4 40 ∧ (∀ a26 : Int32, a26 = (σ.2.1 48 (z4 : Int32).toNatClampNeg) → vp_in z4 40 ∧ (∀ a27 : Int32, a27 = (σ.2.1 49 (z4 : Int32).toNatClampNeg) → w_M_addCut a21 z1 a26 a27 σ (fun σ28 => w_M_cut_96 (w_M_cut_8 P n) P z1 z2 z3 z4 a22 σ28)))))) ∧ (¬ a21 < z2 → w_M_cut_44 (w_M_cut_8 P n) P z1 z2 z3 z4 a21 a22 σ))))))))
def w_M_cut (x1 : Int32) (x2 : Int32) (σ : MST) (P : MST → Prop) : Prop := (∃ n9 : Nat, w_M_cut_8 P n9 x1 x2 (σ.1 45) 0 σ)
set_option maxHeartbeats 4000000 in
set_option maxRecDepth 100000 in
theorem K_M_cut (l : Launch) (dC : Nat → ClassId) (dI : Nat → Nat → Nat) (mo : Nat) (rf : Nat → Nat) (ca : Nat → ClassId) (sz : Nat) (σ : MST) (x1 : Int32) (x2 : Int32) {P : MST → Prop} (hw : w_M_cut x1 x2 σ P) : Met l z_M_cut (mW z_M_cut prog_14_method_60_code 7 none) ({ frames := 1, cells := 0, slots := 0, locals := 24 } : Room) (va_Pc [.ref mo, .int x1, .int x2] (MPre (dC, dI) mo rf ca σ sz)) (va_Qv P (MB (dC, dI) mo rf ca sz) (mA mo rf sz)) 0 0 (mA mo rf sz) := by
  refine M_ofv (by decide) rfl (Nat.le_of_ble_eq_true rfl) ?_
  intro p e s m below meth cx Q A ls C hA hend h hl
  have C0 := C
  obtain ⟨⟨hx, hb, hml, hown, hts⟩, hsub⟩ := C0
  have K_123 : ∀ (K8 : Int32 → Int32 → Int32 → Int32 → MST → Prop) (hK8 : ∀ (z1 : Int32) (z2 : Int32) (z3 : Int32) (z4 : Int32) (σ : MST) (H : Heap) (locs : List Loc) (ls : Array Slot), K8 z1 z2 z3 z4 σ → MH (dC, dI) A mo rf ca σ s H locs → lv_has ls 7 [(0, .ref mo), (1, .int z1), (2, .int z2), (3, .int z3), (4, .int z4)] → W p l e ({ frames := 1, cells := 0, slots := 0, locals := 24 } : Room) s m ([.ref mo, .int x1, .int x2] : List Value).toArray below meth cx H locs 0 0 Q (F0 m 8 ls [])), ∀ (z1 : Int32) (z2 : Int32) (z3 : Int32) (z4 : Int32) (σ : MST) (H : Heap) (locs : List Loc) (ls : Array Slot), w_M_cut_123 K8 P z1 z2 z3 z4 σ → MH (dC, dI) A mo rf ca σ s H locs → lv_has ls 7 [(0, .ref mo), (1, .int z1), (2, .int z2), (3, .int z3), (4, .int z4)] → W p l e ({ frames := 1, cells := 0, slots := 0, locals := 24 } : Room) s m ([.ref mo, .int x1, .int x2] : List Value).toArray below meth cx H locs 0 0 Q (F0 m 123 ls []) := by
    intro K8 hK8 z1 z2 z3 z4 σ H locs ls hw h hl
    unfold w_M_cut_123 at hw
    refine lv_iinc (v := (z4 + 1)) (lv' := [(4, .int (z4 + 1)), (0, .ref mo), (1, .int z1), (2, .int z2), (3, .int z3)]) hx hb e_M_cut_123 hl (k := 4) rfl (rfl) (by decide) rfl (fun ls hl => ?_)
    refine lv_goto (tgt := 8) hx hb e_M_cut_126 (by decide) ?_
    exact hK8 z1 z2 z3 (z4 + 1) σ _ _ _ hw h (lv_sub hl [1, 2, 3, 4, 0] rfl)
  have K_44 : ∀ (K8 : Int32 → Int32 → Int32 → Int32 → MST → Prop) (hK8 : ∀ (z1 : Int32) (z2 : Int32) (z3 : Int32) (z4 : Int32) (σ : MST) (H : Heap) (locs : List Loc) (ls : Array Slot), K8 z1 z2 z3 z4 σ → MH (dC, dI) A mo rf ca σ s H locs → lv_has ls 7 [(0, .ref mo), (1, .int z1), (2, .int z2), (3, .int z3), (4, .int z4)] → W p l e ({ frames := 1, cells := 0, slots := 0, locals := 24 } : Room) s m ([.ref mo, .int x1, .int x2] : List Value).toArray below meth cx H locs 0 0 Q (F0 m 8 ls [])), ∀ (z1 : Int32) (z2 : Int32) (z3 : Int32) (z4 : Int32) (z5 : Int32) (z6 : Int32) (σ : MST) (H : Heap) (locs : List Loc) (ls : Array Slot), w_M_cut_44 K8 P z1 z2 z3 z4 z5 z6 σ → MH (dC, dI) A mo rf ca σ s H locs → lv_has ls 7 [(0, .ref mo), (1, .int z1), (2, .int z2), (3, .int z3), (4, .int z4), (5, .int z5), (6, .int z6)] → W p l e ({ frames := 1, cells := 0, slots := 0, locals := 24 } : Room) s m ([.ref mo, .int x1, .int x2] : List Value).toArray below meth cx H locs 0 0 Q (F0 m 44 ls []) := by
    intro K8 hK8 z1 z2 z3 z4 z5 z6 σ H locs ls hw h hl
    unfold w_M_cut_44 at hw
    refine lv_aload_n hx hb e_M_cut_44 rfl (lv_at hl 0 rfl) ?_
    refine lv_iload hx hb e_M_cut_45 (lv_at hl 5 rfl) ?_
    refine lv_iload hx hb e_M_cut_47 (lv_at hl 6 rfl) ?_
    refine lv_aload_n hx hb e_M_cut_49 rfl (lv_at hl 0 rfl) ?_
    refine M_get C h 48 (v := .ref (rf 48)) rfl (by decide) v_228 e_M_cut_50 ?_
    refine lv_iload hx hb e_M_cut_53 (lv_at hl 4 rfl) ?_
    refine M_ald C h 48 (by decide) rfl hw.1 e_M_cut_55 ?_
    replace hw := hw.2
    refine lv_topi (fun a1 e_a1 => ?_)
    replace hw := hw a1 e_a1
    refine lv_aload_n hx hb e_M_cut_56 rfl (lv_at hl 0 rfl) ?_
    refine M_get C h 49 (v := .ref (rf 49)) rfl (by decide) v_229 e_M_cut_57 ?_
    refine lv_iload hx hb e_M_cut_60 (lv_at hl 4 rfl) ?_
    refine M_ald C h 49 (by decide) rfl hw.1 e_M_cut_62 ?_
    replace hw := hw.2
    refine lv_topi (fun a2 e_a2 => ?_)
    replace hw := hw a2 e_a2
    refine M_callv (As := [.int z5, .int z6, .int a1, .int a2]) (rest := []) C h hA (K_M_addCut l dC dI mo rf ca H.size σ z5 z6 a1 a2 hw) (cwV 4 hts (gV hsub v_230 v_231 v_232 v_7 v_233) rfl rfl rfl (by decide +kernel) ⟨(Nat.le_of_ble_eq_true rfl), (Nat.le_of_ble_eq_true rfl)⟩) rfl hl.1 (Nat.le_of_ble_eq_true rfl) e_M_cut_63 ⟨(Nat.le_of_ble_eq_true rfl), (Nat.le_of_ble_eq_true rfl)⟩ (fun σ3 H locs hw h => ?_)
    refine W.eq (g2 := F0 m 66 ls []) rfl ?_
    refine lv_goto (tgt := 123) hx hb e_M_cut_66 (by decide) ?_
    exact K_123 _ hK8 z1 z2 z3 z4 σ3 _ _ _ hw h (lv_sub hl [0, 1, 2, 3, 4] rfl)
  have K_96 : ∀ (K8 : Int32 → Int32 → Int32 → Int32 → MST → Prop) (hK8 : ∀ (z1 : Int32) (z2 : Int32) (z3 : Int32) (z4 : Int32) (σ : MST) (H : Heap) (locs : List Loc) (ls : Array Slot), K8 z1 z2 z3 z4 σ → MH (dC, dI) A mo rf ca σ s H locs → lv_has ls 7 [(0, .ref mo), (1, .int z1), (2, .int z2), (3, .int z3), (4, .int z4)] → W p l e ({ frames := 1, cells := 0, slots := 0, locals := 24 } : Room) s m ([.ref mo, .int x1, .int x2] : List Value).toArray below meth cx H locs 0 0 Q (F0 m 8 ls [])), ∀ (z1 : Int32) (z2 : Int32) (z3 : Int32) (z4 : Int32) (z6 : Int32) (σ : MST) (H : Heap) (locs : List Loc) (ls : Array Slot), w_M_cut_96 K8 P z1 z2 z3 z4 z6 σ → MH (dC, dI) A mo rf ca σ s H locs → lv_has ls 7 [(0, .ref mo), (1, .int z1), (2, .int z2), (3, .int z3), (4, .int z4), (6, .int z6)] → W p l e ({ frames := 1, cells := 0, slots := 0, locals := 24 } : Room) s m ([.ref mo, .int x1, .int x2] : List Value).toArray below meth cx H locs 0 0 Q (F0 m 96 ls []) := by
    intro K8 hK8 z1 z2 z3 z4 z6 σ H locs ls hw h hl
    unfold w_M_cut_96 at hw
    refine lv_iload hx hb e_M_cut_96 (lv_at hl 5 rfl) ?_
    refine lv_iload_n hx hb e_M_cut_98 rfl (lv_at hl 2 rfl) ?_
    refine lv_icmp_le (tgt := 123) hx hb e_M_cut_99 (by decide) (fun c5 => ?_) (fun c5 => ?_)
    · skip
      replace hw := hw.1 c5
      exact K_123 _ hK8 z1 z2 z3 z4 σ _ _ _ hw h (lv_sub hl [0, 1, 2, 3, 4] rfl)
    · skip
      replace hw := hw.2 c5
      refine lv_aload_n hx hb e_M_cut_102 rfl (lv_at hl 0 rfl) ?_
      refine lv_iload_n hx hb e_M_cut_103 rfl (lv_at hl 2 rfl) ?_
      refine lv_iload hx hb e_M_cut_104 (lv_at hl 5 rfl) ?_
      refine lv_aload_n hx hb e_M_cut_106 rfl (lv_at hl 0 rfl) ?_
      refine M_get C h 48 (v := .ref (rf 48)) rfl (by decide) v_228 e_M_cut_107 ?_
      refine lv_iload hx hb e_M_cut_110 (lv_at hl 4 rfl) ?_
      refine M_ald C h 48 (by decide) rfl hw.1 e_M_cut_112 ?_
      replace hw := hw.2
      refine lv_topi (fun a6 e_a6 => ?_)
      replace hw := hw a6 e_a6
      refine lv_aload_n hx hb e_M_cut_113 rfl (lv_at hl 0 rfl) ?_
      refine M_get C h 49 (v := .ref (rf 49)) rfl (by decide) v_229 e_M_cut_114 ?_
      refine lv_iload hx hb e_M_cut_117 (lv_at hl 4 rfl) ?_
      refine M_ald C h 49 (by decide) rfl hw.1 e_M_cut_119 ?_
      replace hw := hw.2
      refine lv_topi (fun a7 e_a7 => ?_)
      replace hw := hw a7 e_a7
      refine M_callv (As := [.int z2, .int z6, .int a6, .int a7]) (rest := []) C h hA (K_M_addCut l dC dI mo rf ca H.size σ z2 z6 a6 a7 hw) (cwV 4 hts (gV hsub v_230 v_231 v_232 v_7 v_233) rfl rfl rfl (by decide +kernel) ⟨(Nat.le_of_ble_eq_true rfl), (Nat.le_of_ble_eq_true rfl)⟩) rfl hl.1 (Nat.le_of_ble_eq_true rfl) e_M_cut_120 ⟨(Nat.le_of_ble_eq_true rfl), (Nat.le_of_ble_eq_true rfl)⟩ (fun σ8 H locs hw h => ?_)
      refine W.eq (g2 := F0 m 123 ls []) rfl ?_
      exact K_123 _ hK8 z1 z2 z3 z4 σ8 _ _ _ hw h (lv_sub hl [0, 1, 2, 3, 4] rfl)
  have K_132 : ∀ (n : Nat), ∀ (z3 : Int32) (z4 : Int32) (σ : MST) (H : Heap) (locs : List Loc) (ls : Array Slot), w_M_cut_132 P n z3 z4 σ → MH (dC, dI) A mo rf ca σ s H locs → lv_has ls 7 [(0, .ref mo), (3, .int z3), (4, .int z4)] → W p l e ({ frames := 1, cells := 0, slots := 0, locals := 24 } : Room) s m ([.ref mo, .int x1, .int x2] : List Value).toArray below meth cx H locs 0 0 Q (F0 m 132 ls []) := by
    intro  n
    induction n with
    | zero => intro z3 z4 σ H locs ls hw h hl; unfold w_M_cut_132 at hw; exact hw.elim
    | succ n ih =>
      intro z3 z4 σ H locs ls hw h hl
      unfold w_M_cut_132 at hw
      refine lv_iload hx hb e_M_cut_132 (lv_at hl 2 rfl) ?_
      refine lv_aload_n hx hb e_M_cut_134 rfl (lv_at hl 0 rfl) ?_
      refine M_get C h 45 (v := .int (σ.1 45)) rfl (by decide) v_226 e_M_cut_135 ?_
      refine lv_icmp_ge (tgt := 211) hx hb e_M_cut_138 (by decide) (fun c10 => ?_) (fun c10 => ?_)
      · skip
        replace hw := hw.1 c10
        refine lv_aload_n hx hb e_M_cut_211 rfl (lv_at hl 0 rfl) ?_
        refine lv_dup hx hb e_M_cut_212 rfl ?_
        refine M_get C h 45 (v := .int (σ.1 45)) rfl (by decide) v_226 e_M_cut_213 ?_
        refine lv_iload_n hx hb e_M_cut_216 rfl (lv_at hl 1 rfl) ?_
        refine lv_isub hx hb e_M_cut_217 ?_
        refine M_puti C h 45 (by decide) rfl rfl (by decide +kernel) v_226 e_M_cut_218 (fun H locs h => ?_)
        obtain ⟨σ11, e_σ11⟩ : ∃ z : MST, z = setI σ 45 ((σ.1 45) - z3) := ⟨_, rfl⟩
        rw [← e_σ11] at h
        replace hw := hw σ11 e_σ11
        exact hend σ11 _ _ _ _ hw h e_M_cut_221
      · skip
        replace hw := hw.2 c10
        refine lv_aload_n hx hb e_M_cut_141 rfl (lv_at hl 0 rfl) ?_
        refine M_get C h 46 (v := .ref (rf 46)) rfl (by decide) v_225 e_M_cut_142 ?_
        refine lv_iload hx hb e_M_cut_145 (lv_at hl 2 rfl) ?_
        refine lv_iload_n hx hb e_M_cut_147 rfl (lv_at hl 1 rfl) ?_
        refine lv_isub hx hb e_M_cut_148 ?_
        refine lv_aload_n hx hb e_M_cut_149 rfl (lv_at hl 0 rfl) ?_
        refine M_get C h 46 (v := .ref (rf 46)) rfl (by decide) v_225 e_M_cut_150 ?_
        refine lv_iload hx hb e_M_cut_153 (lv_at hl 2 rfl) ?_
        refine M_ald C h 46 (by decide) rfl hw.1 e_M_cut_155 ?_
        replace hw := hw.2
        refine lv_topi (fun a12 e_a12 => ?_)
        replace hw := hw a12 e_a12
        refine M_ast C h 46 (by decide) rfl hw.1 e_M_cut_156 (fun H locs h => ?_)
        replace hw := hw.2
        obtain ⟨σ13, e_σ13⟩ : ∃ z : MST, z = setA σ 46 (upd (σ.2.1 46) ((z4 - z3) : Int32).toNatClampNeg a12) := ⟨_, rfl⟩
        rw [← e_σ13] at h
        replace hw := hw σ13 e_σ13
        refine lv_aload_n hx hb e_M_cut_157 rfl (lv_at hl 0 rfl) ?_
        refine M_get C h 47 (v := .ref (rf 47)) rfl (by decide) v_227 e_M_cut_158 ?_
        refine lv_iload hx hb e_M_cut_161 (lv_at hl 2 rfl) ?_
        refine lv_iload_n hx hb e_M_cut_163 rfl (lv_at hl 1 rfl) ?_
        refine lv_isub hx hb e_M_cut_164 ?_
        refine lv_aload_n hx hb e_M_cut_165 rfl (lv_at hl 0 rfl) ?_
        refine M_get C h 47 (v := .ref (rf 47)) rfl (by decide) v_227 e_M_cut_166 ?_
        refine lv_iload hx hb e_M_cut_169 (lv_at hl 2 rfl) ?_
        refine M_ald C h 47 (by decide) rfl hw.1 e_M_cut_171 ?_
        replace hw := hw.2
        refine lv_topi (fun a14 e_a14 => ?_)
        replace hw := hw a14 e_a14
        refine M_ast C h 47 (by decide) rfl hw.1 e_M_cut_172 (fun H locs h => ?_)
        replace hw := hw.2
        obtain ⟨σ15, e_σ15⟩ : ∃ z : MST, z = setA σ13 47 (upd (σ13.2.1 47) ((z4 - z3) : Int32).toNatClampNeg a14) := ⟨_, rfl⟩
        rw [← e_σ15] at h
        replace hw := hw σ15 e_σ15
        refine lv_aload_n hx hb e_M_cut_173 rfl (lv_at hl 0 rfl) ?_
        refine M_get C h 48 (v := .ref (rf 48)) rfl (by decide) v_228 e_M_cut_174 ?_
        refine lv_iload hx hb e_M_cut_177 (lv_at hl 2 rfl) ?_
        refine lv_iload_n hx hb e_M_cut_179 rfl (lv_at hl 1 rfl) ?_
        refine lv_isub hx hb e_M_cut_180 ?_
        refine lv_aload_n hx hb e_M_cut_181 rfl (lv_at hl 0 rfl) ?_
        refine M_get C h 48 (v := .ref (rf 48)) rfl (by decide) v_228 e_M_cut_182 ?_
        refine lv_iload hx hb e_M_cut_185 (lv_at hl 2 rfl) ?_
        refine M_ald C h 48 (by decide) rfl hw.1 e_M_cut_187 ?_
        replace hw := hw.2
        refine lv_topi (fun a16 e_a16 => ?_)
        replace hw := hw a16 e_a16
        refine M_ast C h 48 (by decide) rfl hw.1 e_M_cut_188 (fun H locs h => ?_)
        replace hw := hw.2
        obtain ⟨σ17, e_σ17⟩ : ∃ z : MST, z = setA σ15 48 (upd (σ15.2.1 48) ((z4 - z3) : Int32).toNatClampNeg a16) := ⟨_, rfl⟩
        rw [← e_σ17] at h
        replace hw := hw σ17 e_σ17
        refine lv_aload_n hx hb e_M_cut_189 rfl (lv_at hl 0 rfl) ?_
        refine M_get C h 49 (v := .ref (rf 49)) rfl (by decide) v_229 e_M_cut_190 ?_
        refine lv_iload hx hb e_M_cut_193 (lv_at hl 2 rfl) ?_
        refine lv_iload_n hx hb e_M_cut_195 rfl (lv_at hl 1 rfl) ?_
        refine lv_isub hx hb e_M_cut_196 ?_
        refine lv_aload_n hx hb e_M_cut_197 rfl (lv_at hl 0 rfl) ?_
        refine M_get C h 49 (v := .ref (rf 49)) rfl (by decide) v_229 e_M_cut_198 ?_
        refine lv_iload hx hb e_M_cut_201 (lv_at hl 2 rfl) ?_
        refine M_ald C h 49 (by decide) rfl hw.1 e_M_cut_203 ?_
        replace hw := hw.2
        refine lv_topi (fun a18 e_a18 => ?_)
        replace hw := hw a18 e_a18
        refine M_ast C h 49 (by decide) rfl hw.1 e_M_cut_204 (fun H locs h => ?_)
        replace hw := hw.2
        obtain ⟨σ19, e_σ19⟩ : ∃ z : MST, z = setA σ17 49 (upd (σ17.2.1 49) ((z4 - z3) : Int32).toNatClampNeg a18) := ⟨_, rfl⟩
        rw [← e_σ19] at h
        replace hw := hw σ19 e_σ19
        refine lv_iinc (v := (z4 + 1)) (lv' := [(4, .int (z4 + 1)), (0, .ref mo), (3, .int z3)]) hx hb e_M_cut_205 hl (k := 2) rfl (rfl) (by decide) rfl (fun ls hl => ?_)
        refine lv_goto (tgt := 132) hx hb e_M_cut_208 (by decide) ?_
        exact ih z3 (z4 + 1) σ19 _ _ _ hw h (lv_sub hl [1, 2, 0] rfl)
  have K_8 : ∀ (n : Nat), ∀ (z1 : Int32) (z2 : Int32) (z3 : Int32) (z4 : Int32) (σ : MST) (H : Heap) (locs : List Loc) (ls : Array Slot), w_M_cut_8 P n z1 z2 z3 z4 σ → MH (dC, dI) A mo rf ca σ s H locs → lv_has ls 7 [(0, .ref mo), (1, .int z1), (2, .int z2), (3, .int z3), (4, .int z4)] → W p l e ({ frames := 1, cells := 0, slots := 0, locals := 24 } : Room) s m ([.ref mo, .int x1, .int x2] : List Value).toArray below meth cx H locs 0 0 Q (F0 m 8 ls []) := by
    intro  n
    induction n with
    | zero => intro z1 z2 z3 z4 σ H locs ls hw h hl; unfold w_M_cut_8 at hw; exact hw.elim
    | succ n ih =>
      intro z1 z2 z3 z4 σ H locs ls hw h hl
      unfold w_M_cut_8 at hw
      refine lv_iload hx hb e_M_cut_8 (lv_at hl 4 rfl) ?_
      refine lv_iload_n hx hb e_M_cut_10 rfl (lv_at hl 3 rfl) ?_
      refine lv_icmp_ge (tgt := 129) hx hb e_M_cut_11 (by decide) (fun c20 => ?_) (fun c20 => ?_)
      · skip
        replace hw := hw.1 c20
        refine lv_iload_n hx hb e_M_cut_129 rfl (lv_at hl 3 rfl) ?_
        refine lv_istore (lv' := [(4, .int z3), (0, .ref mo), (1, .int z1), (2, .int z2), (3, .int z3)]) hx hb e_M_cut_130 hl (by decide) rfl (fun ls hl => ?_)
        obtain ⟨n9, hw⟩ := hw
        exact K_132 n9 z3 z3 σ _ _ _ hw h (lv_sub hl [1, 4, 0] rfl)
      · skip
        replace hw := hw.2 c20
        refine lv_aload_n hx hb e_M_cut_14 rfl (lv_at hl 0 rfl) ?_
        refine M_get C h 46 (v := .ref (rf 46)) rfl (by decide) v_225 e_M_cut_15 ?_
        refine lv_iload hx hb e_M_cut_18 (lv_at hl 4 rfl) ?_
        refine M_ald C h 46 (by decide) rfl hw.1 e_M_cut_20 ?_
        replace hw := hw.2
        refine lv_topi (fun a21 e_a21 => ?_)
        replace hw := hw a21 e_a21
        refine lv_istore (lv' := [(5, .int a21), (0, .ref mo), (1, .int z1), (2, .int z2), (3, .int z3), (4, .int z4)]) hx hb e_M_cut_21 hl (by decide) rfl (fun ls hl => ?_)
        refine lv_aload_n hx hb e_M_cut_23 rfl (lv_at hl 1 rfl) ?_
        refine M_get C h 47 (v := .ref (rf 47)) rfl (by decide) v_227 e_M_cut_24 ?_
        refine lv_iload hx hb e_M_cut_27 (lv_at hl 5 rfl) ?_
        refine M_ald C h 47 (by decide) rfl hw.1 e_M_cut_29 ?_
        replace hw := hw.2
        refine lv_topi (fun a22 e_a22 => ?_)
        replace hw := hw a22 e_a22
        refine lv_istore (lv' := [(6, .int a22), (5, .int a21), (0, .ref mo), (1, .int z1), (2, .int z2), (3, .int z3), (4, .int z4)]) hx hb e_M_cut_30 hl (by decide) rfl (fun ls hl => ?_)
        refine lv_iload hx hb e_M_cut_32 (lv_at hl 0 rfl) ?_
        refine lv_iload_n hx hb e_M_cut_34 rfl (lv_at hl 3 rfl) ?_
        refine lv_icmp_le (tgt := 44) hx hb e_M_cut_35 (by decide) (fun c23 => ?_) (fun c23 => ?_)
        · skip
          replace hw := hw.1 c23
          exact K_44 _ ih z1 z2 z3 z4 a21 a22 σ _ _ _ hw h (lv_sub hl [2, 3, 4, 5, 6, 1, 0] rfl)
        · skip
          replace hw := hw.2 c23
          refine lv_iload hx hb e_M_cut_38 (lv_at hl 1 rfl) ?_
          refine lv_iload_n hx hb e_M_cut_40 rfl (lv_at hl 4 rfl) ?_
          refine lv_icmp_lt (tgt := 69) hx hb e_M_cut_41 (by decide) (fun c24 => ?_) (fun c24 => ?_)
          · skip
            replace hw := hw.1 c24
            refine lv_iload hx hb e_M_cut_69 (lv_at hl 1 rfl) ?_
            refine lv_iload_n hx hb e_M_cut_71 rfl (lv_at hl 3 rfl) ?_
            refine lv_icmp_ge (tgt := 96) hx hb e_M_cut_72 (by decide) (fun c25 => ?_) (fun c25 => ?_)
            · skip
              replace hw := hw.1 c25
              exact K_96 _ ih z1 z2 z3 z4 a22 σ _ _ _ hw h (lv_sub hl [2, 3, 4, 5, 6, 0] rfl)
            · skip
              replace hw := hw.2 c25
              refine lv_aload_n hx hb e_M_cut_75 rfl (lv_at hl 2 rfl) ?_
              refine lv_iload hx hb e_M_cut_76 (lv_at hl 1 rfl) ?_
              refine lv_iload_n hx hb e_M_cut_78 rfl (lv_at hl 3 rfl) ?_
              refine lv_aload_n hx hb e_M_cut_79 rfl (lv_at hl 2 rfl) ?_
              refine M_get C h 48 (v := .ref (rf 48)) rfl (by decide) v_228 e_M_cut_80 ?_
              refine lv_iload hx hb e_M_cut_83 (lv_at hl 6 rfl) ?_
              refine M_ald C h 48 (by decide) rfl hw.1 e_M_cut_85 ?_
              replace hw := hw.2
              refine lv_topi (fun a26 e_a26 => ?_)
              replace hw := hw a26 e_a26
              refine lv_aload_n hx hb e_M_cut_86 rfl (lv_at hl 2 rfl) ?_
              refine M_get C h 49 (v := .ref (rf 49)) rfl (by decide) v_229 e_M_cut_87 ?_
              refine lv_iload hx hb e_M_cut_90 (lv_at hl 6 rfl) ?_
              refine M_ald C h 49 (by decide) rfl hw.1 e_M_cut_92 ?_
              replace hw := hw.2
              refine lv_topi (fun a27 e_a27 => ?_)
              replace hw := hw a27 e_a27
              refine M_callv (As := [.int a21, .int z1, .int a26, .int a27]) (rest := []) C h hA (K_M_addCut l dC dI mo rf ca H.size σ a21 z1 a26 a27 hw) (cwV 4 hts (gV hsub v_230 v_231 v_232 v_7 v_233) rfl rfl rfl (by decide +kernel) ⟨(Nat.le_of_ble_eq_true rfl), (Nat.le_of_ble_eq_true rfl)⟩) rfl hl.1 (Nat.le_of_ble_eq_true rfl) e_M_cut_93 ⟨(Nat.le_of_ble_eq_true rfl), (Nat.le_of_ble_eq_true rfl)⟩ (fun σ28 H locs hw h => ?_)
              refine W.eq (g2 := F0 m 96 ls []) rfl ?_
              exact K_96 _ ih z1 z2 z3 z4 a22 σ28 _ _ _ hw h (lv_sub hl [2, 3, 4, 5, 6, 0] rfl)
          · skip
            replace hw := hw.2 c24
            exact K_44 _ ih z1 z2 z3 z4 a21 a22 σ _ _ _ hw h (lv_sub hl [2, 3, 4, 5, 6, 1, 0] rfl)
  have hl : lv_has ls 7 [(0, .ref mo), (1, .int x1), (2, .int x2)] := hl
  unfold w_M_cut at hw
  refine lv_aload_n hx hb e_M_cut_0 rfl (lv_at hl 0 rfl) ?_
  refine M_get C h 45 (v := .int (σ.1 45)) rfl (by decide) v_226 e_M_cut_1 ?_
  refine lv_istore_n (lv' := [(3, .int (σ.1 45)), (0, .ref mo), (1, .int x1), (2, .int x2)]) hx hb e_M_cut_4 rfl hl (by decide) rfl (fun ls hl => ?_)
  refine lv_iconst (v := 0) hx hb e_M_cut_5 (by decide) ?_
  refine lv_istore (lv' := [(4, .int 0), (3, .int (σ.1 45)), (0, .ref mo), (1, .int x1), (2, .int x2)]) hx hb e_M_cut_6 hl (by decide) rfl (fun ls hl => ?_)
  obtain ⟨n9, hw⟩ := hw
  exact K_8 n9 x1 x2 (σ.1 45) 0 σ _ _ _ hw h (lv_sub hl [2, 3, 4, 1, 0] rfl)
abbrev z_M_isDead : MethodName := ⟨"MapFramerModel", "isDead", "(I)Z"⟩
theorem e_M_isDead_0 : decode prog_14_method_61_code 0 = .ok (.aload_n 0, 1) := by decide +kernel
theorem e_M_isDead_1 : decode prog_14_method_61_code 1 = .ok (.aload_n 0, 1) := by decide +kernel
theorem e_M_isDead_2 : decode prog_14_method_61_code 2 = .ok (.getfield 266, 3) := by decide +kernel
theorem e_M_isDead_5 : decode prog_14_method_61_code 5 = .ok (.iload_n 1, 1) := by decide +kernel
theorem e_M_isDead_6 : decode prog_14_method_61_code 6 = .ok (.invokevirtual 246, 3) := by decide +kernel
theorem e_M_isDead_9 : decode prog_14_method_61_code 9 = .ok (.ifCond .eq 24, 3) := by decide +kernel
theorem e_M_isDead_12 : decode prog_14_method_61_code 12 = .ok (.aload_n 0, 1) := by decide +kernel
theorem e_M_isDead_13 : decode prog_14_method_61_code 13 = .ok (.getfield 81, 3) := by decide +kernel
theorem e_M_isDead_16 : decode prog_14_method_61_code 16 = .ok (.bipush 120, 2) := by decide +kernel
theorem e_M_isDead_18 : decode prog_14_method_61_code 18 = .ok (.aload_n 0, 1) := by decide +kernel
theorem e_M_isDead_19 : decode prog_14_method_61_code 19 = .ok (.getfield 266, 3) := by decide +kernel
theorem e_M_isDead_22 : decode prog_14_method_61_code 22 = .ok (.imul, 1) := by decide +kernel
theorem e_M_isDead_23 : decode prog_14_method_61_code 23 = .ok (.iload_n 1, 1) := by decide +kernel
theorem e_M_isDead_24 : decode prog_14_method_61_code 24 = .ok (.iadd, 1) := by decide +kernel
theorem e_M_isDead_25 : decode prog_14_method_61_code 25 = .ok (.iaload, 1) := by decide +kernel
theorem e_M_isDead_26 : decode prog_14_method_61_code 26 = .ok (.ifCond .ge 7, 3) := by decide +kernel
theorem e_M_isDead_29 : decode prog_14_method_61_code 29 = .ok (.iconst 1, 1) := by decide +kernel
theorem e_M_isDead_30 : decode prog_14_method_61_code 30 = .ok (.goto 4, 3) := by decide +kernel
theorem e_M_isDead_33 : decode prog_14_method_61_code 33 = .ok (.iconst 0, 1) := by decide +kernel
theorem e_M_isDead_34 : decode prog_14_method_61_code 34 = .ok (.ireturn, 1) := by decide +kernel
def w_M_isDead (x1 : Int32) (σ : MST) (P : Int32 → MST → Prop) : Prop := w_M_isBeginning (σ.1 33) x1 σ (fun r2 σ1 => ((r2 = 0 → P (0 : Int32) σ1) ∧ (¬ r2 = 0 → vp_in (((120 : Int32) * (σ1.1 33)) + x1) 960 ∧ (∀ a4 : Int32, a4 = (σ1.2.1 27 ((((120 : Int32) * (σ1.1 33)) + x1) : Int32).toNatClampNeg) → ((0 ≤ a4 → P (0 : Int32) σ1) ∧ (¬ 0 ≤ a4 → P (1 : Int32) σ1))))))
set_option maxHeartbeats 4000000 in
set_option maxRecDepth 100000 in
theorem K_M_isDead (l : Launch) (dC : Nat → ClassId) (dI : Nat → Nat → Nat) (mo : Nat) (rf : Nat → Nat) (ca : Nat → ClassId) (sz : Nat) (σ : MST) (x1 : Int32) {P : Int32 → MST → Prop} (hw : w_M_isDead x1 σ P) : Met l z_M_isDead (mW z_M_isDead prog_14_method_61_code 2 (some .boolean)) ({ frames := 1, cells := 0, slots := 0, locals := 22 } : Room) (va_Pc [.ref mo, .int x1] (MPre (dC, dI) mo rf ca σ sz)) (va_Qi P (MB (dC, dI) mo rf ca sz) (mA mo rf sz)) 0 0 (mA mo rf sz) := by
  refine M_ofz (by decide) rfl (Nat.le_of_ble_eq_true rfl) ?_
  intro p e s m below meth cx Q A ls C hA hend h hl
  have C0 := C
  obtain ⟨⟨hx, hb, hml, hown, hts⟩, hsub⟩ := C0
  have hl : lv_has ls 2 [(0, .ref mo), (1, .int x1)] := hl
  unfold w_M_isDead at hw
  refine lv_aload_n hx hb e_M_isDead_0 rfl (lv_at hl 0 rfl) ?_
  refine lv_aload_n hx hb e_M_isDead_1 rfl (lv_at hl 0 rfl) ?_
  refine M_get C h 33 (v := .int (σ.1 33)) rfl (by decide) v_116 e_M_isDead_2 ?_
  refine lv_iload_n hx hb e_M_isDead_5 rfl (lv_at hl 1 rfl) ?_
  refine M_calli (As := [.int (σ.1 33), .int x1]) (rest := []) C h hA (K_M_isBeginning l dC dI mo rf ca s.heap.size σ (σ.1 33) x1 hw) (cwV 2 hts (gV hsub v_83 v_84 v_85 v_7 v_86) rfl rfl rfl (by decide +kernel) ⟨(Nat.le_of_ble_eq_true rfl), (Nat.le_of_ble_eq_true rfl)⟩) rfl hl.1 (Nat.le_of_ble_eq_true rfl) e_M_isDead_6 ⟨(Nat.le_of_ble_eq_true rfl), (Nat.le_of_ble_eq_true rfl)⟩ (fun r2 σ1 H locs hw h => ?_)
  refine W.eq (g2 := F0 m 9 ls [.int r2]) rfl ?_
  refine lv_if_eq (tgt := 33) hx hb e_M_isDead_9 (by decide) (fun c3 => ?_) (fun c3 => ?_)
  · skip
    replace hw := hw.1 c3
    refine lv_iconst (v := 0) hx hb e_M_isDead_33 (by decide) ?_
    exact hend (0 : Int32) σ1 _ _ _ _ rfl hw h e_M_isDead_34
  · skip
    replace hw := hw.2 c3
    refine lv_aload_n hx hb e_M_isDead_12 rfl (lv_at hl 0 rfl) ?_
    refine M_get C h 27 (v := .ref (rf 27)) rfl (by decide) v_200 e_M_isDead_13 ?_
    refine lv_bipush (v := 120) hx hb e_M_isDead_16 (by decide) ?_
    refine lv_aload_n hx hb e_M_isDead_18 rfl (lv_at hl 0 rfl) ?_
    refine M_get C h 33 (v := .int (σ1.1 33)) rfl (by decide) v_116 e_M_isDead_19 ?_
    refine lv_imul hx hb e_M_isDead_22 ?_
    refine lv_iload_n hx hb e_M_isDead_23 rfl (lv_at hl 1 rfl) ?_
    refine lv_iadd hx hb e_M_isDead_24 ?_
    refine M_ald C h 27 (by decide) rfl hw.1 e_M_isDead_25 ?_
    replace hw := hw.2
    refine lv_topi (fun a4 e_a4 => ?_)
    replace hw := hw a4 e_a4
    refine lv_if_ge (tgt := 33) hx hb e_M_isDead_26 (by decide) (fun c5 => ?_) (fun c5 => ?_)
    · skip
      replace hw := hw.1 c5
      refine lv_iconst (v := 0) hx hb e_M_isDead_33 (by decide) ?_
      exact hend (0 : Int32) σ1 _ _ _ _ rfl hw h e_M_isDead_34
    · skip
      replace hw := hw.2 c5
      refine lv_iconst (v := 1) hx hb e_M_isDead_29 (by decide) ?_
      refine lv_goto (tgt := 34) hx hb e_M_isDead_30 (by decide) ?_
      exact hend (1 : Int32) σ1 _ _ _ _ rfl hw h e_M_isDead_34
abbrev z_M_rowEnd : MethodName := ⟨"MapFramerModel", "rowEnd", "(I)I"⟩
theorem v_234 : (Cond.methodLink "MapFramerModel" 360 ⟨"MapFramerModel", "isDead", "(I)Z"⟩ : Cond) ∈ bigW := inB_10 26 (by decide +kernel) rfl
theorem v_235 : (Cond.instanceMethod ⟨"MapFramerModel", "isDead", "(I)Z"⟩ : Cond) ∈ bigW := inB_10 28 (by decide +kernel) rfl
theorem v_236 : (Cond.selects "MapFramerModel" ⟨"MapFramerModel", "isDead", "(I)Z"⟩ ⟨"MapFramerModel", "isDead", "(I)Z"⟩ : Cond) ∈ bigW := inS (y := ⟨"MapFramerModel", "isDead", "(I)Z"⟩) (n := 71) (List.mem_of_getElem? (i := 122) (by decide +kernel))
theorem v_237 : (Cond.code ⟨"MapFramerModel", "isDead", "(I)Z"⟩ prog_14_method_61_code 2 (some .boolean) : Cond) ∈ bigW := inB_10 29 rfl rfl
theorem e_M_rowEnd_0 : decode prog_14_method_62_code 0 = .ok (.iload_n 1, 1) := by decide +kernel
theorem e_M_rowEnd_1 : decode prog_14_method_62_code 1 = .ok (.istore_n 2, 1) := by decide +kernel
theorem e_M_rowEnd_2 : decode prog_14_method_62_code 2 = .ok (.iload_n 2, 1) := by decide +kernel
theorem e_M_rowEnd_3 : decode prog_14_method_62_code 3 = .ok (.aload_n 0, 1) := by decide +kernel
theorem e_M_rowEnd_4 : decode prog_14_method_62_code 4 = .ok (.getfield 39, 3) := by decide +kernel
theorem e_M_rowEnd_7 : decode prog_14_method_62_code 7 = .ok (.aload_n 0, 1) := by decide +kernel
theorem e_M_rowEnd_8 : decode prog_14_method_62_code 8 = .ok (.getfield 266, 3) := by decide +kernel
theorem e_M_rowEnd_11 : decode prog_14_method_62_code 11 = .ok (.iaload, 1) := by decide +kernel
theorem e_M_rowEnd_12 : decode prog_14_method_62_code 12 = .ok (.if_icmp .ge 29, 3) := by decide +kernel
theorem e_M_rowEnd_15 : decode prog_14_method_62_code 15 = .ok (.aload_n 0, 1) := by decide +kernel
theorem e_M_rowEnd_16 : decode prog_14_method_62_code 16 = .ok (.iload_n 2, 1) := by decide +kernel
theorem e_M_rowEnd_17 : decode prog_14_method_62_code 17 = .ok (.invokevirtual 360, 3) := by decide +kernel
theorem e_M_rowEnd_20 : decode prog_14_method_62_code 20 = .ok (.ifCond .eq 21, 3) := by decide +kernel
theorem e_M_rowEnd_23 : decode prog_14_method_62_code 23 = .ok (.iload_n 2, 1) := by decide +kernel
theorem e_M_rowEnd_24 : decode prog_14_method_62_code 24 = .ok (.aload_n 0, 1) := by decide +kernel
theorem e_M_rowEnd_25 : decode prog_14_method_62_code 25 = .ok (.aload_n 0, 1) := by decide +kernel
theorem e_M_rowEnd_26 : decode prog_14_method_62_code 26 = .ok (.getfield 266, 3) := by decide +kernel
theorem e_M_rowEnd_29 : decode prog_14_method_62_code 29 = .ok (.iload_n 2, 1) := by decide +kernel
theorem e_M_rowEnd_30 : decode prog_14_method_62_code 30 = .ok (.invokevirtual 222, 3) := by decide +kernel
theorem e_M_rowEnd_33 : decode prog_14_method_62_code 33 = .ok (.invokestatic 231, 3) := by decide +kernel
theorem e_M_rowEnd_36 : decode prog_14_method_62_code 36 = .ok (.iadd, 1) := by decide +kernel
theorem e_M_rowEnd_37 : decode prog_14_method_62_code 37 = .ok (.istore_n 2, 1) := by decide +kernel
theorem e_M_rowEnd_38 : decode prog_14_method_62_code 38 = .ok (.goto (-36), 3) := by decide +kernel
theorem e_M_rowEnd_41 : decode prog_14_method_62_code 41 = .ok (.iload_n 2, 1) := by decide +kernel
theorem e_M_rowEnd_42 : decode prog_14_method_62_code 42 = .ok (.ireturn, 1) := by decide +kernel
def w_M_rowEnd_2 (P : Int32 → MST → Prop) : Nat → Int32 → MST → Prop
  | 0, _, _ => False
  | n + 1, z2, σ => vp_in (σ.1 33) 8 ∧ (∀ a1 : Int32, a1 = (σ.2.1 12 ((σ.1 33) : Int32).toNatClampNeg) → ((a1 ≤ z2 → P z2 σ) ∧ (¬ a1 ≤ z2 → w_M_isDead z2 σ (fun r4 σ3 => ((r4 = 0 → P z2 σ3) ∧ (¬ r4 = 0 → w_M_at (σ3.1 33) z2 σ3 (fun r7 σ6 => w_M_length r7 σ6 (fun r9 σ8 => w_M_rowEnd_2 P n (z2 + r9) σ8))))))))
def w_M_rowEnd (x1 : Int32) (σ : MST) (P : Int32 → MST → Prop) : Prop := (∃ n9 : Nat, w_M_rowEnd_2 P n9 x1 σ)
set_option maxHeartbeats 4000000 in
set_option maxRecDepth 100000 in
theorem K_M_rowEnd (l : Launch) (dC : Nat → ClassId) (dI : Nat → Nat → Nat) (mo : Nat) (rf : Nat → Nat) (ca : Nat → ClassId) (sz : Nat) (σ : MST) (x1 : Int32) {P : Int32 → MST → Prop} (hw : w_M_rowEnd x1 σ P) : Met l z_M_rowEnd (mW z_M_rowEnd prog_14_method_62_code 3 (some .int)) ({ frames := 2, cells := 0, slots := 0, locals := 43 } : Room) (va_Pc [.ref mo, .int x1] (MPre (dC, dI) mo rf ca σ sz)) (va_Qi P (MB (dC, dI) mo rf ca sz) (mA mo rf sz)) 0 0 (mA mo rf sz) := by
  refine M_ofi (by decide) rfl (Nat.le_of_ble_eq_true rfl) ?_
  intro p e s m below meth cx Q A ls C hA hend h hl
  have C0 := C
  obtain ⟨⟨hx, hb, hml, hown, hts⟩, hsub⟩ := C0
  have K_2 : ∀ (n : Nat), ∀ (z2 : Int32) (σ : MST) (H : Heap) (locs : List Loc) (ls : Array Slot), w_M_rowEnd_2 P n z2 σ → MH (dC, dI) A mo rf ca σ s H locs → lv_has ls 3 [(0, .ref mo), (2, .int z2)] → W p l e ({ frames := 2, cells := 0, slots := 0, locals := 43 } : Room) s m ([.ref mo, .int x1] : List Value).toArray below meth cx H locs 0 0 Q (F0 m 2 ls []) := by
    intro  n
    induction n with
    | zero => intro z2 σ H locs ls hw h hl; unfold w_M_rowEnd_2 at hw; exact hw.elim
    | succ n ih =>
      intro z2 σ H locs ls hw h hl
      unfold w_M_rowEnd_2 at hw
      refine lv_iload_n hx hb e_M_rowEnd_2 rfl (lv_at hl 1 rfl) ?_
      refine lv_aload_n hx hb e_M_rowEnd_3 rfl (lv_at hl 0 rfl) ?_
      refine M_get C h 12 (v := .ref (rf 12)) rfl (by decide) v_51 e_M_rowEnd_4 ?_
      refine lv_aload_n hx hb e_M_rowEnd_7 rfl (lv_at hl 0 rfl) ?_
      refine M_get C h 33 (v := .int (σ.1 33)) rfl (by decide) v_116 e_M_rowEnd_8 ?_
      refine M_ald C h 12 (by decide) rfl hw.1 e_M_rowEnd_11 ?_
      replace hw := hw.2
      refine lv_topi (fun a1 e_a1 => ?_)
      replace hw := hw a1 e_a1
      refine lv_icmp_ge (tgt := 41) hx hb e_M_rowEnd_12 (by decide) (fun c2 => ?_) (fun c2 => ?_)
      · skip
        replace hw := hw.1 c2
        refine lv_iload_n hx hb e_M_rowEnd_41 rfl (lv_at hl 1 rfl) ?_
        exact hend z2 σ _ _ _ _ hw h e_M_rowEnd_42
      · skip
        replace hw := hw.2 c2
        refine lv_aload_n hx hb e_M_rowEnd_15 rfl (lv_at hl 0 rfl) ?_
        refine lv_iload_n hx hb e_M_rowEnd_16 rfl (lv_at hl 1 rfl) ?_
        refine M_calli (As := [.int z2]) (rest := []) C h hA (K_M_isDead l dC dI mo rf ca H.size σ z2 hw) (cwV 1 hts (gV hsub v_234 v_235 v_236 v_7 v_237) rfl rfl rfl (by decide +kernel) ⟨(Nat.le_of_ble_eq_true rfl), (Nat.le_of_ble_eq_true rfl)⟩) rfl hl.1 (Nat.le_of_ble_eq_true rfl) e_M_rowEnd_17 ⟨(Nat.le_of_ble_eq_true rfl), (Nat.le_of_ble_eq_true rfl)⟩ (fun r4 σ3 H locs hw h => ?_)
        refine W.eq (g2 := F0 m 20 ls [.int r4]) rfl ?_
        refine lv_if_eq (tgt := 41) hx hb e_M_rowEnd_20 (by decide) (fun c5 => ?_) (fun c5 => ?_)
        · skip
          replace hw := hw.1 c5
          refine lv_iload_n hx hb e_M_rowEnd_41 rfl (lv_at hl 1 rfl) ?_
          exact hend z2 σ3 _ _ _ _ hw h e_M_rowEnd_42
        · skip
          replace hw := hw.2 c5
          refine lv_iload_n hx hb e_M_rowEnd_23 rfl (lv_at hl 1 rfl) ?_
          refine lv_aload_n hx hb e_M_rowEnd_24 rfl (lv_at hl 0 rfl) ?_
          refine lv_aload_n hx hb e_M_rowEnd_25 rfl (lv_at hl 0 rfl) ?_
          refine M_get C h 33 (v := .int (σ3.1 33)) rfl (by decide) v_116 e_M_rowEnd_26 ?_
          refine lv_iload_n hx hb e_M_rowEnd_29 rfl (lv_at hl 1 rfl) ?_
          refine M_calli (As := [.int (σ3.1 33), .int z2]) (rest := [.int z2]) C h hA (K_M_at l dC dI mo rf ca H.size σ3 (σ3.1 33) z2 hw) (cwV 2 hts (gV hsub v_69 v_70 v_71 v_7 v_72) rfl rfl rfl (by decide +kernel) ⟨(Nat.le_of_ble_eq_true rfl), (Nat.le_of_ble_eq_true rfl)⟩) rfl hl.1 (Nat.le_of_ble_eq_true rfl) e_M_rowEnd_30 ⟨(Nat.le_of_ble_eq_true rfl), (Nat.le_of_ble_eq_true rfl)⟩ (fun r7 σ6 H locs hw h => ?_)
          refine W.eq (g2 := F0 m 33 ls [.int r7, .int z2]) rfl ?_
          refine M_scalli (As := [.int r7]) (rest := [.int z2]) C h hA (K_M_length l dC dI mo rf ca H.size σ6 r7 hw) (va_cwS 1 hts (gS hsub v_75 v_76 v_7 v_77) rfl rfl rfl (by decide +kernel) ⟨(Nat.le_of_ble_eq_true rfl), (Nat.le_of_ble_eq_true rfl)⟩) rfl hl.1 (Nat.le_of_ble_eq_true rfl) e_M_rowEnd_33 ⟨(Nat.le_of_ble_eq_true rfl), (Nat.le_of_ble_eq_true rfl)⟩ (fun r9 σ8 H locs hw h => ?_)
          refine W.eq (g2 := F0 m 36 ls [.int r9, .int z2]) rfl ?_
          refine lv_iadd hx hb e_M_rowEnd_36 ?_
          refine lv_istore_n (lv' := [(2, .int (z2 + r9)), (0, .ref mo)]) hx hb e_M_rowEnd_37 rfl hl (by decide) rfl (fun ls hl => ?_)
          refine lv_goto (tgt := 2) hx hb e_M_rowEnd_38 (by decide) ?_
          exact ih (z2 + r9) σ8 _ _ _ hw h (lv_sub hl [1, 0] rfl)
  have hl : lv_has ls 3 [(0, .ref mo), (1, .int x1)] := hl
  unfold w_M_rowEnd at hw
  refine lv_iload_n hx hb e_M_rowEnd_0 rfl (lv_at hl 1 rfl) ?_
  refine lv_istore_n (lv' := [(2, .int x1), (0, .ref mo), (1, .int x1)]) hx hb e_M_rowEnd_1 rfl hl (by decide) rfl (fun ls hl => ?_)
  obtain ⟨n9, hw⟩ := hw
  exact K_2 n9 x1 σ _ _ _ hw h (lv_sub hl [1, 0] rfl)
abbrev z_M_buries : MethodName := ⟨"MapFramerModel", "buries", "()Z"⟩
theorem v_238 : (Cond.methodLink "MapFramerModel" 363 ⟨"MapFramerModel", "rowEnd", "(I)I"⟩ : Cond) ∈ bigW := inB_10 30 (by decide +kernel) rfl
theorem v_239 : (Cond.instanceMethod ⟨"MapFramerModel", "rowEnd", "(I)I"⟩ : Cond) ∈ bigW := inB_10 32 (by decide +kernel) rfl
theorem v_240 : (Cond.selects "MapFramerModel" ⟨"MapFramerModel", "rowEnd", "(I)I"⟩ ⟨"MapFramerModel", "rowEnd", "(I)I"⟩ : Cond) ∈ bigW := inS (y := ⟨"MapFramerModel", "rowEnd", "(I)I"⟩) (n := 71) (List.mem_of_getElem? (i := 123) (by decide +kernel))
theorem v_241 : (Cond.code ⟨"MapFramerModel", "rowEnd", "(I)I"⟩ prog_14_method_62_code 3 (some .int) : Cond) ∈ bigW := inB_10 33 rfl rfl
theorem v_242 : (Cond.fieldLink "MapFramerModel" 93 "MapFramerModel" "dead" "[Z" : Cond) ∈ bigW := inB_8 92 (by decide +kernel) rfl
theorem v_243 : (Cond.methodLink "MapFramerModel" 366 ⟨"MapFramerModel", "cut", "(II)V"⟩ : Cond) ∈ bigW := inB_10 34 (by decide +kernel) rfl
theorem v_244 : (Cond.instanceMethod ⟨"MapFramerModel", "cut", "(II)V"⟩ : Cond) ∈ bigW := inB_10 36 (by decide +kernel) rfl
theorem v_245 : (Cond.selects "MapFramerModel" ⟨"MapFramerModel", "cut", "(II)V"⟩ ⟨"MapFramerModel", "cut", "(II)V"⟩ : Cond) ∈ bigW := inS (y := ⟨"MapFramerModel", "cut", "(II)V"⟩) (n := 71) (List.mem_of_getElem? (i := 124) (by decide +kernel))
theorem v_246 : (Cond.code ⟨"MapFramerModel", "cut", "(II)V"⟩ prog_14_method_60_code 7 none : Cond) ∈ bigW := inB_10 37 rfl rfl
theorem e_M_buries_0 : decode prog_14_method_63_code 0 = .ok (.aload_n 0, 1) := by decide +kernel
theorem e_M_buries_1 : decode prog_14_method_63_code 1 = .ok (.iconst 0, 1) := by decide +kernel
theorem e_M_buries_2 : decode prog_14_method_63_code 2 = .ok (.putfield 353, 3) := by decide +kernel
theorem e_M_buries_5 : decode prog_14_method_63_code 5 = .ok (.bipush 16, 2) := by decide +kernel
theorem e_M_buries_7 : decode prog_14_method_63_code 7 = .ok (.aload_n 0, 1) := by decide +kernel
theorem e_M_buries_8 : decode prog_14_method_63_code 8 = .ok (.getfield 266, 3) := by decide +kernel
theorem e_M_buries_11 : decode prog_14_method_63_code 11 = .ok (.imul, 1) := by decide +kernel
theorem e_M_buries_12 : decode prog_14_method_63_code 12 = .ok (.istore_n 1, 1) := by decide +kernel
theorem e_M_buries_13 : decode prog_14_method_63_code 13 = .ok (.iload_n 1, 1) := by decide +kernel
theorem e_M_buries_14 : decode prog_14_method_63_code 14 = .ok (.bipush 16, 2) := by decide +kernel
theorem e_M_buries_16 : decode prog_14_method_63_code 16 = .ok (.aload_n 0, 1) := by decide +kernel
theorem e_M_buries_17 : decode prog_14_method_63_code 17 = .ok (.getfield 266, 3) := by decide +kernel
theorem e_M_buries_20 : decode prog_14_method_63_code 20 = .ok (.imul, 1) := by decide +kernel
theorem e_M_buries_21 : decode prog_14_method_63_code 21 = .ok (.aload_n 0, 1) := by decide +kernel
theorem e_M_buries_22 : decode prog_14_method_63_code 22 = .ok (.getfield 51, 3) := by decide +kernel
theorem e_M_buries_25 : decode prog_14_method_63_code 25 = .ok (.aload_n 0, 1) := by decide +kernel
theorem e_M_buries_26 : decode prog_14_method_63_code 26 = .ok (.getfield 266, 3) := by decide +kernel
theorem e_M_buries_29 : decode prog_14_method_63_code 29 = .ok (.iaload, 1) := by decide +kernel
theorem e_M_buries_30 : decode prog_14_method_63_code 30 = .ok (.iadd, 1) := by decide +kernel
theorem e_M_buries_31 : decode prog_14_method_63_code 31 = .ok (.if_icmp .ge 37, 3) := by decide +kernel
theorem e_M_buries_34 : decode prog_14_method_63_code 34 = .ok (.aload_n 0, 1) := by decide +kernel
theorem e_M_buries_35 : decode prog_14_method_63_code 35 = .ok (.aload_n 0, 1) := by decide +kernel
theorem e_M_buries_36 : decode prog_14_method_63_code 36 = .ok (.getfield 54, 3) := by decide +kernel
theorem e_M_buries_39 : decode prog_14_method_63_code 39 = .ok (.iload_n 1, 1) := by decide +kernel
theorem e_M_buries_40 : decode prog_14_method_63_code 40 = .ok (.iaload, 1) := by decide +kernel
theorem e_M_buries_41 : decode prog_14_method_63_code 41 = .ok (.aload_n 0, 1) := by decide +kernel
theorem e_M_buries_42 : decode prog_14_method_63_code 42 = .ok (.getfield 57, 3) := by decide +kernel
theorem e_M_buries_45 : decode prog_14_method_63_code 45 = .ok (.iload_n 1, 1) := by decide +kernel
theorem e_M_buries_46 : decode prog_14_method_63_code 46 = .ok (.iaload, 1) := by decide +kernel
theorem e_M_buries_47 : decode prog_14_method_63_code 47 = .ok (.aload_n 0, 1) := by decide +kernel
theorem e_M_buries_48 : decode prog_14_method_63_code 48 = .ok (.getfield 60, 3) := by decide +kernel
theorem e_M_buries_51 : decode prog_14_method_63_code 51 = .ok (.iload_n 1, 1) := by decide +kernel
theorem e_M_buries_52 : decode prog_14_method_63_code 52 = .ok (.iaload, 1) := by decide +kernel
theorem e_M_buries_53 : decode prog_14_method_63_code 53 = .ok (.aload_n 0, 1) := by decide +kernel
theorem e_M_buries_54 : decode prog_14_method_63_code 54 = .ok (.getfield 63, 3) := by decide +kernel
theorem e_M_buries_57 : decode prog_14_method_63_code 57 = .ok (.iload_n 1, 1) := by decide +kernel
theorem e_M_buries_58 : decode prog_14_method_63_code 58 = .ok (.iaload, 1) := by decide +kernel
theorem e_M_buries_59 : decode prog_14_method_63_code 59 = .ok (.invokevirtual 356, 3) := by decide +kernel
theorem e_M_buries_62 : decode prog_14_method_63_code 62 = .ok (.iinc 1 1, 3) := by decide +kernel
theorem e_M_buries_65 : decode prog_14_method_63_code 65 = .ok (.goto (-52), 3) := by decide +kernel
theorem e_M_buries_68 : decode prog_14_method_63_code 68 = .ok (.iconst 0, 1) := by decide +kernel
theorem e_M_buries_69 : decode prog_14_method_63_code 69 = .ok (.istore_n 1, 1) := by decide +kernel
theorem e_M_buries_70 : decode prog_14_method_63_code 70 = .ok (.iload_n 1, 1) := by decide +kernel
theorem e_M_buries_71 : decode prog_14_method_63_code 71 = .ok (.aload_n 0, 1) := by decide +kernel
theorem e_M_buries_72 : decode prog_14_method_63_code 72 = .ok (.getfield 39, 3) := by decide +kernel
theorem e_M_buries_75 : decode prog_14_method_63_code 75 = .ok (.aload_n 0, 1) := by decide +kernel
theorem e_M_buries_76 : decode prog_14_method_63_code 76 = .ok (.getfield 266, 3) := by decide +kernel
theorem e_M_buries_79 : decode prog_14_method_63_code 79 = .ok (.iaload, 1) := by decide +kernel
theorem e_M_buries_80 : decode prog_14_method_63_code 80 = .ok (.if_icmp .ge 72, 3) := by decide +kernel
theorem e_M_buries_83 : decode prog_14_method_63_code 83 = .ok (.aload_n 0, 1) := by decide +kernel
theorem e_M_buries_84 : decode prog_14_method_63_code 84 = .ok (.iload_n 1, 1) := by decide +kernel
theorem e_M_buries_85 : decode prog_14_method_63_code 85 = .ok (.invokevirtual 360, 3) := by decide +kernel
theorem e_M_buries_88 : decode prog_14_method_63_code 88 = .ok (.ifCond .eq 13, 3) := by decide +kernel
theorem e_M_buries_91 : decode prog_14_method_63_code 91 = .ok (.aload_n 0, 1) := by decide +kernel
theorem e_M_buries_92 : decode prog_14_method_63_code 92 = .ok (.iload_n 1, 1) := by decide +kernel
theorem e_M_buries_93 : decode prog_14_method_63_code 93 = .ok (.aload_n 0, 1) := by decide +kernel
theorem e_M_buries_94 : decode prog_14_method_63_code 94 = .ok (.iload_n 1, 1) := by decide +kernel
theorem e_M_buries_95 : decode prog_14_method_63_code 95 = .ok (.invokevirtual 363, 3) := by decide +kernel
theorem e_M_buries_98 : decode prog_14_method_63_code 98 = .ok (.invokevirtual 366, 3) := by decide +kernel
theorem e_M_buries_101 : decode prog_14_method_63_code 101 = .ok (.aload_n 0, 1) := by decide +kernel
theorem e_M_buries_102 : decode prog_14_method_63_code 102 = .ok (.getfield 353, 3) := by decide +kernel
theorem e_M_buries_105 : decode prog_14_method_63_code 105 = .ok (.bipush 12, 2) := by decide +kernel
theorem e_M_buries_107 : decode prog_14_method_63_code 107 = .ok (.if_icmp .le 11, 3) := by decide +kernel
theorem e_M_buries_110 : decode prog_14_method_63_code 110 = .ok (.aload_n 0, 1) := by decide +kernel
theorem e_M_buries_111 : decode prog_14_method_63_code 111 = .ok (.bipush 10, 2) := by decide +kernel
theorem e_M_buries_113 : decode prog_14_method_63_code 113 = .ok (.iload_n 1, 1) := by decide +kernel
theorem e_M_buries_114 : decode prog_14_method_63_code 114 = .ok (.invokevirtual 237, 3) := by decide +kernel
theorem e_M_buries_117 : decode prog_14_method_63_code 117 = .ok (.ireturn, 1) := by decide +kernel
theorem e_M_buries_118 : decode prog_14_method_63_code 118 = .ok (.aload_n 0, 1) := by decide +kernel
theorem e_M_buries_119 : decode prog_14_method_63_code 119 = .ok (.iload_n 1, 1) := by decide +kernel
theorem e_M_buries_120 : decode prog_14_method_63_code 120 = .ok (.invokevirtual 360, 3) := by decide +kernel
theorem e_M_buries_123 : decode prog_14_method_63_code 123 = .ok (.ifCond .eq 11, 3) := by decide +kernel
theorem e_M_buries_126 : decode prog_14_method_63_code 126 = .ok (.aload_n 0, 1) := by decide +kernel
theorem e_M_buries_127 : decode prog_14_method_63_code 127 = .ok (.iload_n 1, 1) := by decide +kernel
theorem e_M_buries_128 : decode prog_14_method_63_code 128 = .ok (.invokevirtual 363, 3) := by decide +kernel
theorem e_M_buries_131 : decode prog_14_method_63_code 131 = .ok (.goto 17, 3) := by decide +kernel
theorem e_M_buries_134 : decode prog_14_method_63_code 134 = .ok (.iload_n 1, 1) := by decide +kernel
theorem e_M_buries_135 : decode prog_14_method_63_code 135 = .ok (.aload_n 0, 1) := by decide +kernel
theorem e_M_buries_136 : decode prog_14_method_63_code 136 = .ok (.aload_n 0, 1) := by decide +kernel
theorem e_M_buries_137 : decode prog_14_method_63_code 137 = .ok (.getfield 266, 3) := by decide +kernel
theorem e_M_buries_140 : decode prog_14_method_63_code 140 = .ok (.iload_n 1, 1) := by decide +kernel
theorem e_M_buries_141 : decode prog_14_method_63_code 141 = .ok (.invokevirtual 222, 3) := by decide +kernel
theorem e_M_buries_144 : decode prog_14_method_63_code 144 = .ok (.invokestatic 231, 3) := by decide +kernel
theorem e_M_buries_147 : decode prog_14_method_63_code 147 = .ok (.iadd, 1) := by decide +kernel
theorem e_M_buries_148 : decode prog_14_method_63_code 148 = .ok (.istore_n 1, 1) := by decide +kernel
theorem e_M_buries_149 : decode prog_14_method_63_code 149 = .ok (.goto (-79), 3) := by decide +kernel
theorem e_M_buries_152 : decode prog_14_method_63_code 152 = .ok (.aload_n 0, 1) := by decide +kernel
theorem e_M_buries_153 : decode prog_14_method_63_code 153 = .ok (.getfield 51, 3) := by decide +kernel
theorem e_M_buries_156 : decode prog_14_method_63_code 156 = .ok (.aload_n 0, 1) := by decide +kernel
theorem e_M_buries_157 : decode prog_14_method_63_code 157 = .ok (.getfield 266, 3) := by decide +kernel
theorem e_M_buries_160 : decode prog_14_method_63_code 160 = .ok (.aload_n 0, 1) := by decide +kernel
theorem e_M_buries_161 : decode prog_14_method_63_code 161 = .ok (.getfield 353, 3) := by decide +kernel
theorem e_M_buries_164 : decode prog_14_method_63_code 164 = .ok (.iastore, 1) := by decide +kernel
theorem e_M_buries_165 : decode prog_14_method_63_code 165 = .ok (.iconst 0, 1) := by decide +kernel
theorem e_M_buries_166 : decode prog_14_method_63_code 166 = .ok (.istore_n 1, 1) := by decide +kernel
theorem e_M_buries_167 : decode prog_14_method_63_code 167 = .ok (.iload_n 1, 1) := by decide +kernel
theorem e_M_buries_168 : decode prog_14_method_63_code 168 = .ok (.aload_n 0, 1) := by decide +kernel
theorem e_M_buries_169 : decode prog_14_method_63_code 169 = .ok (.getfield 353, 3) := by decide +kernel
theorem e_M_buries_172 : decode prog_14_method_63_code 172 = .ok (.if_icmp .ge 89, 3) := by decide +kernel
theorem e_M_buries_175 : decode prog_14_method_63_code 175 = .ok (.aload_n 0, 1) := by decide +kernel
theorem e_M_buries_176 : decode prog_14_method_63_code 176 = .ok (.getfield 54, 3) := by decide +kernel
theorem e_M_buries_179 : decode prog_14_method_63_code 179 = .ok (.bipush 16, 2) := by decide +kernel
theorem e_M_buries_181 : decode prog_14_method_63_code 181 = .ok (.aload_n 0, 1) := by decide +kernel
theorem e_M_buries_182 : decode prog_14_method_63_code 182 = .ok (.getfield 266, 3) := by decide +kernel
theorem e_M_buries_185 : decode prog_14_method_63_code 185 = .ok (.imul, 1) := by decide +kernel
theorem e_M_buries_186 : decode prog_14_method_63_code 186 = .ok (.iload_n 1, 1) := by decide +kernel
theorem e_M_buries_187 : decode prog_14_method_63_code 187 = .ok (.iadd, 1) := by decide +kernel
theorem e_M_buries_188 : decode prog_14_method_63_code 188 = .ok (.aload_n 0, 1) := by decide +kernel
theorem e_M_buries_189 : decode prog_14_method_63_code 189 = .ok (.getfield 114, 3) := by decide +kernel
theorem e_M_buries_192 : decode prog_14_method_63_code 192 = .ok (.iload_n 1, 1) := by decide +kernel
theorem e_M_buries_193 : decode prog_14_method_63_code 193 = .ok (.iaload, 1) := by decide +kernel
theorem e_M_buries_194 : decode prog_14_method_63_code 194 = .ok (.iastore, 1) := by decide +kernel
theorem e_M_buries_195 : decode prog_14_method_63_code 195 = .ok (.aload_n 0, 1) := by decide +kernel
theorem e_M_buries_196 : decode prog_14_method_63_code 196 = .ok (.getfield 57, 3) := by decide +kernel
theorem e_M_buries_199 : decode prog_14_method_63_code 199 = .ok (.bipush 16, 2) := by decide +kernel
theorem e_M_buries_201 : decode prog_14_method_63_code 201 = .ok (.aload_n 0, 1) := by decide +kernel
theorem e_M_buries_202 : decode prog_14_method_63_code 202 = .ok (.getfield 266, 3) := by decide +kernel
theorem e_M_buries_205 : decode prog_14_method_63_code 205 = .ok (.imul, 1) := by decide +kernel
theorem e_M_buries_206 : decode prog_14_method_63_code 206 = .ok (.iload_n 1, 1) := by decide +kernel
theorem e_M_buries_207 : decode prog_14_method_63_code 207 = .ok (.iadd, 1) := by decide +kernel
theorem e_M_buries_208 : decode prog_14_method_63_code 208 = .ok (.aload_n 0, 1) := by decide +kernel
theorem e_M_buries_209 : decode prog_14_method_63_code 209 = .ok (.getfield 117, 3) := by decide +kernel
theorem e_M_buries_212 : decode prog_14_method_63_code 212 = .ok (.iload_n 1, 1) := by decide +kernel
theorem e_M_buries_213 : decode prog_14_method_63_code 213 = .ok (.iaload, 1) := by decide +kernel
theorem e_M_buries_214 : decode prog_14_method_63_code 214 = .ok (.iastore, 1) := by decide +kernel
theorem e_M_buries_215 : decode prog_14_method_63_code 215 = .ok (.aload_n 0, 1) := by decide +kernel
theorem e_M_buries_216 : decode prog_14_method_63_code 216 = .ok (.getfield 60, 3) := by decide +kernel
theorem e_M_buries_219 : decode prog_14_method_63_code 219 = .ok (.bipush 16, 2) := by decide +kernel
theorem e_M_buries_221 : decode prog_14_method_63_code 221 = .ok (.aload_n 0, 1) := by decide +kernel
theorem e_M_buries_222 : decode prog_14_method_63_code 222 = .ok (.getfield 266, 3) := by decide +kernel
theorem e_M_buries_225 : decode prog_14_method_63_code 225 = .ok (.imul, 1) := by decide +kernel
theorem e_M_buries_226 : decode prog_14_method_63_code 226 = .ok (.iload_n 1, 1) := by decide +kernel
theorem e_M_buries_227 : decode prog_14_method_63_code 227 = .ok (.iadd, 1) := by decide +kernel
theorem e_M_buries_228 : decode prog_14_method_63_code 228 = .ok (.aload_n 0, 1) := by decide +kernel
theorem e_M_buries_229 : decode prog_14_method_63_code 229 = .ok (.getfield 120, 3) := by decide +kernel
theorem e_M_buries_232 : decode prog_14_method_63_code 232 = .ok (.iload_n 1, 1) := by decide +kernel
theorem e_M_buries_233 : decode prog_14_method_63_code 233 = .ok (.iaload, 1) := by decide +kernel
theorem e_M_buries_234 : decode prog_14_method_63_code 234 = .ok (.iastore, 1) := by decide +kernel
theorem e_M_buries_235 : decode prog_14_method_63_code 235 = .ok (.aload_n 0, 1) := by decide +kernel
theorem e_M_buries_236 : decode prog_14_method_63_code 236 = .ok (.getfield 63, 3) := by decide +kernel
theorem e_M_buries_239 : decode prog_14_method_63_code 239 = .ok (.bipush 16, 2) := by decide +kernel
theorem e_M_buries_241 : decode prog_14_method_63_code 241 = .ok (.aload_n 0, 1) := by decide +kernel
theorem e_M_buries_242 : decode prog_14_method_63_code 242 = .ok (.getfield 266, 3) := by decide +kernel
theorem e_M_buries_245 : decode prog_14_method_63_code 245 = .ok (.imul, 1) := by decide +kernel
theorem e_M_buries_246 : decode prog_14_method_63_code 246 = .ok (.iload_n 1, 1) := by decide +kernel
theorem e_M_buries_247 : decode prog_14_method_63_code 247 = .ok (.iadd, 1) := by decide +kernel
theorem e_M_buries_248 : decode prog_14_method_63_code 248 = .ok (.aload_n 0, 1) := by decide +kernel
theorem e_M_buries_249 : decode prog_14_method_63_code 249 = .ok (.getfield 123, 3) := by decide +kernel
theorem e_M_buries_252 : decode prog_14_method_63_code 252 = .ok (.iload_n 1, 1) := by decide +kernel
theorem e_M_buries_253 : decode prog_14_method_63_code 253 = .ok (.iaload, 1) := by decide +kernel
theorem e_M_buries_254 : decode prog_14_method_63_code 254 = .ok (.iastore, 1) := by decide +kernel
theorem e_M_buries_255 : decode prog_14_method_63_code 255 = .ok (.iinc 1 1, 3) := by decide +kernel
theorem e_M_buries_258 : decode prog_14_method_63_code 258 = .ok (.goto (-91), 3) := by decide +kernel
theorem e_M_buries_261 : decode prog_14_method_63_code 261 = .ok (.iconst 0, 1) := by decide +kernel
theorem e_M_buries_262 : decode prog_14_method_63_code 262 = .ok (.istore_n 1, 1) := by decide +kernel
theorem e_M_buries_263 : decode prog_14_method_63_code 263 = .ok (.iload_n 1, 1) := by decide +kernel
theorem e_M_buries_264 : decode prog_14_method_63_code 264 = .ok (.aload_n 0, 1) := by decide +kernel
theorem e_M_buries_265 : decode prog_14_method_63_code 265 = .ok (.getfield 39, 3) := by decide +kernel
theorem e_M_buries_268 : decode prog_14_method_63_code 268 = .ok (.aload_n 0, 1) := by decide +kernel
theorem e_M_buries_269 : decode prog_14_method_63_code 269 = .ok (.getfield 266, 3) := by decide +kernel
theorem e_M_buries_272 : decode prog_14_method_63_code 272 = .ok (.iaload, 1) := by decide +kernel
theorem e_M_buries_273 : decode prog_14_method_63_code 273 = .ok (.if_icmp .ge 171, 3) := by decide +kernel
theorem e_M_buries_276 : decode prog_14_method_63_code 276 = .ok (.aload_n 0, 1) := by decide +kernel
theorem e_M_buries_277 : decode prog_14_method_63_code 277 = .ok (.iload_n 1, 1) := by decide +kernel
theorem e_M_buries_278 : decode prog_14_method_63_code 278 = .ok (.invokevirtual 360, 3) := by decide +kernel
theorem e_M_buries_281 : decode prog_14_method_63_code 281 = .ok (.ifCond .eq 11, 3) := by decide +kernel
theorem e_M_buries_284 : decode prog_14_method_63_code 284 = .ok (.aload_n 0, 1) := by decide +kernel
theorem e_M_buries_285 : decode prog_14_method_63_code 285 = .ok (.iload_n 1, 1) := by decide +kernel
theorem e_M_buries_286 : decode prog_14_method_63_code 286 = .ok (.invokevirtual 363, 3) := by decide +kernel
theorem e_M_buries_289 : decode prog_14_method_63_code 289 = .ok (.goto 4, 3) := by decide +kernel
theorem e_M_buries_292 : decode prog_14_method_63_code 292 = .ok (.iload_n 1, 1) := by decide +kernel
theorem e_M_buries_293 : decode prog_14_method_63_code 293 = .ok (.istore_n 2, 1) := by decide +kernel
theorem e_M_buries_294 : decode prog_14_method_63_code 294 = .ok (.iload_n 2, 1) := by decide +kernel
theorem e_M_buries_295 : decode prog_14_method_63_code 295 = .ok (.iload_n 1, 1) := by decide +kernel
theorem e_M_buries_296 : decode prog_14_method_63_code 296 = .ok (.if_icmp .le 121, 3) := by decide +kernel
theorem e_M_buries_299 : decode prog_14_method_63_code 299 = .ok (.aload_n 0, 1) := by decide +kernel
theorem e_M_buries_300 : decode prog_14_method_63_code 300 = .ok (.getfield 93, 3) := by decide +kernel
theorem e_M_buries_303 : decode prog_14_method_63_code 303 = .ok (.bipush 120, 2) := by decide +kernel
theorem e_M_buries_305 : decode prog_14_method_63_code 305 = .ok (.aload_n 0, 1) := by decide +kernel
theorem e_M_buries_306 : decode prog_14_method_63_code 306 = .ok (.getfield 266, 3) := by decide +kernel
theorem e_M_buries_309 : decode prog_14_method_63_code 309 = .ok (.imul, 1) := by decide +kernel
theorem e_M_buries_310 : decode prog_14_method_63_code 310 = .ok (.iload_n 1, 1) := by decide +kernel
theorem e_M_buries_311 : decode prog_14_method_63_code 311 = .ok (.iadd, 1) := by decide +kernel
theorem e_M_buries_312 : decode prog_14_method_63_code 312 = .ok (.iconst 1, 1) := by decide +kernel
theorem e_M_buries_313 : decode prog_14_method_63_code 313 = .ok (.bastore, 1) := by decide +kernel
theorem e_M_buries_314 : decode prog_14_method_63_code 314 = .ok (.aload_n 0, 1) := by decide +kernel
theorem e_M_buries_315 : decode prog_14_method_63_code 315 = .ok (.getfield 45, 3) := by decide +kernel
theorem e_M_buries_318 : decode prog_14_method_63_code 318 = .ok (.aload_n 0, 1) := by decide +kernel
theorem e_M_buries_319 : decode prog_14_method_63_code 319 = .ok (.getfield 266, 3) := by decide +kernel
theorem e_M_buries_322 : decode prog_14_method_63_code 322 = .ok (.aload_n 0, 1) := by decide +kernel
theorem e_M_buries_323 : decode prog_14_method_63_code 323 = .ok (.getfield 45, 3) := by decide +kernel
theorem e_M_buries_326 : decode prog_14_method_63_code 326 = .ok (.aload_n 0, 1) := by decide +kernel
theorem e_M_buries_327 : decode prog_14_method_63_code 327 = .ok (.getfield 266, 3) := by decide +kernel
theorem e_M_buries_330 : decode prog_14_method_63_code 330 = .ok (.iaload, 1) := by decide +kernel
theorem e_M_buries_331 : decode prog_14_method_63_code 331 = .ok (.ifCond .ne 7, 3) := by decide +kernel
theorem e_M_buries_334 : decode prog_14_method_63_code 334 = .ok (.iconst 1, 1) := by decide +kernel
theorem e_M_buries_335 : decode prog_14_method_63_code 335 = .ok (.goto 12, 3) := by decide +kernel
theorem e_M_buries_338 : decode prog_14_method_63_code 338 = .ok (.aload_n 0, 1) := by decide +kernel
theorem e_M_buries_339 : decode prog_14_method_63_code 339 = .ok (.getfield 45, 3) := by decide +kernel
theorem e_M_buries_342 : decode prog_14_method_63_code 342 = .ok (.aload_n 0, 1) := by decide +kernel
theorem e_M_buries_343 : decode prog_14_method_63_code 343 = .ok (.getfield 266, 3) := by decide +kernel
theorem e_M_buries_346 : decode prog_14_method_63_code 346 = .ok (.iaload, 1) := by decide +kernel
theorem e_M_buries_347 : decode prog_14_method_63_code 347 = .ok (.iastore, 1) := by decide +kernel
theorem e_M_buries_348 : decode prog_14_method_63_code 348 = .ok (.iload_n 1, 1) := by decide +kernel
theorem e_M_buries_349 : decode prog_14_method_63_code 349 = .ok (.istore_n 3, 1) := by decide +kernel
theorem e_M_buries_350 : decode prog_14_method_63_code 350 = .ok (.iload_n 3, 1) := by decide +kernel
theorem e_M_buries_351 : decode prog_14_method_63_code 351 = .ok (.iload_n 2, 1) := by decide +kernel
theorem e_M_buries_352 : decode prog_14_method_63_code 352 = .ok (.if_icmp .ge 37, 3) := by decide +kernel
theorem e_M_buries_355 : decode prog_14_method_63_code 355 = .ok (.aload_n 0, 1) := by decide +kernel
theorem e_M_buries_356 : decode prog_14_method_63_code 356 = .ok (.getfield 42, 3) := by decide +kernel
theorem e_M_buries_359 : decode prog_14_method_63_code 359 = .ok (.bipush 120, 2) := by decide +kernel
theorem e_M_buries_361 : decode prog_14_method_63_code 361 = .ok (.aload_n 0, 1) := by decide +kernel
theorem e_M_buries_362 : decode prog_14_method_63_code 362 = .ok (.getfield 266, 3) := by decide +kernel
theorem e_M_buries_365 : decode prog_14_method_63_code 365 = .ok (.imul, 1) := by decide +kernel
theorem e_M_buries_366 : decode prog_14_method_63_code 366 = .ok (.iload_n 3, 1) := by decide +kernel
theorem e_M_buries_367 : decode prog_14_method_63_code 367 = .ok (.iadd, 1) := by decide +kernel
theorem e_M_buries_368 : decode prog_14_method_63_code 368 = .ok (.iload_n 3, 1) := by decide +kernel
theorem e_M_buries_369 : decode prog_14_method_63_code 369 = .ok (.iload_n 2, 1) := by decide +kernel
theorem e_M_buries_370 : decode prog_14_method_63_code 370 = .ok (.iconst 1, 1) := by decide +kernel
theorem e_M_buries_371 : decode prog_14_method_63_code 371 = .ok (.isub, 1) := by decide +kernel
theorem e_M_buries_372 : decode prog_14_method_63_code 372 = .ok (.if_icmp .ne 9, 3) := by decide +kernel
theorem e_M_buries_375 : decode prog_14_method_63_code 375 = .ok (.sipush 191, 3) := by decide +kernel
theorem e_M_buries_378 : decode prog_14_method_63_code 378 = .ok (.goto 4, 3) := by decide +kernel
theorem e_M_buries_381 : decode prog_14_method_63_code 381 = .ok (.iconst 0, 1) := by decide +kernel
theorem e_M_buries_382 : decode prog_14_method_63_code 382 = .ok (.iastore, 1) := by decide +kernel
theorem e_M_buries_383 : decode prog_14_method_63_code 383 = .ok (.iinc 3 1, 3) := by decide +kernel
theorem e_M_buries_386 : decode prog_14_method_63_code 386 = .ok (.goto (-36), 3) := by decide +kernel
theorem e_M_buries_389 : decode prog_14_method_63_code 389 = .ok (.iload_n 1, 1) := by decide +kernel
theorem e_M_buries_390 : decode prog_14_method_63_code 390 = .ok (.istore_n 3, 1) := by decide +kernel
theorem e_M_buries_391 : decode prog_14_method_63_code 391 = .ok (.iload_n 3, 1) := by decide +kernel
theorem e_M_buries_392 : decode prog_14_method_63_code 392 = .ok (.iload_n 2, 1) := by decide +kernel
theorem e_M_buries_393 : decode prog_14_method_63_code 393 = .ok (.if_icmp .ge 24, 3) := by decide +kernel
theorem e_M_buries_396 : decode prog_14_method_63_code 396 = .ok (.aload_n 0, 1) := by decide +kernel
theorem e_M_buries_397 : decode prog_14_method_63_code 397 = .ok (.getfield 78, 3) := by decide +kernel
theorem e_M_buries_400 : decode prog_14_method_63_code 400 = .ok (.bipush 120, 2) := by decide +kernel
theorem e_M_buries_402 : decode prog_14_method_63_code 402 = .ok (.aload_n 0, 1) := by decide +kernel
theorem e_M_buries_403 : decode prog_14_method_63_code 403 = .ok (.getfield 266, 3) := by decide +kernel
theorem e_M_buries_406 : decode prog_14_method_63_code 406 = .ok (.imul, 1) := by decide +kernel
theorem e_M_buries_407 : decode prog_14_method_63_code 407 = .ok (.iload_n 3, 1) := by decide +kernel
theorem e_M_buries_408 : decode prog_14_method_63_code 408 = .ok (.iadd, 1) := by decide +kernel
theorem e_M_buries_409 : decode prog_14_method_63_code 409 = .ok (.iconst 0, 1) := by decide +kernel
theorem e_M_buries_410 : decode prog_14_method_63_code 410 = .ok (.bastore, 1) := by decide +kernel
theorem e_M_buries_411 : decode prog_14_method_63_code 411 = .ok (.iinc 3 1, 3) := by decide +kernel
theorem e_M_buries_414 : decode prog_14_method_63_code 414 = .ok (.goto (-23), 3) := by decide +kernel
theorem e_M_buries_417 : decode prog_14_method_63_code 417 = .ok (.iload_n 2, 1) := by decide +kernel
theorem e_M_buries_418 : decode prog_14_method_63_code 418 = .ok (.iload_n 1, 1) := by decide +kernel
theorem e_M_buries_419 : decode prog_14_method_63_code 419 = .ok (.if_icmp .le 7, 3) := by decide +kernel
theorem e_M_buries_422 : decode prog_14_method_63_code 422 = .ok (.iload_n 2, 1) := by decide +kernel
theorem e_M_buries_423 : decode prog_14_method_63_code 423 = .ok (.goto 17, 3) := by decide +kernel
theorem e_M_buries_426 : decode prog_14_method_63_code 426 = .ok (.iload_n 1, 1) := by decide +kernel
theorem e_M_buries_427 : decode prog_14_method_63_code 427 = .ok (.aload_n 0, 1) := by decide +kernel
theorem e_M_buries_428 : decode prog_14_method_63_code 428 = .ok (.aload_n 0, 1) := by decide +kernel
theorem e_M_buries_429 : decode prog_14_method_63_code 429 = .ok (.getfield 266, 3) := by decide +kernel
theorem e_M_buries_432 : decode prog_14_method_63_code 432 = .ok (.iload_n 1, 1) := by decide +kernel
theorem e_M_buries_433 : decode prog_14_method_63_code 433 = .ok (.invokevirtual 222, 3) := by decide +kernel
theorem e_M_buries_436 : decode prog_14_method_63_code 436 = .ok (.invokestatic 231, 3) := by decide +kernel
theorem e_M_buries_439 : decode prog_14_method_63_code 439 = .ok (.iadd, 1) := by decide +kernel
theorem e_M_buries_440 : decode prog_14_method_63_code 440 = .ok (.istore_n 1, 1) := by decide +kernel
theorem e_M_buries_441 : decode prog_14_method_63_code 441 = .ok (.goto (-178), 3) := by decide +kernel
theorem e_M_buries_444 : decode prog_14_method_63_code 444 = .ok (.iconst 1, 1) := by decide +kernel
theorem e_M_buries_445 : decode prog_14_method_63_code 445 = .ok (.ireturn, 1) := by decide +kernel
def w_M_buries_148 (K70 : Int32 → MST → Prop) (P : Int32 → MST → Prop) (s0 : Int32) (σ : MST) : Prop := K70 s0 σ
def w_M_buries_101 (K70 : Int32 → MST → Prop) (P : Int32 → MST → Prop) (z1 : Int32) (σ : MST) : Prop := (((σ.1 45) ≤ 12 → w_M_isDead z1 σ (fun r3 σ2 => ((r3 = 0 → w_M_at (σ2.1 33) z1 σ2 (fun r6 σ5 => w_M_length r6 σ5 (fun r8 σ7 => w_M_buries_148 K70 P (z1 + r8) σ7))) ∧ (¬ r3 = 0 → w_M_rowEnd z1 σ2 (fun r10 σ9 => w_M_buries_148 K70 P r10 σ9))))) ∧ (¬ (σ.1 45) ≤ 12 → w_M_faulty (10 : Int32) z1 σ (fun r12 σ11 => (narrow .boolean (.int r12) = .int r12 ∧ P r12 σ11))))
def w_M_buries_440 (K263 : Int32 → MST → Prop) (P : Int32 → MST → Prop) (s0 : Int32) (σ : MST) : Prop := K263 s0 σ
def w_M_buries_417 (K263 : Int32 → MST → Prop) (P : Int32 → MST → Prop) (z1 : Int32) (z2 : Int32) (σ : MST) : Prop := ((z2 ≤ z1 → w_M_at (σ.1 33) z1 σ (fun r15 σ14 => w_M_length r15 σ14 (fun r17 σ16 => w_M_buries_440 K263 P (z1 + r17) σ16))) ∧ (¬ z2 ≤ z1 → w_M_buries_440 K263 P z2 σ))
def w_M_buries_382 (K350 : Int32 → Int32 → Int32 → MST → Prop) (P : Int32 → MST → Prop) (z1 : Int32) (z2 : Int32) (z3 : Int32) (s0 : Int32) (s1 : Int32) (σ : MST) : Prop := vp_in s1 960 ∧ (∀ σ18 : MST, σ18 = setA σ 13 (upd (σ.2.1 13) (s1 : Int32).toNatClampNeg s0) → K350 z1 z2 (z3 + 1) σ18)
def w_M_buries_391 (K263 : Int32 → MST → Prop) (P : Int32 → MST → Prop) : Nat → Int32 → Int32 → Int32 → MST → Prop
  | 0, _, _, _, _ => False
  | n + 1, z1, z2, z3, σ => ((z2 ≤ z3 → w_M_buries_417 K263 P z1 z2 σ) ∧ (¬ z2 ≤ z3 → vp_in (((120 : Int32) * (σ.1 33)) + z3) 960 ∧ (∀ σ20 : MST, σ20 = setA σ 26 (upd (σ.2.1 26) ((((120 : Int32) * (σ.1 33)) + z3) : Int32).toNatClampNeg (vp_nar .boolean 0)) → w_M_buries_391 K263 P n z1 z2 (z3 + 1) σ20)))
def w_M_buries_350 (K263 : Int32 → MST → Prop) (P : Int32 → MST → Prop) : Nat → Int32 → Int32 → Int32 → MST → Prop
  | 0, _, _, _, _ => False
  | n + 1, z1, z2, z3, σ => ((z2 ≤ z3 → (∃ n9 : Nat, w_M_buries_391 K263 P n9 z1 z2 z1 σ)) ∧ (¬ z2 ≤ z3 → ((z3 = (z2 - 1) → w_M_buries_382 (w_M_buries_350 K263 P n) P z1 z2 z3 191 (((120 : Int32) * (σ.1 33)) + z3) σ) ∧ (¬ z3 = (z2 - 1) → w_M_buries_382 (w_M_buries_350 K263 P n) P z1 z2 z3 0 (((120 : Int32) * (σ.1 33)) + z3) σ))))
def w_M_buries_347 (K263 : Int32 → MST → Prop) (P : Int32 → MST → Prop) (z1 : Int32) (z2 : Int32) (s0 : Int32) (s1 : Int32) (σ : MST) : Prop := vp_in s1 8 ∧ (∀ σ23 : MST, σ23 = setA σ 14 (upd (σ.2.1 14) (s1 : Int32).toNatClampNeg s0) → (∃ n9 : Nat, w_M_buries_350 K263 P n9 z1 z2 z1 σ23))
def w_M_buries_293 (K263 : Int32 → MST → Prop) (P : Int32 → MST → Prop) (z1 : Int32) (s0 : Int32) (σ : MST) : Prop := ((s0 ≤ z1 → w_M_buries_417 K263 P z1 s0 σ) ∧ (¬ s0 ≤ z1 → vp_in (((120 : Int32) * (σ.1 33)) + z1) 960 ∧ (∀ σ25 : MST, σ25 = setA σ 31 (upd (σ.2.1 31) ((((120 : Int32) * (σ.1 33)) + z1) : Int32).toNatClampNeg (vp_nar .boolean 1)) → vp_in (σ25.1 33) 8 ∧ (∀ a26 : Int32, a26 = (σ25.2.1 14 ((σ25.1 33) : Int32).toNatClampNeg) → ((a26 = 0 → w_M_buries_347 K263 P z1 s0 1 (σ25.1 33) σ25) ∧ (¬ a26 = 0 → vp_in (σ25.1 33) 8 ∧ (∀ a28 : Int32, a28 = (σ25.2.1 14 ((σ25.1 33) : Int32).toNatClampNeg) → w_M_buries_347 K263 P z1 s0 a28 (σ25.1 33) σ25)))))))
def w_M_buries_263 (P : Int32 → MST → Prop) : Nat → Int32 → MST → Prop
  | 0, _, _ => False
  | n + 1, z1, σ => vp_in (σ.1 33) 8 ∧ (∀ a29 : Int32, a29 = (σ.2.1 12 ((σ.1 33) : Int32).toNatClampNeg) → ((a29 ≤ z1 → P (1 : Int32) σ) ∧ (¬ a29 ≤ z1 → w_M_isDead z1 σ (fun r32 σ31 => ((r32 = 0 → w_M_buries_293 (w_M_buries_263 P n) P z1 z1 σ31) ∧ (¬ r32 = 0 → w_M_rowEnd z1 σ31 (fun r35 σ34 => w_M_buries_293 (w_M_buries_263 P n) P z1 r35 σ34)))))))
def w_M_buries_167 (P : Int32 → MST → Prop) : Nat → Int32 → MST → Prop
  | 0, _, _ => False
  | n + 1, z1, σ => (((σ.1 45) ≤ z1 → (∃ n9 : Nat, w_M_buries_263 P n9 0 σ)) ∧ (¬ (σ.1 45) ≤ z1 → vp_in z1 40 ∧ (∀ a37 : Int32, a37 = (σ.2.1 46 (z1 : Int32).toNatClampNeg) → vp_in (((16 : Int32) * (σ.1 33)) + z1) 128 ∧ (∀ σ38 : MST, σ38 = setA σ 17 (upd (σ.2.1 17) ((((16 : Int32) * (σ.1 33)) + z1) : Int32).toNatClampNeg a37) → vp_in z1 40 ∧ (∀ a39 : Int32, a39 = (σ38.2.1 47 (z1 : Int32).toNatClampNeg) → vp_in (((16 : Int32) * (σ38.1 33)) + z1) 128 ∧ (∀ σ40 : MST, σ40 = setA σ38 18 (upd (σ38.2.1 18) ((((16 : Int32) * (σ38.1 33)) + z1) : Int32).toNatClampNeg a39) → vp_in z1 40 ∧ (∀ a41 : Int32, a41 = (σ40.2.1 48 (z1 : Int32).toNatClampNeg) → vp_in (((16 : Int32) * (σ40.1 33)) + z1) 128 ∧ (∀ σ42 : MST, σ42 = setA σ40 19 (upd (σ40.2.1 19) ((((16 : Int32) * (σ40.1 33)) + z1) : Int32).toNatClampNeg a41) → vp_in z1 40 ∧ (∀ a43 : Int32, a43 = (σ42.2.1 49 (z1 : Int32).toNatClampNeg) → vp_in (((16 : Int32) * (σ42.1 33)) + z1) 128 ∧ (∀ σ44 : MST, σ44 = setA σ42 20 (upd (σ42.2.1 20) ((((16 : Int32) * (σ42.1 33)) + z1) : Int32).toNatClampNeg a43) → w_M_buries_167 P n (z1 + 1) σ44))))))))))
def w_M_buries_70 (P : Int32 → MST → Prop) : Nat → Int32 → MST → Prop
  | 0, _, _ => False
  | n + 1, z1, σ => vp_in (σ.1 33) 8 ∧ (∀ a45 : Int32, a45 = (σ.2.1 12 ((σ.1 33) : Int32).toNatClampNeg) → ((a45 ≤ z1 → vp_in (σ.1 33) 8 ∧ (∀ σ47 : MST, σ47 = setA σ 16 (upd (σ.2.1 16) ((σ.1 33) : Int32).toNatClampNeg (σ.1 45)) → (∃ n9 : Nat, w_M_buries_167 P n9 0 σ47))) ∧ (¬ a45 ≤ z1 → w_M_isDead z1 σ (fun r49 σ48 => ((r49 = 0 → w_M_buries_101 (w_M_buries_70 P n) P z1 σ48) ∧ (¬ r49 = 0 → w_M_rowEnd z1 σ48 (fun r52 σ51 => w_M_cut z1 r52 σ51 (fun σ53 => w_M_buries_101 (w_M_buries_70 P n) P z1 σ53))))))))
def w_M_buries_13 (P : Int32 → MST → Prop) : Nat → Int32 → MST → Prop
  | 0, _, _ => False
  | n + 1, z1, σ => vp_in (σ.1 33) 8 ∧ (∀ a55 : Int32, a55 = (σ.2.1 16 ((σ.1 33) : Int32).toNatClampNeg) → (((((16 : Int32) * (σ.1 33)) + a55) ≤ z1 → (∃ n9 : Nat, w_M_buries_70 P n9 0 σ)) ∧ (¬ (((16 : Int32) * (σ.1 33)) + a55) ≤ z1 → vp_in z1 128 ∧ (∀ a57 : Int32, a57 = (σ.2.1 17 (z1 : Int32).toNatClampNeg) → vp_in z1 128 ∧ (∀ a58 : Int32, a58 = (σ.2.1 18 (z1 : Int32).toNatClampNeg) → vp_in z1 128 ∧ (∀ a59 : Int32, a59 = (σ.2.1 19 (z1 : Int32).toNatClampNeg) → vp_in z1 128 ∧ (∀ a60 : Int32, a60 = (σ.2.1 20 (z1 : Int32).toNatClampNeg) → w_M_addCut a57 a58 a59 a60 σ (fun σ61 => w_M_buries_13 P n (z1 + 1) σ61))))))))
def w_M_buries (σ : MST) (P : Int32 → MST → Prop) : Prop := ∀ σ63 : MST, σ63 = setI σ 45 0 → (∃ n9 : Nat, w_M_buries_13 P n9 ((16 : Int32) * (σ63.1 33)) σ63)
set_option maxHeartbeats 4000000 in
set_option maxRecDepth 100000 in
theorem K_M_buries (l : Launch) (dC : Nat → ClassId) (dI : Nat → Nat → Nat) (mo : Nat) (rf : Nat → Nat) (ca : Nat → ClassId) (sz : Nat) (σ : MST) {P : Int32 → MST → Prop} (hw : w_M_buries σ P) : Met l z_M_buries (mW z_M_buries prog_14_method_63_code 4 (some .boolean)) ({ frames := 3, cells := 0, slots := 0, locals := 65 } : Room) (va_Pc [.ref mo] (MPre (dC, dI) mo rf ca σ sz)) (va_Qi P (MB (dC, dI) mo rf ca sz) (mA mo rf sz)) 0 0 (mA mo rf sz) := by
  refine M_ofz (by decide) rfl (Nat.le_of_ble_eq_true rfl) ?_
  intro p e s m below meth cx Q A ls C hA hend h hl
  have C0 := C
  obtain ⟨⟨hx, hb, hml, hown, hts⟩, hsub⟩ := C0
  have K_148 : ∀ (K70 : Int32 → MST → Prop) (hK70 : ∀ (z1 : Int32) (σ : MST) (H : Heap) (locs : List Loc) (ls : Array Slot), K70 z1 σ → MH (dC, dI) A mo rf ca σ s H locs → lv_has ls 4 [(0, .ref mo), (1, .int z1)] → W p l e ({ frames := 3, cells := 0, slots := 0, locals := 65 } : Room) s m ([.ref mo] : List Value).toArray below meth cx H locs 0 0 Q (F0 m 70 ls [])), ∀ (s0 : Int32) (σ : MST) (H : Heap) (locs : List Loc) (ls : Array Slot), w_M_buries_148 K70 P s0 σ → MH (dC, dI) A mo rf ca σ s H locs → lv_has ls 4 [(0, .ref mo)] → W p l e ({ frames := 3, cells := 0, slots := 0, locals := 65 } : Room) s m ([.ref mo] : List Value).toArray below meth cx H locs 0 0 Q (F0 m 148 ls [.int s0]) := by
    intro K70 hK70 s0 σ H locs ls hw h hl
    unfold w_M_buries_148 at hw
    refine lv_istore_n (lv' := [(1, .int s0), (0, .ref mo)]) hx hb e_M_buries_148 rfl hl (by decide) rfl (fun ls hl => ?_)
    refine lv_goto (tgt := 70) hx hb e_M_buries_149 (by decide) ?_
    exact hK70 s0 σ _ _ _ hw h (lv_sub hl [1, 0] rfl)
  have K_101 : ∀ (K70 : Int32 → MST → Prop) (hK70 : ∀ (z1 : Int32) (σ : MST) (H : Heap) (locs : List Loc) (ls : Array Slot), K70 z1 σ → MH (dC, dI) A mo rf ca σ s H locs → lv_has ls 4 [(0, .ref mo), (1, .int z1)] → W p l e ({ frames := 3, cells := 0, slots := 0, locals := 65 } : Room) s m ([.ref mo] : List Value).toArray below meth cx H locs 0 0 Q (F0 m 70 ls [])), ∀ (z1 : Int32) (σ : MST) (H : Heap) (locs : List Loc) (ls : Array Slot), w_M_buries_101 K70 P z1 σ → MH (dC, dI) A mo rf ca σ s H locs → lv_has ls 4 [(0, .ref mo), (1, .int z1)] → W p l e ({ frames := 3, cells := 0, slots := 0, locals := 65 } : Room) s m ([.ref mo] : List Value).toArray below meth cx H locs 0 0 Q (F0 m 101 ls []) := by
    intro K70 hK70 z1 σ H locs ls hw h hl
    unfold w_M_buries_101 at hw
    refine lv_aload_n hx hb e_M_buries_101 rfl (lv_at hl 0 rfl) ?_
    refine M_get C h 45 (v := .int (σ.1 45)) rfl (by decide) v_226 e_M_buries_102 ?_
    refine lv_bipush (v := 12) hx hb e_M_buries_105 (by decide) ?_
    refine lv_icmp_le (tgt := 118) hx hb e_M_buries_107 (by decide) (fun c1 => ?_) (fun c1 => ?_)
    · skip
      replace hw := hw.1 c1
      refine lv_aload_n hx hb e_M_buries_118 rfl (lv_at hl 0 rfl) ?_
      refine lv_iload_n hx hb e_M_buries_119 rfl (lv_at hl 1 rfl) ?_
      refine M_calli (As := [.int z1]) (rest := []) C h hA (K_M_isDead l dC dI mo rf ca H.size σ z1 hw) (cwV 1 hts (gV hsub v_234 v_235 v_236 v_7 v_237) rfl rfl rfl (by decide +kernel) ⟨(Nat.le_of_ble_eq_true rfl), (Nat.le_of_ble_eq_true rfl)⟩) rfl hl.1 (Nat.le_of_ble_eq_true rfl) e_M_buries_120 ⟨(Nat.le_of_ble_eq_true rfl), (Nat.le_of_ble_eq_true rfl)⟩ (fun r3 σ2 H locs hw h => ?_)
      refine W.eq (g2 := F0 m 123 ls [.int r3]) rfl ?_
      refine lv_if_eq (tgt := 134) hx hb e_M_buries_123 (by decide) (fun c4 => ?_) (fun c4 => ?_)
      · skip
        replace hw := hw.1 c4
        refine lv_iload_n hx hb e_M_buries_134 rfl (lv_at hl 1 rfl) ?_
        refine lv_aload_n hx hb e_M_buries_135 rfl (lv_at hl 0 rfl) ?_
        refine lv_aload_n hx hb e_M_buries_136 rfl (lv_at hl 0 rfl) ?_
        refine M_get C h 33 (v := .int (σ2.1 33)) rfl (by decide) v_116 e_M_buries_137 ?_
        refine lv_iload_n hx hb e_M_buries_140 rfl (lv_at hl 1 rfl) ?_
        refine M_calli (As := [.int (σ2.1 33), .int z1]) (rest := [.int z1]) C h hA (K_M_at l dC dI mo rf ca H.size σ2 (σ2.1 33) z1 hw) (cwV 2 hts (gV hsub v_69 v_70 v_71 v_7 v_72) rfl rfl rfl (by decide +kernel) ⟨(Nat.le_of_ble_eq_true rfl), (Nat.le_of_ble_eq_true rfl)⟩) rfl hl.1 (Nat.le_of_ble_eq_true rfl) e_M_buries_141 ⟨(Nat.le_of_ble_eq_true rfl), (Nat.le_of_ble_eq_true rfl)⟩ (fun r6 σ5 H locs hw h => ?_)
        refine W.eq (g2 := F0 m 144 ls [.int r6, .int z1]) rfl ?_
        refine M_scalli (As := [.int r6]) (rest := [.int z1]) C h hA (K_M_length l dC dI mo rf ca H.size σ5 r6 hw) (va_cwS 1 hts (gS hsub v_75 v_76 v_7 v_77) rfl rfl rfl (by decide +kernel) ⟨(Nat.le_of_ble_eq_true rfl), (Nat.le_of_ble_eq_true rfl)⟩) rfl hl.1 (Nat.le_of_ble_eq_true rfl) e_M_buries_144 ⟨(Nat.le_of_ble_eq_true rfl), (Nat.le_of_ble_eq_true rfl)⟩ (fun r8 σ7 H locs hw h => ?_)
        refine W.eq (g2 := F0 m 147 ls [.int r8, .int z1]) rfl ?_
        refine lv_iadd hx hb e_M_buries_147 ?_
        exact K_148 _ hK70 (z1 + r8) σ7 _ _ _ hw h (lv_sub hl [0] rfl)
      · skip
        replace hw := hw.2 c4
        refine lv_aload_n hx hb e_M_buries_126 rfl (lv_at hl 0 rfl) ?_
        refine lv_iload_n hx hb e_M_buries_127 rfl (lv_at hl 1 rfl) ?_
        refine M_calli (As := [.int z1]) (rest := []) C h hA (K_M_rowEnd l dC dI mo rf ca H.size σ2 z1 hw) (cwV 1 hts (gV hsub v_238 v_239 v_240 v_7 v_241) rfl rfl rfl (by decide +kernel) ⟨(Nat.le_of_ble_eq_true rfl), (Nat.le_of_ble_eq_true rfl)⟩) rfl hl.1 (Nat.le_of_ble_eq_true rfl) e_M_buries_128 ⟨(Nat.le_of_ble_eq_true rfl), (Nat.le_of_ble_eq_true rfl)⟩ (fun r10 σ9 H locs hw h => ?_)
        refine W.eq (g2 := F0 m 131 ls [.int r10]) rfl ?_
        refine lv_goto (tgt := 148) hx hb e_M_buries_131 (by decide) ?_
        exact K_148 _ hK70 r10 σ9 _ _ _ hw h (lv_sub hl [0] rfl)
    · skip
      replace hw := hw.2 c1
      refine lv_aload_n hx hb e_M_buries_110 rfl (lv_at hl 0 rfl) ?_
      refine lv_bipush (v := 10) hx hb e_M_buries_111 (by decide) ?_
      refine lv_iload_n hx hb e_M_buries_113 rfl (lv_at hl 1 rfl) ?_
      refine M_calli (As := [.int 10, .int z1]) (rest := []) C h hA (K_M_faulty l dC dI mo rf ca H.size σ (10 : Int32) z1 hw) (cwV 2 hts (gV hsub v_79 v_80 v_81 v_7 v_82) rfl rfl rfl (by decide +kernel) ⟨(Nat.le_of_ble_eq_true rfl), (Nat.le_of_ble_eq_true rfl)⟩) rfl hl.1 (Nat.le_of_ble_eq_true rfl) e_M_buries_114 ⟨(Nat.le_of_ble_eq_true rfl), (Nat.le_of_ble_eq_true rfl)⟩ (fun r12 σ11 H locs hw h => ?_)
      refine W.eq (g2 := F0 m 117 ls [.int r12]) rfl ?_
      exact hend r12 σ11 _ _ _ _ hw.1 hw.2 h e_M_buries_117
  have K_440 : ∀ (K263 : Int32 → MST → Prop) (hK263 : ∀ (z1 : Int32) (σ : MST) (H : Heap) (locs : List Loc) (ls : Array Slot), K263 z1 σ → MH (dC, dI) A mo rf ca σ s H locs → lv_has ls 4 [(0, .ref mo), (1, .int z1)] → W p l e ({ frames := 3, cells := 0, slots := 0, locals := 65 } : Room) s m ([.ref mo] : List Value).toArray below meth cx H locs 0 0 Q (F0 m 263 ls [])), ∀ (s0 : Int32) (σ : MST) (H : Heap) (locs : List Loc) (ls : Array Slot), w_M_buries_440 K263 P s0 σ → MH (dC, dI) A mo rf ca σ s H locs → lv_has ls 4 [(0, .ref mo)] → W p l e ({ frames := 3, cells := 0, slots := 0, locals := 65 } : Room) s m ([.ref mo] : List Value).toArray below meth cx H locs 0 0 Q (F0 m 440 ls [.int s0]) := by
    intro K263 hK263 s0 σ H locs ls hw h hl
    unfold w_M_buries_440 at hw
    refine lv_istore_n (lv' := [(1, .int s0), (0, .ref mo)]) hx hb e_M_buries_440 rfl hl (by decide) rfl (fun ls hl => ?_)
    refine lv_goto (tgt := 263) hx hb e_M_buries_441 (by decide) ?_
    exact hK263 s0 σ _ _ _ hw h (lv_sub hl [1, 0] rfl)
  have K_417 : ∀ (K263 : Int32 → MST → Prop) (hK263 : ∀ (z1 : Int32) (σ : MST) (H : Heap) (locs : List Loc) (ls : Array Slot), K263 z1 σ → MH (dC, dI) A mo rf ca σ s H locs → lv_has ls 4 [(0, .ref mo), (1, .int z1)] → W p l e ({ frames := 3, cells := 0, slots := 0, locals := 65 } : Room) s m ([.ref mo] : List Value).toArray below meth cx H locs 0 0 Q (F0 m 263 ls [])), ∀ (z1 : Int32) (z2 : Int32) (σ : MST) (H : Heap) (locs : List Loc) (ls : Array Slot), w_M_buries_417 K263 P z1 z2 σ → MH (dC, dI) A mo rf ca σ s H locs → lv_has ls 4 [(0, .ref mo), (1, .int z1), (2, .int z2)] → W p l e ({ frames := 3, cells := 0, slots := 0, locals := 65 } : Room) s m ([.ref mo] : List Value).toArray below meth cx H locs 0 0 Q (F0 m 417 ls []) := by
    intro K263 hK263 z1 z2 σ H locs ls hw h hl
    unfold w_M_buries_417 at hw
    refine lv_iload_n hx hb e_M_buries_417 rfl (lv_at hl 2 rfl) ?_
    refine lv_iload_n hx hb e_M_buries_418 rfl (lv_at hl 1 rfl) ?_
    refine lv_icmp_le (tgt := 426) hx hb e_M_buries_419 (by decide) (fun c13 => ?_) (fun c13 => ?_)
    · skip
      replace hw := hw.1 c13
      refine lv_iload_n hx hb e_M_buries_426 rfl (lv_at hl 1 rfl) ?_
      refine lv_aload_n hx hb e_M_buries_427 rfl (lv_at hl 0 rfl) ?_
      refine lv_aload_n hx hb e_M_buries_428 rfl (lv_at hl 0 rfl) ?_
      refine M_get C h 33 (v := .int (σ.1 33)) rfl (by decide) v_116 e_M_buries_429 ?_
      refine lv_iload_n hx hb e_M_buries_432 rfl (lv_at hl 1 rfl) ?_
      refine M_calli (As := [.int (σ.1 33), .int z1]) (rest := [.int z1]) C h hA (K_M_at l dC dI mo rf ca H.size σ (σ.1 33) z1 hw) (cwV 2 hts (gV hsub v_69 v_70 v_71 v_7 v_72) rfl rfl rfl (by decide +kernel) ⟨(Nat.le_of_ble_eq_true rfl), (Nat.le_of_ble_eq_true rfl)⟩) rfl hl.1 (Nat.le_of_ble_eq_true rfl) e_M_buries_433 ⟨(Nat.le_of_ble_eq_true rfl), (Nat.le_of_ble_eq_true rfl)⟩ (fun r15 σ14 H locs hw h => ?_)
      refine W.eq (g2 := F0 m 436 ls [.int r15, .int z1]) rfl ?_
      refine M_scalli (As := [.int r15]) (rest := [.int z1]) C h hA (K_M_length l dC dI mo rf ca H.size σ14 r15 hw) (va_cwS 1 hts (gS hsub v_75 v_76 v_7 v_77) rfl rfl rfl (by decide +kernel) ⟨(Nat.le_of_ble_eq_true rfl), (Nat.le_of_ble_eq_true rfl)⟩) rfl hl.1 (Nat.le_of_ble_eq_true rfl) e_M_buries_436 ⟨(Nat.le_of_ble_eq_true rfl), (Nat.le_of_ble_eq_true rfl)⟩ (fun r17 σ16 H locs hw h => ?_)
      refine W.eq (g2 := F0 m 439 ls [.int r17, .int z1]) rfl ?_
      refine lv_iadd hx hb e_M_buries_439 ?_
      exact K_440 _ hK263 (z1 + r17) σ16 _ _ _ hw h (lv_sub hl [0] rfl)
    · skip
      replace hw := hw.2 c13
      refine lv_iload_n hx hb e_M_buries_422 rfl (lv_at hl 2 rfl) ?_
      refine lv_goto (tgt := 440) hx hb e_M_buries_423 (by decide) ?_
      exact K_440 _ hK263 z2 σ _ _ _ hw h (lv_sub hl [0] rfl)
  have K_382 : ∀ (K350 : Int32 → Int32 → Int32 → MST → Prop) (hK350 : ∀ (z1 : Int32) (z2 : Int32) (z3 : Int32) (σ : MST) (H : Heap) (locs : List Loc) (ls : Array Slot), K350 z1 z2 z3 σ → MH (dC, dI) A mo rf ca σ s H locs → lv_has ls 4 [(0, .ref mo), (1, .int z1), (2, .int z2), (3, .int z3)] → W p l e ({ frames := 3, cells := 0, slots := 0, locals := 65 } : Room) s m ([.ref mo] : List Value).toArray below meth cx H locs 0 0 Q (F0 m 350 ls [])), ∀ (z1 : Int32) (z2 : Int32) (z3 : Int32) (s0 : Int32) (s1 : Int32) (σ : MST) (H : Heap) (locs : List Loc) (ls : Array Slot), w_M_buries_382 K350 P z1 z2 z3 s0 s1 σ → MH (dC, dI) A mo rf ca σ s H locs → lv_has ls 4 [(0, .ref mo), (1, .int z1), (2, .int z2), (3, .int z3)] → W p l e ({ frames := 3, cells := 0, slots := 0, locals := 65 } : Room) s m ([.ref mo] : List Value).toArray below meth cx H locs 0 0 Q (F0 m 382 ls [.int s0, .int s1, .ref (rf 13)]) := by
    intro K350 hK350 z1 z2 z3 s0 s1 σ H locs ls hw h hl
    unfold w_M_buries_382 at hw
    refine M_ast C h 13 (by decide) rfl hw.1 e_M_buries_382 (fun H locs h => ?_)
    replace hw := hw.2
    obtain ⟨σ18, e_σ18⟩ : ∃ z : MST, z = setA σ 13 (upd (σ.2.1 13) (s1 : Int32).toNatClampNeg s0) := ⟨_, rfl⟩
    rw [← e_σ18] at h
    replace hw := hw σ18 e_σ18
    refine lv_iinc (v := (z3 + 1)) (lv' := [(3, .int (z3 + 1)), (0, .ref mo), (1, .int z1), (2, .int z2)]) hx hb e_M_buries_383 hl (k := 3) rfl (rfl) (by decide) rfl (fun ls hl => ?_)
    refine lv_goto (tgt := 350) hx hb e_M_buries_386 (by decide) ?_
    exact hK350 z1 z2 (z3 + 1) σ18 _ _ _ hw h (lv_sub hl [1, 2, 3, 0] rfl)
  have K_391 : ∀ (K263 : Int32 → MST → Prop) (hK263 : ∀ (z1 : Int32) (σ : MST) (H : Heap) (locs : List Loc) (ls : Array Slot), K263 z1 σ → MH (dC, dI) A mo rf ca σ s H locs → lv_has ls 4 [(0, .ref mo), (1, .int z1)] → W p l e ({ frames := 3, cells := 0, slots := 0, locals := 65 } : Room) s m ([.ref mo] : List Value).toArray below meth cx H locs 0 0 Q (F0 m 263 ls [])) (n : Nat), ∀ (z1 : Int32) (z2 : Int32) (z3 : Int32) (σ : MST) (H : Heap) (locs : List Loc) (ls : Array Slot), w_M_buries_391 K263 P n z1 z2 z3 σ → MH (dC, dI) A mo rf ca σ s H locs → lv_has ls 4 [(0, .ref mo), (1, .int z1), (2, .int z2), (3, .int z3)] → W p l e ({ frames := 3, cells := 0, slots := 0, locals := 65 } : Room) s m ([.ref mo] : List Value).toArray below meth cx H locs 0 0 Q (F0 m 391 ls []) := by
    intro K263 hK263 n
    induction n with
    | zero => intro z1 z2 z3 σ H locs ls hw h hl; unfold w_M_buries_391 at hw; exact hw.elim
    | succ n ih =>
      intro z1 z2 z3 σ H locs ls hw h hl
      unfold w_M_buries_391 at hw
      refine lv_iload_n hx hb e_M_buries_391 rfl (lv_at hl 3 rfl) ?_
      refine lv_iload_n hx hb e_M_buries_392 rfl (lv_at hl 2 rfl) ?_
      refine lv_icmp_ge (tgt := 417) hx hb e_M_buries_393 (by decide) (fun c19 => ?_) (fun c19 => ?_)
      · skip
        replace hw := hw.1 c19
        exact K_417 _ hK263 z1 z2 σ _ _ _ hw h (lv_sub hl [0, 1, 2] rfl)
      · skip
        replace hw := hw.2 c19
        refine lv_aload_n hx hb e_M_buries_396 rfl (lv_at hl 0 rfl) ?_
        refine M_get C h 26 (v := .ref (rf 26)) rfl (by decide) v_78 e_M_buries_397 ?_
        refine lv_bipush (v := 120) hx hb e_M_buries_400 (by decide) ?_
        refine lv_aload_n hx hb e_M_buries_402 rfl (lv_at hl 0 rfl) ?_
        refine M_get C h 33 (v := .int (σ.1 33)) rfl (by decide) v_116 e_M_buries_403 ?_
        refine lv_imul hx hb e_M_buries_406 ?_
        refine lv_iload_n hx hb e_M_buries_407 rfl (lv_at hl 3 rfl) ?_
        refine lv_iadd hx hb e_M_buries_408 ?_
        refine lv_iconst (v := 0) hx hb e_M_buries_409 (by decide) ?_
        refine M_zast C h 26 (by decide) rfl hw.1 e_M_buries_410 (fun H locs h => ?_)
        replace hw := hw.2
        obtain ⟨σ20, e_σ20⟩ : ∃ z : MST, z = setA σ 26 (upd (σ.2.1 26) ((((120 : Int32) * (σ.1 33)) + z3) : Int32).toNatClampNeg (vp_nar .boolean 0)) := ⟨_, rfl⟩
        rw [← e_σ20] at h
        replace hw := hw σ20 e_σ20
        refine lv_iinc (v := (z3 + 1)) (lv' := [(3, .int (z3 + 1)), (0, .ref mo), (1, .int z1), (2, .int z2)]) hx hb e_M_buries_411 hl (k := 3) rfl (rfl) (by decide) rfl (fun ls hl => ?_)
        refine lv_goto (tgt := 391) hx hb e_M_buries_414 (by decide) ?_
        exact ih z1 z2 (z3 + 1) σ20 _ _ _ hw h (lv_sub hl [1, 2, 3, 0] rfl)
  have K_350 : ∀ (K263 : Int32 → MST → Prop) (hK263 : ∀ (z1 : Int32) (σ : MST) (H : Heap) (locs : List Loc) (ls : Array Slot), K263 z1 σ → MH (dC, dI) A mo rf ca σ s H locs → lv_has ls 4 [(0, .ref mo), (1, .int z1)] → W p l e ({ frames := 3, cells := 0, slots := 0, locals := 65 } : Room) s m ([.ref mo] : List Value).toArray below meth cx H locs 0 0 Q (F0 m 263 ls [])) (n : Nat), ∀ (z1 : Int32) (z2 : Int32) (z3 : Int32) (σ : MST) (H : Heap) (locs : List Loc) (ls : Array Slot), w_M_buries_350 K263 P n z1 z2 z3 σ → MH (dC, dI) A mo rf ca σ s H locs → lv_has ls 4 [(0, .ref mo), (1, .int z1), (2, .int z2), (3, .int z3)] → W p l e ({ frames := 3, cells := 0, slots := 0, locals := 65 } : Room) s m ([.ref mo] : List Value).toArray below meth cx H locs 0 0 Q (F0 m 350 ls []) := by
    intro K263 hK263 n
    induction n with
    | zero => intro z1 z2 z3 σ H locs ls hw h hl; unfold w_M_buries_350 at hw; exact hw.elim
    | succ n ih =>
      intro z1 z2 z3 σ H locs ls hw h hl
      unfold w_M_buries_350 at hw
      refine lv_iload_n hx hb e_M_buries_350 rfl (lv_at hl 3 rfl) ?_
      refine lv_iload_n hx hb e_M_buries_351 rfl (lv_at hl 2 rfl) ?_
      refine lv_icmp_ge (tgt := 389) hx hb e_M_buries_352 (by decide) (fun c21 => ?_) (fun c21 => ?_)
      · skip
        replace hw := hw.1 c21
        refine lv_iload_n hx hb e_M_buries_389 rfl (lv_at hl 1 rfl) ?_
        refine lv_istore_n (lv' := [(3, .int z1), (0, .ref mo), (1, .int z1), (2, .int z2)]) hx hb e_M_buries_390 rfl hl (by decide) rfl (fun ls hl => ?_)
        obtain ⟨n9, hw⟩ := hw
        exact K_391 _ hK263 n9 z1 z2 z1 σ _ _ _ hw h (lv_sub hl [1, 2, 3, 0] rfl)
      · skip
        replace hw := hw.2 c21
        refine lv_aload_n hx hb e_M_buries_355 rfl (lv_at hl 0 rfl) ?_
        refine M_get C h 13 (v := .ref (rf 13)) rfl (by decide) v_50 e_M_buries_356 ?_
        refine lv_bipush (v := 120) hx hb e_M_buries_359 (by decide) ?_
        refine lv_aload_n hx hb e_M_buries_361 rfl (lv_at hl 0 rfl) ?_
        refine M_get C h 33 (v := .int (σ.1 33)) rfl (by decide) v_116 e_M_buries_362 ?_
        refine lv_imul hx hb e_M_buries_365 ?_
        refine lv_iload_n hx hb e_M_buries_366 rfl (lv_at hl 3 rfl) ?_
        refine lv_iadd hx hb e_M_buries_367 ?_
        refine lv_iload_n hx hb e_M_buries_368 rfl (lv_at hl 3 rfl) ?_
        refine lv_iload_n hx hb e_M_buries_369 rfl (lv_at hl 2 rfl) ?_
        refine lv_iconst (v := 1) hx hb e_M_buries_370 (by decide) ?_
        refine lv_isub hx hb e_M_buries_371 ?_
        refine lv_icmp_ne (tgt := 381) hx hb e_M_buries_372 (by decide) (fun c22 => ?_) (fun c22 => ?_)
        · skip
          replace hw := hw.2 c22
          refine lv_iconst (v := 0) hx hb e_M_buries_381 (by decide) ?_
          exact K_382 _ ih z1 z2 z3 0 (((120 : Int32) * (σ.1 33)) + z3) σ _ _ _ hw h (lv_sub hl [0, 1, 2, 3] rfl)
        · skip
          replace hw := hw.1 c22
          refine lv_sipush (v := 191) hx hb e_M_buries_375 (by decide) ?_
          refine lv_goto (tgt := 382) hx hb e_M_buries_378 (by decide) ?_
          exact K_382 _ ih z1 z2 z3 191 (((120 : Int32) * (σ.1 33)) + z3) σ _ _ _ hw h (lv_sub hl [0, 1, 2, 3] rfl)
  have K_347 : ∀ (K263 : Int32 → MST → Prop) (hK263 : ∀ (z1 : Int32) (σ : MST) (H : Heap) (locs : List Loc) (ls : Array Slot), K263 z1 σ → MH (dC, dI) A mo rf ca σ s H locs → lv_has ls 4 [(0, .ref mo), (1, .int z1)] → W p l e ({ frames := 3, cells := 0, slots := 0, locals := 65 } : Room) s m ([.ref mo] : List Value).toArray below meth cx H locs 0 0 Q (F0 m 263 ls [])), ∀ (z1 : Int32) (z2 : Int32) (s0 : Int32) (s1 : Int32) (σ : MST) (H : Heap) (locs : List Loc) (ls : Array Slot), w_M_buries_347 K263 P z1 z2 s0 s1 σ → MH (dC, dI) A mo rf ca σ s H locs → lv_has ls 4 [(0, .ref mo), (1, .int z1), (2, .int z2)] → W p l e ({ frames := 3, cells := 0, slots := 0, locals := 65 } : Room) s m ([.ref mo] : List Value).toArray below meth cx H locs 0 0 Q (F0 m 347 ls [.int s0, .int s1, .ref (rf 14)]) := by
    intro K263 hK263 z1 z2 s0 s1 σ H locs ls hw h hl
    unfold w_M_buries_347 at hw
    refine M_ast C h 14 (by decide) rfl hw.1 e_M_buries_347 (fun H locs h => ?_)
    replace hw := hw.2
    obtain ⟨σ23, e_σ23⟩ : ∃ z : MST, z = setA σ 14 (upd (σ.2.1 14) (s1 : Int32).toNatClampNeg s0) := ⟨_, rfl⟩
    rw [← e_σ23] at h
    replace hw := hw σ23 e_σ23
    refine lv_iload_n hx hb e_M_buries_348 rfl (lv_at hl 1 rfl) ?_
    refine lv_istore_n (lv' := [(3, .int z1), (0, .ref mo), (1, .int z1), (2, .int z2)]) hx hb e_M_buries_349 rfl hl (by decide) rfl (fun ls hl => ?_)
    obtain ⟨n9, hw⟩ := hw
    exact K_350 _ hK263 n9 z1 z2 z1 σ23 _ _ _ hw h (lv_sub hl [1, 2, 3, 0] rfl)
  have K_293 : ∀ (K263 : Int32 → MST → Prop) (hK263 : ∀ (z1 : Int32) (σ : MST) (H : Heap) (locs : List Loc) (ls : Array Slot), K263 z1 σ → MH (dC, dI) A mo rf ca σ s H locs → lv_has ls 4 [(0, .ref mo), (1, .int z1)] → W p l e ({ frames := 3, cells := 0, slots := 0, locals := 65 } : Room) s m ([.ref mo] : List Value).toArray below meth cx H locs 0 0 Q (F0 m 263 ls [])), ∀ (z1 : Int32) (s0 : Int32) (σ : MST) (H : Heap) (locs : List Loc) (ls : Array Slot), w_M_buries_293 K263 P z1 s0 σ → MH (dC, dI) A mo rf ca σ s H locs → lv_has ls 4 [(0, .ref mo), (1, .int z1)] → W p l e ({ frames := 3, cells := 0, slots := 0, locals := 65 } : Room) s m ([.ref mo] : List Value).toArray below meth cx H locs 0 0 Q (F0 m 293 ls [.int s0]) := by
    intro K263 hK263 z1 s0 σ H locs ls hw h hl
    unfold w_M_buries_293 at hw
    refine lv_istore_n (lv' := [(2, .int s0), (0, .ref mo), (1, .int z1)]) hx hb e_M_buries_293 rfl hl (by decide) rfl (fun ls hl => ?_)
    refine lv_iload_n hx hb e_M_buries_294 rfl (lv_at hl 0 rfl) ?_
    refine lv_iload_n hx hb e_M_buries_295 rfl (lv_at hl 2 rfl) ?_
    refine lv_icmp_le (tgt := 417) hx hb e_M_buries_296 (by decide) (fun c24 => ?_) (fun c24 => ?_)
    · skip
      replace hw := hw.1 c24
      exact K_417 _ hK263 z1 s0 σ _ _ _ hw h (lv_sub hl [1, 2, 0] rfl)
    · skip
      replace hw := hw.2 c24
      refine lv_aload_n hx hb e_M_buries_299 rfl (lv_at hl 1 rfl) ?_
      refine M_get C h 31 (v := .ref (rf 31)) rfl (by decide) v_242 e_M_buries_300 ?_
      refine lv_bipush (v := 120) hx hb e_M_buries_303 (by decide) ?_
      refine lv_aload_n hx hb e_M_buries_305 rfl (lv_at hl 1 rfl) ?_
      refine M_get C h 33 (v := .int (σ.1 33)) rfl (by decide) v_116 e_M_buries_306 ?_
      refine lv_imul hx hb e_M_buries_309 ?_
      refine lv_iload_n hx hb e_M_buries_310 rfl (lv_at hl 2 rfl) ?_
      refine lv_iadd hx hb e_M_buries_311 ?_
      refine lv_iconst (v := 1) hx hb e_M_buries_312 (by decide) ?_
      refine M_zast C h 31 (by decide) rfl hw.1 e_M_buries_313 (fun H locs h => ?_)
      replace hw := hw.2
      obtain ⟨σ25, e_σ25⟩ : ∃ z : MST, z = setA σ 31 (upd (σ.2.1 31) ((((120 : Int32) * (σ.1 33)) + z1) : Int32).toNatClampNeg (vp_nar .boolean 1)) := ⟨_, rfl⟩
      rw [← e_σ25] at h
      replace hw := hw σ25 e_σ25
      refine lv_aload_n hx hb e_M_buries_314 rfl (lv_at hl 1 rfl) ?_
      refine M_get C h 14 (v := .ref (rf 14)) rfl (by decide) v_48 e_M_buries_315 ?_
      refine lv_aload_n hx hb e_M_buries_318 rfl (lv_at hl 1 rfl) ?_
      refine M_get C h 33 (v := .int (σ25.1 33)) rfl (by decide) v_116 e_M_buries_319 ?_
      refine lv_aload_n hx hb e_M_buries_322 rfl (lv_at hl 1 rfl) ?_
      refine M_get C h 14 (v := .ref (rf 14)) rfl (by decide) v_48 e_M_buries_323 ?_
      refine lv_aload_n hx hb e_M_buries_326 rfl (lv_at hl 1 rfl) ?_
      refine M_get C h 33 (v := .int (σ25.1 33)) rfl (by decide) v_116 e_M_buries_327 ?_
      refine M_ald C h 14 (by decide) rfl hw.1 e_M_buries_330 ?_
      replace hw := hw.2
      refine lv_topi (fun a26 e_a26 => ?_)
      replace hw := hw a26 e_a26
      refine lv_if_ne (tgt := 338) hx hb e_M_buries_331 (by decide) (fun c27 => ?_) (fun c27 => ?_)
      · skip
        replace hw := hw.2 c27
        refine lv_aload_n hx hb e_M_buries_338 rfl (lv_at hl 1 rfl) ?_
        refine M_get C h 14 (v := .ref (rf 14)) rfl (by decide) v_48 e_M_buries_339 ?_
        refine lv_aload_n hx hb e_M_buries_342 rfl (lv_at hl 1 rfl) ?_
        refine M_get C h 33 (v := .int (σ25.1 33)) rfl (by decide) v_116 e_M_buries_343 ?_
        refine M_ald C h 14 (by decide) rfl hw.1 e_M_buries_346 ?_
        replace hw := hw.2
        refine lv_topi (fun a28 e_a28 => ?_)
        replace hw := hw a28 e_a28
        exact K_347 _ hK263 z1 s0 a28 (σ25.1 33) σ25 _ _ _ hw h (lv_sub hl [1, 2, 0] rfl)
      · skip
        replace hw := hw.1 c27
        refine lv_iconst (v := 1) hx hb e_M_buries_334 (by decide) ?_
        refine lv_goto (tgt := 347) hx hb e_M_buries_335 (by decide) ?_
        exact K_347 _ hK263 z1 s0 1 (σ25.1 33) σ25 _ _ _ hw h (lv_sub hl [1, 2, 0] rfl)
  have K_263 : ∀ (n : Nat), ∀ (z1 : Int32) (σ : MST) (H : Heap) (locs : List Loc) (ls : Array Slot), w_M_buries_263 P n z1 σ → MH (dC, dI) A mo rf ca σ s H locs → lv_has ls 4 [(0, .ref mo), (1, .int z1)] → W p l e ({ frames := 3, cells := 0, slots := 0, locals := 65 } : Room) s m ([.ref mo] : List Value).toArray below meth cx H locs 0 0 Q (F0 m 263 ls []) := by
    intro  n
    induction n with
    | zero => intro z1 σ H locs ls hw h hl; unfold w_M_buries_263 at hw; exact hw.elim
    | succ n ih =>
      intro z1 σ H locs ls hw h hl
      unfold w_M_buries_263 at hw
      refine lv_iload_n hx hb e_M_buries_263 rfl (lv_at hl 1 rfl) ?_
      refine lv_aload_n hx hb e_M_buries_264 rfl (lv_at hl 0 rfl) ?_
      refine M_get C h 12 (v := .ref (rf 12)) rfl (by decide) v_51 e_M_buries_265 ?_
      refine lv_aload_n hx hb e_M_buries_268 rfl (lv_at hl 0 rfl) ?_
      refine M_get C h 33 (v := .int (σ.1 33)) rfl (by decide) v_116 e_M_buries_269 ?_
      refine M_ald C h 12 (by decide) rfl hw.1 e_M_buries_272 ?_
      replace hw := hw.2
      refine lv_topi (fun a29 e_a29 => ?_)
      replace hw := hw a29 e_a29
      refine lv_icmp_ge (tgt := 444) hx hb e_M_buries_273 (by decide) (fun c30 => ?_) (fun c30 => ?_)
      · skip
        replace hw := hw.1 c30
        refine lv_iconst (v := 1) hx hb e_M_buries_444 (by decide) ?_
        exact hend (1 : Int32) σ _ _ _ _ rfl hw h e_M_buries_445
      · skip
        replace hw := hw.2 c30
        refine lv_aload_n hx hb e_M_buries_276 rfl (lv_at hl 0 rfl) ?_
        refine lv_iload_n hx hb e_M_buries_277 rfl (lv_at hl 1 rfl) ?_
        refine M_calli (As := [.int z1]) (rest := []) C h hA (K_M_isDead l dC dI mo rf ca H.size σ z1 hw) (cwV 1 hts (gV hsub v_234 v_235 v_236 v_7 v_237) rfl rfl rfl (by decide +kernel) ⟨(Nat.le_of_ble_eq_true rfl), (Nat.le_of_ble_eq_true rfl)⟩) rfl hl.1 (Nat.le_of_ble_eq_true rfl) e_M_buries_278 ⟨(Nat.le_of_ble_eq_true rfl), (Nat.le_of_ble_eq_true rfl)⟩ (fun r32 σ31 H locs hw h => ?_)
        refine W.eq (g2 := F0 m 281 ls [.int r32]) rfl ?_
        refine lv_if_eq (tgt := 292) hx hb e_M_buries_281 (by decide) (fun c33 => ?_) (fun c33 => ?_)
        · skip
          replace hw := hw.1 c33
          refine lv_iload_n hx hb e_M_buries_292 rfl (lv_at hl 1 rfl) ?_
          exact K_293 _ ih z1 z1 σ31 _ _ _ hw h (lv_sub hl [0, 1] rfl)
        · skip
          replace hw := hw.2 c33
          refine lv_aload_n hx hb e_M_buries_284 rfl (lv_at hl 0 rfl) ?_
          refine lv_iload_n hx hb e_M_buries_285 rfl (lv_at hl 1 rfl) ?_
          refine M_calli (As := [.int z1]) (rest := []) C h hA (K_M_rowEnd l dC dI mo rf ca H.size σ31 z1 hw) (cwV 1 hts (gV hsub v_238 v_239 v_240 v_7 v_241) rfl rfl rfl (by decide +kernel) ⟨(Nat.le_of_ble_eq_true rfl), (Nat.le_of_ble_eq_true rfl)⟩) rfl hl.1 (Nat.le_of_ble_eq_true rfl) e_M_buries_286 ⟨(Nat.le_of_ble_eq_true rfl), (Nat.le_of_ble_eq_true rfl)⟩ (fun r35 σ34 H locs hw h => ?_)
          refine W.eq (g2 := F0 m 289 ls [.int r35]) rfl ?_
          refine lv_goto (tgt := 293) hx hb e_M_buries_289 (by decide) ?_
          exact K_293 _ ih z1 r35 σ34 _ _ _ hw h (lv_sub hl [0, 1] rfl)
  have K_167 : ∀ (n : Nat), ∀ (z1 : Int32) (σ : MST) (H : Heap) (locs : List Loc) (ls : Array Slot), w_M_buries_167 P n z1 σ → MH (dC, dI) A mo rf ca σ s H locs → lv_has ls 4 [(0, .ref mo), (1, .int z1)] → W p l e ({ frames := 3, cells := 0, slots := 0, locals := 65 } : Room) s m ([.ref mo] : List Value).toArray below meth cx H locs 0 0 Q (F0 m 167 ls []) := by
    intro  n
    induction n with
    | zero => intro z1 σ H locs ls hw h hl; unfold w_M_buries_167 at hw; exact hw.elim
    | succ n ih =>
      intro z1 σ H locs ls hw h hl
      unfold w_M_buries_167 at hw
      refine lv_iload_n hx hb e_M_buries_167 rfl (lv_at hl 1 rfl) ?_
      refine lv_aload_n hx hb e_M_buries_168 rfl (lv_at hl 0 rfl) ?_
      refine M_get C h 45 (v := .int (σ.1 45)) rfl (by decide) v_226 e_M_buries_169 ?_
      refine lv_icmp_ge (tgt := 261) hx hb e_M_buries_172 (by decide) (fun c36 => ?_) (fun c36 => ?_)
      · skip
        replace hw := hw.1 c36
        refine lv_iconst (v := 0) hx hb e_M_buries_261 (by decide) ?_
        refine lv_istore_n (lv' := [(1, .int 0), (0, .ref mo)]) hx hb e_M_buries_262 rfl hl (by decide) rfl (fun ls hl => ?_)
        obtain ⟨n9, hw⟩ := hw
        exact K_263 n9 0 σ _ _ _ hw h (lv_sub hl [1, 0] rfl)
      · skip
        replace hw := hw.2 c36
        refine lv_aload_n hx hb e_M_buries_175 rfl (lv_at hl 0 rfl) ?_
        refine M_get C h 17 (v := .ref (rf 17)) rfl (by decide) v_62 e_M_buries_176 ?_
        refine lv_bipush (v := 16) hx hb e_M_buries_179 (by decide) ?_
        refine lv_aload_n hx hb e_M_buries_181 rfl (lv_at hl 0 rfl) ?_
        refine M_get C h 33 (v := .int (σ.1 33)) rfl (by decide) v_116 e_M_buries_182 ?_
        refine lv_imul hx hb e_M_buries_185 ?_
        refine lv_iload_n hx hb e_M_buries_186 rfl (lv_at hl 1 rfl) ?_
        refine lv_iadd hx hb e_M_buries_187 ?_
        refine lv_aload_n hx hb e_M_buries_188 rfl (lv_at hl 0 rfl) ?_
        refine M_get C h 46 (v := .ref (rf 46)) rfl (by decide) v_225 e_M_buries_189 ?_
        refine lv_iload_n hx hb e_M_buries_192 rfl (lv_at hl 1 rfl) ?_
        refine M_ald C h 46 (by decide) rfl hw.1 e_M_buries_193 ?_
        replace hw := hw.2
        refine lv_topi (fun a37 e_a37 => ?_)
        replace hw := hw a37 e_a37
        refine M_ast C h 17 (by decide) rfl hw.1 e_M_buries_194 (fun H locs h => ?_)
        replace hw := hw.2
        obtain ⟨σ38, e_σ38⟩ : ∃ z : MST, z = setA σ 17 (upd (σ.2.1 17) ((((16 : Int32) * (σ.1 33)) + z1) : Int32).toNatClampNeg a37) := ⟨_, rfl⟩
        rw [← e_σ38] at h
        replace hw := hw σ38 e_σ38
        refine lv_aload_n hx hb e_M_buries_195 rfl (lv_at hl 0 rfl) ?_
        refine M_get C h 18 (v := .ref (rf 18)) rfl (by decide) v_63 e_M_buries_196 ?_
        refine lv_bipush (v := 16) hx hb e_M_buries_199 (by decide) ?_
        refine lv_aload_n hx hb e_M_buries_201 rfl (lv_at hl 0 rfl) ?_
        refine M_get C h 33 (v := .int (σ38.1 33)) rfl (by decide) v_116 e_M_buries_202 ?_
        refine lv_imul hx hb e_M_buries_205 ?_
        refine lv_iload_n hx hb e_M_buries_206 rfl (lv_at hl 1 rfl) ?_
        refine lv_iadd hx hb e_M_buries_207 ?_
        refine lv_aload_n hx hb e_M_buries_208 rfl (lv_at hl 0 rfl) ?_
        refine M_get C h 47 (v := .ref (rf 47)) rfl (by decide) v_227 e_M_buries_209 ?_
        refine lv_iload_n hx hb e_M_buries_212 rfl (lv_at hl 1 rfl) ?_
        refine M_ald C h 47 (by decide) rfl hw.1 e_M_buries_213 ?_
        replace hw := hw.2
        refine lv_topi (fun a39 e_a39 => ?_)
        replace hw := hw a39 e_a39
        refine M_ast C h 18 (by decide) rfl hw.1 e_M_buries_214 (fun H locs h => ?_)
        replace hw := hw.2
        obtain ⟨σ40, e_σ40⟩ : ∃ z : MST, z = setA σ38 18 (upd (σ38.2.1 18) ((((16 : Int32) * (σ38.1 33)) + z1) : Int32).toNatClampNeg a39) := ⟨_, rfl⟩
        rw [← e_σ40] at h
        replace hw := hw σ40 e_σ40
        refine lv_aload_n hx hb e_M_buries_215 rfl (lv_at hl 0 rfl) ?_
        refine M_get C h 19 (v := .ref (rf 19)) rfl (by decide) v_64 e_M_buries_216 ?_
        refine lv_bipush (v := 16) hx hb e_M_buries_219 (by decide) ?_
        refine lv_aload_n hx hb e_M_buries_221 rfl (lv_at hl 0 rfl) ?_
        refine M_get C h 33 (v := .int (σ40.1 33)) rfl (by decide) v_116 e_M_buries_222 ?_
        refine lv_imul hx hb e_M_buries_225 ?_
        refine lv_iload_n hx hb e_M_buries_226 rfl (lv_at hl 1 rfl) ?_
        refine lv_iadd hx hb e_M_buries_227 ?_
        refine lv_aload_n hx hb e_M_buries_228 rfl (lv_at hl 0 rfl) ?_
        refine M_get C h 48 (v := .ref (rf 48)) rfl (by decide) v_228 e_M_buries_229 ?_
        refine lv_iload_n hx hb e_M_buries_232 rfl (lv_at hl 1 rfl) ?_
        refine M_ald C h 48 (by decide) rfl hw.1 e_M_buries_233 ?_
        replace hw := hw.2
        refine lv_topi (fun a41 e_a41 => ?_)
        replace hw := hw a41 e_a41
        refine M_ast C h 19 (by decide) rfl hw.1 e_M_buries_234 (fun H locs h => ?_)
        replace hw := hw.2
        obtain ⟨σ42, e_σ42⟩ : ∃ z : MST, z = setA σ40 19 (upd (σ40.2.1 19) ((((16 : Int32) * (σ40.1 33)) + z1) : Int32).toNatClampNeg a41) := ⟨_, rfl⟩
        rw [← e_σ42] at h
        replace hw := hw σ42 e_σ42
        refine lv_aload_n hx hb e_M_buries_235 rfl (lv_at hl 0 rfl) ?_
        refine M_get C h 20 (v := .ref (rf 20)) rfl (by decide) v_65 e_M_buries_236 ?_
        refine lv_bipush (v := 16) hx hb e_M_buries_239 (by decide) ?_
        refine lv_aload_n hx hb e_M_buries_241 rfl (lv_at hl 0 rfl) ?_
        refine M_get C h 33 (v := .int (σ42.1 33)) rfl (by decide) v_116 e_M_buries_242 ?_
        refine lv_imul hx hb e_M_buries_245 ?_
        refine lv_iload_n hx hb e_M_buries_246 rfl (lv_at hl 1 rfl) ?_
        refine lv_iadd hx hb e_M_buries_247 ?_
        refine lv_aload_n hx hb e_M_buries_248 rfl (lv_at hl 0 rfl) ?_
        refine M_get C h 49 (v := .ref (rf 49)) rfl (by decide) v_229 e_M_buries_249 ?_
        refine lv_iload_n hx hb e_M_buries_252 rfl (lv_at hl 1 rfl) ?_
        refine M_ald C h 49 (by decide) rfl hw.1 e_M_buries_253 ?_
        replace hw := hw.2
        refine lv_topi (fun a43 e_a43 => ?_)
        replace hw := hw a43 e_a43
        refine M_ast C h 20 (by decide) rfl hw.1 e_M_buries_254 (fun H locs h => ?_)
        replace hw := hw.2
        obtain ⟨σ44, e_σ44⟩ : ∃ z : MST, z = setA σ42 20 (upd (σ42.2.1 20) ((((16 : Int32) * (σ42.1 33)) + z1) : Int32).toNatClampNeg a43) := ⟨_, rfl⟩
        rw [← e_σ44] at h
        replace hw := hw σ44 e_σ44
        refine lv_iinc (v := (z1 + 1)) (lv' := [(1, .int (z1 + 1)), (0, .ref mo)]) hx hb e_M_buries_255 hl (k := 1) rfl (rfl) (by decide) rfl (fun ls hl => ?_)
        refine lv_goto (tgt := 167) hx hb e_M_buries_258 (by decide) ?_
        exact ih (z1 + 1) σ44 _ _ _ hw h (lv_sub hl [1, 0] rfl)
  have K_70 : ∀ (n : Nat), ∀ (z1 : Int32) (σ : MST) (H : Heap) (locs : List Loc) (ls : Array Slot), w_M_buries_70 P n z1 σ → MH (dC, dI) A mo rf ca σ s H locs → lv_has ls 4 [(0, .ref mo), (1, .int z1)] → W p l e ({ frames := 3, cells := 0, slots := 0, locals := 65 } : Room) s m ([.ref mo] : List Value).toArray below meth cx H locs 0 0 Q (F0 m 70 ls []) := by
    intro  n
    induction n with
    | zero => intro z1 σ H locs ls hw h hl; unfold w_M_buries_70 at hw; exact hw.elim
    | succ n ih =>
      intro z1 σ H locs ls hw h hl
      unfold w_M_buries_70 at hw
      refine lv_iload_n hx hb e_M_buries_70 rfl (lv_at hl 1 rfl) ?_
      refine lv_aload_n hx hb e_M_buries_71 rfl (lv_at hl 0 rfl) ?_
      refine M_get C h 12 (v := .ref (rf 12)) rfl (by decide) v_51 e_M_buries_72 ?_
      refine lv_aload_n hx hb e_M_buries_75 rfl (lv_at hl 0 rfl) ?_
      refine M_get C h 33 (v := .int (σ.1 33)) rfl (by decide) v_116 e_M_buries_76 ?_
      refine M_ald C h 12 (by decide) rfl hw.1 e_M_buries_79 ?_
      replace hw := hw.2
      refine lv_topi (fun a45 e_a45 => ?_)
      replace hw := hw a45 e_a45
      refine lv_icmp_ge (tgt := 152) hx hb e_M_buries_80 (by decide) (fun c46 => ?_) (fun c46 => ?_)
      · skip
        replace hw := hw.1 c46
        refine lv_aload_n hx hb e_M_buries_152 rfl (lv_at hl 0 rfl) ?_
        refine M_get C h 16 (v := .ref (rf 16)) rfl (by decide) v_61 e_M_buries_153 ?_
        refine lv_aload_n hx hb e_M_buries_156 rfl (lv_at hl 0 rfl) ?_
        refine M_get C h 33 (v := .int (σ.1 33)) rfl (by decide) v_116 e_M_buries_157 ?_
        refine lv_aload_n hx hb e_M_buries_160 rfl (lv_at hl 0 rfl) ?_
        refine M_get C h 45 (v := .int (σ.1 45)) rfl (by decide) v_226 e_M_buries_161 ?_
        refine M_ast C h 16 (by decide) rfl hw.1 e_M_buries_164 (fun H locs h => ?_)
        replace hw := hw.2
        obtain ⟨σ47, e_σ47⟩ : ∃ z : MST, z = setA σ 16 (upd (σ.2.1 16) ((σ.1 33) : Int32).toNatClampNeg (σ.1 45)) := ⟨_, rfl⟩
        rw [← e_σ47] at h
        replace hw := hw σ47 e_σ47
        refine lv_iconst (v := 0) hx hb e_M_buries_165 (by decide) ?_
        refine lv_istore_n (lv' := [(1, .int 0), (0, .ref mo)]) hx hb e_M_buries_166 rfl hl (by decide) rfl (fun ls hl => ?_)
        obtain ⟨n9, hw⟩ := hw
        exact K_167 n9 0 σ47 _ _ _ hw h (lv_sub hl [1, 0] rfl)
      · skip
        replace hw := hw.2 c46
        refine lv_aload_n hx hb e_M_buries_83 rfl (lv_at hl 0 rfl) ?_
        refine lv_iload_n hx hb e_M_buries_84 rfl (lv_at hl 1 rfl) ?_
        refine M_calli (As := [.int z1]) (rest := []) C h hA (K_M_isDead l dC dI mo rf ca H.size σ z1 hw) (cwV 1 hts (gV hsub v_234 v_235 v_236 v_7 v_237) rfl rfl rfl (by decide +kernel) ⟨(Nat.le_of_ble_eq_true rfl), (Nat.le_of_ble_eq_true rfl)⟩) rfl hl.1 (Nat.le_of_ble_eq_true rfl) e_M_buries_85 ⟨(Nat.le_of_ble_eq_true rfl), (Nat.le_of_ble_eq_true rfl)⟩ (fun r49 σ48 H locs hw h => ?_)
        refine W.eq (g2 := F0 m 88 ls [.int r49]) rfl ?_
        refine lv_if_eq (tgt := 101) hx hb e_M_buries_88 (by decide) (fun c50 => ?_) (fun c50 => ?_)
        · skip
          replace hw := hw.1 c50
          exact K_101 _ ih z1 σ48 _ _ _ hw h (lv_sub hl [0, 1] rfl)
        · skip
          replace hw := hw.2 c50
          refine lv_aload_n hx hb e_M_buries_91 rfl (lv_at hl 0 rfl) ?_
          refine lv_iload_n hx hb e_M_buries_92 rfl (lv_at hl 1 rfl) ?_
          refine lv_aload_n hx hb e_M_buries_93 rfl (lv_at hl 0 rfl) ?_
          refine lv_iload_n hx hb e_M_buries_94 rfl (lv_at hl 1 rfl) ?_
          refine M_calli (As := [.int z1]) (rest := [.int z1, .ref mo]) C h hA (K_M_rowEnd l dC dI mo rf ca H.size σ48 z1 hw) (cwV 1 hts (gV hsub v_238 v_239 v_240 v_7 v_241) rfl rfl rfl (by decide +kernel) ⟨(Nat.le_of_ble_eq_true rfl), (Nat.le_of_ble_eq_true rfl)⟩) rfl hl.1 (Nat.le_of_ble_eq_true rfl) e_M_buries_95 ⟨(Nat.le_of_ble_eq_true rfl), (Nat.le_of_ble_eq_true rfl)⟩ (fun r52 σ51 H locs hw h => ?_)
          refine W.eq (g2 := F0 m 98 ls [.int r52, .int z1, .ref mo]) rfl ?_
          refine M_callv (As := [.int z1, .int r52]) (rest := []) C h hA (K_M_cut l dC dI mo rf ca H.size σ51 z1 r52 hw) (cwV 2 hts (gV hsub v_243 v_244 v_245 v_7 v_246) rfl rfl rfl (by decide +kernel) ⟨(Nat.le_of_ble_eq_true rfl), (Nat.le_of_ble_eq_true rfl)⟩) rfl hl.1 (Nat.le_of_ble_eq_true rfl) e_M_buries_98 ⟨(Nat.le_of_ble_eq_true rfl), (Nat.le_of_ble_eq_true rfl)⟩ (fun σ53 H locs hw h => ?_)
          refine W.eq (g2 := F0 m 101 ls []) rfl ?_
          exact K_101 _ ih z1 σ53 _ _ _ hw h (lv_sub hl [0, 1] rfl)
  have K_13 : ∀ (n : Nat), ∀ (z1 : Int32) (σ : MST) (H : Heap) (locs : List Loc) (ls : Array Slot), w_M_buries_13 P n z1 σ → MH (dC, dI) A mo rf ca σ s H locs → lv_has ls 4 [(0, .ref mo), (1, .int z1)] → W p l e ({ frames := 3, cells := 0, slots := 0, locals := 65 } : Room) s m ([.ref mo] : List Value).toArray below meth cx H locs 0 0 Q (F0 m 13 ls []) := by
    intro  n
    induction n with
    | zero => intro z1 σ H locs ls hw h hl; unfold w_M_buries_13 at hw; exact hw.elim
    | succ n ih =>
      intro z1 σ H locs ls hw h hl
      unfold w_M_buries_13 at hw
      refine lv_iload_n hx hb e_M_buries_13 rfl (lv_at hl 1 rfl) ?_
      refine lv_bipush (v := 16) hx hb e_M_buries_14 (by decide) ?_
      refine lv_aload_n hx hb e_M_buries_16 rfl (lv_at hl 0 rfl) ?_
      refine M_get C h 33 (v := .int (σ.1 33)) rfl (by decide) v_116 e_M_buries_17 ?_
      refine lv_imul hx hb e_M_buries_20 ?_
      refine lv_aload_n hx hb e_M_buries_21 rfl (lv_at hl 0 rfl) ?_
      refine M_get C h 16 (v := .ref (rf 16)) rfl (by decide) v_61 e_M_buries_22 ?_
      refine lv_aload_n hx hb e_M_buries_25 rfl (lv_at hl 0 rfl) ?_
      refine M_get C h 33 (v := .int (σ.1 33)) rfl (by decide) v_116 e_M_buries_26 ?_
      refine M_ald C h 16 (by decide) rfl hw.1 e_M_buries_29 ?_
      replace hw := hw.2
      refine lv_topi (fun a55 e_a55 => ?_)
      replace hw := hw a55 e_a55
      refine lv_iadd hx hb e_M_buries_30 ?_
      refine lv_icmp_ge (tgt := 68) hx hb e_M_buries_31 (by decide) (fun c56 => ?_) (fun c56 => ?_)
      · skip
        replace hw := hw.1 c56
        refine lv_iconst (v := 0) hx hb e_M_buries_68 (by decide) ?_
        refine lv_istore_n (lv' := [(1, .int 0), (0, .ref mo)]) hx hb e_M_buries_69 rfl hl (by decide) rfl (fun ls hl => ?_)
        obtain ⟨n9, hw⟩ := hw
        exact K_70 n9 0 σ _ _ _ hw h (lv_sub hl [1, 0] rfl)
      · skip
        replace hw := hw.2 c56
        refine lv_aload_n hx hb e_M_buries_34 rfl (lv_at hl 0 rfl) ?_
        refine lv_aload_n hx hb e_M_buries_35 rfl (lv_at hl 0 rfl) ?_
        refine M_get C h 17 (v := .ref (rf 17)) rfl (by decide) v_62 e_M_buries_36 ?_
        refine lv_iload_n hx hb e_M_buries_39 rfl (lv_at hl 1 rfl) ?_
        refine M_ald C h 17 (by decide) rfl hw.1 e_M_buries_40 ?_
        replace hw := hw.2
        refine lv_topi (fun a57 e_a57 => ?_)
        replace hw := hw a57 e_a57
        refine lv_aload_n hx hb e_M_buries_41 rfl (lv_at hl 0 rfl) ?_
        refine M_get C h 18 (v := .ref (rf 18)) rfl (by decide) v_63 e_M_buries_42 ?_
        refine lv_iload_n hx hb e_M_buries_45 rfl (lv_at hl 1 rfl) ?_
        refine M_ald C h 18 (by decide) rfl hw.1 e_M_buries_46 ?_
        replace hw := hw.2
        refine lv_topi (fun a58 e_a58 => ?_)
        replace hw := hw a58 e_a58
        refine lv_aload_n hx hb e_M_buries_47 rfl (lv_at hl 0 rfl) ?_
        refine M_get C h 19 (v := .ref (rf 19)) rfl (by decide) v_64 e_M_buries_48 ?_
        refine lv_iload_n hx hb e_M_buries_51 rfl (lv_at hl 1 rfl) ?_
        refine M_ald C h 19 (by decide) rfl hw.1 e_M_buries_52 ?_
        replace hw := hw.2
        refine lv_topi (fun a59 e_a59 => ?_)
        replace hw := hw a59 e_a59
        refine lv_aload_n hx hb e_M_buries_53 rfl (lv_at hl 0 rfl) ?_
        refine M_get C h 20 (v := .ref (rf 20)) rfl (by decide) v_65 e_M_buries_54 ?_
        refine lv_iload_n hx hb e_M_buries_57 rfl (lv_at hl 1 rfl) ?_
        refine M_ald C h 20 (by decide) rfl hw.1 e_M_buries_58 ?_
        replace hw := hw.2
        refine lv_topi (fun a60 e_a60 => ?_)
        replace hw := hw a60 e_a60
        refine M_callv (As := [.int a57, .int a58, .int a59, .int a60]) (rest := []) C h hA (K_M_addCut l dC dI mo rf ca H.size σ a57 a58 a59 a60 hw) (cwV 4 hts (gV hsub v_230 v_231 v_232 v_7 v_233) rfl rfl rfl (by decide +kernel) ⟨(Nat.le_of_ble_eq_true rfl), (Nat.le_of_ble_eq_true rfl)⟩) rfl hl.1 (Nat.le_of_ble_eq_true rfl) e_M_buries_59 ⟨(Nat.le_of_ble_eq_true rfl), (Nat.le_of_ble_eq_true rfl)⟩ (fun σ61 H locs hw h => ?_)
        refine W.eq (g2 := F0 m 62 ls []) rfl ?_
        refine lv_iinc (v := (z1 + 1)) (lv' := [(1, .int (z1 + 1)), (0, .ref mo)]) hx hb e_M_buries_62 hl (k := 1) rfl (rfl) (by decide) rfl (fun ls hl => ?_)
        refine lv_goto (tgt := 13) hx hb e_M_buries_65 (by decide) ?_
        exact ih (z1 + 1) σ61 _ _ _ hw h (lv_sub hl [1, 0] rfl)
  have hl : lv_has ls 4 [(0, .ref mo)] := hl
  unfold w_M_buries at hw
  refine lv_aload_n hx hb e_M_buries_0 rfl (lv_at hl 0 rfl) ?_
  refine lv_iconst (v := 0) hx hb e_M_buries_1 (by decide) ?_
  refine M_puti C h 45 (by decide) rfl rfl (by decide +kernel) v_226 e_M_buries_2 (fun H locs h => ?_)
  obtain ⟨σ63, e_σ63⟩ : ∃ z : MST, z = setI σ 45 0 := ⟨_, rfl⟩
  rw [← e_σ63] at h
  replace hw := hw σ63 e_σ63
  refine lv_bipush (v := 16) hx hb e_M_buries_5 (by decide) ?_
  refine lv_aload_n hx hb e_M_buries_7 rfl (lv_at hl 0 rfl) ?_
  refine M_get C h 33 (v := .int (σ63.1 33)) rfl (by decide) v_116 e_M_buries_8 ?_
  refine lv_imul hx hb e_M_buries_11 ?_
  refine lv_istore_n (lv' := [(1, .int ((16 : Int32) * (σ63.1 33))), (0, .ref mo)]) hx hb e_M_buries_12 rfl hl (by decide) rfl (fun ls hl => ?_)
  obtain ⟨n9, hw⟩ := hw
  exact K_13 n9 ((16 : Int32) * (σ63.1 33)) σ63 _ _ _ hw h (lv_sub hl [1, 0] rfl)
