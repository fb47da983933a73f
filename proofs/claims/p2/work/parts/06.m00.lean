abbrev z_M_thrown : MethodName := ⟨"MapFramerModel", "thrown", "()I"⟩
theorem v_0 : (Cond.fieldLink "MapFramerModel" 169 "MapFramerModel" "thrown" "I" : Cond) ∈ bigW := inB_8 61 (by decide +kernel) rfl
theorem e_M_thrown_0 : decode prog_14_method_2_code 0 = .ok (.aload_n 0, 1) := by decide +kernel
theorem e_M_thrown_1 : decode prog_14_method_2_code 1 = .ok (.getfield 169, 3) := by decide +kernel
theorem e_M_thrown_4 : decode prog_14_method_2_code 4 = .ok (.ireturn, 1) := by decide +kernel
def w_M_thrown (σ : MST) (P : Int32 → MST → Prop) : Prop := P (σ.1 0) σ
set_option maxHeartbeats 4000000 in
set_option maxRecDepth 100000 in
theorem K_M_thrown (l : Launch) (dC : Nat → ClassId) (dI : Nat → Nat → Nat) (mo : Nat) (rf : Nat → Nat) (ca : Nat → ClassId) (sz : Nat) (σ : MST) {P : Int32 → MST → Prop} (hw : w_M_thrown σ P) : Met l z_M_thrown (mW z_M_thrown prog_14_method_2_code 1 (some .int)) ({ frames := 0, cells := 0, slots := 0, locals := 0 } : Room) (va_Pc [.ref mo] (MPre (dC, dI) mo rf ca σ sz)) (va_Qi P (MB (dC, dI) mo rf ca sz) (mA mo rf sz)) 0 0 (mA mo rf sz) := by
  refine M_ofi (by decide) rfl (Nat.le_of_ble_eq_true rfl) ?_
  intro p e s m below meth cx Q A ls C hA hend h hl
  have C0 := C
  obtain ⟨⟨hx, hb, hml, hown, hts⟩, hsub⟩ := C0
  have hl : lv_has ls 1 [(0, .ref mo)] := hl
  unfold w_M_thrown at hw
  refine lv_aload_n hx hb e_M_thrown_0 rfl (lv_at hl 0 rfl) ?_
  refine M_get C h 0 (v := .int (σ.1 0)) rfl (by decide) v_0 e_M_thrown_1 ?_
  exact hend (σ.1 0) σ _ _ _ _ hw h e_M_thrown_4
abbrev z_M_fails : MethodName := ⟨"MapFramerModel", "fails", "(I)I"⟩
theorem e_M_fails_0 : decode prog_14_method_3_code 0 = .ok (.aload_n 0, 1) := by decide +kernel
theorem e_M_fails_1 : decode prog_14_method_3_code 1 = .ok (.iload_n 1, 1) := by decide +kernel
theorem e_M_fails_2 : decode prog_14_method_3_code 2 = .ok (.putfield 169, 3) := by decide +kernel
theorem e_M_fails_5 : decode prog_14_method_3_code 5 = .ok (.iconst 0, 1) := by decide +kernel
theorem e_M_fails_6 : decode prog_14_method_3_code 6 = .ok (.ireturn, 1) := by decide +kernel
def w_M_fails (x1 : Int32) (σ : MST) (P : Int32 → MST → Prop) : Prop := ∀ σ1 : MST, σ1 = setI σ 0 x1 → P (0 : Int32) σ1
set_option maxHeartbeats 4000000 in
set_option maxRecDepth 100000 in
theorem K_M_fails (l : Launch) (dC : Nat → ClassId) (dI : Nat → Nat → Nat) (mo : Nat) (rf : Nat → Nat) (ca : Nat → ClassId) (sz : Nat) (σ : MST) (x1 : Int32) {P : Int32 → MST → Prop} (hw : w_M_fails x1 σ P) : Met l z_M_fails (mW z_M_fails prog_14_method_3_code 2 (some .int)) ({ frames := 0, cells := 0, slots := 0, locals := 0 } : Room) (va_Pc [.ref mo, .int x1] (MPre (dC, dI) mo rf ca σ sz)) (va_Qi P (MB (dC, dI) mo rf ca sz) (mA mo rf sz)) 0 0 (mA mo rf sz) := by
  refine M_ofi (by decide) rfl (Nat.le_of_ble_eq_true rfl) ?_
  intro p e s m below meth cx Q A ls C hA hend h hl
  have C0 := C
  obtain ⟨⟨hx, hb, hml, hown, hts⟩, hsub⟩ := C0
  have hl : lv_has ls 2 [(0, .ref mo), (1, .int x1)] := hl
  unfold w_M_fails at hw
  refine lv_aload_n hx hb e_M_fails_0 rfl (lv_at hl 0 rfl) ?_
  refine lv_iload_n hx hb e_M_fails_1 rfl (lv_at hl 1 rfl) ?_
  refine M_puti C h 0 (by decide) rfl rfl (by decide +kernel) v_0 e_M_fails_2 (fun H locs h => ?_)
  obtain ⟨σ1, e_σ1⟩ : ∃ z : MST, z = setI σ 0 x1 := ⟨_, rfl⟩
  rw [← e_σ1] at h
  replace hw := hw σ1 e_σ1
  refine lv_iconst (v := 0) hx hb e_M_fails_5 (by decide) ?_
  exact hend (0 : Int32) σ1 _ _ _ _ hw h e_M_fails_6
abbrev z_M_isClass : MethodName := ⟨"MapFramerModel", "isClass", "(I)Z"⟩
theorem v_1 : (Cond.fieldLink "MapFramerModel" 7 "MapFramerModel" "classes" "I" : Cond) ∈ bigW := inB_8 62 (by decide +kernel) rfl
theorem e_M_isClass_0 : decode prog_14_method_4_code 0 = .ok (.iload_n 1, 1) := by decide +kernel
theorem e_M_isClass_1 : decode prog_14_method_4_code 1 = .ok (.ifCond .lt 15, 3) := by decide +kernel
theorem e_M_isClass_4 : decode prog_14_method_4_code 4 = .ok (.iload_n 1, 1) := by decide +kernel
theorem e_M_isClass_5 : decode prog_14_method_4_code 5 = .ok (.aload_n 0, 1) := by decide +kernel
theorem e_M_isClass_6 : decode prog_14_method_4_code 6 = .ok (.getfield 7, 3) := by decide +kernel
theorem e_M_isClass_9 : decode prog_14_method_4_code 9 = .ok (.if_icmp .ge 7, 3) := by decide +kernel
theorem e_M_isClass_12 : decode prog_14_method_4_code 12 = .ok (.iconst 1, 1) := by decide +kernel
theorem e_M_isClass_13 : decode prog_14_method_4_code 13 = .ok (.goto 4, 3) := by decide +kernel
theorem e_M_isClass_16 : decode prog_14_method_4_code 16 = .ok (.iconst 0, 1) := by decide +kernel
theorem e_M_isClass_17 : decode prog_14_method_4_code 17 = .ok (.ireturn, 1) := by decide +kernel
def w_M_isClass (x1 : Int32) (σ : MST) (P : Int32 → MST → Prop) : Prop := ((x1 < 0 → P (0 : Int32) σ) ∧ (¬ x1 < 0 → (((σ.1 1) ≤ x1 → P (0 : Int32) σ) ∧ (¬ (σ.1 1) ≤ x1 → P (1 : Int32) σ))))
set_option maxHeartbeats 4000000 in
set_option maxRecDepth 100000 in
theorem K_M_isClass (l : Launch) (dC : Nat → ClassId) (dI : Nat → Nat → Nat) (mo : Nat) (rf : Nat → Nat) (ca : Nat → ClassId) (sz : Nat) (σ : MST) (x1 : Int32) {P : Int32 → MST → Prop} (hw : w_M_isClass x1 σ P) : Met l z_M_isClass (mW z_M_isClass prog_14_method_4_code 2 (some .boolean)) ({ frames := 0, cells := 0, slots := 0, locals := 0 } : Room) (va_Pc [.ref mo, .int x1] (MPre (dC, dI) mo rf ca σ sz)) (va_Qi P (MB (dC, dI) mo rf ca sz) (mA mo rf sz)) 0 0 (mA mo rf sz) := by
  refine M_ofz (by decide) rfl (Nat.le_of_ble_eq_true rfl) ?_
  intro p e s m below meth cx Q A ls C hA hend h hl
  have C0 := C
  obtain ⟨⟨hx, hb, hml, hown, hts⟩, hsub⟩ := C0
  have hl : lv_has ls 2 [(0, .ref mo), (1, .int x1)] := hl
  unfold w_M_isClass at hw
  refine lv_iload_n hx hb e_M_isClass_0 rfl (lv_at hl 1 rfl) ?_
  refine lv_if_lt (tgt := 16) hx hb e_M_isClass_1 (by decide) (fun c1 => ?_) (fun c1 => ?_)
  · skip
    replace hw := hw.1 c1
    refine lv_iconst (v := 0) hx hb e_M_isClass_16 (by decide) ?_
    exact hend (0 : Int32) σ _ _ _ _ rfl hw h e_M_isClass_17
  · skip
    replace hw := hw.2 c1
    refine lv_iload_n hx hb e_M_isClass_4 rfl (lv_at hl 1 rfl) ?_
    refine lv_aload_n hx hb e_M_isClass_5 rfl (lv_at hl 0 rfl) ?_
    refine M_get C h 1 (v := .int (σ.1 1)) rfl (by decide) v_1 e_M_isClass_6 ?_
    refine lv_icmp_ge (tgt := 16) hx hb e_M_isClass_9 (by decide) (fun c2 => ?_) (fun c2 => ?_)
    · skip
      replace hw := hw.1 c2
      refine lv_iconst (v := 0) hx hb e_M_isClass_16 (by decide) ?_
      exact hend (0 : Int32) σ _ _ _ _ rfl hw h e_M_isClass_17
    · skip
      replace hw := hw.2 c2
      refine lv_iconst (v := 1) hx hb e_M_isClass_12 (by decide) ?_
      refine lv_goto (tgt := 17) hx hb e_M_isClass_13 (by decide) ?_
      exact hend (1 : Int32) σ _ _ _ _ rfl hw h e_M_isClass_17
abbrev z_M_subs : MethodName := ⟨"MapFramerModel", "subs", "(II)Z"⟩
theorem v_2 : (Cond.fieldLink "MapFramerModel" 13 "MapFramerModel" "above" "[I" : Cond) ∈ bigW := inB_8 63 (by decide +kernel) rfl
theorem e_M_subs_0 : decode prog_14_method_5_code 0 = .ok (.iload_n 1, 1) := by decide +kernel
theorem e_M_subs_1 : decode prog_14_method_5_code 1 = .ok (.istore_n 3, 1) := by decide +kernel
theorem e_M_subs_2 : decode prog_14_method_5_code 2 = .ok (.iload_n 3, 1) := by decide +kernel
theorem e_M_subs_3 : decode prog_14_method_5_code 3 = .ok (.iload_n 2, 1) := by decide +kernel
theorem e_M_subs_4 : decode prog_14_method_5_code 4 = .ok (.if_icmp .eq 17, 3) := by decide +kernel
theorem e_M_subs_7 : decode prog_14_method_5_code 7 = .ok (.iload_n 3, 1) := by decide +kernel
theorem e_M_subs_8 : decode prog_14_method_5_code 8 = .ok (.ifCond .eq 13, 3) := by decide +kernel
theorem e_M_subs_11 : decode prog_14_method_5_code 11 = .ok (.aload_n 0, 1) := by decide +kernel
theorem e_M_subs_12 : decode prog_14_method_5_code 12 = .ok (.getfield 13, 3) := by decide +kernel
theorem e_M_subs_15 : decode prog_14_method_5_code 15 = .ok (.iload_n 3, 1) := by decide +kernel
theorem e_M_subs_16 : decode prog_14_method_5_code 16 = .ok (.iaload, 1) := by decide +kernel
theorem e_M_subs_17 : decode prog_14_method_5_code 17 = .ok (.istore_n 3, 1) := by decide +kernel
theorem e_M_subs_18 : decode prog_14_method_5_code 18 = .ok (.goto (-16), 3) := by decide +kernel
theorem e_M_subs_21 : decode prog_14_method_5_code 21 = .ok (.iload_n 3, 1) := by decide +kernel
theorem e_M_subs_22 : decode prog_14_method_5_code 22 = .ok (.iload_n 2, 1) := by decide +kernel
theorem e_M_subs_23 : decode prog_14_method_5_code 23 = .ok (.if_icmp .ne 7, 3) := by decide +kernel
theorem e_M_subs_26 : decode prog_14_method_5_code 26 = .ok (.iconst 1, 1) := by decide +kernel
theorem e_M_subs_27 : decode prog_14_method_5_code 27 = .ok (.goto 4, 3) := by decide +kernel
theorem e_M_subs_30 : decode prog_14_method_5_code 30 = .ok (.iconst 0, 1) := by decide +kernel
theorem e_M_subs_31 : decode prog_14_method_5_code 31 = .ok (.ireturn, 1) := by decide +kernel
def w_M_subs_21 (P : Int32 → MST → Prop) (z2 : Int32) (z3 : Int32) (σ : MST) : Prop := ((z3 = z2 → P (1 : Int32) σ) ∧ (¬ z3 = z2 → P (0 : Int32) σ))
def w_M_subs_2 (P : Int32 → MST → Prop) : Nat → Int32 → Int32 → MST → Prop
  | 0, _, _, _ => False
  | n + 1, z2, z3, σ => ((z3 = z2 → w_M_subs_21 P z2 z3 σ) ∧ (¬ z3 = z2 → ((z3 = 0 → w_M_subs_21 P z2 z3 σ) ∧ (¬ z3 = 0 → vp_in z3 16 ∧ (∀ a4 : Int32, a4 = (σ.2.1 2 (z3 : Int32).toNatClampNeg) → w_M_subs_2 P n z2 a4 σ)))))
def w_M_subs (x1 : Int32) (x2 : Int32) (σ : MST) (P : Int32 → MST → Prop) : Prop := (∃ n9 : Nat, w_M_subs_2 P n9 x2 x1 σ)
set_option maxHeartbeats 4000000 in
set_option maxRecDepth 100000 in
theorem K_M_subs (l : Launch) (dC : Nat → ClassId) (dI : Nat → Nat → Nat) (mo : Nat) (rf : Nat → Nat) (ca : Nat → ClassId) (sz : Nat) (σ : MST) (x1 : Int32) (x2 : Int32) {P : Int32 → MST → Prop} (hw : w_M_subs x1 x2 σ P) : Met l z_M_subs (mW z_M_subs prog_14_method_5_code 4 (some .boolean)) ({ frames := 0, cells := 0, slots := 0, locals := 0 } : Room) (va_Pc [.ref mo, .int x1, .int x2] (MPre (dC, dI) mo rf ca σ sz)) (va_Qi P (MB (dC, dI) mo rf ca sz) (mA mo rf sz)) 0 0 (mA mo rf sz) := by
  refine M_ofz (by decide) rfl (Nat.le_of_ble_eq_true rfl) ?_
  intro p e s m below meth cx Q A ls C hA hend h hl
  have C0 := C
  obtain ⟨⟨hx, hb, hml, hown, hts⟩, hsub⟩ := C0
  have K_21 : ∀ (u9 : Unit), ∀ (z2 : Int32) (z3 : Int32) (σ : MST) (H : Heap) (locs : List Loc) (ls : Array Slot), w_M_subs_21 P z2 z3 σ → MH (dC, dI) A mo rf ca σ s H locs → lv_has ls 4 [(2, .int z2), (3, .int z3)] → W p l e ({ frames := 0, cells := 0, slots := 0, locals := 0 } : Room) s m ([.ref mo, .int x1, .int x2] : List Value).toArray below meth cx H locs 0 0 Q (F0 m 21 ls []) := by
    intro u9 z2 z3 σ H locs ls hw h hl
    unfold w_M_subs_21 at hw
    refine lv_iload_n hx hb e_M_subs_21 rfl (lv_at hl 1 rfl) ?_
    refine lv_iload_n hx hb e_M_subs_22 rfl (lv_at hl 0 rfl) ?_
    refine lv_icmp_ne (tgt := 30) hx hb e_M_subs_23 (by decide) (fun c1 => ?_) (fun c1 => ?_)
    · skip
      replace hw := hw.2 c1
      refine lv_iconst (v := 0) hx hb e_M_subs_30 (by decide) ?_
      exact hend (0 : Int32) σ _ _ _ _ rfl hw h e_M_subs_31
    · skip
      replace hw := hw.1 c1
      refine lv_iconst (v := 1) hx hb e_M_subs_26 (by decide) ?_
      refine lv_goto (tgt := 31) hx hb e_M_subs_27 (by decide) ?_
      exact hend (1 : Int32) σ _ _ _ _ rfl hw h e_M_subs_31
  have K_2 : ∀ (n : Nat), ∀ (z2 : Int32) (z3 : Int32) (σ : MST) (H : Heap) (locs : List Loc) (ls : Array Slot), w_M_subs_2 P n z2 z3 σ → MH (dC, dI) A mo rf ca σ s H locs → lv_has ls 4 [(0, .ref mo), (2, .int z2), (3, .int z3)] → W p l e ({ frames := 0, cells := 0, slots := 0, locals := 0 } : Room) s m ([.ref mo, .int x1, .int x2] : List Value).toArray below meth cx H locs 0 0 Q (F0 m 2 ls []) := by
    intro  n
    induction n with
    | zero => intro z2 z3 σ H locs ls hw h hl; unfold w_M_subs_2 at hw; exact hw.elim
    | succ n ih =>
      intro z2 z3 σ H locs ls hw h hl
      unfold w_M_subs_2 at hw
      refine lv_iload_n hx hb e_M_subs_2 rfl (lv_at hl 2 rfl) ?_
      refine lv_iload_n hx hb e_M_subs_3 rfl (lv_at hl 1 rfl) ?_
      refine lv_icmp_eq (tgt := 21) hx hb e_M_subs_4 (by decide) (fun c2 => ?_) (fun c2 => ?_)
      · skip
        replace hw := hw.1 c2
        exact K_21 () z2 z3 σ _ _ _ hw h (lv_sub hl [1, 2] rfl)
      · skip
        replace hw := hw.2 c2
        refine lv_iload_n hx hb e_M_subs_7 rfl (lv_at hl 2 rfl) ?_
        refine lv_if_eq (tgt := 21) hx hb e_M_subs_8 (by decide) (fun c3 => ?_) (fun c3 => ?_)
        · skip
          replace hw := hw.1 c3
          exact K_21 () z2 z3 σ _ _ _ hw h (lv_sub hl [1, 2] rfl)
        · skip
          replace hw := hw.2 c3
          refine lv_aload_n hx hb e_M_subs_11 rfl (lv_at hl 0 rfl) ?_
          refine M_get C h 2 (v := .ref (rf 2)) rfl (by decide) v_2 e_M_subs_12 ?_
          refine lv_iload_n hx hb e_M_subs_15 rfl (lv_at hl 2 rfl) ?_
          refine M_ald C h 2 (by decide) rfl hw.1 e_M_subs_16 ?_
          replace hw := hw.2
          refine lv_topi (fun a4 e_a4 => ?_)
          replace hw := hw a4 e_a4
          refine lv_istore_n (lv' := [(3, .int a4), (0, .ref mo), (2, .int z2)]) hx hb e_M_subs_17 rfl hl (by decide) rfl (fun ls hl => ?_)
          refine lv_goto (tgt := 2) hx hb e_M_subs_18 (by decide) ?_
          exact ih z2 a4 σ _ _ _ hw h (lv_sub hl [1, 2, 0] rfl)
  have hl : lv_has ls 4 [(0, .ref mo), (1, .int x1), (2, .int x2)] := hl
  unfold w_M_subs at hw
  refine lv_iload_n hx hb e_M_subs_0 rfl (lv_at hl 1 rfl) ?_
  refine lv_istore_n (lv' := [(3, .int x1), (0, .ref mo), (1, .int x1), (2, .int x2)]) hx hb e_M_subs_1 rfl hl (by decide) rfl (fun ls hl => ?_)
  obtain ⟨n9, hw⟩ := hw
  exact K_2 n9 x2 x1 σ _ _ _ hw h (lv_sub hl [1, 3, 0] rfl)
abbrev z_M_isType : MethodName := ⟨"MapFramerModel", "isType", "(I)Z"⟩
theorem e_M_isType_0 : decode prog_14_method_6_code 0 = .ok (.iload_n 1, 1) := by decide +kernel
theorem e_M_isType_1 : decode prog_14_method_6_code 1 = .ok (.iconst 1, 1) := by decide +kernel
theorem e_M_isType_2 : decode prog_14_method_6_code 2 = .ok (.if_icmp .lt 8, 3) := by decide +kernel
theorem e_M_isType_5 : decode prog_14_method_6_code 5 = .ok (.iload_n 1, 1) := by decide +kernel
theorem e_M_isType_6 : decode prog_14_method_6_code 6 = .ok (.iconst 4, 1) := by decide +kernel
theorem e_M_isType_7 : decode prog_14_method_6_code 7 = .ok (.if_icmp .le 37, 3) := by decide +kernel
theorem e_M_isType_10 : decode prog_14_method_6_code 10 = .ok (.iload_n 1, 1) := by decide +kernel
theorem e_M_isType_11 : decode prog_14_method_6_code 11 = .ok (.bipush 32, 2) := by decide +kernel
theorem e_M_isType_13 : decode prog_14_method_6_code 13 = .ok (.if_icmp .lt 14, 3) := by decide +kernel
theorem e_M_isType_16 : decode prog_14_method_6_code 16 = .ok (.iload_n 1, 1) := by decide +kernel
theorem e_M_isType_17 : decode prog_14_method_6_code 17 = .ok (.bipush 32, 2) := by decide +kernel
theorem e_M_isType_19 : decode prog_14_method_6_code 19 = .ok (.aload_n 0, 1) := by decide +kernel
theorem e_M_isType_20 : decode prog_14_method_6_code 20 = .ok (.getfield 7, 3) := by decide +kernel
theorem e_M_isType_23 : decode prog_14_method_6_code 23 = .ok (.iadd, 1) := by decide +kernel
theorem e_M_isType_24 : decode prog_14_method_6_code 24 = .ok (.if_icmp .lt 20, 3) := by decide +kernel
theorem e_M_isType_27 : decode prog_14_method_6_code 27 = .ok (.iload_n 1, 1) := by decide +kernel
theorem e_M_isType_28 : decode prog_14_method_6_code 28 = .ok (.bipush 64, 2) := by decide +kernel
theorem e_M_isType_30 : decode prog_14_method_6_code 30 = .ok (.if_icmp .lt 18, 3) := by decide +kernel
theorem e_M_isType_33 : decode prog_14_method_6_code 33 = .ok (.iload_n 1, 1) := by decide +kernel
theorem e_M_isType_34 : decode prog_14_method_6_code 34 = .ok (.bipush 64, 2) := by decide +kernel
theorem e_M_isType_36 : decode prog_14_method_6_code 36 = .ok (.aload_n 0, 1) := by decide +kernel
theorem e_M_isType_37 : decode prog_14_method_6_code 37 = .ok (.getfield 7, 3) := by decide +kernel
theorem e_M_isType_40 : decode prog_14_method_6_code 40 = .ok (.iadd, 1) := by decide +kernel
theorem e_M_isType_41 : decode prog_14_method_6_code 41 = .ok (.if_icmp .ge 7, 3) := by decide +kernel
theorem e_M_isType_44 : decode prog_14_method_6_code 44 = .ok (.iconst 1, 1) := by decide +kernel
theorem e_M_isType_45 : decode prog_14_method_6_code 45 = .ok (.goto 4, 3) := by decide +kernel
theorem e_M_isType_48 : decode prog_14_method_6_code 48 = .ok (.iconst 0, 1) := by decide +kernel
theorem e_M_isType_49 : decode prog_14_method_6_code 49 = .ok (.ireturn, 1) := by decide +kernel
def w_M_isType_44 (P : Int32 → MST → Prop) (σ : MST) : Prop := P (1 : Int32) σ
def w_M_isType_27 (P : Int32 → MST → Prop) (z1 : Int32) (σ : MST) : Prop := ((z1 < 64 → P (0 : Int32) σ) ∧ (¬ z1 < 64 → ((((64 : Int32) + (σ.1 1)) ≤ z1 → P (0 : Int32) σ) ∧ (¬ ((64 : Int32) + (σ.1 1)) ≤ z1 → w_M_isType_44 P σ))))
def w_M_isType_10 (P : Int32 → MST → Prop) (z1 : Int32) (σ : MST) : Prop := ((z1 < 32 → w_M_isType_27 P z1 σ) ∧ (¬ z1 < 32 → ((z1 < ((32 : Int32) + (σ.1 1)) → w_M_isType_44 P σ) ∧ (¬ z1 < ((32 : Int32) + (σ.1 1)) → w_M_isType_27 P z1 σ))))
def w_M_isType (x1 : Int32) (σ : MST) (P : Int32 → MST → Prop) : Prop := ((x1 < 1 → w_M_isType_10 P x1 σ) ∧ (¬ x1 < 1 → ((x1 ≤ 4 → w_M_isType_44 P σ) ∧ (¬ x1 ≤ 4 → w_M_isType_10 P x1 σ))))
set_option maxHeartbeats 4000000 in
set_option maxRecDepth 100000 in
theorem K_M_isType (l : Launch) (dC : Nat → ClassId) (dI : Nat → Nat → Nat) (mo : Nat) (rf : Nat → Nat) (ca : Nat → ClassId) (sz : Nat) (σ : MST) (x1 : Int32) {P : Int32 → MST → Prop} (hw : w_M_isType x1 σ P) : Met l z_M_isType (mW z_M_isType prog_14_method_6_code 2 (some .boolean)) ({ frames := 0, cells := 0, slots := 0, locals := 0 } : Room) (va_Pc [.ref mo, .int x1] (MPre (dC, dI) mo rf ca σ sz)) (va_Qi P (MB (dC, dI) mo rf ca sz) (mA mo rf sz)) 0 0 (mA mo rf sz) := by
  refine M_ofz (by decide) rfl (Nat.le_of_ble_eq_true rfl) ?_
  intro p e s m below meth cx Q A ls C hA hend h hl
  have C0 := C
  obtain ⟨⟨hx, hb, hml, hown, hts⟩, hsub⟩ := C0
  have K_44 : ∀ (u9 : Unit), ∀ (σ : MST) (H : Heap) (locs : List Loc) (ls : Array Slot), w_M_isType_44 P σ → MH (dC, dI) A mo rf ca σ s H locs → lv_has ls 2 [] → W p l e ({ frames := 0, cells := 0, slots := 0, locals := 0 } : Room) s m ([.ref mo, .int x1] : List Value).toArray below meth cx H locs 0 0 Q (F0 m 44 ls []) := by
    intro u9  σ H locs ls hw h hl
    unfold w_M_isType_44 at hw
    refine lv_iconst (v := 1) hx hb e_M_isType_44 (by decide) ?_
    refine lv_goto (tgt := 49) hx hb e_M_isType_45 (by decide) ?_
    exact hend (1 : Int32) σ _ _ _ _ rfl hw h e_M_isType_49
  have K_27 : ∀ (u9 : Unit), ∀ (z1 : Int32) (σ : MST) (H : Heap) (locs : List Loc) (ls : Array Slot), w_M_isType_27 P z1 σ → MH (dC, dI) A mo rf ca σ s H locs → lv_has ls 2 [(0, .ref mo), (1, .int z1)] → W p l e ({ frames := 0, cells := 0, slots := 0, locals := 0 } : Room) s m ([.ref mo, .int x1] : List Value).toArray below meth cx H locs 0 0 Q (F0 m 27 ls []) := by
    intro u9 z1 σ H locs ls hw h hl
    unfold w_M_isType_27 at hw
    refine lv_iload_n hx hb e_M_isType_27 rfl (lv_at hl 1 rfl) ?_
    refine lv_bipush (v := 64) hx hb e_M_isType_28 (by decide) ?_
    refine lv_icmp_lt (tgt := 48) hx hb e_M_isType_30 (by decide) (fun c1 => ?_) (fun c1 => ?_)
    · skip
      replace hw := hw.1 c1
      refine lv_iconst (v := 0) hx hb e_M_isType_48 (by decide) ?_
      exact hend (0 : Int32) σ _ _ _ _ rfl hw h e_M_isType_49
    · skip
      replace hw := hw.2 c1
      refine lv_iload_n hx hb e_M_isType_33 rfl (lv_at hl 1 rfl) ?_
      refine lv_bipush (v := 64) hx hb e_M_isType_34 (by decide) ?_
      refine lv_aload_n hx hb e_M_isType_36 rfl (lv_at hl 0 rfl) ?_
      refine M_get C h 1 (v := .int (σ.1 1)) rfl (by decide) v_1 e_M_isType_37 ?_
      refine lv_iadd hx hb e_M_isType_40 ?_
      refine lv_icmp_ge (tgt := 48) hx hb e_M_isType_41 (by decide) (fun c2 => ?_) (fun c2 => ?_)
      · skip
        replace hw := hw.1 c2
        refine lv_iconst (v := 0) hx hb e_M_isType_48 (by decide) ?_
        exact hend (0 : Int32) σ _ _ _ _ rfl hw h e_M_isType_49
      · skip
        replace hw := hw.2 c2
        exact K_44 () σ _ _ _ hw h (lv_sub hl [] rfl)
  have K_10 : ∀ (u9 : Unit), ∀ (z1 : Int32) (σ : MST) (H : Heap) (locs : List Loc) (ls : Array Slot), w_M_isType_10 P z1 σ → MH (dC, dI) A mo rf ca σ s H locs → lv_has ls 2 [(0, .ref mo), (1, .int z1)] → W p l e ({ frames := 0, cells := 0, slots := 0, locals := 0 } : Room) s m ([.ref mo, .int x1] : List Value).toArray below meth cx H locs 0 0 Q (F0 m 10 ls []) := by
    intro u9 z1 σ H locs ls hw h hl
    unfold w_M_isType_10 at hw
    refine lv_iload_n hx hb e_M_isType_10 rfl (lv_at hl 1 rfl) ?_
    refine lv_bipush (v := 32) hx hb e_M_isType_11 (by decide) ?_
    refine lv_icmp_lt (tgt := 27) hx hb e_M_isType_13 (by decide) (fun c3 => ?_) (fun c3 => ?_)
    · skip
      replace hw := hw.1 c3
      exact K_27 () z1 σ _ _ _ hw h (lv_sub hl [0, 1] rfl)
    · skip
      replace hw := hw.2 c3
      refine lv_iload_n hx hb e_M_isType_16 rfl (lv_at hl 1 rfl) ?_
      refine lv_bipush (v := 32) hx hb e_M_isType_17 (by decide) ?_
      refine lv_aload_n hx hb e_M_isType_19 rfl (lv_at hl 0 rfl) ?_
      refine M_get C h 1 (v := .int (σ.1 1)) rfl (by decide) v_1 e_M_isType_20 ?_
      refine lv_iadd hx hb e_M_isType_23 ?_
      refine lv_icmp_lt (tgt := 44) hx hb e_M_isType_24 (by decide) (fun c4 => ?_) (fun c4 => ?_)
      · skip
        replace hw := hw.1 c4
        exact K_44 () σ _ _ _ hw h (lv_sub hl [] rfl)
      · skip
        replace hw := hw.2 c4
        exact K_27 () z1 σ _ _ _ hw h (lv_sub hl [0, 1] rfl)
  have hl : lv_has ls 2 [(0, .ref mo), (1, .int x1)] := hl
  unfold w_M_isType at hw
  refine lv_iload_n hx hb e_M_isType_0 rfl (lv_at hl 1 rfl) ?_
  refine lv_iconst (v := 1) hx hb e_M_isType_1 (by decide) ?_
  refine lv_icmp_lt (tgt := 10) hx hb e_M_isType_2 (by decide) (fun c5 => ?_) (fun c5 => ?_)
  · skip
    replace hw := hw.1 c5
    exact K_10 () x1 σ _ _ _ hw h (lv_sub hl [0, 1] rfl)
  · skip
    replace hw := hw.2 c5
    refine lv_iload_n hx hb e_M_isType_5 rfl (lv_at hl 1 rfl) ?_
    refine lv_iconst (v := 4) hx hb e_M_isType_6 (by decide) ?_
    refine lv_icmp_le (tgt := 44) hx hb e_M_isType_7 (by decide) (fun c6 => ?_) (fun c6 => ?_)
    · skip
      replace hw := hw.1 c6
      exact K_44 () σ _ _ _ hw h (lv_sub hl [] rfl)
    · skip
      replace hw := hw.2 c6
      exact K_10 () x1 σ _ _ _ hw h (lv_sub hl [0, 1] rfl)
abbrev z_M_isObject : MethodName := ⟨"MapFramerModel", "isObject", "(I)Z"⟩
theorem e_M_isObject_0 : decode prog_14_method_7_code 0 = .ok (.iload_n 0, 1) := by decide +kernel
theorem e_M_isObject_1 : decode prog_14_method_7_code 1 = .ok (.bipush 32, 2) := by decide +kernel
theorem e_M_isObject_3 : decode prog_14_method_7_code 3 = .ok (.if_icmp .lt 13, 3) := by decide +kernel
theorem e_M_isObject_6 : decode prog_14_method_7_code 6 = .ok (.iload_n 0, 1) := by decide +kernel
theorem e_M_isObject_7 : decode prog_14_method_7_code 7 = .ok (.bipush 64, 2) := by decide +kernel
theorem e_M_isObject_9 : decode prog_14_method_7_code 9 = .ok (.if_icmp .ge 7, 3) := by decide +kernel
theorem e_M_isObject_12 : decode prog_14_method_7_code 12 = .ok (.iconst 1, 1) := by decide +kernel
theorem e_M_isObject_13 : decode prog_14_method_7_code 13 = .ok (.goto 4, 3) := by decide +kernel
theorem e_M_isObject_16 : decode prog_14_method_7_code 16 = .ok (.iconst 0, 1) := by decide +kernel
theorem e_M_isObject_17 : decode prog_14_method_7_code 17 = .ok (.ireturn, 1) := by decide +kernel
def w_M_isObject (x0 : Int32) (σ : MST) (P : Int32 → MST → Prop) : Prop := ((x0 < 32 → P (0 : Int32) σ) ∧ (¬ x0 < 32 → ((64 ≤ x0 → P (0 : Int32) σ) ∧ (¬ 64 ≤ x0 → P (1 : Int32) σ))))
set_option maxHeartbeats 4000000 in
set_option maxRecDepth 100000 in
theorem K_M_isObject (l : Launch) (dC : Nat → ClassId) (dI : Nat → Nat → Nat) (mo : Nat) (rf : Nat → Nat) (ca : Nat → ClassId) (sz : Nat) (σ : MST) (x0 : Int32) {P : Int32 → MST → Prop} (hw : w_M_isObject x0 σ P) : Met l z_M_isObject (mW z_M_isObject prog_14_method_7_code 1 (some .boolean)) ({ frames := 0, cells := 0, slots := 0, locals := 0 } : Room) (va_Pc [.int x0] (MPre (dC, dI) mo rf ca σ sz)) (va_Qi P (MB (dC, dI) mo rf ca sz) (mA mo rf sz)) 0 0 (mA mo rf sz) := by
  refine M_ofz (by decide) rfl (Nat.le_of_ble_eq_true rfl) ?_
  intro p e s m below meth cx Q A ls C hA hend h hl
  have C0 := C
  obtain ⟨⟨hx, hb, hml, hown, hts⟩, hsub⟩ := C0
  have hl : lv_has ls 1 [(0, .int x0)] := hl
  unfold w_M_isObject at hw
  refine lv_iload_n hx hb e_M_isObject_0 rfl (lv_at hl 0 rfl) ?_
  refine lv_bipush (v := 32) hx hb e_M_isObject_1 (by decide) ?_
  refine lv_icmp_lt (tgt := 16) hx hb e_M_isObject_3 (by decide) (fun c1 => ?_) (fun c1 => ?_)
  · skip
    replace hw := hw.1 c1
    refine lv_iconst (v := 0) hx hb e_M_isObject_16 (by decide) ?_
    exact hend (0 : Int32) σ _ _ _ _ rfl hw h e_M_isObject_17
  · skip
    replace hw := hw.2 c1
    refine lv_iload_n hx hb e_M_isObject_6 rfl (lv_at hl 0 rfl) ?_
    refine lv_bipush (v := 64) hx hb e_M_isObject_7 (by decide) ?_
    refine lv_icmp_ge (tgt := 16) hx hb e_M_isObject_9 (by decide) (fun c2 => ?_) (fun c2 => ?_)
    · skip
      replace hw := hw.1 c2
      refine lv_iconst (v := 0) hx hb e_M_isObject_16 (by decide) ?_
      exact hend (0 : Int32) σ _ _ _ _ rfl hw h e_M_isObject_17
    · skip
      replace hw := hw.2 c2
      refine lv_iconst (v := 1) hx hb e_M_isObject_12 (by decide) ?_
      refine lv_goto (tgt := 17) hx hb e_M_isObject_13 (by decide) ?_
      exact hend (1 : Int32) σ _ _ _ _ rfl hw h e_M_isObject_17
abbrev z_M_isRow : MethodName := ⟨"MapFramerModel", "isRow", "(I)Z"⟩
theorem e_M_isRow_0 : decode prog_14_method_8_code 0 = .ok (.iload_n 0, 1) := by decide +kernel
theorem e_M_isRow_1 : decode prog_14_method_8_code 1 = .ok (.bipush 64, 2) := by decide +kernel
theorem e_M_isRow_3 : decode prog_14_method_8_code 3 = .ok (.if_icmp .lt 14, 3) := by decide +kernel
theorem e_M_isRow_6 : decode prog_14_method_8_code 6 = .ok (.iload_n 0, 1) := by decide +kernel
theorem e_M_isRow_7 : decode prog_14_method_8_code 7 = .ok (.sipush 1000, 3) := by decide +kernel
theorem e_M_isRow_10 : decode prog_14_method_8_code 10 = .ok (.if_icmp .ge 7, 3) := by decide +kernel
theorem e_M_isRow_13 : decode prog_14_method_8_code 13 = .ok (.iconst 1, 1) := by decide +kernel
theorem e_M_isRow_14 : decode prog_14_method_8_code 14 = .ok (.goto 4, 3) := by decide +kernel
theorem e_M_isRow_17 : decode prog_14_method_8_code 17 = .ok (.iconst 0, 1) := by decide +kernel
theorem e_M_isRow_18 : decode prog_14_method_8_code 18 = .ok (.ireturn, 1) := by decide +kernel
def w_M_isRow (x0 : Int32) (σ : MST) (P : Int32 → MST → Prop) : Prop := ((x0 < 64 → P (0 : Int32) σ) ∧ (¬ x0 < 64 → ((1000 ≤ x0 → P (0 : Int32) σ) ∧ (¬ 1000 ≤ x0 → P (1 : Int32) σ))))
set_option maxHeartbeats 4000000 in
set_option maxRecDepth 100000 in
theorem K_M_isRow (l : Launch) (dC : Nat → ClassId) (dI : Nat → Nat → Nat) (mo : Nat) (rf : Nat → Nat) (ca : Nat → ClassId) (sz : Nat) (σ : MST) (x0 : Int32) {P : Int32 → MST → Prop} (hw : w_M_isRow x0 σ P) : Met l z_M_isRow (mW z_M_isRow prog_14_method_8_code 1 (some .boolean)) ({ frames := 0, cells := 0, slots := 0, locals := 0 } : Room) (va_Pc [.int x0] (MPre (dC, dI) mo rf ca σ sz)) (va_Qi P (MB (dC, dI) mo rf ca sz) (mA mo rf sz)) 0 0 (mA mo rf sz) := by
  refine M_ofz (by decide) rfl (Nat.le_of_ble_eq_true rfl) ?_
  intro p e s m below meth cx Q A ls C hA hend h hl
  have C0 := C
  obtain ⟨⟨hx, hb, hml, hown, hts⟩, hsub⟩ := C0
  have hl : lv_has ls 1 [(0, .int x0)] := hl
  unfold w_M_isRow at hw
  refine lv_iload_n hx hb e_M_isRow_0 rfl (lv_at hl 0 rfl) ?_
  refine lv_bipush (v := 64) hx hb e_M_isRow_1 (by decide) ?_
  refine lv_icmp_lt (tgt := 17) hx hb e_M_isRow_3 (by decide) (fun c1 => ?_) (fun c1 => ?_)
  · skip
    replace hw := hw.1 c1
    refine lv_iconst (v := 0) hx hb e_M_isRow_17 (by decide) ?_
    exact hend (0 : Int32) σ _ _ _ _ rfl hw h e_M_isRow_18
  · skip
    replace hw := hw.2 c1
    refine lv_iload_n hx hb e_M_isRow_6 rfl (lv_at hl 0 rfl) ?_
    refine lv_sipush (v := 1000) hx hb e_M_isRow_7 (by decide) ?_
    refine lv_icmp_ge (tgt := 17) hx hb e_M_isRow_10 (by decide) (fun c2 => ?_) (fun c2 => ?_)
    · skip
      replace hw := hw.1 c2
      refine lv_iconst (v := 0) hx hb e_M_isRow_17 (by decide) ?_
      exact hend (0 : Int32) σ _ _ _ _ rfl hw h e_M_isRow_18
    · skip
      replace hw := hw.2 c2
      refine lv_iconst (v := 1) hx hb e_M_isRow_13 (by decide) ?_
      refine lv_goto (tgt := 18) hx hb e_M_isRow_14 (by decide) ?_
      exact hend (1 : Int32) σ _ _ _ _ rfl hw h e_M_isRow_18
abbrev z_M_isThing : MethodName := ⟨"MapFramerModel", "isThing", "(I)Z"⟩
theorem e_M_isThing_0 : decode prog_14_method_9_code 0 = .ok (.iload_n 0, 1) := by decide +kernel
theorem e_M_isThing_1 : decode prog_14_method_9_code 1 = .ok (.iconst 3, 1) := by decide +kernel
theorem e_M_isThing_2 : decode prog_14_method_9_code 2 = .ok (.if_icmp .eq 21, 3) := by decide +kernel
theorem e_M_isThing_5 : decode prog_14_method_9_code 5 = .ok (.iload_n 0, 1) := by decide +kernel
theorem e_M_isThing_6 : decode prog_14_method_9_code 6 = .ok (.iconst 4, 1) := by decide +kernel
theorem e_M_isThing_7 : decode prog_14_method_9_code 7 = .ok (.if_icmp .eq 16, 3) := by decide +kernel
theorem e_M_isThing_10 : decode prog_14_method_9_code 10 = .ok (.iload_n 0, 1) := by decide +kernel
theorem e_M_isThing_11 : decode prog_14_method_9_code 11 = .ok (.bipush 32, 2) := by decide +kernel
theorem e_M_isThing_13 : decode prog_14_method_9_code 13 = .ok (.if_icmp .lt 14, 3) := by decide +kernel
theorem e_M_isThing_16 : decode prog_14_method_9_code 16 = .ok (.iload_n 0, 1) := by decide +kernel
theorem e_M_isThing_17 : decode prog_14_method_9_code 17 = .ok (.sipush 1000, 3) := by decide +kernel
theorem e_M_isThing_20 : decode prog_14_method_9_code 20 = .ok (.if_icmp .ge 7, 3) := by decide +kernel
theorem e_M_isThing_23 : decode prog_14_method_9_code 23 = .ok (.iconst 1, 1) := by decide +kernel
theorem e_M_isThing_24 : decode prog_14_method_9_code 24 = .ok (.goto 4, 3) := by decide +kernel
theorem e_M_isThing_27 : decode prog_14_method_9_code 27 = .ok (.iconst 0, 1) := by decide +kernel
theorem e_M_isThing_28 : decode prog_14_method_9_code 28 = .ok (.ireturn, 1) := by decide +kernel
def w_M_isThing_23 (P : Int32 → MST → Prop) (σ : MST) : Prop := P (1 : Int32) σ
def w_M_isThing (x0 : Int32) (σ : MST) (P : Int32 → MST → Prop) : Prop := ((x0 = 3 → w_M_isThing_23 P σ) ∧ (¬ x0 = 3 → ((x0 = 4 → w_M_isThing_23 P σ) ∧ (¬ x0 = 4 → ((x0 < 32 → P (0 : Int32) σ) ∧ (¬ x0 < 32 → ((1000 ≤ x0 → P (0 : Int32) σ) ∧ (¬ 1000 ≤ x0 → w_M_isThing_23 P σ))))))))
set_option maxHeartbeats 4000000 in
set_option maxRecDepth 100000 in
theorem K_M_isThing (l : Launch) (dC : Nat → ClassId) (dI : Nat → Nat → Nat) (mo : Nat) (rf : Nat → Nat) (ca : Nat → ClassId) (sz : Nat) (σ : MST) (x0 : Int32) {P : Int32 → MST → Prop} (hw : w_M_isThing x0 σ P) : Met l z_M_isThing (mW z_M_isThing prog_14_method_9_code 1 (some .boolean)) ({ frames := 0, cells := 0, slots := 0, locals := 0 } : Room) (va_Pc [.int x0] (MPre (dC, dI) mo rf ca σ sz)) (va_Qi P (MB (dC, dI) mo rf ca sz) (mA mo rf sz)) 0 0 (mA mo rf sz) := by
  refine M_ofz (by decide) rfl (Nat.le_of_ble_eq_true rfl) ?_
  intro p e s m below meth cx Q A ls C hA hend h hl
  have C0 := C
  obtain ⟨⟨hx, hb, hml, hown, hts⟩, hsub⟩ := C0
  have K_23 : ∀ (u9 : Unit), ∀ (σ : MST) (H : Heap) (locs : List Loc) (ls : Array Slot), w_M_isThing_23 P σ → MH (dC, dI) A mo rf ca σ s H locs → lv_has ls 1 [] → W p l e ({ frames := 0, cells := 0, slots := 0, locals := 0 } : Room) s m ([.int x0] : List Value).toArray below meth cx H locs 0 0 Q (F0 m 23 ls []) := by
    intro u9  σ H locs ls hw h hl
    unfold w_M_isThing_23 at hw
    refine lv_iconst (v := 1) hx hb e_M_isThing_23 (by decide) ?_
    refine lv_goto (tgt := 28) hx hb e_M_isThing_24 (by decide) ?_
    exact hend (1 : Int32) σ _ _ _ _ rfl hw h e_M_isThing_28
  have hl : lv_has ls 1 [(0, .int x0)] := hl
  unfold w_M_isThing at hw
  refine lv_iload_n hx hb e_M_isThing_0 rfl (lv_at hl 0 rfl) ?_
  refine lv_iconst (v := 3) hx hb e_M_isThing_1 (by decide) ?_
  refine lv_icmp_eq (tgt := 23) hx hb e_M_isThing_2 (by decide) (fun c1 => ?_) (fun c1 => ?_)
  · skip
    replace hw := hw.1 c1
    exact K_23 () σ _ _ _ hw h (lv_sub hl [] rfl)
  · skip
    replace hw := hw.2 c1
    refine lv_iload_n hx hb e_M_isThing_5 rfl (lv_at hl 0 rfl) ?_
    refine lv_iconst (v := 4) hx hb e_M_isThing_6 (by decide) ?_
    refine lv_icmp_eq (tgt := 23) hx hb e_M_isThing_7 (by decide) (fun c2 => ?_) (fun c2 => ?_)
    · skip
      replace hw := hw.1 c2
      exact K_23 () σ _ _ _ hw h (lv_sub hl [] rfl)
    · skip
      replace hw := hw.2 c2
      refine lv_iload_n hx hb e_M_isThing_10 rfl (lv_at hl 0 rfl) ?_
      refine lv_bipush (v := 32) hx hb e_M_isThing_11 (by decide) ?_
      refine lv_icmp_lt (tgt := 27) hx hb e_M_isThing_13 (by decide) (fun c3 => ?_) (fun c3 => ?_)
      · skip
        replace hw := hw.1 c3
        refine lv_iconst (v := 0) hx hb e_M_isThing_27 (by decide) ?_
        exact hend (0 : Int32) σ _ _ _ _ rfl hw h e_M_isThing_28
      · skip
        replace hw := hw.2 c3
        refine lv_iload_n hx hb e_M_isThing_16 rfl (lv_at hl 0 rfl) ?_
        refine lv_sipush (v := 1000) hx hb e_M_isThing_17 (by decide) ?_
        refine lv_icmp_ge (tgt := 27) hx hb e_M_isThing_20 (by decide) (fun c4 => ?_) (fun c4 => ?_)
        · skip
          replace hw := hw.1 c4
          refine lv_iconst (v := 0) hx hb e_M_isThing_27 (by decide) ?_
          exact hend (0 : Int32) σ _ _ _ _ rfl hw h e_M_isThing_28
        · skip
          replace hw := hw.2 c4
          exact K_23 () σ _ _ _ hw h (lv_sub hl [] rfl)
abbrev z_M_goesIntoObject : MethodName := ⟨"MapFramerModel", "goesIntoObject", "(II)Z"⟩
theorem v_3 : (Cond.fieldLink "MapFramerModel" 17 "MapFramerModel" "isFace" "[Z" : Cond) ∈ bigW := inB_8 64 (by decide +kernel) rfl
theorem v_4 : (Cond.methodLink "MapFramerModel" 179 ⟨"MapFramerModel", "subs", "(II)Z"⟩ : Cond) ∈ bigW := inB_9 82 (by decide +kernel) rfl
theorem v_5 : (Cond.instanceMethod ⟨"MapFramerModel", "subs", "(II)Z"⟩ : Cond) ∈ bigW := inB_9 84 (by decide +kernel) rfl
theorem v_6 : (Cond.selects "MapFramerModel" ⟨"MapFramerModel", "subs", "(II)Z"⟩ ⟨"MapFramerModel", "subs", "(II)Z"⟩ : Cond) ∈ bigW := inS (y := ⟨"MapFramerModel", "subs", "(II)Z"⟩) (n := 71) (List.mem_of_getElem? (i := 83) (by decide +kernel))
theorem v_7 : (Cond.initialized "MapFramerModel" : Cond) ∈ bigW := inB_1 6 (by decide +kernel) rfl
theorem v_8 : (Cond.code ⟨"MapFramerModel", "subs", "(II)Z"⟩ prog_14_method_5_code 4 (some .boolean) : Cond) ∈ bigW := inB_9 85 rfl rfl
theorem e_M_goesIntoObject_0 : decode prog_14_method_11_code 0 = .ok (.aload_n 0, 1) := by decide +kernel
theorem e_M_goesIntoObject_1 : decode prog_14_method_11_code 1 = .ok (.getfield 17, 3) := by decide +kernel
theorem e_M_goesIntoObject_4 : decode prog_14_method_11_code 4 = .ok (.iload_n 2, 1) := by decide +kernel
theorem e_M_goesIntoObject_5 : decode prog_14_method_11_code 5 = .ok (.baload, 1) := by decide +kernel
theorem e_M_goesIntoObject_6 : decode prog_14_method_11_code 6 = .ok (.ifCond .ne 16, 3) := by decide +kernel
theorem e_M_goesIntoObject_9 : decode prog_14_method_11_code 9 = .ok (.iload_n 2, 1) := by decide +kernel
theorem e_M_goesIntoObject_10 : decode prog_14_method_11_code 10 = .ok (.ifCond .eq 12, 3) := by decide +kernel
theorem e_M_goesIntoObject_13 : decode prog_14_method_11_code 13 = .ok (.aload_n 0, 1) := by decide +kernel
theorem e_M_goesIntoObject_14 : decode prog_14_method_11_code 14 = .ok (.iload_n 1, 1) := by decide +kernel
theorem e_M_goesIntoObject_15 : decode prog_14_method_11_code 15 = .ok (.iload_n 2, 1) := by decide +kernel
theorem e_M_goesIntoObject_16 : decode prog_14_method_11_code 16 = .ok (.invokevirtual 179, 3) := by decide +kernel
theorem e_M_goesIntoObject_19 : decode prog_14_method_11_code 19 = .ok (.ifCond .eq 7, 3) := by decide +kernel
theorem e_M_goesIntoObject_22 : decode prog_14_method_11_code 22 = .ok (.iconst 1, 1) := by decide +kernel
theorem e_M_goesIntoObject_23 : decode prog_14_method_11_code 23 = .ok (.goto 4, 3) := by decide +kernel
theorem e_M_goesIntoObject_26 : decode prog_14_method_11_code 26 = .ok (.iconst 0, 1) := by decide +kernel
theorem e_M_goesIntoObject_27 : decode prog_14_method_11_code 27 = .ok (.ireturn, 1) := by decide +kernel
def w_M_goesIntoObject_22 (P : Int32 → MST → Prop) (σ : MST) : Prop := P (1 : Int32) σ
def w_M_goesIntoObject (x1 : Int32) (x2 : Int32) (σ : MST) (P : Int32 → MST → Prop) : Prop := vp_in x2 16 ∧ (∀ a1 : Int32, a1 = (σ.2.1 3 (x2 : Int32).toNatClampNeg) → ((a1 = 0 → ((x2 = 0 → w_M_goesIntoObject_22 P σ) ∧ (¬ x2 = 0 → w_M_subs x1 x2 σ (fun r5 σ4 => ((r5 = 0 → P (0 : Int32) σ4) ∧ (¬ r5 = 0 → w_M_goesIntoObject_22 P σ4)))))) ∧ (¬ a1 = 0 → w_M_goesIntoObject_22 P σ)))
set_option maxHeartbeats 4000000 in
set_option maxRecDepth 100000 in
theorem K_M_goesIntoObject (l : Launch) (dC : Nat → ClassId) (dI : Nat → Nat → Nat) (mo : Nat) (rf : Nat → Nat) (ca : Nat → ClassId) (sz : Nat) (σ : MST) (x1 : Int32) (x2 : Int32) {P : Int32 → MST → Prop} (hw : w_M_goesIntoObject x1 x2 σ P) : Met l z_M_goesIntoObject (mW z_M_goesIntoObject prog_14_method_11_code 3 (some .boolean)) ({ frames := 1, cells := 0, slots := 0, locals := 23 } : Room) (va_Pc [.ref mo, .int x1, .int x2] (MPre (dC, dI) mo rf ca σ sz)) (va_Qi P (MB (dC, dI) mo rf ca sz) (mA mo rf sz)) 0 0 (mA mo rf sz) := by
  refine M_ofz (by decide) rfl (Nat.le_of_ble_eq_true rfl) ?_
  intro p e s m below meth cx Q A ls C hA hend h hl
  have C0 := C
  obtain ⟨⟨hx, hb, hml, hown, hts⟩, hsub⟩ := C0
  have K_22 : ∀ (u9 : Unit), ∀ (σ : MST) (H : Heap) (locs : List Loc) (ls : Array Slot), w_M_goesIntoObject_22 P σ → MH (dC, dI) A mo rf ca σ s H locs → lv_has ls 3 [] → W p l e ({ frames := 1, cells := 0, slots := 0, locals := 23 } : Room) s m ([.ref mo, .int x1, .int x2] : List Value).toArray below meth cx H locs 0 0 Q (F0 m 22 ls []) := by
    intro u9  σ H locs ls hw h hl
    unfold w_M_goesIntoObject_22 at hw
    refine lv_iconst (v := 1) hx hb e_M_goesIntoObject_22 (by decide) ?_
    refine lv_goto (tgt := 27) hx hb e_M_goesIntoObject_23 (by decide) ?_
    exact hend (1 : Int32) σ _ _ _ _ rfl hw h e_M_goesIntoObject_27
  have hl : lv_has ls 3 [(0, .ref mo), (1, .int x1), (2, .int x2)] := hl
  unfold w_M_goesIntoObject at hw
  refine lv_aload_n hx hb e_M_goesIntoObject_0 rfl (lv_at hl 0 rfl) ?_
  refine M_get C h 3 (v := .ref (rf 3)) rfl (by decide) v_3 e_M_goesIntoObject_1 ?_
  refine lv_iload_n hx hb e_M_goesIntoObject_4 rfl (lv_at hl 2 rfl) ?_
  refine M_zald C h 3 (by decide) rfl hw.1 e_M_goesIntoObject_5 ?_
  replace hw := hw.2
  refine lv_topi (fun a1 e_a1 => ?_)
  replace hw := hw a1 e_a1
  refine lv_if_ne (tgt := 22) hx hb e_M_goesIntoObject_6 (by decide) (fun c2 => ?_) (fun c2 => ?_)
  · skip
    replace hw := hw.2 c2
    exact K_22 () σ _ _ _ hw h (lv_sub hl [] rfl)
  · skip
    replace hw := hw.1 c2
    refine lv_iload_n hx hb e_M_goesIntoObject_9 rfl (lv_at hl 2 rfl) ?_
    refine lv_if_eq (tgt := 22) hx hb e_M_goesIntoObject_10 (by decide) (fun c3 => ?_) (fun c3 => ?_)
    · skip
      replace hw := hw.1 c3
      exact K_22 () σ _ _ _ hw h (lv_sub hl [] rfl)
    · skip
      replace hw := hw.2 c3
      refine lv_aload_n hx hb e_M_goesIntoObject_13 rfl (lv_at hl 0 rfl) ?_
      refine lv_iload_n hx hb e_M_goesIntoObject_14 rfl (lv_at hl 1 rfl) ?_
      refine lv_iload_n hx hb e_M_goesIntoObject_15 rfl (lv_at hl 2 rfl) ?_
      refine M_calli (As := [.int x1, .int x2]) (rest := []) C h hA (K_M_subs l dC dI mo rf ca s.heap.size σ x1 x2 hw) (cwV 2 hts (gV hsub v_4 v_5 v_6 v_7 v_8) rfl rfl rfl (by decide +kernel) ⟨(Nat.le_of_ble_eq_true rfl), (Nat.le_of_ble_eq_true rfl)⟩) rfl hl.1 (Nat.le_of_ble_eq_true rfl) e_M_goesIntoObject_16 ⟨(Nat.le_of_ble_eq_true rfl), (Nat.le_of_ble_eq_true rfl)⟩ (fun r5 σ4 H locs hw h => ?_)
      refine W.eq (g2 := F0 m 19 ls [.int r5]) rfl ?_
      refine lv_if_eq (tgt := 26) hx hb e_M_goesIntoObject_19 (by decide) (fun c6 => ?_) (fun c6 => ?_)
      · skip
        replace hw := hw.1 c6
        refine lv_iconst (v := 0) hx hb e_M_goesIntoObject_26 (by decide) ?_
        exact hend (0 : Int32) σ4 _ _ _ _ rfl hw h e_M_goesIntoObject_27
      · skip
        replace hw := hw.2 c6
        exact K_22 () σ4 _ _ _ hw h (lv_sub hl [] rfl)
abbrev z_M_goesInto : MethodName := ⟨"MapFramerModel", "goesInto", "(II)Z"⟩
theorem v_9 : (Cond.methodLink "MapFramerModel" 183 ⟨"MapFramerModel", "isRow", "(I)Z"⟩ : Cond) ∈ bigW := inB_9 145 (by decide +kernel) rfl
theorem v_10 : (Cond.static ⟨"MapFramerModel", "isRow", "(I)Z"⟩ : Cond) ∈ bigW := inB_9 146 (by decide +kernel) rfl
theorem v_11 : (Cond.code ⟨"MapFramerModel", "isRow", "(I)Z"⟩ prog_14_method_8_code 1 (some .boolean) : Cond) ∈ bigW := inB_9 147 rfl rfl
theorem v_12 : (Cond.methodLink "MapFramerModel" 186 ⟨"MapFramerModel", "goesIntoObject", "(II)Z"⟩ : Cond) ∈ bigW := inB_9 203 (by decide +kernel) rfl
theorem v_13 : (Cond.instanceMethod ⟨"MapFramerModel", "goesIntoObject", "(II)Z"⟩ : Cond) ∈ bigW := inB_9 205 (by decide +kernel) rfl
theorem v_14 : (Cond.selects "MapFramerModel" ⟨"MapFramerModel", "goesIntoObject", "(II)Z"⟩ ⟨"MapFramerModel", "goesIntoObject", "(II)Z"⟩ : Cond) ∈ bigW := inS (y := ⟨"MapFramerModel", "goesIntoObject", "(II)Z"⟩) (n := 71) (List.mem_of_getElem? (i := 107) (by decide +kernel))
theorem v_15 : (Cond.code ⟨"MapFramerModel", "goesIntoObject", "(II)Z"⟩ prog_14_method_11_code 3 (some .boolean) : Cond) ∈ bigW := inB_9 206 rfl rfl
theorem v_16 : (Cond.methodLink "MapFramerModel" 176 ⟨"MapFramerModel", "isObject", "(I)Z"⟩ : Cond) ∈ bigW := inB_9 138 (by decide +kernel) rfl
theorem v_17 : (Cond.static ⟨"MapFramerModel", "isObject", "(I)Z"⟩ : Cond) ∈ bigW := inB_9 139 (by decide +kernel) rfl
theorem v_18 : (Cond.code ⟨"MapFramerModel", "isObject", "(I)Z"⟩ prog_14_method_7_code 1 (some .boolean) : Cond) ∈ bigW := inB_9 140 rfl rfl
theorem v_19 : (Cond.methodLink "MapFramerModel" 172 ⟨"MapFramerModel", "isThing", "(I)Z"⟩ : Cond) ∈ bigW := inB_9 135 (by decide +kernel) rfl
theorem v_20 : (Cond.static ⟨"MapFramerModel", "isThing", "(I)Z"⟩ : Cond) ∈ bigW := inB_9 136 (by decide +kernel) rfl
theorem v_21 : (Cond.code ⟨"MapFramerModel", "isThing", "(I)Z"⟩ prog_14_method_9_code 1 (some .boolean) : Cond) ∈ bigW := inB_9 137 rfl rfl
theorem e_M_goesInto_0 : decode prog_14_method_10_code 0 = .ok (.iload_n 2, 1) := by decide +kernel
theorem e_M_goesInto_1 : decode prog_14_method_10_code 1 = .ok (.ifCond .eq 8, 3) := by decide +kernel
theorem e_M_goesInto_4 : decode prog_14_method_10_code 4 = .ok (.iload_n 1, 1) := by decide +kernel
theorem e_M_goesInto_5 : decode prog_14_method_10_code 5 = .ok (.iload_n 2, 1) := by decide +kernel
theorem e_M_goesInto_6 : decode prog_14_method_10_code 6 = .ok (.if_icmp .ne 5, 3) := by decide +kernel
theorem e_M_goesInto_9 : decode prog_14_method_10_code 9 = .ok (.iconst 1, 1) := by decide +kernel
theorem e_M_goesInto_10 : decode prog_14_method_10_code 10 = .ok (.ireturn, 1) := by decide +kernel
theorem e_M_goesInto_11 : decode prog_14_method_10_code 11 = .ok (.iload_n 1, 1) := by decide +kernel
theorem e_M_goesInto_12 : decode prog_14_method_10_code 12 = .ok (.iconst 5, 1) := by decide +kernel
theorem e_M_goesInto_13 : decode prog_14_method_10_code 13 = .ok (.if_icmp .ne 8, 3) := by decide +kernel
theorem e_M_goesInto_16 : decode prog_14_method_10_code 16 = .ok (.iload_n 2, 1) := by decide +kernel
theorem e_M_goesInto_17 : decode prog_14_method_10_code 17 = .ok (.invokestatic 172, 3) := by decide +kernel
theorem e_M_goesInto_20 : decode prog_14_method_10_code 20 = .ok (.ireturn, 1) := by decide +kernel
theorem e_M_goesInto_21 : decode prog_14_method_10_code 21 = .ok (.iload_n 2, 1) := by decide +kernel
theorem e_M_goesInto_22 : decode prog_14_method_10_code 22 = .ok (.invokestatic 176, 3) := by decide +kernel
theorem e_M_goesInto_25 : decode prog_14_method_10_code 25 = .ok (.ifCond .eq 56, 3) := by decide +kernel
theorem e_M_goesInto_28 : decode prog_14_method_10_code 28 = .ok (.iload_n 1, 1) := by decide +kernel
theorem e_M_goesInto_29 : decode prog_14_method_10_code 29 = .ok (.invokestatic 172, 3) := by decide +kernel
theorem e_M_goesInto_32 : decode prog_14_method_10_code 32 = .ok (.ifCond .eq 49, 3) := by decide +kernel
theorem e_M_goesInto_35 : decode prog_14_method_10_code 35 = .ok (.aload_n 0, 1) := by decide +kernel
theorem e_M_goesInto_36 : decode prog_14_method_10_code 36 = .ok (.getfield 17, 3) := by decide +kernel
theorem e_M_goesInto_39 : decode prog_14_method_10_code 39 = .ok (.iload_n 2, 1) := by decide +kernel
theorem e_M_goesInto_40 : decode prog_14_method_10_code 40 = .ok (.bipush 32, 2) := by decide +kernel
theorem e_M_goesInto_42 : decode prog_14_method_10_code 42 = .ok (.isub, 1) := by decide +kernel
theorem e_M_goesInto_43 : decode prog_14_method_10_code 43 = .ok (.baload, 1) := by decide +kernel
theorem e_M_goesInto_44 : decode prog_14_method_10_code 44 = .ok (.ifCond .ne 31, 3) := by decide +kernel
theorem e_M_goesInto_47 : decode prog_14_method_10_code 47 = .ok (.iload_n 2, 1) := by decide +kernel
theorem e_M_goesInto_48 : decode prog_14_method_10_code 48 = .ok (.bipush 32, 2) := by decide +kernel
theorem e_M_goesInto_50 : decode prog_14_method_10_code 50 = .ok (.if_icmp .eq 25, 3) := by decide +kernel
theorem e_M_goesInto_53 : decode prog_14_method_10_code 53 = .ok (.iload_n 1, 1) := by decide +kernel
theorem e_M_goesInto_54 : decode prog_14_method_10_code 54 = .ok (.invokestatic 176, 3) := by decide +kernel
theorem e_M_goesInto_57 : decode prog_14_method_10_code 57 = .ok (.ifCond .eq 22, 3) := by decide +kernel
theorem e_M_goesInto_60 : decode prog_14_method_10_code 60 = .ok (.aload_n 0, 1) := by decide +kernel
theorem e_M_goesInto_61 : decode prog_14_method_10_code 61 = .ok (.iload_n 1, 1) := by decide +kernel
theorem e_M_goesInto_62 : decode prog_14_method_10_code 62 = .ok (.bipush 32, 2) := by decide +kernel
theorem e_M_goesInto_64 : decode prog_14_method_10_code 64 = .ok (.isub, 1) := by decide +kernel
theorem e_M_goesInto_65 : decode prog_14_method_10_code 65 = .ok (.iload_n 2, 1) := by decide +kernel
theorem e_M_goesInto_66 : decode prog_14_method_10_code 66 = .ok (.bipush 32, 2) := by decide +kernel
theorem e_M_goesInto_68 : decode prog_14_method_10_code 68 = .ok (.isub, 1) := by decide +kernel
theorem e_M_goesInto_69 : decode prog_14_method_10_code 69 = .ok (.invokevirtual 179, 3) := by decide +kernel
theorem e_M_goesInto_72 : decode prog_14_method_10_code 72 = .ok (.ifCond .eq 7, 3) := by decide +kernel
theorem e_M_goesInto_75 : decode prog_14_method_10_code 75 = .ok (.iconst 1, 1) := by decide +kernel
theorem e_M_goesInto_76 : decode prog_14_method_10_code 76 = .ok (.goto 4, 3) := by decide +kernel
theorem e_M_goesInto_79 : decode prog_14_method_10_code 79 = .ok (.iconst 0, 1) := by decide +kernel
theorem e_M_goesInto_80 : decode prog_14_method_10_code 80 = .ok (.ireturn, 1) := by decide +kernel
theorem e_M_goesInto_81 : decode prog_14_method_10_code 81 = .ok (.iload_n 1, 1) := by decide +kernel
theorem e_M_goesInto_82 : decode prog_14_method_10_code 82 = .ok (.invokestatic 183, 3) := by decide +kernel
theorem e_M_goesInto_85 : decode prog_14_method_10_code 85 = .ok (.ifCond .eq 29, 3) := by decide +kernel
theorem e_M_goesInto_88 : decode prog_14_method_10_code 88 = .ok (.iload_n 2, 1) := by decide +kernel
theorem e_M_goesInto_89 : decode prog_14_method_10_code 89 = .ok (.invokestatic 183, 3) := by decide +kernel
theorem e_M_goesInto_92 : decode prog_14_method_10_code 92 = .ok (.ifCond .eq 22, 3) := by decide +kernel
theorem e_M_goesInto_95 : decode prog_14_method_10_code 95 = .ok (.aload_n 0, 1) := by decide +kernel
theorem e_M_goesInto_96 : decode prog_14_method_10_code 96 = .ok (.iload_n 1, 1) := by decide +kernel
theorem e_M_goesInto_97 : decode prog_14_method_10_code 97 = .ok (.bipush 64, 2) := by decide +kernel
theorem e_M_goesInto_99 : decode prog_14_method_10_code 99 = .ok (.isub, 1) := by decide +kernel
theorem e_M_goesInto_100 : decode prog_14_method_10_code 100 = .ok (.iload_n 2, 1) := by decide +kernel
theorem e_M_goesInto_101 : decode prog_14_method_10_code 101 = .ok (.bipush 64, 2) := by decide +kernel
theorem e_M_goesInto_103 : decode prog_14_method_10_code 103 = .ok (.isub, 1) := by decide +kernel
theorem e_M_goesInto_104 : decode prog_14_method_10_code 104 = .ok (.invokevirtual 186, 3) := by decide +kernel
theorem e_M_goesInto_107 : decode prog_14_method_10_code 107 = .ok (.ifCond .eq 7, 3) := by decide +kernel
theorem e_M_goesInto_110 : decode prog_14_method_10_code 110 = .ok (.iconst 1, 1) := by decide +kernel
theorem e_M_goesInto_111 : decode prog_14_method_10_code 111 = .ok (.goto 4, 3) := by decide +kernel
theorem e_M_goesInto_114 : decode prog_14_method_10_code 114 = .ok (.iconst 0, 1) := by decide +kernel
theorem e_M_goesInto_115 : decode prog_14_method_10_code 115 = .ok (.ireturn, 1) := by decide +kernel
def w_M_goesInto_81 (P : Int32 → MST → Prop) (z1 : Int32) (z2 : Int32) (σ : MST) : Prop := w_M_isRow z1 σ (fun r2 σ1 => ((r2 = 0 → P (0 : Int32) σ1) ∧ (¬ r2 = 0 → w_M_isRow z2 σ1 (fun r5 σ4 => ((r5 = 0 → P (0 : Int32) σ4) ∧ (¬ r5 = 0 → w_M_goesIntoObject (z1 - 64) (z2 - 64) σ4 (fun r8 σ7 => ((r8 = 0 → P (0 : Int32) σ7) ∧ (¬ r8 = 0 → P (1 : Int32) σ7)))))))))
def w_M_goesInto_75 (P : Int32 → MST → Prop) (σ : MST) : Prop := P (1 : Int32) σ
def w_M_goesInto (x1 : Int32) (x2 : Int32) (σ : MST) (P : Int32 → MST → Prop) : Prop := ((x2 = 0 → P (1 : Int32) σ) ∧ (¬ x2 = 0 → ((x1 = x2 → P (1 : Int32) σ) ∧ (¬ x1 = x2 → ((x1 = 5 → w_M_isThing x2 σ (fun r29 σ28 => (narrow .boolean (.int r29) = .int r29 ∧ P r29 σ28))) ∧ (¬ x1 = 5 → w_M_isObject x2 σ (fun r14 σ13 => ((r14 = 0 → w_M_goesInto_81 P x1 x2 σ13) ∧ (¬ r14 = 0 → w_M_isThing x1 σ13 (fun r17 σ16 => ((r17 = 0 → w_M_goesInto_81 P x1 x2 σ16) ∧ (¬ r17 = 0 → vp_in (x2 - 32) 16 ∧ (∀ a19 : Int32, a19 = (σ16.2.1 3 ((x2 - 32) : Int32).toNatClampNeg) → ((a19 = 0 → ((x2 = 32 → w_M_goesInto_75 P σ16) ∧ (¬ x2 = 32 → w_M_isObject x1 σ16 (fun r23 σ22 => ((r23 = 0 → P (0 : Int32) σ22) ∧ (¬ r23 = 0 → w_M_subs (x1 - 32) (x2 - 32) σ22 (fun r26 σ25 => ((r26 = 0 → P (0 : Int32) σ25) ∧ (¬ r26 = 0 → w_M_goesInto_75 P σ25))))))))) ∧ (¬ a19 = 0 → w_M_goesInto_75 P σ16)))))))))))))))
set_option maxHeartbeats 4000000 in
set_option maxRecDepth 100000 in
theorem K_M_goesInto (l : Launch) (dC : Nat → ClassId) (dI : Nat → Nat → Nat) (mo : Nat) (rf : Nat → Nat) (ca : Nat → ClassId) (sz : Nat) (σ : MST) (x1 : Int32) (x2 : Int32) {P : Int32 → MST → Prop} (hw : w_M_goesInto x1 x2 σ P) : Met l z_M_goesInto (mW z_M_goesInto prog_14_method_10_code 3 (some .boolean)) ({ frames := 2, cells := 0, slots := 0, locals := 45 } : Room) (va_Pc [.ref mo, .int x1, .int x2] (MPre (dC, dI) mo rf ca σ sz)) (va_Qi P (MB (dC, dI) mo rf ca sz) (mA mo rf sz)) 0 0 (mA mo rf sz) := by
  refine M_ofz (by decide) rfl (Nat.le_of_ble_eq_true rfl) ?_
  intro p e s m below meth cx Q A ls C hA hend h hl
  have C0 := C
  obtain ⟨⟨hx, hb, hml, hown, hts⟩, hsub⟩ := C0
  have K_81 : ∀ (u9 : Unit), ∀ (z1 : Int32) (z2 : Int32) (σ : MST) (H : Heap) (locs : List Loc) (ls : Array Slot), w_M_goesInto_81 P z1 z2 σ → MH (dC, dI) A mo rf ca σ s H locs → lv_has ls 3 [(0, .ref mo), (1, .int z1), (2, .int z2)] → W p l e ({ frames := 2, cells := 0, slots := 0, locals := 45 } : Room) s m ([.ref mo, .int x1, .int x2] : List Value).toArray below meth cx H locs 0 0 Q (F0 m 81 ls []) := by
    intro u9 z1 z2 σ H locs ls hw h hl
    unfold w_M_goesInto_81 at hw
    refine lv_iload_n hx hb e_M_goesInto_81 rfl (lv_at hl 1 rfl) ?_
    refine M_scalli (As := [.int z1]) (rest := []) C h hA (K_M_isRow l dC dI mo rf ca H.size σ z1 hw) (va_cwS 1 hts (gS hsub v_9 v_10 v_7 v_11) rfl rfl rfl (by decide +kernel) ⟨(Nat.le_of_ble_eq_true rfl), (Nat.le_of_ble_eq_true rfl)⟩) rfl hl.1 (Nat.le_of_ble_eq_true rfl) e_M_goesInto_82 ⟨(Nat.le_of_ble_eq_true rfl), (Nat.le_of_ble_eq_true rfl)⟩ (fun r2 σ1 H locs hw h => ?_)
    refine W.eq (g2 := F0 m 85 ls [.int r2]) rfl ?_
    refine lv_if_eq (tgt := 114) hx hb e_M_goesInto_85 (by decide) (fun c3 => ?_) (fun c3 => ?_)
    · skip
      replace hw := hw.1 c3
      refine lv_iconst (v := 0) hx hb e_M_goesInto_114 (by decide) ?_
      exact hend (0 : Int32) σ1 _ _ _ _ rfl hw h e_M_goesInto_115
    · skip
      replace hw := hw.2 c3
      refine lv_iload_n hx hb e_M_goesInto_88 rfl (lv_at hl 2 rfl) ?_
      refine M_scalli (As := [.int z2]) (rest := []) C h hA (K_M_isRow l dC dI mo rf ca H.size σ1 z2 hw) (va_cwS 1 hts (gS hsub v_9 v_10 v_7 v_11) rfl rfl rfl (by decide +kernel) ⟨(Nat.le_of_ble_eq_true rfl), (Nat.le_of_ble_eq_true rfl)⟩) rfl hl.1 (Nat.le_of_ble_eq_true rfl) e_M_goesInto_89 ⟨(Nat.le_of_ble_eq_true rfl), (Nat.le_of_ble_eq_true rfl)⟩ (fun r5 σ4 H locs hw h => ?_)
      refine W.eq (g2 := F0 m 92 ls [.int r5]) rfl ?_
      refine lv_if_eq (tgt := 114) hx hb e_M_goesInto_92 (by decide) (fun c6 => ?_) (fun c6 => ?_)
      · skip
        replace hw := hw.1 c6
        refine lv_iconst (v := 0) hx hb e_M_goesInto_114 (by decide) ?_
        exact hend (0 : Int32) σ4 _ _ _ _ rfl hw h e_M_goesInto_115
      · skip
        replace hw := hw.2 c6
        refine lv_aload_n hx hb e_M_goesInto_95 rfl (lv_at hl 0 rfl) ?_
        refine lv_iload_n hx hb e_M_goesInto_96 rfl (lv_at hl 1 rfl) ?_
        refine lv_bipush (v := 64) hx hb e_M_goesInto_97 (by decide) ?_
        refine lv_isub hx hb e_M_goesInto_99 ?_
        refine lv_iload_n hx hb e_M_goesInto_100 rfl (lv_at hl 2 rfl) ?_
        refine lv_bipush (v := 64) hx hb e_M_goesInto_101 (by decide) ?_
        refine lv_isub hx hb e_M_goesInto_103 ?_
        refine M_calli (As := [.int (z1 - 64), .int (z2 - 64)]) (rest := []) C h hA (K_M_goesIntoObject l dC dI mo rf ca H.size σ4 (z1 - 64) (z2 - 64) hw) (cwV 2 hts (gV hsub v_12 v_13 v_14 v_7 v_15) rfl rfl rfl (by decide +kernel) ⟨(Nat.le_of_ble_eq_true rfl), (Nat.le_of_ble_eq_true rfl)⟩) rfl hl.1 (Nat.le_of_ble_eq_true rfl) e_M_goesInto_104 ⟨(Nat.le_of_ble_eq_true rfl), (Nat.le_of_ble_eq_true rfl)⟩ (fun r8 σ7 H locs hw h => ?_)
        refine W.eq (g2 := F0 m 107 ls [.int r8]) rfl ?_
        refine lv_if_eq (tgt := 114) hx hb e_M_goesInto_107 (by decide) (fun c9 => ?_) (fun c9 => ?_)
        · skip
          replace hw := hw.1 c9
          refine lv_iconst (v := 0) hx hb e_M_goesInto_114 (by decide) ?_
          exact hend (0 : Int32) σ7 _ _ _ _ rfl hw h e_M_goesInto_115
        · skip
          replace hw := hw.2 c9
          refine lv_iconst (v := 1) hx hb e_M_goesInto_110 (by decide) ?_
          refine lv_goto (tgt := 115) hx hb e_M_goesInto_111 (by decide) ?_
          exact hend (1 : Int32) σ7 _ _ _ _ rfl hw h e_M_goesInto_115
  have K_75 : ∀ (u9 : Unit), ∀ (σ : MST) (H : Heap) (locs : List Loc) (ls : Array Slot), w_M_goesInto_75 P σ → MH (dC, dI) A mo rf ca σ s H locs → lv_has ls 3 [] → W p l e ({ frames := 2, cells := 0, slots := 0, locals := 45 } : Room) s m ([.ref mo, .int x1, .int x2] : List Value).toArray below meth cx H locs 0 0 Q (F0 m 75 ls []) := by
    intro u9  σ H locs ls hw h hl
    unfold w_M_goesInto_75 at hw
    refine lv_iconst (v := 1) hx hb e_M_goesInto_75 (by decide) ?_
    refine lv_goto (tgt := 80) hx hb e_M_goesInto_76 (by decide) ?_
    exact hend (1 : Int32) σ _ _ _ _ rfl hw h e_M_goesInto_80
  have hl : lv_has ls 3 [(0, .ref mo), (1, .int x1), (2, .int x2)] := hl
  unfold w_M_goesInto at hw
  refine lv_iload_n hx hb e_M_goesInto_0 rfl (lv_at hl 2 rfl) ?_
  refine lv_if_eq (tgt := 9) hx hb e_M_goesInto_1 (by decide) (fun c10 => ?_) (fun c10 => ?_)
  · skip
    replace hw := hw.1 c10
    refine lv_iconst (v := 1) hx hb e_M_goesInto_9 (by decide) ?_
    exact hend (1 : Int32) σ _ _ _ _ rfl hw h e_M_goesInto_10
  · skip
    replace hw := hw.2 c10
    refine lv_iload_n hx hb e_M_goesInto_4 rfl (lv_at hl 1 rfl) ?_
    refine lv_iload_n hx hb e_M_goesInto_5 rfl (lv_at hl 2 rfl) ?_
    refine lv_icmp_ne (tgt := 11) hx hb e_M_goesInto_6 (by decide) (fun c11 => ?_) (fun c11 => ?_)
    · skip
      replace hw := hw.2 c11
      refine lv_iload_n hx hb e_M_goesInto_11 rfl (lv_at hl 1 rfl) ?_
      refine lv_iconst (v := 5) hx hb e_M_goesInto_12 (by decide) ?_
      refine lv_icmp_ne (tgt := 21) hx hb e_M_goesInto_13 (by decide) (fun c12 => ?_) (fun c12 => ?_)
      · skip
        replace hw := hw.2 c12
        refine lv_iload_n hx hb e_M_goesInto_21 rfl (lv_at hl 2 rfl) ?_
        refine M_scalli (As := [.int x2]) (rest := []) C h hA (K_M_isObject l dC dI mo rf ca s.heap.size σ x2 hw) (va_cwS 1 hts (gS hsub v_16 v_17 v_7 v_18) rfl rfl rfl (by decide +kernel) ⟨(Nat.le_of_ble_eq_true rfl), (Nat.le_of_ble_eq_true rfl)⟩) rfl hl.1 (Nat.le_of_ble_eq_true rfl) e_M_goesInto_22 ⟨(Nat.le_of_ble_eq_true rfl), (Nat.le_of_ble_eq_true rfl)⟩ (fun r14 σ13 H locs hw h => ?_)
        refine W.eq (g2 := F0 m 25 ls [.int r14]) rfl ?_
        refine lv_if_eq (tgt := 81) hx hb e_M_goesInto_25 (by decide) (fun c15 => ?_) (fun c15 => ?_)
        · skip
          replace hw := hw.1 c15
          exact K_81 () x1 x2 σ13 _ _ _ hw h (lv_sub hl [0, 1, 2] rfl)
        · skip
          replace hw := hw.2 c15
          refine lv_iload_n hx hb e_M_goesInto_28 rfl (lv_at hl 1 rfl) ?_
          refine M_scalli (As := [.int x1]) (rest := []) C h hA (K_M_isThing l dC dI mo rf ca H.size σ13 x1 hw) (va_cwS 1 hts (gS hsub v_19 v_20 v_7 v_21) rfl rfl rfl (by decide +kernel) ⟨(Nat.le_of_ble_eq_true rfl), (Nat.le_of_ble_eq_true rfl)⟩) rfl hl.1 (Nat.le_of_ble_eq_true rfl) e_M_goesInto_29 ⟨(Nat.le_of_ble_eq_true rfl), (Nat.le_of_ble_eq_true rfl)⟩ (fun r17 σ16 H locs hw h => ?_)
          refine W.eq (g2 := F0 m 32 ls [.int r17]) rfl ?_
          refine lv_if_eq (tgt := 81) hx hb e_M_goesInto_32 (by decide) (fun c18 => ?_) (fun c18 => ?_)
          · skip
            replace hw := hw.1 c18
            exact K_81 () x1 x2 σ16 _ _ _ hw h (lv_sub hl [0, 1, 2] rfl)
          · skip
            replace hw := hw.2 c18
            refine lv_aload_n hx hb e_M_goesInto_35 rfl (lv_at hl 0 rfl) ?_
            refine M_get C h 3 (v := .ref (rf 3)) rfl (by decide) v_3 e_M_goesInto_36 ?_
            refine lv_iload_n hx hb e_M_goesInto_39 rfl (lv_at hl 2 rfl) ?_
            refine lv_bipush (v := 32) hx hb e_M_goesInto_40 (by decide) ?_
            refine lv_isub hx hb e_M_goesInto_42 ?_
            refine M_zald C h 3 (by decide) rfl hw.1 e_M_goesInto_43 ?_
            replace hw := hw.2
            refine lv_topi (fun a19 e_a19 => ?_)
            replace hw := hw a19 e_a19
            refine lv_if_ne (tgt := 75) hx hb e_M_goesInto_44 (by decide) (fun c20 => ?_) (fun c20 => ?_)
            · skip
              replace hw := hw.2 c20
              exact K_75 () σ16 _ _ _ hw h (lv_sub hl [] rfl)
            · skip
              replace hw := hw.1 c20
              refine lv_iload_n hx hb e_M_goesInto_47 rfl (lv_at hl 2 rfl) ?_
              refine lv_bipush (v := 32) hx hb e_M_goesInto_48 (by decide) ?_
              refine lv_icmp_eq (tgt := 75) hx hb e_M_goesInto_50 (by decide) (fun c21 => ?_) (fun c21 => ?_)
              · skip
                replace hw := hw.1 c21
                exact K_75 () σ16 _ _ _ hw h (lv_sub hl [] rfl)
              · skip
                replace hw := hw.2 c21
                refine lv_iload_n hx hb e_M_goesInto_53 rfl (lv_at hl 1 rfl) ?_
                refine M_scalli (As := [.int x1]) (rest := []) C h hA (K_M_isObject l dC dI mo rf ca H.size σ16 x1 hw) (va_cwS 1 hts (gS hsub v_16 v_17 v_7 v_18) rfl rfl rfl (by decide +kernel) ⟨(Nat.le_of_ble_eq_true rfl), (Nat.le_of_ble_eq_true rfl)⟩) rfl hl.1 (Nat.le_of_ble_eq_true rfl) e_M_goesInto_54 ⟨(Nat.le_of_ble_eq_true rfl), (Nat.le_of_ble_eq_true rfl)⟩ (fun r23 σ22 H locs hw h => ?_)
                refine W.eq (g2 := F0 m 57 ls [.int r23]) rfl ?_
                refine lv_if_eq (tgt := 79) hx hb e_M_goesInto_57 (by decide) (fun c24 => ?_) (fun c24 => ?_)
                · skip
                  replace hw := hw.1 c24
                  refine lv_iconst (v := 0) hx hb e_M_goesInto_79 (by decide) ?_
                  exact hend (0 : Int32) σ22 _ _ _ _ rfl hw h e_M_goesInto_80
                · skip
                  replace hw := hw.2 c24
                  refine lv_aload_n hx hb e_M_goesInto_60 rfl (lv_at hl 0 rfl) ?_
                  refine lv_iload_n hx hb e_M_goesInto_61 rfl (lv_at hl 1 rfl) ?_
                  refine lv_bipush (v := 32) hx hb e_M_goesInto_62 (by decide) ?_
                  refine lv_isub hx hb e_M_goesInto_64 ?_
                  refine lv_iload_n hx hb e_M_goesInto_65 rfl (lv_at hl 2 rfl) ?_
                  refine lv_bipush (v := 32) hx hb e_M_goesInto_66 (by decide) ?_
                  refine lv_isub hx hb e_M_goesInto_68 ?_
                  refine M_calli (As := [.int (x1 - 32), .int (x2 - 32)]) (rest := []) C h hA (K_M_subs l dC dI mo rf ca H.size σ22 (x1 - 32) (x2 - 32) hw) (cwV 2 hts (gV hsub v_4 v_5 v_6 v_7 v_8) rfl rfl rfl (by decide +kernel) ⟨(Nat.le_of_ble_eq_true rfl), (Nat.le_of_ble_eq_true rfl)⟩) rfl hl.1 (Nat.le_of_ble_eq_true rfl) e_M_goesInto_69 ⟨(Nat.le_of_ble_eq_true rfl), (Nat.le_of_ble_eq_true rfl)⟩ (fun r26 σ25 H locs hw h => ?_)
                  refine W.eq (g2 := F0 m 72 ls [.int r26]) rfl ?_
                  refine lv_if_eq (tgt := 79) hx hb e_M_goesInto_72 (by decide) (fun c27 => ?_) (fun c27 => ?_)
                  · skip
                    replace hw := hw.1 c27
                    refine lv_iconst (v := 0) hx hb e_M_goesInto_79 (by decide) ?_
                    exact hend (0 : Int32) σ25 _ _ _ _ rfl hw h e_M_goesInto_80
                  · skip
                    replace hw := hw.2 c27
                    exact K_75 () σ25 _ _ _ hw h (lv_sub hl [] rfl)
      · skip
        replace hw := hw.1 c12
        refine lv_iload_n hx hb e_M_goesInto_16 rfl (lv_at hl 2 rfl) ?_
        refine M_scalli (As := [.int x2]) (rest := []) C h hA (K_M_isThing l dC dI mo rf ca s.heap.size σ x2 hw) (va_cwS 1 hts (gS hsub v_19 v_20 v_7 v_21) rfl rfl rfl (by decide +kernel) ⟨(Nat.le_of_ble_eq_true rfl), (Nat.le_of_ble_eq_true rfl)⟩) rfl hl.1 (Nat.le_of_ble_eq_true rfl) e_M_goesInto_17 ⟨(Nat.le_of_ble_eq_true rfl), (Nat.le_of_ble_eq_true rfl)⟩ (fun r29 σ28 H locs hw h => ?_)
        refine W.eq (g2 := F0 m 20 ls [.int r29]) rfl ?_
        exact hend r29 σ28 _ _ _ _ hw.1 hw.2 h e_M_goesInto_20
    · skip
      replace hw := hw.1 c11
      refine lv_iconst (v := 1) hx hb e_M_goesInto_9 (by decide) ?_
      exact hend (1 : Int32) σ _ _ _ _ rfl hw h e_M_goesInto_10
abbrev z_M_nearest : MethodName := ⟨"MapFramerModel", "nearest", "(II)I"⟩
theorem e_M_nearest_0 : decode prog_14_method_12_code 0 = .ok (.iload_n 1, 1) := by decide +kernel
theorem e_M_nearest_1 : decode prog_14_method_12_code 1 = .ok (.istore_n 3, 1) := by decide +kernel
theorem e_M_nearest_2 : decode prog_14_method_12_code 2 = .ok (.aload_n 0, 1) := by decide +kernel
theorem e_M_nearest_3 : decode prog_14_method_12_code 3 = .ok (.iload_n 2, 1) := by decide +kernel
theorem e_M_nearest_4 : decode prog_14_method_12_code 4 = .ok (.iload_n 3, 1) := by decide +kernel
theorem e_M_nearest_5 : decode prog_14_method_12_code 5 = .ok (.invokevirtual 179, 3) := by decide +kernel
theorem e_M_nearest_8 : decode prog_14_method_12_code 8 = .ok (.ifCond .ne 13, 3) := by decide +kernel
theorem e_M_nearest_11 : decode prog_14_method_12_code 11 = .ok (.aload_n 0, 1) := by decide +kernel
theorem e_M_nearest_12 : decode prog_14_method_12_code 12 = .ok (.getfield 13, 3) := by decide +kernel
theorem e_M_nearest_15 : decode prog_14_method_12_code 15 = .ok (.iload_n 3, 1) := by decide +kernel
theorem e_M_nearest_16 : decode prog_14_method_12_code 16 = .ok (.iaload, 1) := by decide +kernel
theorem e_M_nearest_17 : decode prog_14_method_12_code 17 = .ok (.istore_n 3, 1) := by decide +kernel
theorem e_M_nearest_18 : decode prog_14_method_12_code 18 = .ok (.goto (-16), 3) := by decide +kernel
theorem e_M_nearest_21 : decode prog_14_method_12_code 21 = .ok (.iload_n 3, 1) := by decide +kernel
theorem e_M_nearest_22 : decode prog_14_method_12_code 22 = .ok (.ireturn, 1) := by decide +kernel
def w_M_nearest_2 (P : Int32 → MST → Prop) : Nat → Int32 → Int32 → MST → Prop
  | 0, _, _, _ => False
  | n + 1, z2, z3, σ => w_M_subs z2 z3 σ (fun r2 σ1 => ((r2 = 0 → vp_in z3 16 ∧ (∀ a4 : Int32, a4 = (σ1.2.1 2 (z3 : Int32).toNatClampNeg) → w_M_nearest_2 P n z2 a4 σ1)) ∧ (¬ r2 = 0 → P z3 σ1)))
def w_M_nearest (x1 : Int32) (x2 : Int32) (σ : MST) (P : Int32 → MST → Prop) : Prop := (∃ n9 : Nat, w_M_nearest_2 P n9 x2 x1 σ)
set_option maxHeartbeats 4000000 in
set_option maxRecDepth 100000 in
theorem K_M_nearest (l : Launch) (dC : Nat → ClassId) (dI : Nat → Nat → Nat) (mo : Nat) (rf : Nat → Nat) (ca : Nat → ClassId) (sz : Nat) (σ : MST) (x1 : Int32) (x2 : Int32) {P : Int32 → MST → Prop} (hw : w_M_nearest x1 x2 σ P) : Met l z_M_nearest (mW z_M_nearest prog_14_method_12_code 4 (some .int)) ({ frames := 1, cells := 0, slots := 0, locals := 23 } : Room) (va_Pc [.ref mo, .int x1, .int x2] (MPre (dC, dI) mo rf ca σ sz)) (va_Qi P (MB (dC, dI) mo rf ca sz) (mA mo rf sz)) 0 0 (mA mo rf sz) := by
  refine M_ofi (by decide) rfl (Nat.le_of_ble_eq_true rfl) ?_
  intro p e s m below meth cx Q A ls C hA hend h hl
  have C0 := C
  obtain ⟨⟨hx, hb, hml, hown, hts⟩, hsub⟩ := C0
  have K_2 : ∀ (n : Nat), ∀ (z2 : Int32) (z3 : Int32) (σ : MST) (H : Heap) (locs : List Loc) (ls : Array Slot), w_M_nearest_2 P n z2 z3 σ → MH (dC, dI) A mo rf ca σ s H locs → lv_has ls 4 [(0, .ref mo), (2, .int z2), (3, .int z3)] → W p l e ({ frames := 1, cells := 0, slots := 0, locals := 23 } : Room) s m ([.ref mo, .int x1, .int x2] : List Value).toArray below meth cx H locs 0 0 Q (F0 m 2 ls []) := by
    intro  n
    induction n with
    | zero => intro z2 z3 σ H locs ls hw h hl; unfold w_M_nearest_2 at hw; exact hw.elim
    | succ n ih =>
      intro z2 z3 σ H locs ls hw h hl
      unfold w_M_nearest_2 at hw
      refine lv_aload_n hx hb e_M_nearest_2 rfl (lv_at hl 0 rfl) ?_
      refine lv_iload_n hx hb e_M_nearest_3 rfl (lv_at hl 1 rfl) ?_
      refine lv_iload_n hx hb e_M_nearest_4 rfl (lv_at hl 2 rfl) ?_
      refine M_calli (As := [.int z2, .int z3]) (rest := []) C h hA (K_M_subs l dC dI mo rf ca H.size σ z2 z3 hw) (cwV 2 hts (gV hsub v_4 v_5 v_6 v_7 v_8) rfl rfl rfl (by decide +kernel) ⟨(Nat.le_of_ble_eq_true rfl), (Nat.le_of_ble_eq_true rfl)⟩) rfl hl.1 (Nat.le_of_ble_eq_true rfl) e_M_nearest_5 ⟨(Nat.le_of_ble_eq_true rfl), (Nat.le_of_ble_eq_true rfl)⟩ (fun r2 σ1 H locs hw h => ?_)
      refine W.eq (g2 := F0 m 8 ls [.int r2]) rfl ?_
      refine lv_if_ne (tgt := 21) hx hb e_M_nearest_8 (by decide) (fun c3 => ?_) (fun c3 => ?_)
      · skip
        replace hw := hw.2 c3
        refine lv_iload_n hx hb e_M_nearest_21 rfl (lv_at hl 2 rfl) ?_
        exact hend z3 σ1 _ _ _ _ hw h e_M_nearest_22
      · skip
        replace hw := hw.1 c3
        refine lv_aload_n hx hb e_M_nearest_11 rfl (lv_at hl 0 rfl) ?_
        refine M_get C h 2 (v := .ref (rf 2)) rfl (by decide) v_2 e_M_nearest_12 ?_
        refine lv_iload_n hx hb e_M_nearest_15 rfl (lv_at hl 2 rfl) ?_
        refine M_ald C h 2 (by decide) rfl hw.1 e_M_nearest_16 ?_
        replace hw := hw.2
        refine lv_topi (fun a4 e_a4 => ?_)
        replace hw := hw a4 e_a4
        refine lv_istore_n (lv' := [(3, .int a4), (0, .ref mo), (2, .int z2)]) hx hb e_M_nearest_17 rfl hl (by decide) rfl (fun ls hl => ?_)
        refine lv_goto (tgt := 2) hx hb e_M_nearest_18 (by decide) ?_
        exact ih z2 a4 σ1 _ _ _ hw h (lv_sub hl [1, 2, 0] rfl)
  have hl : lv_has ls 4 [(0, .ref mo), (1, .int x1), (2, .int x2)] := hl
  unfold w_M_nearest at hw
  refine lv_iload_n hx hb e_M_nearest_0 rfl (lv_at hl 1 rfl) ?_
  refine lv_istore_n (lv' := [(3, .int x1), (0, .ref mo), (1, .int x1), (2, .int x2)]) hx hb e_M_nearest_1 rfl hl (by decide) rfl (fun ls hl => ?_)
  obtain ⟨n9, hw⟩ := hw
  exact K_2 n9 x2 x1 σ _ _ _ hw h (lv_sub hl [1, 3, 0] rfl)
abbrev z_M_merge : MethodName := ⟨"MapFramerModel", "merge", "(II)I"⟩
theorem v_22 : (Cond.methodLink "MapFramerModel" 189 ⟨"MapFramerModel", "nearest", "(II)I"⟩ : Cond) ∈ bigW := inB_9 141 (by decide +kernel) rfl
theorem v_23 : (Cond.instanceMethod ⟨"MapFramerModel", "nearest", "(II)I"⟩ : Cond) ∈ bigW := inB_9 143 (by decide +kernel) rfl
theorem v_24 : (Cond.selects "MapFramerModel" ⟨"MapFramerModel", "nearest", "(II)I"⟩ ⟨"MapFramerModel", "nearest", "(II)I"⟩ : Cond) ∈ bigW := inS (y := ⟨"MapFramerModel", "nearest", "(II)I"⟩) (n := 71) (List.mem_of_getElem? (i := 93) (by decide +kernel))
theorem v_25 : (Cond.code ⟨"MapFramerModel", "nearest", "(II)I"⟩ prog_14_method_12_code 4 (some .int) : Cond) ∈ bigW := inB_9 144 rfl rfl
theorem e_M_merge_0 : decode prog_14_method_13_code 0 = .ok (.iload_n 1, 1) := by decide +kernel
theorem e_M_merge_1 : decode prog_14_method_13_code 1 = .ok (.iload_n 2, 1) := by decide +kernel
theorem e_M_merge_2 : decode prog_14_method_13_code 2 = .ok (.if_icmp .ne 5, 3) := by decide +kernel
theorem e_M_merge_5 : decode prog_14_method_13_code 5 = .ok (.iload_n 1, 1) := by decide +kernel
theorem e_M_merge_6 : decode prog_14_method_13_code 6 = .ok (.ireturn, 1) := by decide +kernel
theorem e_M_merge_7 : decode prog_14_method_13_code 7 = .ok (.iload_n 1, 1) := by decide +kernel
theorem e_M_merge_8 : decode prog_14_method_13_code 8 = .ok (.iconst 5, 1) := by decide +kernel
theorem e_M_merge_9 : decode prog_14_method_13_code 9 = .ok (.if_icmp .ne 12, 3) := by decide +kernel
theorem e_M_merge_12 : decode prog_14_method_13_code 12 = .ok (.iload_n 2, 1) := by decide +kernel
theorem e_M_merge_13 : decode prog_14_method_13_code 13 = .ok (.invokestatic 172, 3) := by decide +kernel
theorem e_M_merge_16 : decode prog_14_method_13_code 16 = .ok (.ifCond .eq 5, 3) := by decide +kernel
theorem e_M_merge_19 : decode prog_14_method_13_code 19 = .ok (.iload_n 2, 1) := by decide +kernel
theorem e_M_merge_20 : decode prog_14_method_13_code 20 = .ok (.ireturn, 1) := by decide +kernel
theorem e_M_merge_21 : decode prog_14_method_13_code 21 = .ok (.iload_n 2, 1) := by decide +kernel
theorem e_M_merge_22 : decode prog_14_method_13_code 22 = .ok (.iconst 5, 1) := by decide +kernel
theorem e_M_merge_23 : decode prog_14_method_13_code 23 = .ok (.if_icmp .ne 12, 3) := by decide +kernel
theorem e_M_merge_26 : decode prog_14_method_13_code 26 = .ok (.iload_n 1, 1) := by decide +kernel
theorem e_M_merge_27 : decode prog_14_method_13_code 27 = .ok (.invokestatic 172, 3) := by decide +kernel
theorem e_M_merge_30 : decode prog_14_method_13_code 30 = .ok (.ifCond .eq 5, 3) := by decide +kernel
theorem e_M_merge_33 : decode prog_14_method_13_code 33 = .ok (.iload_n 1, 1) := by decide +kernel
theorem e_M_merge_34 : decode prog_14_method_13_code 34 = .ok (.ireturn, 1) := by decide +kernel
theorem e_M_merge_35 : decode prog_14_method_13_code 35 = .ok (.iload_n 1, 1) := by decide +kernel
theorem e_M_merge_36 : decode prog_14_method_13_code 36 = .ok (.invokestatic 172, 3) := by decide +kernel
theorem e_M_merge_39 : decode prog_14_method_13_code 39 = .ok (.ifCond .eq 10, 3) := by decide +kernel
theorem e_M_merge_42 : decode prog_14_method_13_code 42 = .ok (.iload_n 2, 1) := by decide +kernel
theorem e_M_merge_43 : decode prog_14_method_13_code 43 = .ok (.invokestatic 172, 3) := by decide +kernel
theorem e_M_merge_46 : decode prog_14_method_13_code 46 = .ok (.ifCond .ne 5, 3) := by decide +kernel
theorem e_M_merge_49 : decode prog_14_method_13_code 49 = .ok (.iconst 0, 1) := by decide +kernel
theorem e_M_merge_50 : decode prog_14_method_13_code 50 = .ok (.ireturn, 1) := by decide +kernel
theorem e_M_merge_51 : decode prog_14_method_13_code 51 = .ok (.iload_n 1, 1) := by decide +kernel
theorem e_M_merge_52 : decode prog_14_method_13_code 52 = .ok (.invokestatic 176, 3) := by decide +kernel
theorem e_M_merge_55 : decode prog_14_method_13_code 55 = .ok (.ifCond .eq 26, 3) := by decide +kernel
theorem e_M_merge_58 : decode prog_14_method_13_code 58 = .ok (.iload_n 2, 1) := by decide +kernel
theorem e_M_merge_59 : decode prog_14_method_13_code 59 = .ok (.invokestatic 176, 3) := by decide +kernel
theorem e_M_merge_62 : decode prog_14_method_13_code 62 = .ok (.ifCond .eq 19, 3) := by decide +kernel
theorem e_M_merge_65 : decode prog_14_method_13_code 65 = .ok (.bipush 32, 2) := by decide +kernel
theorem e_M_merge_67 : decode prog_14_method_13_code 67 = .ok (.aload_n 0, 1) := by decide +kernel
theorem e_M_merge_68 : decode prog_14_method_13_code 68 = .ok (.iload_n 1, 1) := by decide +kernel
theorem e_M_merge_69 : decode prog_14_method_13_code 69 = .ok (.bipush 32, 2) := by decide +kernel
theorem e_M_merge_71 : decode prog_14_method_13_code 71 = .ok (.isub, 1) := by decide +kernel
theorem e_M_merge_72 : decode prog_14_method_13_code 72 = .ok (.iload_n 2, 1) := by decide +kernel
theorem e_M_merge_73 : decode prog_14_method_13_code 73 = .ok (.bipush 32, 2) := by decide +kernel
theorem e_M_merge_75 : decode prog_14_method_13_code 75 = .ok (.isub, 1) := by decide +kernel
theorem e_M_merge_76 : decode prog_14_method_13_code 76 = .ok (.invokevirtual 189, 3) := by decide +kernel
theorem e_M_merge_79 : decode prog_14_method_13_code 79 = .ok (.iadd, 1) := by decide +kernel
theorem e_M_merge_80 : decode prog_14_method_13_code 80 = .ok (.ireturn, 1) := by decide +kernel
theorem e_M_merge_81 : decode prog_14_method_13_code 81 = .ok (.iload_n 1, 1) := by decide +kernel
theorem e_M_merge_82 : decode prog_14_method_13_code 82 = .ok (.invokestatic 183, 3) := by decide +kernel
theorem e_M_merge_85 : decode prog_14_method_13_code 85 = .ok (.ifCond .eq 28, 3) := by decide +kernel
theorem e_M_merge_88 : decode prog_14_method_13_code 88 = .ok (.iload_n 2, 1) := by decide +kernel
theorem e_M_merge_89 : decode prog_14_method_13_code 89 = .ok (.invokestatic 183, 3) := by decide +kernel
theorem e_M_merge_92 : decode prog_14_method_13_code 92 = .ok (.ifCond .eq 21, 3) := by decide +kernel
theorem e_M_merge_95 : decode prog_14_method_13_code 95 = .ok (.bipush 64, 2) := by decide +kernel
theorem e_M_merge_97 : decode prog_14_method_13_code 97 = .ok (.aload_n 0, 1) := by decide +kernel
theorem e_M_merge_98 : decode prog_14_method_13_code 98 = .ok (.iload_n 1, 1) := by decide +kernel
theorem e_M_merge_99 : decode prog_14_method_13_code 99 = .ok (.bipush 64, 2) := by decide +kernel
theorem e_M_merge_101 : decode prog_14_method_13_code 101 = .ok (.isub, 1) := by decide +kernel
theorem e_M_merge_102 : decode prog_14_method_13_code 102 = .ok (.iload_n 2, 1) := by decide +kernel
theorem e_M_merge_103 : decode prog_14_method_13_code 103 = .ok (.bipush 64, 2) := by decide +kernel
theorem e_M_merge_105 : decode prog_14_method_13_code 105 = .ok (.isub, 1) := by decide +kernel
theorem e_M_merge_106 : decode prog_14_method_13_code 106 = .ok (.invokevirtual 189, 3) := by decide +kernel
theorem e_M_merge_109 : decode prog_14_method_13_code 109 = .ok (.iadd, 1) := by decide +kernel
theorem e_M_merge_110 : decode prog_14_method_13_code 110 = .ok (.goto 5, 3) := by decide +kernel
theorem e_M_merge_113 : decode prog_14_method_13_code 113 = .ok (.bipush 32, 2) := by decide +kernel
theorem e_M_merge_115 : decode prog_14_method_13_code 115 = .ok (.ireturn, 1) := by decide +kernel
def w_M_merge_81 (P : Int32 → MST → Prop) (z1 : Int32) (z2 : Int32) (σ : MST) : Prop := w_M_isRow z1 σ (fun r2 σ1 => ((r2 = 0 → P (32 : Int32) σ1) ∧ (¬ r2 = 0 → w_M_isRow z2 σ1 (fun r5 σ4 => ((r5 = 0 → P (32 : Int32) σ4) ∧ (¬ r5 = 0 → w_M_nearest (z1 - 64) (z2 - 64) σ4 (fun r8 σ7 => P ((64 : Int32) + r8) σ7)))))))
def w_M_merge_35 (P : Int32 → MST → Prop) (z1 : Int32) (z2 : Int32) (σ : MST) : Prop := w_M_isThing z1 σ (fun r10 σ9 => ((r10 = 0 → P (0 : Int32) σ9) ∧ (¬ r10 = 0 → w_M_isThing z2 σ9 (fun r13 σ12 => ((r13 = 0 → P (0 : Int32) σ12) ∧ (¬ r13 = 0 → w_M_isObject z1 σ12 (fun r16 σ15 => ((r16 = 0 → w_M_merge_81 P z1 z2 σ15) ∧ (¬ r16 = 0 → w_M_isObject z2 σ15 (fun r19 σ18 => ((r19 = 0 → w_M_merge_81 P z1 z2 σ18) ∧ (¬ r19 = 0 → w_M_nearest (z1 - 32) (z2 - 32) σ18 (fun r22 σ21 => P ((32 : Int32) + r22) σ21)))))))))))))
def w_M_merge_21 (P : Int32 → MST → Prop) (z1 : Int32) (z2 : Int32) (σ : MST) : Prop := ((z2 = 5 → w_M_isThing z1 σ (fun r25 σ24 => ((r25 = 0 → w_M_merge_35 P z1 z2 σ24) ∧ (¬ r25 = 0 → P z1 σ24)))) ∧ (¬ z2 = 5 → w_M_merge_35 P z1 z2 σ))
def w_M_merge (x1 : Int32) (x2 : Int32) (σ : MST) (P : Int32 → MST → Prop) : Prop := ((x1 = x2 → P x1 σ) ∧ (¬ x1 = x2 → ((x1 = 5 → w_M_isThing x2 σ (fun r30 σ29 => ((r30 = 0 → w_M_merge_21 P x1 x2 σ29) ∧ (¬ r30 = 0 → P x2 σ29)))) ∧ (¬ x1 = 5 → w_M_merge_21 P x1 x2 σ))))
set_option maxHeartbeats 4000000 in
set_option maxRecDepth 100000 in
theorem K_M_merge (l : Launch) (dC : Nat → ClassId) (dI : Nat → Nat → Nat) (mo : Nat) (rf : Nat → Nat) (ca : Nat → ClassId) (sz : Nat) (σ : MST) (x1 : Int32) (x2 : Int32) {P : Int32 → MST → Prop} (hw : w_M_merge x1 x2 σ P) : Met l z_M_merge (mW z_M_merge prog_14_method_13_code 3 (some .int)) ({ frames := 2, cells := 0, slots := 0, locals := 46 } : Room) (va_Pc [.ref mo, .int x1, .int x2] (MPre (dC, dI) mo rf ca σ sz)) (va_Qi P (MB (dC, dI) mo rf ca sz) (mA mo rf sz)) 0 0 (mA mo rf sz) := by
  refine M_ofi (by decide) rfl (Nat.le_of_ble_eq_true rfl) ?_
  intro p e s m below meth cx Q A ls C hA hend h hl
  have C0 := C
  obtain ⟨⟨hx, hb, hml, hown, hts⟩, hsub⟩ := C0
  have K_81 : ∀ (u9 : Unit), ∀ (z1 : Int32) (z2 : Int32) (σ : MST) (H : Heap) (locs : List Loc) (ls : Array Slot), w_M_merge_81 P z1 z2 σ → MH (dC, dI) A mo rf ca σ s H locs → lv_has ls 3 [(0, .ref mo), (1, .int z1), (2, .int z2)] → W p l e ({ frames := 2, cells := 0, slots := 0, locals := 46 } : Room) s m ([.ref mo, .int x1, .int x2] : List Value).toArray below meth cx H locs 0 0 Q (F0 m 81 ls []) := by
    intro u9 z1 z2 σ H locs ls hw h hl
    unfold w_M_merge_81 at hw
    refine lv_iload_n hx hb e_M_merge_81 rfl (lv_at hl 1 rfl) ?_
    refine M_scalli (As := [.int z1]) (rest := []) C h hA (K_M_isRow l dC dI mo rf ca H.size σ z1 hw) (va_cwS 1 hts (gS hsub v_9 v_10 v_7 v_11) rfl rfl rfl (by decide +kernel) ⟨(Nat.le_of_ble_eq_true rfl), (Nat.le_of_ble_eq_true rfl)⟩) rfl hl.1 (Nat.le_of_ble_eq_true rfl) e_M_merge_82 ⟨(Nat.le_of_ble_eq_true rfl), (Nat.le_of_ble_eq_true rfl)⟩ (fun r2 σ1 H locs hw h => ?_)
    refine W.eq (g2 := F0 m 85 ls [.int r2]) rfl ?_
    refine lv_if_eq (tgt := 113) hx hb e_M_merge_85 (by decide) (fun c3 => ?_) (fun c3 => ?_)
    · skip
      replace hw := hw.1 c3
      refine lv_bipush (v := 32) hx hb e_M_merge_113 (by decide) ?_
      exact hend (32 : Int32) σ1 _ _ _ _ hw h e_M_merge_115
    · skip
      replace hw := hw.2 c3
      refine lv_iload_n hx hb e_M_merge_88 rfl (lv_at hl 2 rfl) ?_
      refine M_scalli (As := [.int z2]) (rest := []) C h hA (K_M_isRow l dC dI mo rf ca H.size σ1 z2 hw) (va_cwS 1 hts (gS hsub v_9 v_10 v_7 v_11) rfl rfl rfl (by decide +kernel) ⟨(Nat.le_of_ble_eq_true rfl), (Nat.le_of_ble_eq_true rfl)⟩) rfl hl.1 (Nat.le_of_ble_eq_true rfl) e_M_merge_89 ⟨(Nat.le_of_ble_eq_true rfl), (Nat.le_of_ble_eq_true rfl)⟩ (fun r5 σ4 H locs hw h => ?_)
      refine W.eq (g2 := F0 m 92 ls [.int r5]) rfl ?_
      refine lv_if_eq (tgt := 113) hx hb e_M_merge_92 (by decide) (fun c6 => ?_) (fun c6 => ?_)
      · skip
        replace hw := hw.1 c6
        refine lv_bipush (v := 32) hx hb e_M_merge_113 (by decide) ?_
        exact hend (32 : Int32) σ4 _ _ _ _ hw h e_M_merge_115
      · skip
        replace hw := hw.2 c6
        refine lv_bipush (v := 64) hx hb e_M_merge_95 (by decide) ?_
        refine lv_aload_n hx hb e_M_merge_97 rfl (lv_at hl 0 rfl) ?_
        refine lv_iload_n hx hb e_M_merge_98 rfl (lv_at hl 1 rfl) ?_
        refine lv_bipush (v := 64) hx hb e_M_merge_99 (by decide) ?_
        refine lv_isub hx hb e_M_merge_101 ?_
        refine lv_iload_n hx hb e_M_merge_102 rfl (lv_at hl 2 rfl) ?_
        refine lv_bipush (v := 64) hx hb e_M_merge_103 (by decide) ?_
        refine lv_isub hx hb e_M_merge_105 ?_
        refine M_calli (As := [.int (z1 - 64), .int (z2 - 64)]) (rest := [.int 64]) C h hA (K_M_nearest l dC dI mo rf ca H.size σ4 (z1 - 64) (z2 - 64) hw) (cwV 2 hts (gV hsub v_22 v_23 v_24 v_7 v_25) rfl rfl rfl (by decide +kernel) ⟨(Nat.le_of_ble_eq_true rfl), (Nat.le_of_ble_eq_true rfl)⟩) rfl hl.1 (Nat.le_of_ble_eq_true rfl) e_M_merge_106 ⟨(Nat.le_of_ble_eq_true rfl), (Nat.le_of_ble_eq_true rfl)⟩ (fun r8 σ7 H locs hw h => ?_)
        refine W.eq (g2 := F0 m 109 ls [.int r8, .int 64]) rfl ?_
        refine lv_iadd hx hb e_M_merge_109 ?_
        refine lv_goto (tgt := 115) hx hb e_M_merge_110 (by decide) ?_
        exact hend ((64 : Int32) + r8) σ7 _ _ _ _ hw h e_M_merge_115
  have K_35 : ∀ (u9 : Unit), ∀ (z1 : Int32) (z2 : Int32) (σ : MST) (H : Heap) (locs : List Loc) (ls : Array Slot), w_M_merge_35 P z1 z2 σ → MH (dC, dI) A mo rf ca σ s H locs → lv_has ls 3 [(0, .ref mo), (1, .int z1), (2, .int z2)] → W p l e ({ frames := 2, cells := 0, slots := 0, locals := 46 } : Room) s m ([.ref mo, .int x1, .int x2] : List Value).toArray below meth cx H locs 0 0 Q (F0 m 35 ls []) := by
    intro u9 z1 z2 σ H locs ls hw h hl
    unfold w_M_merge_35 at hw
    refine lv_iload_n hx hb e_M_merge_35 rfl (lv_at hl 1 rfl) ?_
    refine M_scalli (As := [.int z1]) (rest := []) C h hA (K_M_isThing l dC dI mo rf ca H.size σ z1 hw) (va_cwS 1 hts (gS hsub v_19 v_20 v_7 v_21) rfl rfl rfl (by decide +kernel) ⟨(Nat.le_of_ble_eq_true rfl), (Nat.le_of_ble_eq_true rfl)⟩) rfl hl.1 (Nat.le_of_ble_eq_true rfl) e_M_merge_36 ⟨(Nat.le_of_ble_eq_true rfl), (Nat.le_of_ble_eq_true rfl)⟩ (fun r10 σ9 H locs hw h => ?_)
    refine W.eq (g2 := F0 m 39 ls [.int r10]) rfl ?_
    refine lv_if_eq (tgt := 49) hx hb e_M_merge_39 (by decide) (fun c11 => ?_) (fun c11 => ?_)
    · skip
      replace hw := hw.1 c11
      refine lv_iconst (v := 0) hx hb e_M_merge_49 (by decide) ?_
      exact hend (0 : Int32) σ9 _ _ _ _ hw h e_M_merge_50
    · skip
      replace hw := hw.2 c11
      refine lv_iload_n hx hb e_M_merge_42 rfl (lv_at hl 2 rfl) ?_
      refine M_scalli (As := [.int z2]) (rest := []) C h hA (K_M_isThing l dC dI mo rf ca H.size σ9 z2 hw) (va_cwS 1 hts (gS hsub v_19 v_20 v_7 v_21) rfl rfl rfl (by decide +kernel) ⟨(Nat.le_of_ble_eq_true rfl), (Nat.le_of_ble_eq_true rfl)⟩) rfl hl.1 (Nat.le_of_ble_eq_true rfl) e_M_merge_43 ⟨(Nat.le_of_ble_eq_true rfl), (Nat.le_of_ble_eq_true rfl)⟩ (fun r13 σ12 H locs hw h => ?_)
      refine W.eq (g2 := F0 m 46 ls [.int r13]) rfl ?_
      refine lv_if_ne (tgt := 51) hx hb e_M_merge_46 (by decide) (fun c14 => ?_) (fun c14 => ?_)
      · skip
        replace hw := hw.2 c14
        refine lv_iload_n hx hb e_M_merge_51 rfl (lv_at hl 1 rfl) ?_
        refine M_scalli (As := [.int z1]) (rest := []) C h hA (K_M_isObject l dC dI mo rf ca H.size σ12 z1 hw) (va_cwS 1 hts (gS hsub v_16 v_17 v_7 v_18) rfl rfl rfl (by decide +kernel) ⟨(Nat.le_of_ble_eq_true rfl), (Nat.le_of_ble_eq_true rfl)⟩) rfl hl.1 (Nat.le_of_ble_eq_true rfl) e_M_merge_52 ⟨(Nat.le_of_ble_eq_true rfl), (Nat.le_of_ble_eq_true rfl)⟩ (fun r16 σ15 H locs hw h => ?_)
        refine W.eq (g2 := F0 m 55 ls [.int r16]) rfl ?_
        refine lv_if_eq (tgt := 81) hx hb e_M_merge_55 (by decide) (fun c17 => ?_) (fun c17 => ?_)
        · skip
          replace hw := hw.1 c17
          exact K_81 () z1 z2 σ15 _ _ _ hw h (lv_sub hl [0, 1, 2] rfl)
        · skip
          replace hw := hw.2 c17
          refine lv_iload_n hx hb e_M_merge_58 rfl (lv_at hl 2 rfl) ?_
          refine M_scalli (As := [.int z2]) (rest := []) C h hA (K_M_isObject l dC dI mo rf ca H.size σ15 z2 hw) (va_cwS 1 hts (gS hsub v_16 v_17 v_7 v_18) rfl rfl rfl (by decide +kernel) ⟨(Nat.le_of_ble_eq_true rfl), (Nat.le_of_ble_eq_true rfl)⟩) rfl hl.1 (Nat.le_of_ble_eq_true rfl) e_M_merge_59 ⟨(Nat.le_of_ble_eq_true rfl), (Nat.le_of_ble_eq_true rfl)⟩ (fun r19 σ18 H locs hw h => ?_)
          refine W.eq (g2 := F0 m 62 ls [.int r19]) rfl ?_
          refine lv_if_eq (tgt := 81) hx hb e_M_merge_62 (by decide) (fun c20 => ?_) (fun c20 => ?_)
          · skip
            replace hw := hw.1 c20
            exact K_81 () z1 z2 σ18 _ _ _ hw h (lv_sub hl [0, 1, 2] rfl)
          · skip
            replace hw := hw.2 c20
            refine lv_bipush (v := 32) hx hb e_M_merge_65 (by decide) ?_
            refine lv_aload_n hx hb e_M_merge_67 rfl (lv_at hl 0 rfl) ?_
            refine lv_iload_n hx hb e_M_merge_68 rfl (lv_at hl 1 rfl) ?_
            refine lv_bipush (v := 32) hx hb e_M_merge_69 (by decide) ?_
            refine lv_isub hx hb e_M_merge_71 ?_
            refine lv_iload_n hx hb e_M_merge_72 rfl (lv_at hl 2 rfl) ?_
            refine lv_bipush (v := 32) hx hb e_M_merge_73 (by decide) ?_
            refine lv_isub hx hb e_M_merge_75 ?_
            refine M_calli (As := [.int (z1 - 32), .int (z2 - 32)]) (rest := [.int 32]) C h hA (K_M_nearest l dC dI mo rf ca H.size σ18 (z1 - 32) (z2 - 32) hw) (cwV 2 hts (gV hsub v_22 v_23 v_24 v_7 v_25) rfl rfl rfl (by decide +kernel) ⟨(Nat.le_of_ble_eq_true rfl), (Nat.le_of_ble_eq_true rfl)⟩) rfl hl.1 (Nat.le_of_ble_eq_true rfl) e_M_merge_76 ⟨(Nat.le_of_ble_eq_true rfl), (Nat.le_of_ble_eq_true rfl)⟩ (fun r22 σ21 H locs hw h => ?_)
            refine W.eq (g2 := F0 m 79 ls [.int r22, .int 32]) rfl ?_
            refine lv_iadd hx hb e_M_merge_79 ?_
            exact hend ((32 : Int32) + r22) σ21 _ _ _ _ hw h e_M_merge_80
      · skip
        replace hw := hw.1 c14
        refine lv_iconst (v := 0) hx hb e_M_merge_49 (by decide) ?_
        exact hend (0 : Int32) σ12 _ _ _ _ hw h e_M_merge_50
  have K_21 : ∀ (u9 : Unit), ∀ (z1 : Int32) (z2 : Int32) (σ : MST) (H : Heap) (locs : List Loc) (ls : Array Slot), w_M_merge_21 P z1 z2 σ → MH (dC, dI) A mo rf ca σ s H locs → lv_has ls 3 [(0, .ref mo), (1, .int z1), (2, .int z2)] → W p l e ({ frames := 2, cells := 0, slots := 0, locals := 46 } : Room) s m ([.ref mo, .int x1, .int x2] : List Value).toArray below meth cx H locs 0 0 Q (F0 m 21 ls []) := by
    intro u9 z1 z2 σ H locs ls hw h hl
    unfold w_M_merge_21 at hw
    refine lv_iload_n hx hb e_M_merge_21 rfl (lv_at hl 2 rfl) ?_
    refine lv_iconst (v := 5) hx hb e_M_merge_22 (by decide) ?_
    refine lv_icmp_ne (tgt := 35) hx hb e_M_merge_23 (by decide) (fun c23 => ?_) (fun c23 => ?_)
    · skip
      replace hw := hw.2 c23
      exact K_35 () z1 z2 σ _ _ _ hw h (lv_sub hl [0, 1, 2] rfl)
    · skip
      replace hw := hw.1 c23
      refine lv_iload_n hx hb e_M_merge_26 rfl (lv_at hl 1 rfl) ?_
      refine M_scalli (As := [.int z1]) (rest := []) C h hA (K_M_isThing l dC dI mo rf ca H.size σ z1 hw) (va_cwS 1 hts (gS hsub v_19 v_20 v_7 v_21) rfl rfl rfl (by decide +kernel) ⟨(Nat.le_of_ble_eq_true rfl), (Nat.le_of_ble_eq_true rfl)⟩) rfl hl.1 (Nat.le_of_ble_eq_true rfl) e_M_merge_27 ⟨(Nat.le_of_ble_eq_true rfl), (Nat.le_of_ble_eq_true rfl)⟩ (fun r25 σ24 H locs hw h => ?_)
      refine W.eq (g2 := F0 m 30 ls [.int r25]) rfl ?_
      refine lv_if_eq (tgt := 35) hx hb e_M_merge_30 (by decide) (fun c26 => ?_) (fun c26 => ?_)
      · skip
        replace hw := hw.1 c26
        exact K_35 () z1 z2 σ24 _ _ _ hw h (lv_sub hl [0, 1, 2] rfl)
      · skip
        replace hw := hw.2 c26
        refine lv_iload_n hx hb e_M_merge_33 rfl (lv_at hl 1 rfl) ?_
        exact hend z1 σ24 _ _ _ _ hw h e_M_merge_34
  have hl : lv_has ls 3 [(0, .ref mo), (1, .int x1), (2, .int x2)] := hl
  unfold w_M_merge at hw
  refine lv_iload_n hx hb e_M_merge_0 rfl (lv_at hl 1 rfl) ?_
  refine lv_iload_n hx hb e_M_merge_1 rfl (lv_at hl 2 rfl) ?_
  refine lv_icmp_ne (tgt := 7) hx hb e_M_merge_2 (by decide) (fun c27 => ?_) (fun c27 => ?_)
  · skip
    replace hw := hw.2 c27
    refine lv_iload_n hx hb e_M_merge_7 rfl (lv_at hl 1 rfl) ?_
    refine lv_iconst (v := 5) hx hb e_M_merge_8 (by decide) ?_
    refine lv_icmp_ne (tgt := 21) hx hb e_M_merge_9 (by decide) (fun c28 => ?_) (fun c28 => ?_)
    · skip
      replace hw := hw.2 c28
      exact K_21 () x1 x2 σ _ _ _ hw h (lv_sub hl [0, 1, 2] rfl)
    · skip
      replace hw := hw.1 c28
      refine lv_iload_n hx hb e_M_merge_12 rfl (lv_at hl 2 rfl) ?_
      refine M_scalli (As := [.int x2]) (rest := []) C h hA (K_M_isThing l dC dI mo rf ca s.heap.size σ x2 hw) (va_cwS 1 hts (gS hsub v_19 v_20 v_7 v_21) rfl rfl rfl (by decide +kernel) ⟨(Nat.le_of_ble_eq_true rfl), (Nat.le_of_ble_eq_true rfl)⟩) rfl hl.1 (Nat.le_of_ble_eq_true rfl) e_M_merge_13 ⟨(Nat.le_of_ble_eq_true rfl), (Nat.le_of_ble_eq_true rfl)⟩ (fun r30 σ29 H locs hw h => ?_)
      refine W.eq (g2 := F0 m 16 ls [.int r30]) rfl ?_
      refine lv_if_eq (tgt := 21) hx hb e_M_merge_16 (by decide) (fun c31 => ?_) (fun c31 => ?_)
      · skip
        replace hw := hw.1 c31
        exact K_21 () x1 x2 σ29 _ _ _ hw h (lv_sub hl [0, 1, 2] rfl)
      · skip
        replace hw := hw.2 c31
        refine lv_iload_n hx hb e_M_merge_19 rfl (lv_at hl 2 rfl) ?_
        exact hend x2 σ29 _ _ _ _ hw h e_M_merge_20
  · skip
    replace hw := hw.1 c27
    refine lv_iload_n hx hb e_M_merge_5 rfl (lv_at hl 1 rfl) ?_
    exact hend x1 σ _ _ _ _ hw h e_M_merge_6
abbrev z_M_cls : MethodName := ⟨"MapFramerModel", "cls", "(IZ)I"⟩
theorem v_26 : (Cond.methodLink "MapFramerModel" 196 ⟨"MapFramerModel", "fails", "(I)I"⟩ : Cond) ∈ bigW := inB_9 46 (by decide +kernel) rfl
theorem v_27 : (Cond.instanceMethod ⟨"MapFramerModel", "fails", "(I)I"⟩ : Cond) ∈ bigW := inB_9 48 (by decide +kernel) rfl
theorem v_28 : (Cond.selects "MapFramerModel" ⟨"MapFramerModel", "fails", "(I)I"⟩ ⟨"MapFramerModel", "fails", "(I)I"⟩ : Cond) ∈ bigW := inS (y := ⟨"MapFramerModel", "fails", "(I)I"⟩) (n := 71) (List.mem_of_getElem? (i := 79) (by decide +kernel))
theorem v_29 : (Cond.code ⟨"MapFramerModel", "fails", "(I)I"⟩ prog_14_method_3_code 2 (some .int) : Cond) ∈ bigW := inB_9 49 rfl rfl
theorem v_30 : (Cond.methodLink "MapFramerModel" 193 ⟨"MapFramerModel", "isClass", "(I)Z"⟩ : Cond) ∈ bigW := inB_9 42 (by decide +kernel) rfl
theorem v_31 : (Cond.instanceMethod ⟨"MapFramerModel", "isClass", "(I)Z"⟩ : Cond) ∈ bigW := inB_9 44 (by decide +kernel) rfl
theorem v_32 : (Cond.selects "MapFramerModel" ⟨"MapFramerModel", "isClass", "(I)Z"⟩ ⟨"MapFramerModel", "isClass", "(I)Z"⟩ : Cond) ∈ bigW := inS (y := ⟨"MapFramerModel", "isClass", "(I)Z"⟩) (n := 71) (List.mem_of_getElem? (i := 78) (by decide +kernel))
theorem v_33 : (Cond.code ⟨"MapFramerModel", "isClass", "(I)Z"⟩ prog_14_method_4_code 2 (some .boolean) : Cond) ∈ bigW := inB_9 45 rfl rfl
theorem e_M_cls_0 : decode prog_14_method_14_code 0 = .ok (.iload_n 2, 1) := by decide +kernel
theorem e_M_cls_1 : decode prog_14_method_14_code 1 = .ok (.ifCond .ne 38, 3) := by decide +kernel
theorem e_M_cls_4 : decode prog_14_method_14_code 4 = .ok (.aload_n 0, 1) := by decide +kernel
theorem e_M_cls_5 : decode prog_14_method_14_code 5 = .ok (.iload_n 1, 1) := by decide +kernel
theorem e_M_cls_6 : decode prog_14_method_14_code 6 = .ok (.invokevirtual 193, 3) := by decide +kernel
theorem e_M_cls_9 : decode prog_14_method_14_code 9 = .ok (.ifCond .eq 24, 3) := by decide +kernel
theorem e_M_cls_12 : decode prog_14_method_14_code 12 = .ok (.aload_n 0, 1) := by decide +kernel
theorem e_M_cls_13 : decode prog_14_method_14_code 13 = .ok (.getfield 17, 3) := by decide +kernel
theorem e_M_cls_16 : decode prog_14_method_14_code 16 = .ok (.aload_n 0, 1) := by decide +kernel
theorem e_M_cls_17 : decode prog_14_method_14_code 17 = .ok (.iload_n 1, 1) := by decide +kernel
theorem e_M_cls_18 : decode prog_14_method_14_code 18 = .ok (.invokevirtual 193, 3) := by decide +kernel
theorem e_M_cls_21 : decode prog_14_method_14_code 21 = .ok (.ifCond .eq 7, 3) := by decide +kernel
theorem e_M_cls_24 : decode prog_14_method_14_code 24 = .ok (.iload_n 1, 1) := by decide +kernel
theorem e_M_cls_25 : decode prog_14_method_14_code 25 = .ok (.goto 4, 3) := by decide +kernel
theorem e_M_cls_28 : decode prog_14_method_14_code 28 = .ok (.iconst 0, 1) := by decide +kernel
theorem e_M_cls_29 : decode prog_14_method_14_code 29 = .ok (.baload, 1) := by decide +kernel
theorem e_M_cls_30 : decode prog_14_method_14_code 30 = .ok (.ifCond .eq 9, 3) := by decide +kernel
theorem e_M_cls_33 : decode prog_14_method_14_code 33 = .ok (.aload_n 0, 1) := by decide +kernel
theorem e_M_cls_34 : decode prog_14_method_14_code 34 = .ok (.iconst 1, 1) := by decide +kernel
theorem e_M_cls_35 : decode prog_14_method_14_code 35 = .ok (.invokevirtual 196, 3) := by decide +kernel
theorem e_M_cls_38 : decode prog_14_method_14_code 38 = .ok (.ireturn, 1) := by decide +kernel
theorem e_M_cls_39 : decode prog_14_method_14_code 39 = .ok (.aload_n 0, 1) := by decide +kernel
theorem e_M_cls_40 : decode prog_14_method_14_code 40 = .ok (.getfield 7, 3) := by decide +kernel
theorem e_M_cls_43 : decode prog_14_method_14_code 43 = .ok (.bipush 16, 2) := by decide +kernel
theorem e_M_cls_45 : decode prog_14_method_14_code 45 = .ok (.if_icmp .ne 9, 3) := by decide +kernel
theorem e_M_cls_48 : decode prog_14_method_14_code 48 = .ok (.aload_n 0, 1) := by decide +kernel
theorem e_M_cls_49 : decode prog_14_method_14_code 49 = .ok (.iconst 2, 1) := by decide +kernel
theorem e_M_cls_50 : decode prog_14_method_14_code 50 = .ok (.invokevirtual 196, 3) := by decide +kernel
theorem e_M_cls_53 : decode prog_14_method_14_code 53 = .ok (.ireturn, 1) := by decide +kernel
theorem e_M_cls_54 : decode prog_14_method_14_code 54 = .ok (.aload_n 0, 1) := by decide +kernel
theorem e_M_cls_55 : decode prog_14_method_14_code 55 = .ok (.iconst 0, 1) := by decide +kernel
theorem e_M_cls_56 : decode prog_14_method_14_code 56 = .ok (.putfield 169, 3) := by decide +kernel
theorem e_M_cls_59 : decode prog_14_method_14_code 59 = .ok (.aload_n 0, 1) := by decide +kernel
theorem e_M_cls_60 : decode prog_14_method_14_code 60 = .ok (.getfield 13, 3) := by decide +kernel
theorem e_M_cls_63 : decode prog_14_method_14_code 63 = .ok (.aload_n 0, 1) := by decide +kernel
theorem e_M_cls_64 : decode prog_14_method_14_code 64 = .ok (.getfield 7, 3) := by decide +kernel
theorem e_M_cls_67 : decode prog_14_method_14_code 67 = .ok (.iload_n 2, 1) := by decide +kernel
theorem e_M_cls_68 : decode prog_14_method_14_code 68 = .ok (.ifCond .eq 7, 3) := by decide +kernel
theorem e_M_cls_71 : decode prog_14_method_14_code 71 = .ok (.iconst 0, 1) := by decide +kernel
theorem e_M_cls_72 : decode prog_14_method_14_code 72 = .ok (.goto 4, 3) := by decide +kernel
theorem e_M_cls_75 : decode prog_14_method_14_code 75 = .ok (.iload_n 1, 1) := by decide +kernel
theorem e_M_cls_76 : decode prog_14_method_14_code 76 = .ok (.iastore, 1) := by decide +kernel
theorem e_M_cls_77 : decode prog_14_method_14_code 77 = .ok (.aload_n 0, 1) := by decide +kernel
theorem e_M_cls_78 : decode prog_14_method_14_code 78 = .ok (.getfield 17, 3) := by decide +kernel
theorem e_M_cls_81 : decode prog_14_method_14_code 81 = .ok (.aload_n 0, 1) := by decide +kernel
theorem e_M_cls_82 : decode prog_14_method_14_code 82 = .ok (.getfield 7, 3) := by decide +kernel
theorem e_M_cls_85 : decode prog_14_method_14_code 85 = .ok (.iload_n 2, 1) := by decide +kernel
theorem e_M_cls_86 : decode prog_14_method_14_code 86 = .ok (.bastore, 1) := by decide +kernel
theorem e_M_cls_87 : decode prog_14_method_14_code 87 = .ok (.aload_n 0, 1) := by decide +kernel
theorem e_M_cls_88 : decode prog_14_method_14_code 88 = .ok (.dup, 1) := by decide +kernel
theorem e_M_cls_89 : decode prog_14_method_14_code 89 = .ok (.getfield 7, 3) := by decide +kernel
theorem e_M_cls_92 : decode prog_14_method_14_code 92 = .ok (.iconst 1, 1) := by decide +kernel
theorem e_M_cls_93 : decode prog_14_method_14_code 93 = .ok (.iadd, 1) := by decide +kernel
theorem e_M_cls_94 : decode prog_14_method_14_code 94 = .ok (.putfield 7, 3) := by decide +kernel
theorem e_M_cls_97 : decode prog_14_method_14_code 97 = .ok (.aload_n 0, 1) := by decide +kernel
theorem e_M_cls_98 : decode prog_14_method_14_code 98 = .ok (.getfield 7, 3) := by decide +kernel
theorem e_M_cls_101 : decode prog_14_method_14_code 101 = .ok (.iconst 1, 1) := by decide +kernel
theorem e_M_cls_102 : decode prog_14_method_14_code 102 = .ok (.isub, 1) := by decide +kernel
theorem e_M_cls_103 : decode prog_14_method_14_code 103 = .ok (.ireturn, 1) := by decide +kernel
def w_M_cls_76 (P : Int32 → MST → Prop) (z2 : Int32) (s0 : Int32) (s1 : Int32) (σ : MST) : Prop := vp_in s1 16 ∧ (∀ σ1 : MST, σ1 = setA σ 2 (upd (σ.2.1 2) (s1 : Int32).toNatClampNeg s0) → vp_in (σ1.1 1) 16 ∧ (∀ σ2 : MST, σ2 = setA σ1 3 (upd (σ1.2.1 3) ((σ1.1 1) : Int32).toNatClampNeg (vp_nar .boolean z2)) → ∀ σ3 : MST, σ3 = setI σ2 1 ((σ2.1 1) + 1) → P ((σ3.1 1) - 1) σ3))
def w_M_cls_39 (P : Int32 → MST → Prop) (z1 : Int32) (z2 : Int32) (σ : MST) : Prop := (((σ.1 1) = 16 → w_M_fails (2 : Int32) σ (fun r8 σ7 => P r8 σ7)) ∧ (¬ (σ.1 1) = 16 → ∀ σ5 : MST, σ5 = setI σ 0 0 → ((z2 = 0 → w_M_cls_76 P z2 z1 (σ5.1 1) σ5) ∧ (¬ z2 = 0 → w_M_cls_76 P z2 0 (σ5.1 1) σ5))))
def w_M_cls_33 (P : Int32 → MST → Prop) (σ : MST) : Prop := w_M_fails (1 : Int32) σ (fun r10 σ9 => P r10 σ9)
def w_M_cls_29 (P : Int32 → MST → Prop) (z1 : Int32) (z2 : Int32) (s0 : Int32) (σ : MST) : Prop := vp_in s0 16 ∧ (∀ a11 : Int32, a11 = (σ.2.1 3 (s0 : Int32).toNatClampNeg) → ((a11 = 0 → w_M_cls_39 P z1 z2 σ) ∧ (¬ a11 = 0 → w_M_cls_33 P σ)))
def w_M_cls (x1 : Int32) (x2 : Int32) (σ : MST) (P : Int32 → MST → Prop) : Prop := ((x2 = 0 → w_M_isClass x1 σ (fun r15 σ14 => ((r15 = 0 → w_M_cls_33 P σ14) ∧ (¬ r15 = 0 → w_M_isClass x1 σ14 (fun r18 σ17 => ((r18 = 0 → w_M_cls_29 P x1 x2 0 σ17) ∧ (¬ r18 = 0 → w_M_cls_29 P x1 x2 x1 σ17))))))) ∧ (¬ x2 = 0 → w_M_cls_39 P x1 x2 σ))
set_option maxHeartbeats 4000000 in
set_option maxRecDepth 100000 in
theorem K_M_cls (l : Launch) (dC : Nat → ClassId) (dI : Nat → Nat → Nat) (mo : Nat) (rf : Nat → Nat) (ca : Nat → ClassId) (sz : Nat) (σ : MST) (x1 : Int32) (x2 : Int32) {P : Int32 → MST → Prop} (hw : w_M_cls x1 x2 σ P) : Met l z_M_cls (mW z_M_cls prog_14_method_14_code 3 (some .int)) ({ frames := 1, cells := 0, slots := 0, locals := 21 } : Room) (va_Pc [.ref mo, .int x1, .int x2] (MPre (dC, dI) mo rf ca σ sz)) (va_Qi P (MB (dC, dI) mo rf ca sz) (mA mo rf sz)) 0 0 (mA mo rf sz) := by
  refine M_ofi (by decide) rfl (Nat.le_of_ble_eq_true rfl) ?_
  intro p e s m below meth cx Q A ls C hA hend h hl
  have C0 := C
  obtain ⟨⟨hx, hb, hml, hown, hts⟩, hsub⟩ := C0
  have K_76 : ∀ (u9 : Unit), ∀ (z2 : Int32) (s0 : Int32) (s1 : Int32) (σ : MST) (H : Heap) (locs : List Loc) (ls : Array Slot), w_M_cls_76 P z2 s0 s1 σ → MH (dC, dI) A mo rf ca σ s H locs → lv_has ls 3 [(0, .ref mo), (2, .int z2)] → W p l e ({ frames := 1, cells := 0, slots := 0, locals := 21 } : Room) s m ([.ref mo, .int x1, .int x2] : List Value).toArray below meth cx H locs 0 0 Q (F0 m 76 ls [.int s0, .int s1, .ref (rf 2)]) := by
    intro u9 z2 s0 s1 σ H locs ls hw h hl
    unfold w_M_cls_76 at hw
    refine M_ast C h 2 (by decide) rfl hw.1 e_M_cls_76 (fun H locs h => ?_)
    replace hw := hw.2
    obtain ⟨σ1, e_σ1⟩ : ∃ z : MST, z = setA σ 2 (upd (σ.2.1 2) (s1 : Int32).toNatClampNeg s0) := ⟨_, rfl⟩
    rw [← e_σ1] at h
    replace hw := hw σ1 e_σ1
    refine lv_aload_n hx hb e_M_cls_77 rfl (lv_at hl 0 rfl) ?_
    refine M_get C h 3 (v := .ref (rf 3)) rfl (by decide) v_3 e_M_cls_78 ?_
    refine lv_aload_n hx hb e_M_cls_81 rfl (lv_at hl 0 rfl) ?_
    refine M_get C h 1 (v := .int (σ1.1 1)) rfl (by decide) v_1 e_M_cls_82 ?_
    refine lv_iload_n hx hb e_M_cls_85 rfl (lv_at hl 1 rfl) ?_
    refine M_zast C h 3 (by decide) rfl hw.1 e_M_cls_86 (fun H locs h => ?_)
    replace hw := hw.2
    obtain ⟨σ2, e_σ2⟩ : ∃ z : MST, z = setA σ1 3 (upd (σ1.2.1 3) ((σ1.1 1) : Int32).toNatClampNeg (vp_nar .boolean z2)) := ⟨_, rfl⟩
    rw [← e_σ2] at h
    replace hw := hw σ2 e_σ2
    refine lv_aload_n hx hb e_M_cls_87 rfl (lv_at hl 0 rfl) ?_
    refine lv_dup hx hb e_M_cls_88 rfl ?_
    refine M_get C h 1 (v := .int (σ2.1 1)) rfl (by decide) v_1 e_M_cls_89 ?_
    refine lv_iconst (v := 1) hx hb e_M_cls_92 (by decide) ?_
    refine lv_iadd hx hb e_M_cls_93 ?_
    refine M_puti C h 1 (by decide) rfl rfl (by decide +kernel) v_1 e_M_cls_94 (fun H locs h => ?_)
    obtain ⟨σ3, e_σ3⟩ : ∃ z : MST, z = setI σ2 1 ((σ2.1 1) + 1) := ⟨_, rfl⟩
    rw [← e_σ3] at h
    replace hw := hw σ3 e_σ3
    refine lv_aload_n hx hb e_M_cls_97 rfl (lv_at hl 0 rfl) ?_
    refine M_get C h 1 (v := .int (σ3.1 1)) rfl (by decide) v_1 e_M_cls_98 ?_
    refine lv_iconst (v := 1) hx hb e_M_cls_101 (by decide) ?_
    refine lv_isub hx hb e_M_cls_102 ?_
    exact hend ((σ3.1 1) - 1) σ3 _ _ _ _ hw h e_M_cls_103
  have K_39 : ∀ (u9 : Unit), ∀ (z1 : Int32) (z2 : Int32) (σ : MST) (H : Heap) (locs : List Loc) (ls : Array Slot), w_M_cls_39 P z1 z2 σ → MH (dC, dI) A mo rf ca σ s H locs → lv_has ls 3 [(0, .ref mo), (1, .int z1), (2, .int z2)] → W p l e ({ frames := 1, cells := 0, slots := 0, locals := 21 } : Room) s m ([.ref mo, .int x1, .int x2] : List Value).toArray below meth cx H locs 0 0 Q (F0 m 39 ls []) := by
    intro u9 z1 z2 σ H locs ls hw h hl
    unfold w_M_cls_39 at hw
    refine lv_aload_n hx hb e_M_cls_39 rfl (lv_at hl 0 rfl) ?_
    refine M_get C h 1 (v := .int (σ.1 1)) rfl (by decide) v_1 e_M_cls_40 ?_
    refine lv_bipush (v := 16) hx hb e_M_cls_43 (by decide) ?_
    refine lv_icmp_ne (tgt := 54) hx hb e_M_cls_45 (by decide) (fun c4 => ?_) (fun c4 => ?_)
    · skip
      replace hw := hw.2 c4
      refine lv_aload_n hx hb e_M_cls_54 rfl (lv_at hl 0 rfl) ?_
      refine lv_iconst (v := 0) hx hb e_M_cls_55 (by decide) ?_
      refine M_puti C h 0 (by decide) rfl rfl (by decide +kernel) v_0 e_M_cls_56 (fun H locs h => ?_)
      obtain ⟨σ5, e_σ5⟩ : ∃ z : MST, z = setI σ 0 0 := ⟨_, rfl⟩
      rw [← e_σ5] at h
      replace hw := hw σ5 e_σ5
      refine lv_aload_n hx hb e_M_cls_59 rfl (lv_at hl 0 rfl) ?_
      refine M_get C h 2 (v := .ref (rf 2)) rfl (by decide) v_2 e_M_cls_60 ?_
      refine lv_aload_n hx hb e_M_cls_63 rfl (lv_at hl 0 rfl) ?_
      refine M_get C h 1 (v := .int (σ5.1 1)) rfl (by decide) v_1 e_M_cls_64 ?_
      refine lv_iload_n hx hb e_M_cls_67 rfl (lv_at hl 2 rfl) ?_
      refine lv_if_eq (tgt := 75) hx hb e_M_cls_68 (by decide) (fun c6 => ?_) (fun c6 => ?_)
      · skip
        replace hw := hw.1 c6
        refine lv_iload_n hx hb e_M_cls_75 rfl (lv_at hl 1 rfl) ?_
        exact K_76 () z2 z1 (σ5.1 1) σ5 _ _ _ hw h (lv_sub hl [0, 2] rfl)
      · skip
        replace hw := hw.2 c6
        refine lv_iconst (v := 0) hx hb e_M_cls_71 (by decide) ?_
        refine lv_goto (tgt := 76) hx hb e_M_cls_72 (by decide) ?_
        exact K_76 () z2 0 (σ5.1 1) σ5 _ _ _ hw h (lv_sub hl [0, 2] rfl)
    · skip
      replace hw := hw.1 c4
      refine lv_aload_n hx hb e_M_cls_48 rfl (lv_at hl 0 rfl) ?_
      refine lv_iconst (v := 2) hx hb e_M_cls_49 (by decide) ?_
      refine M_calli (As := [.int 2]) (rest := []) C h hA (K_M_fails l dC dI mo rf ca H.size σ (2 : Int32) hw) (cwV 1 hts (gV hsub v_26 v_27 v_28 v_7 v_29) rfl rfl rfl (by decide +kernel) ⟨(Nat.le_of_ble_eq_true rfl), (Nat.le_of_ble_eq_true rfl)⟩) rfl hl.1 (Nat.le_of_ble_eq_true rfl) e_M_cls_50 ⟨(Nat.le_of_ble_eq_true rfl), (Nat.le_of_ble_eq_true rfl)⟩ (fun r8 σ7 H locs hw h => ?_)
      refine W.eq (g2 := F0 m 53 ls [.int r8]) rfl ?_
      exact hend r8 σ7 _ _ _ _ hw h e_M_cls_53
  have K_33 : ∀ (u9 : Unit), ∀ (σ : MST) (H : Heap) (locs : List Loc) (ls : Array Slot), w_M_cls_33 P σ → MH (dC, dI) A mo rf ca σ s H locs → lv_has ls 3 [(0, .ref mo)] → W p l e ({ frames := 1, cells := 0, slots := 0, locals := 21 } : Room) s m ([.ref mo, .int x1, .int x2] : List Value).toArray below meth cx H locs 0 0 Q (F0 m 33 ls []) := by
    intro u9  σ H locs ls hw h hl
    unfold w_M_cls_33 at hw
    refine lv_aload_n hx hb e_M_cls_33 rfl (lv_at hl 0 rfl) ?_
    refine lv_iconst (v := 1) hx hb e_M_cls_34 (by decide) ?_
    refine M_calli (As := [.int 1]) (rest := []) C h hA (K_M_fails l dC dI mo rf ca H.size σ (1 : Int32) hw) (cwV 1 hts (gV hsub v_26 v_27 v_28 v_7 v_29) rfl rfl rfl (by decide +kernel) ⟨(Nat.le_of_ble_eq_true rfl), (Nat.le_of_ble_eq_true rfl)⟩) rfl hl.1 (Nat.le_of_ble_eq_true rfl) e_M_cls_35 ⟨(Nat.le_of_ble_eq_true rfl), (Nat.le_of_ble_eq_true rfl)⟩ (fun r10 σ9 H locs hw h => ?_)
    refine W.eq (g2 := F0 m 38 ls [.int r10]) rfl ?_
    exact hend r10 σ9 _ _ _ _ hw h e_M_cls_38
  have K_29 : ∀ (u9 : Unit), ∀ (z1 : Int32) (z2 : Int32) (s0 : Int32) (σ : MST) (H : Heap) (locs : List Loc) (ls : Array Slot), w_M_cls_29 P z1 z2 s0 σ → MH (dC, dI) A mo rf ca σ s H locs → lv_has ls 3 [(0, .ref mo), (1, .int z1), (2, .int z2)] → W p l e ({ frames := 1, cells := 0, slots := 0, locals := 21 } : Room) s m ([.ref mo, .int x1, .int x2] : List Value).toArray below meth cx H locs 0 0 Q (F0 m 29 ls [.int s0, .ref (rf 3)]) := by
    intro u9 z1 z2 s0 σ H locs ls hw h hl
    unfold w_M_cls_29 at hw
    refine M_zald C h 3 (by decide) rfl hw.1 e_M_cls_29 ?_
    replace hw := hw.2
    refine lv_topi (fun a11 e_a11 => ?_)
    replace hw := hw a11 e_a11
    refine lv_if_eq (tgt := 39) hx hb e_M_cls_30 (by decide) (fun c12 => ?_) (fun c12 => ?_)
    · skip
      replace hw := hw.1 c12
      exact K_39 () z1 z2 σ _ _ _ hw h (lv_sub hl [0, 1, 2] rfl)
    · skip
      replace hw := hw.2 c12
      exact K_33 () σ _ _ _ hw h (lv_sub hl [0] rfl)
  have hl : lv_has ls 3 [(0, .ref mo), (1, .int x1), (2, .int x2)] := hl
  unfold w_M_cls at hw
  refine lv_iload_n hx hb e_M_cls_0 rfl (lv_at hl 2 rfl) ?_
  refine lv_if_ne (tgt := 39) hx hb e_M_cls_1 (by decide) (fun c13 => ?_) (fun c13 => ?_)
  · skip
    replace hw := hw.2 c13
    exact K_39 () x1 x2 σ _ _ _ hw h (lv_sub hl [0, 1, 2] rfl)
  · skip
    replace hw := hw.1 c13
    refine lv_aload_n hx hb e_M_cls_4 rfl (lv_at hl 0 rfl) ?_
    refine lv_iload_n hx hb e_M_cls_5 rfl (lv_at hl 1 rfl) ?_
    refine M_calli (As := [.int x1]) (rest := []) C h hA (K_M_isClass l dC dI mo rf ca s.heap.size σ x1 hw) (cwV 1 hts (gV hsub v_30 v_31 v_32 v_7 v_33) rfl rfl rfl (by decide +kernel) ⟨(Nat.le_of_ble_eq_true rfl), (Nat.le_of_ble_eq_true rfl)⟩) rfl hl.1 (Nat.le_of_ble_eq_true rfl) e_M_cls_6 ⟨(Nat.le_of_ble_eq_true rfl), (Nat.le_of_ble_eq_true rfl)⟩ (fun r15 σ14 H locs hw h => ?_)
    refine W.eq (g2 := F0 m 9 ls [.int r15]) rfl ?_
    refine lv_if_eq (tgt := 33) hx hb e_M_cls_9 (by decide) (fun c16 => ?_) (fun c16 => ?_)
    · skip
      replace hw := hw.1 c16
      exact K_33 () σ14 _ _ _ hw h (lv_sub hl [0] rfl)
    · skip
      replace hw := hw.2 c16
      refine lv_aload_n hx hb e_M_cls_12 rfl (lv_at hl 0 rfl) ?_
      refine M_get C h 3 (v := .ref (rf 3)) rfl (by decide) v_3 e_M_cls_13 ?_
      refine lv_aload_n hx hb e_M_cls_16 rfl (lv_at hl 0 rfl) ?_
      refine lv_iload_n hx hb e_M_cls_17 rfl (lv_at hl 1 rfl) ?_
      refine M_calli (As := [.int x1]) (rest := [.ref (rf 3)]) C h hA (K_M_isClass l dC dI mo rf ca H.size σ14 x1 hw) (cwV 1 hts (gV hsub v_30 v_31 v_32 v_7 v_33) rfl rfl rfl (by decide +kernel) ⟨(Nat.le_of_ble_eq_true rfl), (Nat.le_of_ble_eq_true rfl)⟩) rfl hl.1 (Nat.le_of_ble_eq_true rfl) e_M_cls_18 ⟨(Nat.le_of_ble_eq_true rfl), (Nat.le_of_ble_eq_true rfl)⟩ (fun r18 σ17 H locs hw h => ?_)
      refine W.eq (g2 := F0 m 21 ls [.int r18, .ref (rf 3)]) rfl ?_
      refine lv_if_eq (tgt := 28) hx hb e_M_cls_21 (by decide) (fun c19 => ?_) (fun c19 => ?_)
      · skip
        replace hw := hw.1 c19
        refine lv_iconst (v := 0) hx hb e_M_cls_28 (by decide) ?_
        exact K_29 () x1 x2 0 σ17 _ _ _ hw h (lv_sub hl [0, 1, 2] rfl)
      · skip
        replace hw := hw.2 c19
        refine lv_iload_n hx hb e_M_cls_24 rfl (lv_at hl 1 rfl) ?_
        refine lv_goto (tgt := 29) hx hb e_M_cls_25 (by decide) ?_
        exact K_29 () x1 x2 x1 σ17 _ _ _ hw h (lv_sub hl [0, 1, 2] rfl)
abbrev z_M_field : MethodName := ⟨"MapFramerModel", "field", "(IIZ)I"⟩
theorem v_34 : (Cond.fieldLink "MapFramerModel" 203 "MapFramerModel" "fields" "I" : Cond) ∈ bigW := inB_8 65 (by decide +kernel) rfl
theorem v_35 : (Cond.fieldLink "MapFramerModel" 21 "MapFramerModel" "fieldClass" "[I" : Cond) ∈ bigW := inB_8 66 (by decide +kernel) rfl
theorem v_36 : (Cond.fieldLink "MapFramerModel" 24 "MapFramerModel" "fieldType" "[I" : Cond) ∈ bigW := inB_8 67 (by decide +kernel) rfl
theorem v_37 : (Cond.fieldLink "MapFramerModel" 27 "MapFramerModel" "fieldStatic" "[Z" : Cond) ∈ bigW := inB_8 68 (by decide +kernel) rfl
theorem v_38 : (Cond.methodLink "MapFramerModel" 200 ⟨"MapFramerModel", "isType", "(I)Z"⟩ : Cond) ∈ bigW := inB_9 54 (by decide +kernel) rfl
theorem v_39 : (Cond.instanceMethod ⟨"MapFramerModel", "isType", "(I)Z"⟩ : Cond) ∈ bigW := inB_9 56 (by decide +kernel) rfl
theorem v_40 : (Cond.selects "MapFramerModel" ⟨"MapFramerModel", "isType", "(I)Z"⟩ ⟨"MapFramerModel", "isType", "(I)Z"⟩ : Cond) ∈ bigW := inS (y := ⟨"MapFramerModel", "isType", "(I)Z"⟩) (n := 71) (List.mem_of_getElem? (i := 80) (by decide +kernel))
theorem v_41 : (Cond.code ⟨"MapFramerModel", "isType", "(I)Z"⟩ prog_14_method_6_code 2 (some .boolean) : Cond) ∈ bigW := inB_9 57 rfl rfl
theorem e_M_field_0 : decode prog_14_method_15_code 0 = .ok (.aload_n 0, 1) := by decide +kernel
theorem e_M_field_1 : decode prog_14_method_15_code 1 = .ok (.iload_n 1, 1) := by decide +kernel
theorem e_M_field_2 : decode prog_14_method_15_code 2 = .ok (.invokevirtual 193, 3) := by decide +kernel
theorem e_M_field_5 : decode prog_14_method_15_code 5 = .ok (.ifCond .eq 28, 3) := by decide +kernel
theorem e_M_field_8 : decode prog_14_method_15_code 8 = .ok (.aload_n 0, 1) := by decide +kernel
theorem e_M_field_9 : decode prog_14_method_15_code 9 = .ok (.iload_n 2, 1) := by decide +kernel
theorem e_M_field_10 : decode prog_14_method_15_code 10 = .ok (.invokevirtual 200, 3) := by decide +kernel
theorem e_M_field_13 : decode prog_14_method_15_code 13 = .ok (.ifCond .eq 20, 3) := by decide +kernel
theorem e_M_field_16 : decode prog_14_method_15_code 16 = .ok (.iload_n 3, 1) := by decide +kernel
theorem e_M_field_17 : decode prog_14_method_15_code 17 = .ok (.ifCond .ne 22, 3) := by decide +kernel
theorem e_M_field_20 : decode prog_14_method_15_code 20 = .ok (.iload_n 1, 1) := by decide +kernel
theorem e_M_field_21 : decode prog_14_method_15_code 21 = .ok (.ifCond .eq 12, 3) := by decide +kernel
theorem e_M_field_24 : decode prog_14_method_15_code 24 = .ok (.aload_n 0, 1) := by decide +kernel
theorem e_M_field_25 : decode prog_14_method_15_code 25 = .ok (.getfield 17, 3) := by decide +kernel
theorem e_M_field_28 : decode prog_14_method_15_code 28 = .ok (.iload_n 1, 1) := by decide +kernel
theorem e_M_field_29 : decode prog_14_method_15_code 29 = .ok (.baload, 1) := by decide +kernel
theorem e_M_field_30 : decode prog_14_method_15_code 30 = .ok (.ifCond .eq 9, 3) := by decide +kernel
theorem e_M_field_33 : decode prog_14_method_15_code 33 = .ok (.aload_n 0, 1) := by decide +kernel
theorem e_M_field_34 : decode prog_14_method_15_code 34 = .ok (.iconst 1, 1) := by decide +kernel
theorem e_M_field_35 : decode prog_14_method_15_code 35 = .ok (.invokevirtual 196, 3) := by decide +kernel
theorem e_M_field_38 : decode prog_14_method_15_code 38 = .ok (.ireturn, 1) := by decide +kernel
theorem e_M_field_39 : decode prog_14_method_15_code 39 = .ok (.aload_n 0, 1) := by decide +kernel
theorem e_M_field_40 : decode prog_14_method_15_code 40 = .ok (.getfield 203, 3) := by decide +kernel
theorem e_M_field_43 : decode prog_14_method_15_code 43 = .ok (.bipush 16, 2) := by decide +kernel
theorem e_M_field_45 : decode prog_14_method_15_code 45 = .ok (.if_icmp .ne 9, 3) := by decide +kernel
theorem e_M_field_48 : decode prog_14_method_15_code 48 = .ok (.aload_n 0, 1) := by decide +kernel
theorem e_M_field_49 : decode prog_14_method_15_code 49 = .ok (.iconst 2, 1) := by decide +kernel
theorem e_M_field_50 : decode prog_14_method_15_code 50 = .ok (.invokevirtual 196, 3) := by decide +kernel
theorem e_M_field_53 : decode prog_14_method_15_code 53 = .ok (.ireturn, 1) := by decide +kernel
theorem e_M_field_54 : decode prog_14_method_15_code 54 = .ok (.aload_n 0, 1) := by decide +kernel
theorem e_M_field_55 : decode prog_14_method_15_code 55 = .ok (.iconst 0, 1) := by decide +kernel
theorem e_M_field_56 : decode prog_14_method_15_code 56 = .ok (.putfield 169, 3) := by decide +kernel
theorem e_M_field_59 : decode prog_14_method_15_code 59 = .ok (.aload_n 0, 1) := by decide +kernel
theorem e_M_field_60 : decode prog_14_method_15_code 60 = .ok (.getfield 21, 3) := by decide +kernel
theorem e_M_field_63 : decode prog_14_method_15_code 63 = .ok (.aload_n 0, 1) := by decide +kernel
theorem e_M_field_64 : decode prog_14_method_15_code 64 = .ok (.getfield 203, 3) := by decide +kernel
theorem e_M_field_67 : decode prog_14_method_15_code 67 = .ok (.iload_n 1, 1) := by decide +kernel
theorem e_M_field_68 : decode prog_14_method_15_code 68 = .ok (.iastore, 1) := by decide +kernel
theorem e_M_field_69 : decode prog_14_method_15_code 69 = .ok (.aload_n 0, 1) := by decide +kernel
theorem e_M_field_70 : decode prog_14_method_15_code 70 = .ok (.getfield 24, 3) := by decide +kernel
theorem e_M_field_73 : decode prog_14_method_15_code 73 = .ok (.aload_n 0, 1) := by decide +kernel
theorem e_M_field_74 : decode prog_14_method_15_code 74 = .ok (.getfield 203, 3) := by decide +kernel
theorem e_M_field_77 : decode prog_14_method_15_code 77 = .ok (.iload_n 2, 1) := by decide +kernel
theorem e_M_field_78 : decode prog_14_method_15_code 78 = .ok (.iastore, 1) := by decide +kernel
theorem e_M_field_79 : decode prog_14_method_15_code 79 = .ok (.aload_n 0, 1) := by decide +kernel
theorem e_M_field_80 : decode prog_14_method_15_code 80 = .ok (.getfield 27, 3) := by decide +kernel
theorem e_M_field_83 : decode prog_14_method_15_code 83 = .ok (.aload_n 0, 1) := by decide +kernel
theorem e_M_field_84 : decode prog_14_method_15_code 84 = .ok (.getfield 203, 3) := by decide +kernel
theorem e_M_field_87 : decode prog_14_method_15_code 87 = .ok (.iload_n 3, 1) := by decide +kernel
theorem e_M_field_88 : decode prog_14_method_15_code 88 = .ok (.bastore, 1) := by decide +kernel
theorem e_M_field_89 : decode prog_14_method_15_code 89 = .ok (.aload_n 0, 1) := by decide +kernel
theorem e_M_field_90 : decode prog_14_method_15_code 90 = .ok (.dup, 1) := by decide +kernel
theorem e_M_field_91 : decode prog_14_method_15_code 91 = .ok (.getfield 203, 3) := by decide +kernel
theorem e_M_field_94 : decode prog_14_method_15_code 94 = .ok (.iconst 1, 1) := by decide +kernel
theorem e_M_field_95 : decode prog_14_method_15_code 95 = .ok (.iadd, 1) := by decide +kernel
theorem e_M_field_96 : decode prog_14_method_15_code 96 = .ok (.putfield 203, 3) := by decide +kernel
theorem e_M_field_99 : decode prog_14_method_15_code 99 = .ok (.aload_n 0, 1) := by decide +kernel
theorem e_M_field_100 : decode prog_14_method_15_code 100 = .ok (.getfield 203, 3) := by decide +kernel
theorem e_M_field_103 : decode prog_14_method_15_code 103 = .ok (.iconst 1, 1) := by decide +kernel
theorem e_M_field_104 : decode prog_14_method_15_code 104 = .ok (.isub, 1) := by decide +kernel
theorem e_M_field_105 : decode prog_14_method_15_code 105 = .ok (.ireturn, 1) := by decide +kernel
def w_M_field_33 (P : Int32 → MST → Prop) (σ : MST) : Prop := w_M_fails (1 : Int32) σ (fun r2 σ1 => P r2 σ1)
def w_M_field_39 (P : Int32 → MST → Prop) (z1 : Int32) (z2 : Int32) (z3 : Int32) (σ : MST) : Prop := (((σ.1 4) = 16 → w_M_fails (2 : Int32) σ (fun r10 σ9 => P r10 σ9)) ∧ (¬ (σ.1 4) = 16 → ∀ σ4 : MST, σ4 = setI σ 0 0 → vp_in (σ4.1 4) 16 ∧ (∀ σ5 : MST, σ5 = setA σ4 5 (upd (σ4.2.1 5) ((σ4.1 4) : Int32).toNatClampNeg z1) → vp_in (σ5.1 4) 16 ∧ (∀ σ6 : MST, σ6 = setA σ5 6 (upd (σ5.2.1 6) ((σ5.1 4) : Int32).toNatClampNeg z2) → vp_in (σ6.1 4) 16 ∧ (∀ σ7 : MST, σ7 = setA σ6 7 (upd (σ6.2.1 7) ((σ6.1 4) : Int32).toNatClampNeg (vp_nar .boolean z3)) → ∀ σ8 : MST, σ8 = setI σ7 4 ((σ7.1 4) + 1) → P ((σ8.1 4) - 1) σ8)))))
def w_M_field (x1 : Int32) (x2 : Int32) (x3 : Int32) (σ : MST) (P : Int32 → MST → Prop) : Prop := w_M_isClass x1 σ (fun r12 σ11 => ((r12 = 0 → w_M_field_33 P σ11) ∧ (¬ r12 = 0 → w_M_isType x2 σ11 (fun r15 σ14 => ((r15 = 0 → w_M_field_33 P σ14) ∧ (¬ r15 = 0 → ((x3 = 0 → ((x1 = 0 → w_M_field_33 P σ14) ∧ (¬ x1 = 0 → vp_in x1 16 ∧ (∀ a19 : Int32, a19 = (σ14.2.1 3 (x1 : Int32).toNatClampNeg) → ((a19 = 0 → w_M_field_39 P x1 x2 x3 σ14) ∧ (¬ a19 = 0 → w_M_field_33 P σ14)))))) ∧ (¬ x3 = 0 → w_M_field_39 P x1 x2 x3 σ14))))))))
set_option maxHeartbeats 4000000 in
set_option maxRecDepth 100000 in
theorem K_M_field (l : Launch) (dC : Nat → ClassId) (dI : Nat → Nat → Nat) (mo : Nat) (rf : Nat → Nat) (ca : Nat → ClassId) (sz : Nat) (σ : MST) (x1 : Int32) (x2 : Int32) (x3 : Int32) {P : Int32 → MST → Prop} (hw : w_M_field x1 x2 x3 σ P) : Met l z_M_field (mW z_M_field prog_14_method_15_code 4 (some .int)) ({ frames := 1, cells := 0, slots := 0, locals := 21 } : Room) (va_Pc [.ref mo, .int x1, .int x2, .int x3] (MPre (dC, dI) mo rf ca σ sz)) (va_Qi P (MB (dC, dI) mo rf ca sz) (mA mo rf sz)) 0 0 (mA mo rf sz) := by
  refine M_ofi (by decide) rfl (Nat.le_of_ble_eq_true rfl) ?_
  intro p e s m below meth cx Q A ls C hA hend h hl
  have C0 := C
  obtain ⟨⟨hx, hb, hml, hown, hts⟩, hsub⟩ := C0
  have K_33 : ∀ (u9 : Unit), ∀ (σ : MST) (H : Heap) (locs : List Loc) (ls : Array Slot), w_M_field_33 P σ → MH (dC, dI) A mo rf ca σ s H locs → lv_has ls 4 [(0, .ref mo)] → W p l e ({ frames := 1, cells := 0, slots := 0, locals := 21 } : Room) s m ([.ref mo, .int x1, .int x2, .int x3] : List Value).toArray below meth cx H locs 0 0 Q (F0 m 33 ls []) := by
    intro u9  σ H locs ls hw h hl
    unfold w_M_field_33 at hw
    refine lv_aload_n hx hb e_M_field_33 rfl (lv_at hl 0 rfl) ?_
    refine lv_iconst (v := 1) hx hb e_M_field_34 (by decide) ?_
    refine M_calli (As := [.int 1]) (rest := []) C h hA (K_M_fails l dC dI mo rf ca H.size σ (1 : Int32) hw) (cwV 1 hts (gV hsub v_26 v_27 v_28 v_7 v_29) rfl rfl rfl (by decide +kernel) ⟨(Nat.le_of_ble_eq_true rfl), (Nat.le_of_ble_eq_true rfl)⟩) rfl hl.1 (Nat.le_of_ble_eq_true rfl) e_M_field_35 ⟨(Nat.le_of_ble_eq_true rfl), (Nat.le_of_ble_eq_true rfl)⟩ (fun r2 σ1 H locs hw h => ?_)
    refine W.eq (g2 := F0 m 38 ls [.int r2]) rfl ?_
    exact hend r2 σ1 _ _ _ _ hw h e_M_field_38
  have K_39 : ∀ (u9 : Unit), ∀ (z1 : Int32) (z2 : Int32) (z3 : Int32) (σ : MST) (H : Heap) (locs : List Loc) (ls : Array Slot), w_M_field_39 P z1 z2 z3 σ → MH (dC, dI) A mo rf ca σ s H locs → lv_has ls 4 [(0, .ref mo), (1, .int z1), (2, .int z2), (3, .int z3)] → W p l e ({ frames := 1, cells := 0, slots := 0, locals := 21 } : Room) s m ([.ref mo, .int x1, .int x2, .int x3] : List Value).toArray below meth cx H locs 0 0 Q (F0 m 39 ls []) := by
    intro u9 z1 z2 z3 σ H locs ls hw h hl
    unfold w_M_field_39 at hw
    refine lv_aload_n hx hb e_M_field_39 rfl (lv_at hl 0 rfl) ?_
    refine M_get C h 4 (v := .int (σ.1 4)) rfl (by decide) v_34 e_M_field_40 ?_
    refine lv_bipush (v := 16) hx hb e_M_field_43 (by decide) ?_
    refine lv_icmp_ne (tgt := 54) hx hb e_M_field_45 (by decide) (fun c3 => ?_) (fun c3 => ?_)
    · skip
      replace hw := hw.2 c3
      refine lv_aload_n hx hb e_M_field_54 rfl (lv_at hl 0 rfl) ?_
      refine lv_iconst (v := 0) hx hb e_M_field_55 (by decide) ?_
      refine M_puti C h 0 (by decide) rfl rfl (by decide +kernel) v_0 e_M_field_56 (fun H locs h => ?_)
      obtain ⟨σ4, e_σ4⟩ : ∃ z : MST, z = setI σ 0 0 := ⟨_, rfl⟩
      rw [← e_σ4] at h
      replace hw := hw σ4 e_σ4
      refine lv_aload_n hx hb e_M_field_59 rfl (lv_at hl 0 rfl) ?_
      refine M_get C h 5 (v := .ref (rf 5)) rfl (by decide) v_35 e_M_field_60 ?_
      refine lv_aload_n hx hb e_M_field_63 rfl (lv_at hl 0 rfl) ?_
      refine M_get C h 4 (v := .int (σ4.1 4)) rfl (by decide) v_34 e_M_field_64 ?_
      refine lv_iload_n hx hb e_M_field_67 rfl (lv_at hl 1 rfl) ?_
      refine M_ast C h 5 (by decide) rfl hw.1 e_M_field_68 (fun H locs h => ?_)
      replace hw := hw.2
      obtain ⟨σ5, e_σ5⟩ : ∃ z : MST, z = setA σ4 5 (upd (σ4.2.1 5) ((σ4.1 4) : Int32).toNatClampNeg z1) := ⟨_, rfl⟩
      rw [← e_σ5] at h
      replace hw := hw σ5 e_σ5
      refine lv_aload_n hx hb e_M_field_69 rfl (lv_at hl 0 rfl) ?_
      refine M_get C h 6 (v := .ref (rf 6)) rfl (by decide) v_36 e_M_field_70 ?_
      refine lv_aload_n hx hb e_M_field_73 rfl (lv_at hl 0 rfl) ?_
      refine M_get C h 4 (v := .int (σ5.1 4)) rfl (by decide) v_34 e_M_field_74 ?_
      refine lv_iload_n hx hb e_M_field_77 rfl (lv_at hl 2 rfl) ?_
      refine M_ast C h 6 (by decide) rfl hw.1 e_M_field_78 (fun H locs h => ?_)
      replace hw := hw.2
      obtain ⟨σ6, e_σ6⟩ : ∃ z : MST, z = setA σ5 6 (upd (σ5.2.1 6) ((σ5.1 4) : Int32).toNatClampNeg z2) := ⟨_, rfl⟩
      rw [← e_σ6] at h
      replace hw := hw σ6 e_σ6
      refine lv_aload_n hx hb e_M_field_79 rfl (lv_at hl 0 rfl) ?_
      refine M_get C h 7 (v := .ref (rf 7)) rfl (by decide) v_37 e_M_field_80 ?_
      refine lv_aload_n hx hb e_M_field_83 rfl (lv_at hl 0 rfl) ?_
      refine M_get C h 4 (v := .int (σ6.1 4)) rfl (by decide) v_34 e_M_field_84 ?_
      refine lv_iload_n hx hb e_M_field_87 rfl (lv_at hl 3 rfl) ?_
      refine M_zast C h 7 (by decide) rfl hw.1 e_M_field_88 (fun H locs h => ?_)
      replace hw := hw.2
      obtain ⟨σ7, e_σ7⟩ : ∃ z : MST, z = setA σ6 7 (upd (σ6.2.1 7) ((σ6.1 4) : Int32).toNatClampNeg (vp_nar .boolean z3)) := ⟨_, rfl⟩
      rw [← e_σ7] at h
      replace hw := hw σ7 e_σ7
      refine lv_aload_n hx hb e_M_field_89 rfl (lv_at hl 0 rfl) ?_
      refine lv_dup hx hb e_M_field_90 rfl ?_
      refine M_get C h 4 (v := .int (σ7.1 4)) rfl (by decide) v_34 e_M_field_91 ?_
      refine lv_iconst (v := 1) hx hb e_M_field_94 (by decide) ?_
      refine lv_iadd hx hb e_M_field_95 ?_
      refine M_puti C h 4 (by decide) rfl rfl (by decide +kernel) v_34 e_M_field_96 (fun H locs h => ?_)
      obtain ⟨σ8, e_σ8⟩ : ∃ z : MST, z = setI σ7 4 ((σ7.1 4) + 1) := ⟨_, rfl⟩
      rw [← e_σ8] at h
      replace hw := hw σ8 e_σ8
      refine lv_aload_n hx hb e_M_field_99 rfl (lv_at hl 0 rfl) ?_
      refine M_get C h 4 (v := .int (σ8.1 4)) rfl (by decide) v_34 e_M_field_100 ?_
      refine lv_iconst (v := 1) hx hb e_M_field_103 (by decide) ?_
      refine lv_isub hx hb e_M_field_104 ?_
      exact hend ((σ8.1 4) - 1) σ8 _ _ _ _ hw h e_M_field_105
    · skip
      replace hw := hw.1 c3
      refine lv_aload_n hx hb e_M_field_48 rfl (lv_at hl 0 rfl) ?_
      refine lv_iconst (v := 2) hx hb e_M_field_49 (by decide) ?_
      refine M_calli (As := [.int 2]) (rest := []) C h hA (K_M_fails l dC dI mo rf ca H.size σ (2 : Int32) hw) (cwV 1 hts (gV hsub v_26 v_27 v_28 v_7 v_29) rfl rfl rfl (by decide +kernel) ⟨(Nat.le_of_ble_eq_true rfl), (Nat.le_of_ble_eq_true rfl)⟩) rfl hl.1 (Nat.le_of_ble_eq_true rfl) e_M_field_50 ⟨(Nat.le_of_ble_eq_true rfl), (Nat.le_of_ble_eq_true rfl)⟩ (fun r10 σ9 H locs hw h => ?_)
      refine W.eq (g2 := F0 m 53 ls [.int r10]) rfl ?_
      exact hend r10 σ9 _ _ _ _ hw h e_M_field_53
  have hl : lv_has ls 4 [(0, .ref mo), (1, .int x1), (2, .int x2), (3, .int x3)] := hl
  unfold w_M_field at hw
  refine lv_aload_n hx hb e_M_field_0 rfl (lv_at hl 0 rfl) ?_
  refine lv_iload_n hx hb e_M_field_1 rfl (lv_at hl 1 rfl) ?_
  refine M_calli (As := [.int x1]) (rest := []) C h hA (K_M_isClass l dC dI mo rf ca s.heap.size σ x1 hw) (cwV 1 hts (gV hsub v_30 v_31 v_32 v_7 v_33) rfl rfl rfl (by decide +kernel) ⟨(Nat.le_of_ble_eq_true rfl), (Nat.le_of_ble_eq_true rfl)⟩) rfl hl.1 (Nat.le_of_ble_eq_true rfl) e_M_field_2 ⟨(Nat.le_of_ble_eq_true rfl), (Nat.le_of_ble_eq_true rfl)⟩ (fun r12 σ11 H locs hw h => ?_)
  refine W.eq (g2 := F0 m 5 ls [.int r12]) rfl ?_
  refine lv_if_eq (tgt := 33) hx hb e_M_field_5 (by decide) (fun c13 => ?_) (fun c13 => ?_)
  · skip
    replace hw := hw.1 c13
    exact K_33 () σ11 _ _ _ hw h (lv_sub hl [0] rfl)
  · skip
    replace hw := hw.2 c13
    refine lv_aload_n hx hb e_M_field_8 rfl (lv_at hl 0 rfl) ?_
    refine lv_iload_n hx hb e_M_field_9 rfl (lv_at hl 2 rfl) ?_
    refine M_calli (As := [.int x2]) (rest := []) C h hA (K_M_isType l dC dI mo rf ca H.size σ11 x2 hw) (cwV 1 hts (gV hsub v_38 v_39 v_40 v_7 v_41) rfl rfl rfl (by decide +kernel) ⟨(Nat.le_of_ble_eq_true rfl), (Nat.le_of_ble_eq_true rfl)⟩) rfl hl.1 (Nat.le_of_ble_eq_true rfl) e_M_field_10 ⟨(Nat.le_of_ble_eq_true rfl), (Nat.le_of_ble_eq_true rfl)⟩ (fun r15 σ14 H locs hw h => ?_)
    refine W.eq (g2 := F0 m 13 ls [.int r15]) rfl ?_
    refine lv_if_eq (tgt := 33) hx hb e_M_field_13 (by decide) (fun c16 => ?_) (fun c16 => ?_)
    · skip
      replace hw := hw.1 c16
      exact K_33 () σ14 _ _ _ hw h (lv_sub hl [0] rfl)
    · skip
      replace hw := hw.2 c16
      refine lv_iload_n hx hb e_M_field_16 rfl (lv_at hl 3 rfl) ?_
      refine lv_if_ne (tgt := 39) hx hb e_M_field_17 (by decide) (fun c17 => ?_) (fun c17 => ?_)
      · skip
        replace hw := hw.2 c17
        exact K_39 () x1 x2 x3 σ14 _ _ _ hw h (lv_sub hl [0, 1, 2, 3] rfl)
      · skip
        replace hw := hw.1 c17
        refine lv_iload_n hx hb e_M_field_20 rfl (lv_at hl 1 rfl) ?_
        refine lv_if_eq (tgt := 33) hx hb e_M_field_21 (by decide) (fun c18 => ?_) (fun c18 => ?_)
        · skip
          replace hw := hw.1 c18
          exact K_33 () σ14 _ _ _ hw h (lv_sub hl [0] rfl)
        · skip
          replace hw := hw.2 c18
          refine lv_aload_n hx hb e_M_field_24 rfl (lv_at hl 0 rfl) ?_
          refine M_get C h 3 (v := .ref (rf 3)) rfl (by decide) v_3 e_M_field_25 ?_
          refine lv_iload_n hx hb e_M_field_28 rfl (lv_at hl 1 rfl) ?_
          refine M_zald C h 3 (by decide) rfl hw.1 e_M_field_29 ?_
          replace hw := hw.2
          refine lv_topi (fun a19 e_a19 => ?_)
          replace hw := hw a19 e_a19
          refine lv_if_eq (tgt := 39) hx hb e_M_field_30 (by decide) (fun c20 => ?_) (fun c20 => ?_)
          · skip
            replace hw := hw.1 c20
            exact K_39 () x1 x2 x3 σ14 _ _ _ hw h (lv_sub hl [0, 1, 2, 3] rfl)
          · skip
            replace hw := hw.2 c20
            exact K_33 () σ14 _ _ _ hw h (lv_sub hl [0] rfl)
abbrev z_M_method : MethodName := ⟨"MapFramerModel", "method", "(II)I"⟩
theorem v_42 : (Cond.fieldLink "MapFramerModel" 33 "MapFramerModel" "argumentCount" "[I" : Cond) ∈ bigW := inB_8 71 (by decide +kernel) rfl
theorem v_43 : (Cond.fieldLink "MapFramerModel" 206 "MapFramerModel" "methods" "I" : Cond) ∈ bigW := inB_8 69 (by decide +kernel) rfl
theorem v_44 : (Cond.fieldLink "MapFramerModel" 36 "MapFramerModel" "results" "[I" : Cond) ∈ bigW := inB_8 72 (by decide +kernel) rfl
theorem v_45 : (Cond.fieldLink "MapFramerModel" 30 "MapFramerModel" "arguments" "[I" : Cond) ∈ bigW := inB_8 70 (by decide +kernel) rfl
theorem e_M_method_0 : decode prog_14_method_16_code 0 = .ok (.iconst 0, 1) := by decide +kernel
theorem e_M_method_1 : decode prog_14_method_16_code 1 = .ok (.istore_n 3, 1) := by decide +kernel
theorem e_M_method_2 : decode prog_14_method_16_code 2 = .ok (.iload_n 2, 1) := by decide +kernel
theorem e_M_method_3 : decode prog_14_method_16_code 3 = .ok (.ifCond .eq 11, 3) := by decide +kernel
theorem e_M_method_6 : decode prog_14_method_16_code 6 = .ok (.aload_n 0, 1) := by decide +kernel
theorem e_M_method_7 : decode prog_14_method_16_code 7 = .ok (.iload_n 2, 1) := by decide +kernel
theorem e_M_method_8 : decode prog_14_method_16_code 8 = .ok (.invokevirtual 200, 3) := by decide +kernel
theorem e_M_method_11 : decode prog_14_method_16_code 11 = .ok (.ifCond .eq 7, 3) := by decide +kernel
theorem e_M_method_14 : decode prog_14_method_16_code 14 = .ok (.iconst 1, 1) := by decide +kernel
theorem e_M_method_15 : decode prog_14_method_16_code 15 = .ok (.goto 4, 3) := by decide +kernel
theorem e_M_method_18 : decode prog_14_method_16_code 18 = .ok (.iconst 0, 1) := by decide +kernel
theorem e_M_method_19 : decode prog_14_method_16_code 19 = .ok (.istore 4, 2) := by decide +kernel
theorem e_M_method_21 : decode prog_14_method_16_code 21 = .ok (.iload_n 3, 1) := by decide +kernel
theorem e_M_method_22 : decode prog_14_method_16_code 22 = .ok (.iconst 4, 1) := by decide +kernel
theorem e_M_method_23 : decode prog_14_method_16_code 23 = .ok (.if_icmp .ge 51, 3) := by decide +kernel
theorem e_M_method_26 : decode prog_14_method_16_code 26 = .ok (.iload_n 1, 1) := by decide +kernel
theorem e_M_method_27 : decode prog_14_method_16_code 27 = .ok (.bipush 8, 2) := by decide +kernel
theorem e_M_method_29 : decode prog_14_method_16_code 29 = .ok (.iload_n 3, 1) := by decide +kernel
theorem e_M_method_30 : decode prog_14_method_16_code 30 = .ok (.imul, 1) := by decide +kernel
theorem e_M_method_31 : decode prog_14_method_16_code 31 = .ok (.ishr, 1) := by decide +kernel
theorem e_M_method_32 : decode prog_14_method_16_code 32 = .ok (.sipush 255, 3) := by decide +kernel
theorem e_M_method_35 : decode prog_14_method_16_code 35 = .ok (.iand, 1) := by decide +kernel
theorem e_M_method_36 : decode prog_14_method_16_code 36 = .ok (.ifCond .eq 38, 3) := by decide +kernel
theorem e_M_method_39 : decode prog_14_method_16_code 39 = .ok (.iload 4, 2) := by decide +kernel
theorem e_M_method_41 : decode prog_14_method_16_code 41 = .ok (.ifCond .eq 24, 3) := by decide +kernel
theorem e_M_method_44 : decode prog_14_method_16_code 44 = .ok (.aload_n 0, 1) := by decide +kernel
theorem e_M_method_45 : decode prog_14_method_16_code 45 = .ok (.iload_n 1, 1) := by decide +kernel
theorem e_M_method_46 : decode prog_14_method_16_code 46 = .ok (.bipush 8, 2) := by decide +kernel
theorem e_M_method_48 : decode prog_14_method_16_code 48 = .ok (.iload_n 3, 1) := by decide +kernel
theorem e_M_method_49 : decode prog_14_method_16_code 49 = .ok (.imul, 1) := by decide +kernel
theorem e_M_method_50 : decode prog_14_method_16_code 50 = .ok (.ishr, 1) := by decide +kernel
theorem e_M_method_51 : decode prog_14_method_16_code 51 = .ok (.sipush 255, 3) := by decide +kernel
theorem e_M_method_54 : decode prog_14_method_16_code 54 = .ok (.iand, 1) := by decide +kernel
theorem e_M_method_55 : decode prog_14_method_16_code 55 = .ok (.invokevirtual 200, 3) := by decide +kernel
theorem e_M_method_58 : decode prog_14_method_16_code 58 = .ok (.ifCond .eq 7, 3) := by decide +kernel
theorem e_M_method_61 : decode prog_14_method_16_code 61 = .ok (.iconst 1, 1) := by decide +kernel
theorem e_M_method_62 : decode prog_14_method_16_code 62 = .ok (.goto 4, 3) := by decide +kernel
theorem e_M_method_65 : decode prog_14_method_16_code 65 = .ok (.iconst 0, 1) := by decide +kernel
theorem e_M_method_66 : decode prog_14_method_16_code 66 = .ok (.istore 4, 2) := by decide +kernel
theorem e_M_method_68 : decode prog_14_method_16_code 68 = .ok (.iinc 3 1, 3) := by decide +kernel
theorem e_M_method_71 : decode prog_14_method_16_code 71 = .ok (.goto (-50), 3) := by decide +kernel
theorem e_M_method_74 : decode prog_14_method_16_code 74 = .ok (.iload 4, 2) := by decide +kernel
theorem e_M_method_76 : decode prog_14_method_16_code 76 = .ok (.ifCond .ne 9, 3) := by decide +kernel
theorem e_M_method_79 : decode prog_14_method_16_code 79 = .ok (.aload_n 0, 1) := by decide +kernel
theorem e_M_method_80 : decode prog_14_method_16_code 80 = .ok (.iconst 1, 1) := by decide +kernel
theorem e_M_method_81 : decode prog_14_method_16_code 81 = .ok (.invokevirtual 196, 3) := by decide +kernel
theorem e_M_method_84 : decode prog_14_method_16_code 84 = .ok (.ireturn, 1) := by decide +kernel
theorem e_M_method_85 : decode prog_14_method_16_code 85 = .ok (.aload_n 0, 1) := by decide +kernel
theorem e_M_method_86 : decode prog_14_method_16_code 86 = .ok (.getfield 206, 3) := by decide +kernel
theorem e_M_method_89 : decode prog_14_method_16_code 89 = .ok (.bipush 8, 2) := by decide +kernel
theorem e_M_method_91 : decode prog_14_method_16_code 91 = .ok (.if_icmp .ne 9, 3) := by decide +kernel
theorem e_M_method_94 : decode prog_14_method_16_code 94 = .ok (.aload_n 0, 1) := by decide +kernel
theorem e_M_method_95 : decode prog_14_method_16_code 95 = .ok (.iconst 2, 1) := by decide +kernel
theorem e_M_method_96 : decode prog_14_method_16_code 96 = .ok (.invokevirtual 196, 3) := by decide +kernel
theorem e_M_method_99 : decode prog_14_method_16_code 99 = .ok (.ireturn, 1) := by decide +kernel
theorem e_M_method_100 : decode prog_14_method_16_code 100 = .ok (.aload_n 0, 1) := by decide +kernel
theorem e_M_method_101 : decode prog_14_method_16_code 101 = .ok (.iconst 0, 1) := by decide +kernel
theorem e_M_method_102 : decode prog_14_method_16_code 102 = .ok (.putfield 169, 3) := by decide +kernel
theorem e_M_method_105 : decode prog_14_method_16_code 105 = .ok (.iconst 0, 1) := by decide +kernel
theorem e_M_method_106 : decode prog_14_method_16_code 106 = .ok (.istore 5, 2) := by decide +kernel
theorem e_M_method_108 : decode prog_14_method_16_code 108 = .ok (.iload 5, 2) := by decide +kernel
theorem e_M_method_110 : decode prog_14_method_16_code 110 = .ok (.iload_n 3, 1) := by decide +kernel
theorem e_M_method_111 : decode prog_14_method_16_code 111 = .ok (.if_icmp .ge 34, 3) := by decide +kernel
theorem e_M_method_114 : decode prog_14_method_16_code 114 = .ok (.aload_n 0, 1) := by decide +kernel
theorem e_M_method_115 : decode prog_14_method_16_code 115 = .ok (.getfield 30, 3) := by decide +kernel
theorem e_M_method_118 : decode prog_14_method_16_code 118 = .ok (.iconst 4, 1) := by decide +kernel
theorem e_M_method_119 : decode prog_14_method_16_code 119 = .ok (.aload_n 0, 1) := by decide +kernel
theorem e_M_method_120 : decode prog_14_method_16_code 120 = .ok (.getfield 206, 3) := by decide +kernel
theorem e_M_method_123 : decode prog_14_method_16_code 123 = .ok (.imul, 1) := by decide +kernel
theorem e_M_method_124 : decode prog_14_method_16_code 124 = .ok (.iload 5, 2) := by decide +kernel
theorem e_M_method_126 : decode prog_14_method_16_code 126 = .ok (.iadd, 1) := by decide +kernel
theorem e_M_method_127 : decode prog_14_method_16_code 127 = .ok (.iload_n 1, 1) := by decide +kernel
theorem e_M_method_128 : decode prog_14_method_16_code 128 = .ok (.bipush 8, 2) := by decide +kernel
theorem e_M_method_130 : decode prog_14_method_16_code 130 = .ok (.iload 5, 2) := by decide +kernel
theorem e_M_method_132 : decode prog_14_method_16_code 132 = .ok (.imul, 1) := by decide +kernel
theorem e_M_method_133 : decode prog_14_method_16_code 133 = .ok (.ishr, 1) := by decide +kernel
theorem e_M_method_134 : decode prog_14_method_16_code 134 = .ok (.sipush 255, 3) := by decide +kernel
theorem e_M_method_137 : decode prog_14_method_16_code 137 = .ok (.iand, 1) := by decide +kernel
theorem e_M_method_138 : decode prog_14_method_16_code 138 = .ok (.iastore, 1) := by decide +kernel
theorem e_M_method_139 : decode prog_14_method_16_code 139 = .ok (.iinc 5 1, 3) := by decide +kernel
theorem e_M_method_142 : decode prog_14_method_16_code 142 = .ok (.goto (-34), 3) := by decide +kernel
theorem e_M_method_145 : decode prog_14_method_16_code 145 = .ok (.aload_n 0, 1) := by decide +kernel
theorem e_M_method_146 : decode prog_14_method_16_code 146 = .ok (.getfield 33, 3) := by decide +kernel
theorem e_M_method_149 : decode prog_14_method_16_code 149 = .ok (.aload_n 0, 1) := by decide +kernel
theorem e_M_method_150 : decode prog_14_method_16_code 150 = .ok (.getfield 206, 3) := by decide +kernel
theorem e_M_method_153 : decode prog_14_method_16_code 153 = .ok (.iload_n 3, 1) := by decide +kernel
theorem e_M_method_154 : decode prog_14_method_16_code 154 = .ok (.iastore, 1) := by decide +kernel
theorem e_M_method_155 : decode prog_14_method_16_code 155 = .ok (.aload_n 0, 1) := by decide +kernel
theorem e_M_method_156 : decode prog_14_method_16_code 156 = .ok (.getfield 36, 3) := by decide +kernel
theorem e_M_method_159 : decode prog_14_method_16_code 159 = .ok (.aload_n 0, 1) := by decide +kernel
theorem e_M_method_160 : decode prog_14_method_16_code 160 = .ok (.getfield 206, 3) := by decide +kernel
theorem e_M_method_163 : decode prog_14_method_16_code 163 = .ok (.iload_n 2, 1) := by decide +kernel
theorem e_M_method_164 : decode prog_14_method_16_code 164 = .ok (.iastore, 1) := by decide +kernel
theorem e_M_method_165 : decode prog_14_method_16_code 165 = .ok (.aload_n 0, 1) := by decide +kernel
theorem e_M_method_166 : decode prog_14_method_16_code 166 = .ok (.dup, 1) := by decide +kernel
theorem e_M_method_167 : decode prog_14_method_16_code 167 = .ok (.getfield 206, 3) := by decide +kernel
theorem e_M_method_170 : decode prog_14_method_16_code 170 = .ok (.iconst 1, 1) := by decide +kernel
theorem e_M_method_171 : decode prog_14_method_16_code 171 = .ok (.iadd, 1) := by decide +kernel
theorem e_M_method_172 : decode prog_14_method_16_code 172 = .ok (.putfield 206, 3) := by decide +kernel
theorem e_M_method_175 : decode prog_14_method_16_code 175 = .ok (.aload_n 0, 1) := by decide +kernel
theorem e_M_method_176 : decode prog_14_method_16_code 176 = .ok (.getfield 206, 3) := by decide +kernel
theorem e_M_method_179 : decode prog_14_method_16_code 179 = .ok (.iconst 1, 1) := by decide +kernel
theorem e_M_method_180 : decode prog_14_method_16_code 180 = .ok (.isub, 1) := by decide +kernel
theorem e_M_method_181 : decode prog_14_method_16_code 181 = .ok (.ireturn, 1) := by decide +kernel
def w_M_method_108 (P : Int32 → MST → Prop) : Nat → Int32 → Int32 → Int32 → Int32 → MST → Prop
  | 0, _, _, _, _, _ => False
  | n + 1, z1, z2, z3, z5, σ => ((z3 ≤ z5 → vp_in (σ.1 8) 8 ∧ (∀ σ2 : MST, σ2 = setA σ 10 (upd (σ.2.1 10) ((σ.1 8) : Int32).toNatClampNeg z3) → vp_in (σ2.1 8) 8 ∧ (∀ σ3 : MST, σ3 = setA σ2 11 (upd (σ2.2.1 11) ((σ2.1 8) : Int32).toNatClampNeg z2) → ∀ σ4 : MST, σ4 = setI σ3 8 ((σ3.1 8) + 1) → P ((σ4.1 8) - 1) σ4))) ∧ (¬ z3 ≤ z5 → ∀ a5 : Int32, a5 = (z1 >>> ((((8 : Int32) * z5) : Int32) &&& 31)) → ∀ a6 : Int32, a6 = (a5 &&& 255) → vp_in (((4 : Int32) * (σ.1 8)) + z5) 32 ∧ (∀ σ7 : MST, σ7 = setA σ 9 (upd (σ.2.1 9) ((((4 : Int32) * (σ.1 8)) + z5) : Int32).toNatClampNeg a6) → w_M_method_108 P n z1 z2 z3 (z5 + 1) σ7)))
def w_M_method_74 (P : Int32 → MST → Prop) (z1 : Int32) (z2 : Int32) (z3 : Int32) (z4 : Int32) (σ : MST) : Prop := ((z4 = 0 → w_M_fails (1 : Int32) σ (fun r14 σ13 => P r14 σ13)) ∧ (¬ z4 = 0 → (((σ.1 8) = 8 → w_M_fails (2 : Int32) σ (fun r12 σ11 => P r12 σ11)) ∧ (¬ (σ.1 8) = 8 → ∀ σ10 : MST, σ10 = setI σ 0 0 → (∃ n9 : Nat, w_M_method_108 P n9 z1 z2 z3 0 σ10)))))
def w_M_method_66 (K21 : Int32 → Int32 → Int32 → Int32 → MST → Prop) (P : Int32 → MST → Prop) (z1 : Int32) (z2 : Int32) (z3 : Int32) (s0 : Int32) (σ : MST) : Prop := K21 z1 z2 (z3 + 1) s0 σ
def w_M_method_65 (K21 : Int32 → Int32 → Int32 → Int32 → MST → Prop) (P : Int32 → MST → Prop) (z1 : Int32) (z2 : Int32) (z3 : Int32) (σ : MST) : Prop := w_M_method_66 K21 P z1 z2 z3 0 σ
def w_M_method_21 (P : Int32 → MST → Prop) : Nat → Int32 → Int32 → Int32 → Int32 → MST → Prop
  | 0, _, _, _, _, _ => False
  | n + 1, z1, z2, z3, z4, σ => ((4 ≤ z3 → w_M_method_74 P z1 z2 z3 z4 σ) ∧ (¬ 4 ≤ z3 → ∀ a16 : Int32, a16 = (z1 >>> ((((8 : Int32) * z3) : Int32) &&& 31)) → ∀ a17 : Int32, a17 = (a16 &&& 255) → ((a17 = 0 → w_M_method_74 P z1 z2 z3 z4 σ) ∧ (¬ a17 = 0 → ((z4 = 0 → w_M_method_65 (w_M_method_21 P n) P z1 z2 z3 σ) ∧ (¬ z4 = 0 → ∀ a20 : Int32, a20 = (z1 >>> ((((8 : Int32) * z3) : Int32) &&& 31)) → ∀ a21 : Int32, a21 = (a20 &&& 255) → w_M_isType a21 σ (fun r23 σ22 => ((r23 = 0 → w_M_method_65 (w_M_method_21 P n) P z1 z2 z3 σ22) ∧ (¬ r23 = 0 → w_M_method_66 (w_M_method_21 P n) P z1 z2 z3 1 σ22)))))))))
def w_M_method_19 (P : Int32 → MST → Prop) (z1 : Int32) (z2 : Int32) (z3 : Int32) (s0 : Int32) (σ : MST) : Prop := (∃ n9 : Nat, w_M_method_21 P n9 z1 z2 z3 s0 σ)
def w_M_method_14 (P : Int32 → MST → Prop) (z1 : Int32) (z2 : Int32) (z3 : Int32) (σ : MST) : Prop := w_M_method_19 P z1 z2 z3 1 σ
def w_M_method (x1 : Int32) (x2 : Int32) (σ : MST) (P : Int32 → MST → Prop) : Prop := ((x2 = 0 → w_M_method_14 P x1 x2 0 σ) ∧ (¬ x2 = 0 → w_M_isType x2 σ (fun r27 σ26 => ((r27 = 0 → w_M_method_19 P x1 x2 0 0 σ26) ∧ (¬ r27 = 0 → w_M_method_14 P x1 x2 0 σ26)))))
set_option maxHeartbeats 4000000 in
set_option maxRecDepth 100000 in
theorem K_M_method (l : Launch) (dC : Nat → ClassId) (dI : Nat → Nat → Nat) (mo : Nat) (rf : Nat → Nat) (ca : Nat → ClassId) (sz : Nat) (σ : MST) (x1 : Int32) (x2 : Int32) {P : Int32 → MST → Prop} (hw : w_M_method x1 x2 σ P) : Met l z_M_method (mW z_M_method prog_14_method_16_code 6 (some .int)) ({ frames := 1, cells := 0, slots := 0, locals := 21 } : Room) (va_Pc [.ref mo, .int x1, .int x2] (MPre (dC, dI) mo rf ca σ sz)) (va_Qi P (MB (dC, dI) mo rf ca sz) (mA mo rf sz)) 0 0 (mA mo rf sz) := by
  refine M_ofi (by decide) rfl (Nat.le_of_ble_eq_true rfl) ?_
  intro p e s m below meth cx Q A ls C hA hend h hl
  have C0 := C
  obtain ⟨⟨hx, hb, hml, hown, hts⟩, hsub⟩ := C0
  have K_108 : ∀ (n : Nat), ∀ (z1 : Int32) (z2 : Int32) (z3 : Int32) (z5 : Int32) (σ : MST) (H : Heap) (locs : List Loc) (ls : Array Slot), w_M_method_108 P n z1 z2 z3 z5 σ → MH (dC, dI) A mo rf ca σ s H locs → lv_has ls 6 [(0, .ref mo), (1, .int z1), (2, .int z2), (3, .int z3), (5, .int z5)] → W p l e ({ frames := 1, cells := 0, slots := 0, locals := 21 } : Room) s m ([.ref mo, .int x1, .int x2] : List Value).toArray below meth cx H locs 0 0 Q (F0 m 108 ls []) := by
    intro  n
    induction n with
    | zero => intro z1 z2 z3 z5 σ H locs ls hw h hl; unfold w_M_method_108 at hw; exact hw.elim
    | succ n ih =>
      intro z1 z2 z3 z5 σ H locs ls hw h hl
      unfold w_M_method_108 at hw
      refine lv_iload hx hb e_M_method_108 (lv_at hl 4 rfl) ?_
      refine lv_iload_n hx hb e_M_method_110 rfl (lv_at hl 3 rfl) ?_
      refine lv_icmp_ge (tgt := 145) hx hb e_M_method_111 (by decide) (fun c1 => ?_) (fun c1 => ?_)
      · skip
        replace hw := hw.1 c1
        refine lv_aload_n hx hb e_M_method_145 rfl (lv_at hl 0 rfl) ?_
        refine M_get C h 10 (v := .ref (rf 10)) rfl (by decide) v_42 e_M_method_146 ?_
        refine lv_aload_n hx hb e_M_method_149 rfl (lv_at hl 0 rfl) ?_
        refine M_get C h 8 (v := .int (σ.1 8)) rfl (by decide) v_43 e_M_method_150 ?_
        refine lv_iload_n hx hb e_M_method_153 rfl (lv_at hl 3 rfl) ?_
        refine M_ast C h 10 (by decide) rfl hw.1 e_M_method_154 (fun H locs h => ?_)
        replace hw := hw.2
        obtain ⟨σ2, e_σ2⟩ : ∃ z : MST, z = setA σ 10 (upd (σ.2.1 10) ((σ.1 8) : Int32).toNatClampNeg z3) := ⟨_, rfl⟩
        rw [← e_σ2] at h
        replace hw := hw σ2 e_σ2
        refine lv_aload_n hx hb e_M_method_155 rfl (lv_at hl 0 rfl) ?_
        refine M_get C h 11 (v := .ref (rf 11)) rfl (by decide) v_44 e_M_method_156 ?_
        refine lv_aload_n hx hb e_M_method_159 rfl (lv_at hl 0 rfl) ?_
        refine M_get C h 8 (v := .int (σ2.1 8)) rfl (by decide) v_43 e_M_method_160 ?_
        refine lv_iload_n hx hb e_M_method_163 rfl (lv_at hl 2 rfl) ?_
        refine M_ast C h 11 (by decide) rfl hw.1 e_M_method_164 (fun H locs h => ?_)
        replace hw := hw.2
        obtain ⟨σ3, e_σ3⟩ : ∃ z : MST, z = setA σ2 11 (upd (σ2.2.1 11) ((σ2.1 8) : Int32).toNatClampNeg z2) := ⟨_, rfl⟩
        rw [← e_σ3] at h
        replace hw := hw σ3 e_σ3
        refine lv_aload_n hx hb e_M_method_165 rfl (lv_at hl 0 rfl) ?_
        refine lv_dup hx hb e_M_method_166 rfl ?_
        refine M_get C h 8 (v := .int (σ3.1 8)) rfl (by decide) v_43 e_M_method_167 ?_
        refine lv_iconst (v := 1) hx hb e_M_method_170 (by decide) ?_
        refine lv_iadd hx hb e_M_method_171 ?_
        refine M_puti C h 8 (by decide) rfl rfl (by decide +kernel) v_43 e_M_method_172 (fun H locs h => ?_)
        obtain ⟨σ4, e_σ4⟩ : ∃ z : MST, z = setI σ3 8 ((σ3.1 8) + 1) := ⟨_, rfl⟩
        rw [← e_σ4] at h
        replace hw := hw σ4 e_σ4
        refine lv_aload_n hx hb e_M_method_175 rfl (lv_at hl 0 rfl) ?_
        refine M_get C h 8 (v := .int (σ4.1 8)) rfl (by decide) v_43 e_M_method_176 ?_
        refine lv_iconst (v := 1) hx hb e_M_method_179 (by decide) ?_
        refine lv_isub hx hb e_M_method_180 ?_
        exact hend ((σ4.1 8) - 1) σ4 _ _ _ _ hw h e_M_method_181
      · skip
        replace hw := hw.2 c1
        refine lv_aload_n hx hb e_M_method_114 rfl (lv_at hl 0 rfl) ?_
        refine M_get C h 9 (v := .ref (rf 9)) rfl (by decide) v_45 e_M_method_115 ?_
        refine lv_iconst (v := 4) hx hb e_M_method_118 (by decide) ?_
        refine lv_aload_n hx hb e_M_method_119 rfl (lv_at hl 0 rfl) ?_
        refine M_get C h 8 (v := .int (σ.1 8)) rfl (by decide) v_43 e_M_method_120 ?_
        refine lv_imul hx hb e_M_method_123 ?_
        refine lv_iload hx hb e_M_method_124 (lv_at hl 4 rfl) ?_
        refine lv_iadd hx hb e_M_method_126 ?_
        refine lv_iload_n hx hb e_M_method_127 rfl (lv_at hl 1 rfl) ?_
        refine lv_bipush (v := 8) hx hb e_M_method_128 (by decide) ?_
        refine lv_iload hx hb e_M_method_130 (lv_at hl 4 rfl) ?_
        refine lv_imul hx hb e_M_method_132 ?_
        refine lv_ishr hx hb e_M_method_133 ?_
        refine lv_topi (fun a5 e_a5 => ?_)
        replace hw := hw a5 e_a5
        refine lv_sipush (v := 255) hx hb e_M_method_134 (by decide) ?_
        refine lv_iand hx hb e_M_method_137 ?_
        refine lv_topi (fun a6 e_a6 => ?_)
        replace hw := hw a6 e_a6
        refine M_ast C h 9 (by decide) rfl hw.1 e_M_method_138 (fun H locs h => ?_)
        replace hw := hw.2
        obtain ⟨σ7, e_σ7⟩ : ∃ z : MST, z = setA σ 9 (upd (σ.2.1 9) ((((4 : Int32) * (σ.1 8)) + z5) : Int32).toNatClampNeg a6) := ⟨_, rfl⟩
        rw [← e_σ7] at h
        replace hw := hw σ7 e_σ7
        refine lv_iinc (v := (z5 + 1)) (lv' := [(5, .int (z5 + 1)), (0, .ref mo), (1, .int z1), (2, .int z2), (3, .int z3)]) hx hb e_M_method_139 hl (k := 4) rfl (rfl) (by decide) rfl (fun ls hl => ?_)
        refine lv_goto (tgt := 108) hx hb e_M_method_142 (by decide) ?_
        exact ih z1 z2 z3 (z5 + 1) σ7 _ _ _ hw h (lv_sub hl [1, 2, 3, 4, 0] rfl)
  have K_74 : ∀ (u9 : Unit), ∀ (z1 : Int32) (z2 : Int32) (z3 : Int32) (z4 : Int32) (σ : MST) (H : Heap) (locs : List Loc) (ls : Array Slot), w_M_method_74 P z1 z2 z3 z4 σ → MH (dC, dI) A mo rf ca σ s H locs → lv_has ls 6 [(0, .ref mo), (1, .int z1), (2, .int z2), (3, .int z3), (4, .int z4)] → W p l e ({ frames := 1, cells := 0, slots := 0, locals := 21 } : Room) s m ([.ref mo, .int x1, .int x2] : List Value).toArray below meth cx H locs 0 0 Q (F0 m 74 ls []) := by
    intro u9 z1 z2 z3 z4 σ H locs ls hw h hl
    unfold w_M_method_74 at hw
    refine lv_iload hx hb e_M_method_74 (lv_at hl 4 rfl) ?_
    refine lv_if_ne (tgt := 85) hx hb e_M_method_76 (by decide) (fun c8 => ?_) (fun c8 => ?_)
    · skip
      replace hw := hw.2 c8
      refine lv_aload_n hx hb e_M_method_85 rfl (lv_at hl 0 rfl) ?_
      refine M_get C h 8 (v := .int (σ.1 8)) rfl (by decide) v_43 e_M_method_86 ?_
      refine lv_bipush (v := 8) hx hb e_M_method_89 (by decide) ?_
      refine lv_icmp_ne (tgt := 100) hx hb e_M_method_91 (by decide) (fun c9 => ?_) (fun c9 => ?_)
      · skip
        replace hw := hw.2 c9
        refine lv_aload_n hx hb e_M_method_100 rfl (lv_at hl 0 rfl) ?_
        refine lv_iconst (v := 0) hx hb e_M_method_101 (by decide) ?_
        refine M_puti C h 0 (by decide) rfl rfl (by decide +kernel) v_0 e_M_method_102 (fun H locs h => ?_)
        obtain ⟨σ10, e_σ10⟩ : ∃ z : MST, z = setI σ 0 0 := ⟨_, rfl⟩
        rw [← e_σ10] at h
        replace hw := hw σ10 e_σ10
        refine lv_iconst (v := 0) hx hb e_M_method_105 (by decide) ?_
        refine lv_istore (lv' := [(5, .int 0), (0, .ref mo), (1, .int z1), (2, .int z2), (3, .int z3), (4, .int z4)]) hx hb e_M_method_106 hl (by decide) rfl (fun ls hl => ?_)
        obtain ⟨n9, hw⟩ := hw
        exact K_108 n9 z1 z2 z3 0 σ10 _ _ _ hw h (lv_sub hl [1, 2, 3, 4, 0] rfl)
      · skip
        replace hw := hw.1 c9
        refine lv_aload_n hx hb e_M_method_94 rfl (lv_at hl 0 rfl) ?_
        refine lv_iconst (v := 2) hx hb e_M_method_95 (by decide) ?_
        refine M_calli (As := [.int 2]) (rest := []) C h hA (K_M_fails l dC dI mo rf ca H.size σ (2 : Int32) hw) (cwV 1 hts (gV hsub v_26 v_27 v_28 v_7 v_29) rfl rfl rfl (by decide +kernel) ⟨(Nat.le_of_ble_eq_true rfl), (Nat.le_of_ble_eq_true rfl)⟩) rfl hl.1 (Nat.le_of_ble_eq_true rfl) e_M_method_96 ⟨(Nat.le_of_ble_eq_true rfl), (Nat.le_of_ble_eq_true rfl)⟩ (fun r12 σ11 H locs hw h => ?_)
        refine W.eq (g2 := F0 m 99 ls [.int r12]) rfl ?_
        exact hend r12 σ11 _ _ _ _ hw h e_M_method_99
    · skip
      replace hw := hw.1 c8
      refine lv_aload_n hx hb e_M_method_79 rfl (lv_at hl 0 rfl) ?_
      refine lv_iconst (v := 1) hx hb e_M_method_80 (by decide) ?_
      refine M_calli (As := [.int 1]) (rest := []) C h hA (K_M_fails l dC dI mo rf ca H.size σ (1 : Int32) hw) (cwV 1 hts (gV hsub v_26 v_27 v_28 v_7 v_29) rfl rfl rfl (by decide +kernel) ⟨(Nat.le_of_ble_eq_true rfl), (Nat.le_of_ble_eq_true rfl)⟩) rfl hl.1 (Nat.le_of_ble_eq_true rfl) e_M_method_81 ⟨(Nat.le_of_ble_eq_true rfl), (Nat.le_of_ble_eq_true rfl)⟩ (fun r14 σ13 H locs hw h => ?_)
      refine W.eq (g2 := F0 m 84 ls [.int r14]) rfl ?_
      exact hend r14 σ13 _ _ _ _ hw h e_M_method_84
  have K_66 : ∀ (K21 : Int32 → Int32 → Int32 → Int32 → MST → Prop) (hK21 : ∀ (z1 : Int32) (z2 : Int32) (z3 : Int32) (z4 : Int32) (σ : MST) (H : Heap) (locs : List Loc) (ls : Array Slot), K21 z1 z2 z3 z4 σ → MH (dC, dI) A mo rf ca σ s H locs → lv_has ls 6 [(0, .ref mo), (1, .int z1), (2, .int z2), (3, .int z3), (4, .int z4)] → W p l e ({ frames := 1, cells := 0, slots := 0, locals := 21 } : Room) s m ([.ref mo, .int x1, .int x2] : List Value).toArray below meth cx H locs 0 0 Q (F0 m 21 ls [])), ∀ (z1 : Int32) (z2 : Int32) (z3 : Int32) (s0 : Int32) (σ : MST) (H : Heap) (locs : List Loc) (ls : Array Slot), w_M_method_66 K21 P z1 z2 z3 s0 σ → MH (dC, dI) A mo rf ca σ s H locs → lv_has ls 6 [(0, .ref mo), (1, .int z1), (2, .int z2), (3, .int z3)] → W p l e ({ frames := 1, cells := 0, slots := 0, locals := 21 } : Room) s m ([.ref mo, .int x1, .int x2] : List Value).toArray below meth cx H locs 0 0 Q (F0 m 66 ls [.int s0]) := by
    intro K21 hK21 z1 z2 z3 s0 σ H locs ls hw h hl
    unfold w_M_method_66 at hw
    refine lv_istore (lv' := [(4, .int s0), (0, .ref mo), (1, .int z1), (2, .int z2), (3, .int z3)]) hx hb e_M_method_66 hl (by decide) rfl (fun ls hl => ?_)
    refine lv_iinc (v := (z3 + 1)) (lv' := [(3, .int (z3 + 1)), (4, .int s0), (0, .ref mo), (1, .int z1), (2, .int z2)]) hx hb e_M_method_68 hl (k := 4) rfl (rfl) (by decide) rfl (fun ls hl => ?_)
    refine lv_goto (tgt := 21) hx hb e_M_method_71 (by decide) ?_
    exact hK21 z1 z2 (z3 + 1) s0 σ _ _ _ hw h (lv_sub hl [2, 3, 4, 0, 1] rfl)
  have K_65 : ∀ (K21 : Int32 → Int32 → Int32 → Int32 → MST → Prop) (hK21 : ∀ (z1 : Int32) (z2 : Int32) (z3 : Int32) (z4 : Int32) (σ : MST) (H : Heap) (locs : List Loc) (ls : Array Slot), K21 z1 z2 z3 z4 σ → MH (dC, dI) A mo rf ca σ s H locs → lv_has ls 6 [(0, .ref mo), (1, .int z1), (2, .int z2), (3, .int z3), (4, .int z4)] → W p l e ({ frames := 1, cells := 0, slots := 0, locals := 21 } : Room) s m ([.ref mo, .int x1, .int x2] : List Value).toArray below meth cx H locs 0 0 Q (F0 m 21 ls [])), ∀ (z1 : Int32) (z2 : Int32) (z3 : Int32) (σ : MST) (H : Heap) (locs : List Loc) (ls : Array Slot), w_M_method_65 K21 P z1 z2 z3 σ → MH (dC, dI) A mo rf ca σ s H locs → lv_has ls 6 [(0, .ref mo), (1, .int z1), (2, .int z2), (3, .int z3)] → W p l e ({ frames := 1, cells := 0, slots := 0, locals := 21 } : Room) s m ([.ref mo, .int x1, .int x2] : List Value).toArray below meth cx H locs 0 0 Q (F0 m 65 ls []) := by
    intro K21 hK21 z1 z2 z3 σ H locs ls hw h hl
    unfold w_M_method_65 at hw
    refine lv_iconst (v := 0) hx hb e_M_method_65 (by decide) ?_
    exact K_66 _ hK21 z1 z2 z3 0 σ _ _ _ hw h (lv_sub hl [0, 1, 2, 3] rfl)
  have K_21 : ∀ (n : Nat), ∀ (z1 : Int32) (z2 : Int32) (z3 : Int32) (z4 : Int32) (σ : MST) (H : Heap) (locs : List Loc) (ls : Array Slot), w_M_method_21 P n z1 z2 z3 z4 σ → MH (dC, dI) A mo rf ca σ s H locs → lv_has ls 6 [(0, .ref mo), (1, .int z1), (2, .int z2), (3, .int z3), (4, .int z4)] → W p l e ({ frames := 1, cells := 0, slots := 0, locals := 21 } : Room) s m ([.ref mo, .int x1, .int x2] : List Value).toArray below meth cx H locs 0 0 Q (F0 m 21 ls []) := by
    intro  n
    induction n with
    | zero => intro z1 z2 z3 z4 σ H locs ls hw h hl; unfold w_M_method_21 at hw; exact hw.elim
    | succ n ih =>
      intro z1 z2 z3 z4 σ H locs ls hw h hl
      unfold w_M_method_21 at hw
      refine lv_iload_n hx hb e_M_method_21 rfl (lv_at hl 3 rfl) ?_
      refine lv_iconst (v := 4) hx hb e_M_method_22 (by decide) ?_
      refine lv_icmp_ge (tgt := 74) hx hb e_M_method_23 (by decide) (fun c15 => ?_) (fun c15 => ?_)
      · skip
        replace hw := hw.1 c15
        exact K_74 () z1 z2 z3 z4 σ _ _ _ hw h (lv_sub hl [0, 1, 2, 3, 4] rfl)
      · skip
        replace hw := hw.2 c15
        refine lv_iload_n hx hb e_M_method_26 rfl (lv_at hl 1 rfl) ?_
        refine lv_bipush (v := 8) hx hb e_M_method_27 (by decide) ?_
        refine lv_iload_n hx hb e_M_method_29 rfl (lv_at hl 3 rfl) ?_
        refine lv_imul hx hb e_M_method_30 ?_
        refine lv_ishr hx hb e_M_method_31 ?_
        refine lv_topi (fun a16 e_a16 => ?_)
        replace hw := hw a16 e_a16
        refine lv_sipush (v := 255) hx hb e_M_method_32 (by decide) ?_
        refine lv_iand hx hb e_M_method_35 ?_
        refine lv_topi (fun a17 e_a17 => ?_)
        replace hw := hw a17 e_a17
        refine lv_if_eq (tgt := 74) hx hb e_M_method_36 (by decide) (fun c18 => ?_) (fun c18 => ?_)
        · skip
          replace hw := hw.1 c18
          exact K_74 () z1 z2 z3 z4 σ _ _ _ hw h (lv_sub hl [0, 1, 2, 3, 4] rfl)
        · skip
          replace hw := hw.2 c18
          refine lv_iload hx hb e_M_method_39 (lv_at hl 4 rfl) ?_
          refine lv_if_eq (tgt := 65) hx hb e_M_method_41 (by decide) (fun c19 => ?_) (fun c19 => ?_)
          · skip
            replace hw := hw.1 c19
            exact K_65 _ ih z1 z2 z3 σ _ _ _ hw h (lv_sub hl [0, 1, 2, 3] rfl)
          · skip
            replace hw := hw.2 c19
            refine lv_aload_n hx hb e_M_method_44 rfl (lv_at hl 0 rfl) ?_
            refine lv_iload_n hx hb e_M_method_45 rfl (lv_at hl 1 rfl) ?_
            refine lv_bipush (v := 8) hx hb e_M_method_46 (by decide) ?_
            refine lv_iload_n hx hb e_M_method_48 rfl (lv_at hl 3 rfl) ?_
            refine lv_imul hx hb e_M_method_49 ?_
            refine lv_ishr hx hb e_M_method_50 ?_
            refine lv_topi (fun a20 e_a20 => ?_)
            replace hw := hw a20 e_a20
            refine lv_sipush (v := 255) hx hb e_M_method_51 (by decide) ?_
            refine lv_iand hx hb e_M_method_54 ?_
            refine lv_topi (fun a21 e_a21 => ?_)
            replace hw := hw a21 e_a21
            refine M_calli (As := [.int a21]) (rest := []) C h hA (K_M_isType l dC dI mo rf ca H.size σ a21 hw) (cwV 1 hts (gV hsub v_38 v_39 v_40 v_7 v_41) rfl rfl rfl (by decide +kernel) ⟨(Nat.le_of_ble_eq_true rfl), (Nat.le_of_ble_eq_true rfl)⟩) rfl hl.1 (Nat.le_of_ble_eq_true rfl) e_M_method_55 ⟨(Nat.le_of_ble_eq_true rfl), (Nat.le_of_ble_eq_true rfl)⟩ (fun r23 σ22 H locs hw h => ?_)
            refine W.eq (g2 := F0 m 58 ls [.int r23]) rfl ?_
            refine lv_if_eq (tgt := 65) hx hb e_M_method_58 (by decide) (fun c24 => ?_) (fun c24 => ?_)
            · skip
              replace hw := hw.1 c24
              exact K_65 _ ih z1 z2 z3 σ22 _ _ _ hw h (lv_sub hl [0, 1, 2, 3] rfl)
            · skip
              replace hw := hw.2 c24
              refine lv_iconst (v := 1) hx hb e_M_method_61 (by decide) ?_
              refine lv_goto (tgt := 66) hx hb e_M_method_62 (by decide) ?_
              exact K_66 _ ih z1 z2 z3 1 σ22 _ _ _ hw h (lv_sub hl [0, 1, 2, 3] rfl)
  have K_19 : ∀ (u9 : Unit), ∀ (z1 : Int32) (z2 : Int32) (z3 : Int32) (s0 : Int32) (σ : MST) (H : Heap) (locs : List Loc) (ls : Array Slot), w_M_method_19 P z1 z2 z3 s0 σ → MH (dC, dI) A mo rf ca σ s H locs → lv_has ls 6 [(0, .ref mo), (1, .int z1), (2, .int z2), (3, .int z3)] → W p l e ({ frames := 1, cells := 0, slots := 0, locals := 21 } : Room) s m ([.ref mo, .int x1, .int x2] : List Value).toArray below meth cx H locs 0 0 Q (F0 m 19 ls [.int s0]) := by
    intro u9 z1 z2 z3 s0 σ H locs ls hw h hl
    unfold w_M_method_19 at hw
    refine lv_istore (lv' := [(4, .int s0), (0, .ref mo), (1, .int z1), (2, .int z2), (3, .int z3)]) hx hb e_M_method_19 hl (by decide) rfl (fun ls hl => ?_)
    obtain ⟨n9, hw⟩ := hw
    exact K_21 n9 z1 z2 z3 s0 σ _ _ _ hw h (lv_sub hl [1, 2, 3, 4, 0] rfl)
  have K_14 : ∀ (u9 : Unit), ∀ (z1 : Int32) (z2 : Int32) (z3 : Int32) (σ : MST) (H : Heap) (locs : List Loc) (ls : Array Slot), w_M_method_14 P z1 z2 z3 σ → MH (dC, dI) A mo rf ca σ s H locs → lv_has ls 6 [(0, .ref mo), (1, .int z1), (2, .int z2), (3, .int z3)] → W p l e ({ frames := 1, cells := 0, slots := 0, locals := 21 } : Room) s m ([.ref mo, .int x1, .int x2] : List Value).toArray below meth cx H locs 0 0 Q (F0 m 14 ls []) := by
    intro u9 z1 z2 z3 σ H locs ls hw h hl
    unfold w_M_method_14 at hw
    refine lv_iconst (v := 1) hx hb e_M_method_14 (by decide) ?_
    refine lv_goto (tgt := 19) hx hb e_M_method_15 (by decide) ?_
    exact K_19 () z1 z2 z3 1 σ _ _ _ hw h (lv_sub hl [0, 1, 2, 3] rfl)
  have hl : lv_has ls 6 [(0, .ref mo), (1, .int x1), (2, .int x2)] := hl
  unfold w_M_method at hw
  refine lv_iconst (v := 0) hx hb e_M_method_0 (by decide) ?_
  refine lv_istore_n (lv' := [(3, .int 0), (0, .ref mo), (1, .int x1), (2, .int x2)]) hx hb e_M_method_1 rfl hl (by decide) rfl (fun ls hl => ?_)
  refine lv_iload_n hx hb e_M_method_2 rfl (lv_at hl 3 rfl) ?_
  refine lv_if_eq (tgt := 14) hx hb e_M_method_3 (by decide) (fun c25 => ?_) (fun c25 => ?_)
  · skip
    replace hw := hw.1 c25
    exact K_14 () x1 x2 0 σ _ _ _ hw h (lv_sub hl [1, 2, 3, 0] rfl)
  · skip
    replace hw := hw.2 c25
    refine lv_aload_n hx hb e_M_method_6 rfl (lv_at hl 1 rfl) ?_
    refine lv_iload_n hx hb e_M_method_7 rfl (lv_at hl 3 rfl) ?_
    refine M_calli (As := [.int x2]) (rest := []) C h hA (K_M_isType l dC dI mo rf ca s.heap.size σ x2 hw) (cwV 1 hts (gV hsub v_38 v_39 v_40 v_7 v_41) rfl rfl rfl (by decide +kernel) ⟨(Nat.le_of_ble_eq_true rfl), (Nat.le_of_ble_eq_true rfl)⟩) rfl hl.1 (Nat.le_of_ble_eq_true rfl) e_M_method_8 ⟨(Nat.le_of_ble_eq_true rfl), (Nat.le_of_ble_eq_true rfl)⟩ (fun r27 σ26 H locs hw h => ?_)
    refine W.eq (g2 := F0 m 11 ls [.int r27]) rfl ?_
    refine lv_if_eq (tgt := 18) hx hb e_M_method_11 (by decide) (fun c28 => ?_) (fun c28 => ?_)
    · skip
      replace hw := hw.1 c28
      refine lv_iconst (v := 0) hx hb e_M_method_18 (by decide) ?_
      exact K_19 () x1 x2 0 0 σ26 _ _ _ hw h (lv_sub hl [1, 2, 3, 0] rfl)
    · skip
      replace hw := hw.2 c28
      exact K_14 () x1 x2 0 σ26 _ _ _ hw h (lv_sub hl [1, 2, 3, 0] rfl)
abbrev z_M_isMethod : MethodName := ⟨"MapFramerModel", "isMethod", "(I)Z"⟩
theorem e_M_isMethod_0 : decode prog_14_method_17_code 0 = .ok (.iload_n 1, 1) := by decide +kernel
theorem e_M_isMethod_1 : decode prog_14_method_17_code 1 = .ok (.ifCond .lt 15, 3) := by decide +kernel
theorem e_M_isMethod_4 : decode prog_14_method_17_code 4 = .ok (.iload_n 1, 1) := by decide +kernel
theorem e_M_isMethod_5 : decode prog_14_method_17_code 5 = .ok (.aload_n 0, 1) := by decide +kernel
theorem e_M_isMethod_6 : decode prog_14_method_17_code 6 = .ok (.getfield 206, 3) := by decide +kernel
theorem e_M_isMethod_9 : decode prog_14_method_17_code 9 = .ok (.if_icmp .ge 7, 3) := by decide +kernel
theorem e_M_isMethod_12 : decode prog_14_method_17_code 12 = .ok (.iconst 1, 1) := by decide +kernel
theorem e_M_isMethod_13 : decode prog_14_method_17_code 13 = .ok (.goto 4, 3) := by decide +kernel
theorem e_M_isMethod_16 : decode prog_14_method_17_code 16 = .ok (.iconst 0, 1) := by decide +kernel
theorem e_M_isMethod_17 : decode prog_14_method_17_code 17 = .ok (.ireturn, 1) := by decide +kernel
def w_M_isMethod (x1 : Int32) (σ : MST) (P : Int32 → MST → Prop) : Prop := ((x1 < 0 → P (0 : Int32) σ) ∧ (¬ x1 < 0 → (((σ.1 8) ≤ x1 → P (0 : Int32) σ) ∧ (¬ (σ.1 8) ≤ x1 → P (1 : Int32) σ))))
set_option maxHeartbeats 4000000 in
set_option maxRecDepth 100000 in
theorem K_M_isMethod (l : Launch) (dC : Nat → ClassId) (dI : Nat → Nat → Nat) (mo : Nat) (rf : Nat → Nat) (ca : Nat → ClassId) (sz : Nat) (σ : MST) (x1 : Int32) {P : Int32 → MST → Prop} (hw : w_M_isMethod x1 σ P) : Met l z_M_isMethod (mW z_M_isMethod prog_14_method_17_code 2 (some .boolean)) ({ frames := 0, cells := 0, slots := 0, locals := 0 } : Room) (va_Pc [.ref mo, .int x1] (MPre (dC, dI) mo rf ca σ sz)) (va_Qi P (MB (dC, dI) mo rf ca sz) (mA mo rf sz)) 0 0 (mA mo rf sz) := by
  refine M_ofz (by decide) rfl (Nat.le_of_ble_eq_true rfl) ?_
  intro p e s m below meth cx Q A ls C hA hend h hl
  have C0 := C
  obtain ⟨⟨hx, hb, hml, hown, hts⟩, hsub⟩ := C0
  have hl : lv_has ls 2 [(0, .ref mo), (1, .int x1)] := hl
  unfold w_M_isMethod at hw
  refine lv_iload_n hx hb e_M_isMethod_0 rfl (lv_at hl 1 rfl) ?_
  refine lv_if_lt (tgt := 16) hx hb e_M_isMethod_1 (by decide) (fun c1 => ?_) (fun c1 => ?_)
  · skip
    replace hw := hw.1 c1
    refine lv_iconst (v := 0) hx hb e_M_isMethod_16 (by decide) ?_
    exact hend (0 : Int32) σ _ _ _ _ rfl hw h e_M_isMethod_17
  · skip
    replace hw := hw.2 c1
    refine lv_iload_n hx hb e_M_isMethod_4 rfl (lv_at hl 1 rfl) ?_
    refine lv_aload_n hx hb e_M_isMethod_5 rfl (lv_at hl 0 rfl) ?_
    refine M_get C h 8 (v := .int (σ.1 8)) rfl (by decide) v_43 e_M_isMethod_6 ?_
    refine lv_icmp_ge (tgt := 16) hx hb e_M_isMethod_9 (by decide) (fun c2 => ?_) (fun c2 => ?_)
    · skip
      replace hw := hw.1 c2
      refine lv_iconst (v := 0) hx hb e_M_isMethod_16 (by decide) ?_
      exact hend (0 : Int32) σ _ _ _ _ rfl hw h e_M_isMethod_17
    · skip
      replace hw := hw.2 c2
      refine lv_iconst (v := 1) hx hb e_M_isMethod_12 (by decide) ?_
      refine lv_goto (tgt := 17) hx hb e_M_isMethod_13 (by decide) ?_
      exact hend (1 : Int32) σ _ _ _ _ rfl hw h e_M_isMethod_17
abbrev z_M_feed : MethodName := ⟨"MapFramerModel", "feed", "(I)Z"⟩
theorem v_46 : (Cond.fieldLink "MapFramerModel" 75 "MapFramerModel" "tape" "[I" : Cond) ∈ bigW := inB_8 86 (by decide +kernel) rfl
theorem v_47 : (Cond.fieldLink "MapFramerModel" 209 "MapFramerModel" "taped" "I" : Cond) ∈ bigW := inB_8 85 (by decide +kernel) rfl
theorem e_M_feed_0 : decode prog_14_method_18_code 0 = .ok (.aload_n 0, 1) := by decide +kernel
theorem e_M_feed_1 : decode prog_14_method_18_code 1 = .ok (.iconst 0, 1) := by decide +kernel
theorem e_M_feed_2 : decode prog_14_method_18_code 2 = .ok (.putfield 169, 3) := by decide +kernel
theorem e_M_feed_5 : decode prog_14_method_18_code 5 = .ok (.aload_n 0, 1) := by decide +kernel
theorem e_M_feed_6 : decode prog_14_method_18_code 6 = .ok (.getfield 209, 3) := by decide +kernel
theorem e_M_feed_9 : decode prog_14_method_18_code 9 = .ok (.iconst 4, 1) := by decide +kernel
theorem e_M_feed_10 : decode prog_14_method_18_code 10 = .ok (.iadd, 1) := by decide +kernel
theorem e_M_feed_11 : decode prog_14_method_18_code 11 = .ok (.sipush 400, 3) := by decide +kernel
theorem e_M_feed_14 : decode prog_14_method_18_code 14 = .ok (.if_icmp .le 5, 3) := by decide +kernel
theorem e_M_feed_17 : decode prog_14_method_18_code 17 = .ok (.iconst 0, 1) := by decide +kernel
theorem e_M_feed_18 : decode prog_14_method_18_code 18 = .ok (.ireturn, 1) := by decide +kernel
theorem e_M_feed_19 : decode prog_14_method_18_code 19 = .ok (.bipush 24, 2) := by decide +kernel
theorem e_M_feed_21 : decode prog_14_method_18_code 21 = .ok (.istore_n 2, 1) := by decide +kernel
theorem e_M_feed_22 : decode prog_14_method_18_code 22 = .ok (.iload_n 2, 1) := by decide +kernel
theorem e_M_feed_23 : decode prog_14_method_18_code 23 = .ok (.ifCond .lt 35, 3) := by decide +kernel
theorem e_M_feed_26 : decode prog_14_method_18_code 26 = .ok (.aload_n 0, 1) := by decide +kernel
theorem e_M_feed_27 : decode prog_14_method_18_code 27 = .ok (.getfield 75, 3) := by decide +kernel
theorem e_M_feed_30 : decode prog_14_method_18_code 30 = .ok (.aload_n 0, 1) := by decide +kernel
theorem e_M_feed_31 : decode prog_14_method_18_code 31 = .ok (.getfield 209, 3) := by decide +kernel
theorem e_M_feed_34 : decode prog_14_method_18_code 34 = .ok (.iload_n 1, 1) := by decide +kernel
theorem e_M_feed_35 : decode prog_14_method_18_code 35 = .ok (.iload_n 2, 1) := by decide +kernel
theorem e_M_feed_36 : decode prog_14_method_18_code 36 = .ok (.ishr, 1) := by decide +kernel
theorem e_M_feed_37 : decode prog_14_method_18_code 37 = .ok (.sipush 255, 3) := by decide +kernel
theorem e_M_feed_40 : decode prog_14_method_18_code 40 = .ok (.iand, 1) := by decide +kernel
theorem e_M_feed_41 : decode prog_14_method_18_code 41 = .ok (.iastore, 1) := by decide +kernel
theorem e_M_feed_42 : decode prog_14_method_18_code 42 = .ok (.aload_n 0, 1) := by decide +kernel
theorem e_M_feed_43 : decode prog_14_method_18_code 43 = .ok (.dup, 1) := by decide +kernel
theorem e_M_feed_44 : decode prog_14_method_18_code 44 = .ok (.getfield 209, 3) := by decide +kernel
theorem e_M_feed_47 : decode prog_14_method_18_code 47 = .ok (.iconst 1, 1) := by decide +kernel
theorem e_M_feed_48 : decode prog_14_method_18_code 48 = .ok (.iadd, 1) := by decide +kernel
theorem e_M_feed_49 : decode prog_14_method_18_code 49 = .ok (.putfield 209, 3) := by decide +kernel
theorem e_M_feed_52 : decode prog_14_method_18_code 52 = .ok (.iinc 2 (-8), 3) := by decide +kernel
theorem e_M_feed_55 : decode prog_14_method_18_code 55 = .ok (.goto (-33), 3) := by decide +kernel
theorem e_M_feed_58 : decode prog_14_method_18_code 58 = .ok (.iconst 1, 1) := by decide +kernel
theorem e_M_feed_59 : decode prog_14_method_18_code 59 = .ok (.ireturn, 1) := by decide +kernel
def w_M_feed_22 (P : Int32 → MST → Prop) : Nat → Int32 → Int32 → MST → Prop
  | 0, _, _, _ => False
  | n + 1, z1, z2, σ => ((z2 < 0 → P (1 : Int32) σ) ∧ (¬ z2 < 0 → ∀ a2 : Int32, a2 = (z1 >>> ((z2 : Int32) &&& 31)) → ∀ a3 : Int32, a3 = (a2 &&& 255) → vp_in (σ.1 24) 400 ∧ (∀ σ4 : MST, σ4 = setA σ 25 (upd (σ.2.1 25) ((σ.1 24) : Int32).toNatClampNeg a3) → ∀ σ5 : MST, σ5 = setI σ4 24 ((σ4.1 24) + 1) → w_M_feed_22 P n z1 (z2 + (-8)) σ5)))
def w_M_feed (x1 : Int32) (σ : MST) (P : Int32 → MST → Prop) : Prop := ∀ σ6 : MST, σ6 = setI σ 0 0 → ((((σ6.1 24) + 4) ≤ 400 → (∃ n9 : Nat, w_M_feed_22 P n9 x1 24 σ6)) ∧ (¬ ((σ6.1 24) + 4) ≤ 400 → P (0 : Int32) σ6))
set_option maxHeartbeats 4000000 in
set_option maxRecDepth 100000 in
theorem K_M_feed (l : Launch) (dC : Nat → ClassId) (dI : Nat → Nat → Nat) (mo : Nat) (rf : Nat → Nat) (ca : Nat → ClassId) (sz : Nat) (σ : MST) (x1 : Int32) {P : Int32 → MST → Prop} (hw : w_M_feed x1 σ P) : Met l z_M_feed (mW z_M_feed prog_14_method_18_code 3 (some .boolean)) ({ frames := 0, cells := 0, slots := 0, locals := 0 } : Room) (va_Pc [.ref mo, .int x1] (MPre (dC, dI) mo rf ca σ sz)) (va_Qi P (MB (dC, dI) mo rf ca sz) (mA mo rf sz)) 0 0 (mA mo rf sz) := by
  refine M_ofz (by decide) rfl (Nat.le_of_ble_eq_true rfl) ?_
  intro p e s m below meth cx Q A ls C hA hend h hl
  have C0 := C
  obtain ⟨⟨hx, hb, hml, hown, hts⟩, hsub⟩ := C0
  have K_22 : ∀ (n : Nat), ∀ (z1 : Int32) (z2 : Int32) (σ : MST) (H : Heap) (locs : List Loc) (ls : Array Slot), w_M_feed_22 P n z1 z2 σ → MH (dC, dI) A mo rf ca σ s H locs → lv_has ls 3 [(0, .ref mo), (1, .int z1), (2, .int z2)] → W p l e ({ frames := 0, cells := 0, slots := 0, locals := 0 } : Room) s m ([.ref mo, .int x1] : List Value).toArray below meth cx H locs 0 0 Q (F0 m 22 ls []) := by
    intro  n
    induction n with
    | zero => intro z1 z2 σ H locs ls hw h hl; unfold w_M_feed_22 at hw; exact hw.elim
    | succ n ih =>
      intro z1 z2 σ H locs ls hw h hl
      unfold w_M_feed_22 at hw
      refine lv_iload_n hx hb e_M_feed_22 rfl (lv_at hl 2 rfl) ?_
      refine lv_if_lt (tgt := 58) hx hb e_M_feed_23 (by decide) (fun c1 => ?_) (fun c1 => ?_)
      · skip
        replace hw := hw.1 c1
        refine lv_iconst (v := 1) hx hb e_M_feed_58 (by decide) ?_
        exact hend (1 : Int32) σ _ _ _ _ rfl hw h e_M_feed_59
      · skip
        replace hw := hw.2 c1
        refine lv_aload_n hx hb e_M_feed_26 rfl (lv_at hl 0 rfl) ?_
        refine M_get C h 25 (v := .ref (rf 25)) rfl (by decide) v_46 e_M_feed_27 ?_
        refine lv_aload_n hx hb e_M_feed_30 rfl (lv_at hl 0 rfl) ?_
        refine M_get C h 24 (v := .int (σ.1 24)) rfl (by decide) v_47 e_M_feed_31 ?_
        refine lv_iload_n hx hb e_M_feed_34 rfl (lv_at hl 1 rfl) ?_
        refine lv_iload_n hx hb e_M_feed_35 rfl (lv_at hl 2 rfl) ?_
        refine lv_ishr hx hb e_M_feed_36 ?_
        refine lv_topi (fun a2 e_a2 => ?_)
        replace hw := hw a2 e_a2
        refine lv_sipush (v := 255) hx hb e_M_feed_37 (by decide) ?_
        refine lv_iand hx hb e_M_feed_40 ?_
        refine lv_topi (fun a3 e_a3 => ?_)
        replace hw := hw a3 e_a3
        refine M_ast C h 25 (by decide) rfl hw.1 e_M_feed_41 (fun H locs h => ?_)
        replace hw := hw.2
        obtain ⟨σ4, e_σ4⟩ : ∃ z : MST, z = setA σ 25 (upd (σ.2.1 25) ((σ.1 24) : Int32).toNatClampNeg a3) := ⟨_, rfl⟩
        rw [← e_σ4] at h
        replace hw := hw σ4 e_σ4
        refine lv_aload_n hx hb e_M_feed_42 rfl (lv_at hl 0 rfl) ?_
        refine lv_dup hx hb e_M_feed_43 rfl ?_
        refine M_get C h 24 (v := .int (σ4.1 24)) rfl (by decide) v_47 e_M_feed_44 ?_
        refine lv_iconst (v := 1) hx hb e_M_feed_47 (by decide) ?_
        refine lv_iadd hx hb e_M_feed_48 ?_
        refine M_puti C h 24 (by decide) rfl rfl (by decide +kernel) v_47 e_M_feed_49 (fun H locs h => ?_)
        obtain ⟨σ5, e_σ5⟩ : ∃ z : MST, z = setI σ4 24 ((σ4.1 24) + 1) := ⟨_, rfl⟩
        rw [← e_σ5] at h
        replace hw := hw σ5 e_σ5
        refine lv_iinc (v := (z2 + (-8))) (lv' := [(2, .int (z2 + (-8))), (0, .ref mo), (1, .int z1)]) hx hb e_M_feed_52 hl (k := 2) rfl (rfl) (by decide) rfl (fun ls hl => ?_)
        refine lv_goto (tgt := 22) hx hb e_M_feed_55 (by decide) ?_
        exact ih z1 (z2 + (-8)) σ5 _ _ _ hw h (lv_sub hl [1, 2, 0] rfl)
  have hl : lv_has ls 3 [(0, .ref mo), (1, .int x1)] := hl
  unfold w_M_feed at hw
  refine lv_aload_n hx hb e_M_feed_0 rfl (lv_at hl 0 rfl) ?_
  refine lv_iconst (v := 0) hx hb e_M_feed_1 (by decide) ?_
  refine M_puti C h 0 (by decide) rfl rfl (by decide +kernel) v_0 e_M_feed_2 (fun H locs h => ?_)
  obtain ⟨σ6, e_σ6⟩ : ∃ z : MST, z = setI σ 0 0 := ⟨_, rfl⟩
  rw [← e_σ6] at h
  replace hw := hw σ6 e_σ6
  refine lv_aload_n hx hb e_M_feed_5 rfl (lv_at hl 0 rfl) ?_
  refine M_get C h 24 (v := .int (σ6.1 24)) rfl (by decide) v_47 e_M_feed_6 ?_
  refine lv_iconst (v := 4) hx hb e_M_feed_9 (by decide) ?_
  refine lv_iadd hx hb e_M_feed_10 ?_
  refine lv_sipush (v := 400) hx hb e_M_feed_11 (by decide) ?_
  refine lv_icmp_le (tgt := 19) hx hb e_M_feed_14 (by decide) (fun c7 => ?_) (fun c7 => ?_)
  · skip
    replace hw := hw.1 c7
    refine lv_bipush (v := 24) hx hb e_M_feed_19 (by decide) ?_
    refine lv_istore_n (lv' := [(2, .int 24), (0, .ref mo), (1, .int x1)]) hx hb e_M_feed_21 rfl hl (by decide) rfl (fun ls hl => ?_)
    obtain ⟨n9, hw⟩ := hw
    exact K_22 n9 x1 24 σ6 _ _ _ hw h (lv_sub hl [1, 2, 0] rfl)
  · skip
    replace hw := hw.2 c7
    refine lv_iconst (v := 0) hx hb e_M_feed_17 (by decide) ?_
    exact hend (0 : Int32) σ6 _ _ _ _ rfl hw h e_M_feed_18
abbrev z_M_argumentLocals : MethodName := ⟨"MapFramerModel", "argumentLocals", "(I)I"⟩
theorem e_M_argumentLocals_0 : decode prog_14_method_19_code 0 = .ok (.iconst 0, 1) := by decide +kernel
theorem e_M_argumentLocals_1 : decode prog_14_method_19_code 1 = .ok (.istore_n 2, 1) := by decide +kernel
theorem e_M_argumentLocals_2 : decode prog_14_method_19_code 2 = .ok (.iconst 0, 1) := by decide +kernel
theorem e_M_argumentLocals_3 : decode prog_14_method_19_code 3 = .ok (.istore_n 3, 1) := by decide +kernel
theorem e_M_argumentLocals_4 : decode prog_14_method_19_code 4 = .ok (.iload_n 3, 1) := by decide +kernel
theorem e_M_argumentLocals_5 : decode prog_14_method_19_code 5 = .ok (.aload_n 0, 1) := by decide +kernel
theorem e_M_argumentLocals_6 : decode prog_14_method_19_code 6 = .ok (.getfield 33, 3) := by decide +kernel
theorem e_M_argumentLocals_9 : decode prog_14_method_19_code 9 = .ok (.iload_n 1, 1) := by decide +kernel
theorem e_M_argumentLocals_10 : decode prog_14_method_19_code 10 = .ok (.iaload, 1) := by decide +kernel
theorem e_M_argumentLocals_11 : decode prog_14_method_19_code 11 = .ok (.if_icmp .ge 31, 3) := by decide +kernel
theorem e_M_argumentLocals_14 : decode prog_14_method_19_code 14 = .ok (.iload_n 2, 1) := by decide +kernel
theorem e_M_argumentLocals_15 : decode prog_14_method_19_code 15 = .ok (.aload_n 0, 1) := by decide +kernel
theorem e_M_argumentLocals_16 : decode prog_14_method_19_code 16 = .ok (.getfield 30, 3) := by decide +kernel
theorem e_M_argumentLocals_19 : decode prog_14_method_19_code 19 = .ok (.iconst 4, 1) := by decide +kernel
theorem e_M_argumentLocals_20 : decode prog_14_method_19_code 20 = .ok (.iload_n 1, 1) := by decide +kernel
theorem e_M_argumentLocals_21 : decode prog_14_method_19_code 21 = .ok (.imul, 1) := by decide +kernel
theorem e_M_argumentLocals_22 : decode prog_14_method_19_code 22 = .ok (.iload_n 3, 1) := by decide +kernel
theorem e_M_argumentLocals_23 : decode prog_14_method_19_code 23 = .ok (.iadd, 1) := by decide +kernel
theorem e_M_argumentLocals_24 : decode prog_14_method_19_code 24 = .ok (.iaload, 1) := by decide +kernel
theorem e_M_argumentLocals_25 : decode prog_14_method_19_code 25 = .ok (.iconst 2, 1) := by decide +kernel
theorem e_M_argumentLocals_26 : decode prog_14_method_19_code 26 = .ok (.if_icmp .ne 7, 3) := by decide +kernel
theorem e_M_argumentLocals_29 : decode prog_14_method_19_code 29 = .ok (.iconst 2, 1) := by decide +kernel
theorem e_M_argumentLocals_30 : decode prog_14_method_19_code 30 = .ok (.goto 4, 3) := by decide +kernel
theorem e_M_argumentLocals_33 : decode prog_14_method_19_code 33 = .ok (.iconst 1, 1) := by decide +kernel
theorem e_M_argumentLocals_34 : decode prog_14_method_19_code 34 = .ok (.iadd, 1) := by decide +kernel
theorem e_M_argumentLocals_35 : decode prog_14_method_19_code 35 = .ok (.istore_n 2, 1) := by decide +kernel
theorem e_M_argumentLocals_36 : decode prog_14_method_19_code 36 = .ok (.iinc 3 1, 3) := by decide +kernel
theorem e_M_argumentLocals_39 : decode prog_14_method_19_code 39 = .ok (.goto (-35), 3) := by decide +kernel
theorem e_M_argumentLocals_42 : decode prog_14_method_19_code 42 = .ok (.iload_n 2, 1) := by decide +kernel
theorem e_M_argumentLocals_43 : decode prog_14_method_19_code 43 = .ok (.ireturn, 1) := by decide +kernel
def w_M_argumentLocals_34 (K4 : Int32 → Int32 → Int32 → MST → Prop) (P : Int32 → MST → Prop) (z1 : Int32) (z3 : Int32) (s0 : Int32) (s1 : Int32) (σ : MST) : Prop := K4 z1 (s1 + s0) (z3 + 1) σ
def w_M_argumentLocals_4 (P : Int32 → MST → Prop) : Nat → Int32 → Int32 → Int32 → MST → Prop
  | 0, _, _, _, _ => False
  | n + 1, z1, z2, z3, σ => vp_in z1 8 ∧ (∀ a1 : Int32, a1 = (σ.2.1 10 (z1 : Int32).toNatClampNeg) → ((a1 ≤ z3 → P z2 σ) ∧ (¬ a1 ≤ z3 → vp_in (((4 : Int32) * z1) + z3) 32 ∧ (∀ a3 : Int32, a3 = (σ.2.1 9 ((((4 : Int32) * z1) + z3) : Int32).toNatClampNeg) → ((a3 = 2 → w_M_argumentLocals_34 (w_M_argumentLocals_4 P n) P z1 z3 2 z2 σ) ∧ (¬ a3 = 2 → w_M_argumentLocals_34 (w_M_argumentLocals_4 P n) P z1 z3 1 z2 σ))))))
def w_M_argumentLocals (x1 : Int32) (σ : MST) (P : Int32 → MST → Prop) : Prop := (∃ n9 : Nat, w_M_argumentLocals_4 P n9 x1 0 0 σ)
set_option maxHeartbeats 4000000 in
set_option maxRecDepth 100000 in
theorem K_M_argumentLocals (l : Launch) (dC : Nat → ClassId) (dI : Nat → Nat → Nat) (mo : Nat) (rf : Nat → Nat) (ca : Nat → ClassId) (sz : Nat) (σ : MST) (x1 : Int32) {P : Int32 → MST → Prop} (hw : w_M_argumentLocals x1 σ P) : Met l z_M_argumentLocals (mW z_M_argumentLocals prog_14_method_19_code 4 (some .int)) ({ frames := 0, cells := 0, slots := 0, locals := 0 } : Room) (va_Pc [.ref mo, .int x1] (MPre (dC, dI) mo rf ca σ sz)) (va_Qi P (MB (dC, dI) mo rf ca sz) (mA mo rf sz)) 0 0 (mA mo rf sz) := by
  refine M_ofi (by decide) rfl (Nat.le_of_ble_eq_true rfl) ?_
  intro p e s m below meth cx Q A ls C hA hend h hl
  have C0 := C
  obtain ⟨⟨hx, hb, hml, hown, hts⟩, hsub⟩ := C0
  have K_34 : ∀ (K4 : Int32 → Int32 → Int32 → MST → Prop) (hK4 : ∀ (z1 : Int32) (z2 : Int32) (z3 : Int32) (σ : MST) (H : Heap) (locs : List Loc) (ls : Array Slot), K4 z1 z2 z3 σ → MH (dC, dI) A mo rf ca σ s H locs → lv_has ls 4 [(0, .ref mo), (1, .int z1), (2, .int z2), (3, .int z3)] → W p l e ({ frames := 0, cells := 0, slots := 0, locals := 0 } : Room) s m ([.ref mo, .int x1] : List Value).toArray below meth cx H locs 0 0 Q (F0 m 4 ls [])), ∀ (z1 : Int32) (z3 : Int32) (s0 : Int32) (s1 : Int32) (σ : MST) (H : Heap) (locs : List Loc) (ls : Array Slot), w_M_argumentLocals_34 K4 P z1 z3 s0 s1 σ → MH (dC, dI) A mo rf ca σ s H locs → lv_has ls 4 [(0, .ref mo), (1, .int z1), (3, .int z3)] → W p l e ({ frames := 0, cells := 0, slots := 0, locals := 0 } : Room) s m ([.ref mo, .int x1] : List Value).toArray below meth cx H locs 0 0 Q (F0 m 34 ls [.int s0, .int s1]) := by
    intro K4 hK4 z1 z3 s0 s1 σ H locs ls hw h hl
    unfold w_M_argumentLocals_34 at hw
    refine lv_iadd hx hb e_M_argumentLocals_34 ?_
    refine lv_istore_n (lv' := [(2, .int (s1 + s0)), (0, .ref mo), (1, .int z1), (3, .int z3)]) hx hb e_M_argumentLocals_35 rfl hl (by decide) rfl (fun ls hl => ?_)
    refine lv_iinc (v := (z3 + 1)) (lv' := [(3, .int (z3 + 1)), (2, .int (s1 + s0)), (0, .ref mo), (1, .int z1)]) hx hb e_M_argumentLocals_36 hl (k := 3) rfl (rfl) (by decide) rfl (fun ls hl => ?_)
    refine lv_goto (tgt := 4) hx hb e_M_argumentLocals_39 (by decide) ?_
    exact hK4 z1 (s1 + s0) (z3 + 1) σ _ _ _ hw h (lv_sub hl [2, 3, 1, 0] rfl)
  have K_4 : ∀ (n : Nat), ∀ (z1 : Int32) (z2 : Int32) (z3 : Int32) (σ : MST) (H : Heap) (locs : List Loc) (ls : Array Slot), w_M_argumentLocals_4 P n z1 z2 z3 σ → MH (dC, dI) A mo rf ca σ s H locs → lv_has ls 4 [(0, .ref mo), (1, .int z1), (2, .int z2), (3, .int z3)] → W p l e ({ frames := 0, cells := 0, slots := 0, locals := 0 } : Room) s m ([.ref mo, .int x1] : List Value).toArray below meth cx H locs 0 0 Q (F0 m 4 ls []) := by
    intro  n
    induction n with
    | zero => intro z1 z2 z3 σ H locs ls hw h hl; unfold w_M_argumentLocals_4 at hw; exact hw.elim
    | succ n ih =>
      intro z1 z2 z3 σ H locs ls hw h hl
      unfold w_M_argumentLocals_4 at hw
      refine lv_iload_n hx hb e_M_argumentLocals_4 rfl (lv_at hl 3 rfl) ?_
      refine lv_aload_n hx hb e_M_argumentLocals_5 rfl (lv_at hl 0 rfl) ?_
      refine M_get C h 10 (v := .ref (rf 10)) rfl (by decide) v_42 e_M_argumentLocals_6 ?_
      refine lv_iload_n hx hb e_M_argumentLocals_9 rfl (lv_at hl 1 rfl) ?_
      refine M_ald C h 10 (by decide) rfl hw.1 e_M_argumentLocals_10 ?_
      replace hw := hw.2
      refine lv_topi (fun a1 e_a1 => ?_)
      replace hw := hw a1 e_a1
      refine lv_icmp_ge (tgt := 42) hx hb e_M_argumentLocals_11 (by decide) (fun c2 => ?_) (fun c2 => ?_)
      · skip
        replace hw := hw.1 c2
        refine lv_iload_n hx hb e_M_argumentLocals_42 rfl (lv_at hl 2 rfl) ?_
        exact hend z2 σ _ _ _ _ hw h e_M_argumentLocals_43
      · skip
        replace hw := hw.2 c2
        refine lv_iload_n hx hb e_M_argumentLocals_14 rfl (lv_at hl 2 rfl) ?_
        refine lv_aload_n hx hb e_M_argumentLocals_15 rfl (lv_at hl 0 rfl) ?_
        refine M_get C h 9 (v := .ref (rf 9)) rfl (by decide) v_45 e_M_argumentLocals_16 ?_
        refine lv_iconst (v := 4) hx hb e_M_argumentLocals_19 (by decide) ?_
        refine lv_iload_n hx hb e_M_argumentLocals_20 rfl (lv_at hl 1 rfl) ?_
        refine lv_imul hx hb e_M_argumentLocals_21 ?_
        refine lv_iload_n hx hb e_M_argumentLocals_22 rfl (lv_at hl 3 rfl) ?_
        refine lv_iadd hx hb e_M_argumentLocals_23 ?_
        refine M_ald C h 9 (by decide) rfl hw.1 e_M_argumentLocals_24 ?_
        replace hw := hw.2
        refine lv_topi (fun a3 e_a3 => ?_)
        replace hw := hw a3 e_a3
        refine lv_iconst (v := 2) hx hb e_M_argumentLocals_25 (by decide) ?_
        refine lv_icmp_ne (tgt := 33) hx hb e_M_argumentLocals_26 (by decide) (fun c4 => ?_) (fun c4 => ?_)
        · skip
          replace hw := hw.2 c4
          refine lv_iconst (v := 1) hx hb e_M_argumentLocals_33 (by decide) ?_
          exact K_34 _ ih z1 z3 1 z2 σ _ _ _ hw h (lv_sub hl [0, 1, 3] rfl)
        · skip
          replace hw := hw.1 c4
          refine lv_iconst (v := 2) hx hb e_M_argumentLocals_29 (by decide) ?_
          refine lv_goto (tgt := 34) hx hb e_M_argumentLocals_30 (by decide) ?_
          exact K_34 _ ih z1 z3 2 z2 σ _ _ _ hw h (lv_sub hl [0, 1, 3] rfl)
  have hl : lv_has ls 4 [(0, .ref mo), (1, .int x1)] := hl
  unfold w_M_argumentLocals at hw
  refine lv_iconst (v := 0) hx hb e_M_argumentLocals_0 (by decide) ?_
  refine lv_istore_n (lv' := [(2, .int 0), (0, .ref mo), (1, .int x1)]) hx hb e_M_argumentLocals_1 rfl hl (by decide) rfl (fun ls hl => ?_)
  refine lv_iconst (v := 0) hx hb e_M_argumentLocals_2 (by decide) ?_
  refine lv_istore_n (lv' := [(3, .int 0), (2, .int 0), (0, .ref mo), (1, .int x1)]) hx hb e_M_argumentLocals_3 rfl hl (by decide) rfl (fun ls hl => ?_)
  obtain ⟨n9, hw⟩ := hw
  exact K_4 n9 x1 0 0 σ _ _ _ hw h (lv_sub hl [2, 3, 1, 0] rfl)
abbrev z_M_code : MethodName := ⟨"MapFramerModel", "code", "(IIII)V"⟩
theorem v_48 : (Cond.fieldLink "MapFramerModel" 45 "MapFramerModel" "maxStack" "[I" : Cond) ∈ bigW := inB_8 75 (by decide +kernel) rfl
theorem v_49 : (Cond.fieldLink "MapFramerModel" 48 "MapFramerModel" "maxLocals" "[I" : Cond) ∈ bigW := inB_8 76 (by decide +kernel) rfl
theorem v_50 : (Cond.fieldLink "MapFramerModel" 42 "MapFramerModel" "codes" "[I" : Cond) ∈ bigW := inB_8 74 (by decide +kernel) rfl
theorem v_51 : (Cond.fieldLink "MapFramerModel" 39 "MapFramerModel" "sizes" "[I" : Cond) ∈ bigW := inB_8 73 (by decide +kernel) rfl
theorem v_52 : (Cond.methodLink "MapFramerModel" 215 ⟨"MapFramerModel", "argumentLocals", "(I)I"⟩ : Cond) ∈ bigW := inB_9 74 (by decide +kernel) rfl
theorem v_53 : (Cond.instanceMethod ⟨"MapFramerModel", "argumentLocals", "(I)I"⟩ : Cond) ∈ bigW := inB_9 76 (by decide +kernel) rfl
theorem v_54 : (Cond.selects "MapFramerModel" ⟨"MapFramerModel", "argumentLocals", "(I)I"⟩ ⟨"MapFramerModel", "argumentLocals", "(I)I"⟩ : Cond) ∈ bigW := inS (y := ⟨"MapFramerModel", "argumentLocals", "(I)I"⟩) (n := 71) (List.mem_of_getElem? (i := 82) (by decide +kernel))
theorem v_55 : (Cond.code ⟨"MapFramerModel", "argumentLocals", "(I)I"⟩ prog_14_method_19_code 4 (some .int) : Cond) ∈ bigW := inB_9 77 rfl rfl
theorem v_56 : (Cond.methodLink "MapFramerModel" 212 ⟨"MapFramerModel", "isMethod", "(I)Z"⟩ : Cond) ∈ bigW := inB_9 70 (by decide +kernel) rfl
theorem v_57 : (Cond.instanceMethod ⟨"MapFramerModel", "isMethod", "(I)Z"⟩ : Cond) ∈ bigW := inB_9 72 (by decide +kernel) rfl
theorem v_58 : (Cond.selects "MapFramerModel" ⟨"MapFramerModel", "isMethod", "(I)Z"⟩ ⟨"MapFramerModel", "isMethod", "(I)Z"⟩ : Cond) ∈ bigW := inS (y := ⟨"MapFramerModel", "isMethod", "(I)Z"⟩) (n := 71) (List.mem_of_getElem? (i := 81) (by decide +kernel))
theorem v_59 : (Cond.code ⟨"MapFramerModel", "isMethod", "(I)Z"⟩ prog_14_method_17_code 2 (some .boolean) : Cond) ∈ bigW := inB_9 73 rfl rfl
theorem e_M_code_0 : decode prog_14_method_20_code 0 = .ok (.aload_n 0, 1) := by decide +kernel
theorem e_M_code_1 : decode prog_14_method_20_code 1 = .ok (.getfield 209, 3) := by decide +kernel
theorem e_M_code_4 : decode prog_14_method_20_code 4 = .ok (.istore 5, 2) := by decide +kernel
theorem e_M_code_6 : decode prog_14_method_20_code 6 = .ok (.aload_n 0, 1) := by decide +kernel
theorem e_M_code_7 : decode prog_14_method_20_code 7 = .ok (.iconst 0, 1) := by decide +kernel
theorem e_M_code_8 : decode prog_14_method_20_code 8 = .ok (.putfield 209, 3) := by decide +kernel
theorem e_M_code_11 : decode prog_14_method_20_code 11 = .ok (.aload_n 0, 1) := by decide +kernel
theorem e_M_code_12 : decode prog_14_method_20_code 12 = .ok (.iload_n 1, 1) := by decide +kernel
theorem e_M_code_13 : decode prog_14_method_20_code 13 = .ok (.invokevirtual 212, 3) := by decide +kernel
theorem e_M_code_16 : decode prog_14_method_20_code 16 = .ok (.ifCond .eq 40, 3) := by decide +kernel
theorem e_M_code_19 : decode prog_14_method_20_code 19 = .ok (.iload_n 2, 1) := by decide +kernel
theorem e_M_code_20 : decode prog_14_method_20_code 20 = .ok (.ifCond .le 36, 3) := by decide +kernel
theorem e_M_code_23 : decode prog_14_method_20_code 23 = .ok (.iload_n 2, 1) := by decide +kernel
theorem e_M_code_24 : decode prog_14_method_20_code 24 = .ok (.bipush 120, 2) := by decide +kernel
theorem e_M_code_26 : decode prog_14_method_20_code 26 = .ok (.if_icmp .gt 30, 3) := by decide +kernel
theorem e_M_code_29 : decode prog_14_method_20_code 29 = .ok (.iload_n 2, 1) := by decide +kernel
theorem e_M_code_30 : decode prog_14_method_20_code 30 = .ok (.iload 5, 2) := by decide +kernel
theorem e_M_code_32 : decode prog_14_method_20_code 32 = .ok (.if_icmp .gt 24, 3) := by decide +kernel
theorem e_M_code_35 : decode prog_14_method_20_code 35 = .ok (.iload_n 3, 1) := by decide +kernel
theorem e_M_code_36 : decode prog_14_method_20_code 36 = .ok (.ifCond .lt 20, 3) := by decide +kernel
theorem e_M_code_39 : decode prog_14_method_20_code 39 = .ok (.iload_n 3, 1) := by decide +kernel
theorem e_M_code_40 : decode prog_14_method_20_code 40 = .ok (.bipush 13, 2) := by decide +kernel
theorem e_M_code_42 : decode prog_14_method_20_code 42 = .ok (.if_icmp .ge 14, 3) := by decide +kernel
theorem e_M_code_45 : decode prog_14_method_20_code 45 = .ok (.iload 4, 2) := by decide +kernel
theorem e_M_code_47 : decode prog_14_method_20_code 47 = .ok (.bipush 13, 2) := by decide +kernel
theorem e_M_code_49 : decode prog_14_method_20_code 49 = .ok (.if_icmp .ge 7, 3) := by decide +kernel
theorem e_M_code_52 : decode prog_14_method_20_code 52 = .ok (.iconst 1, 1) := by decide +kernel
theorem e_M_code_53 : decode prog_14_method_20_code 53 = .ok (.goto 4, 3) := by decide +kernel
theorem e_M_code_56 : decode prog_14_method_20_code 56 = .ok (.iconst 0, 1) := by decide +kernel
theorem e_M_code_57 : decode prog_14_method_20_code 57 = .ok (.istore 6, 2) := by decide +kernel
theorem e_M_code_59 : decode prog_14_method_20_code 59 = .ok (.aload_n 0, 1) := by decide +kernel
theorem e_M_code_60 : decode prog_14_method_20_code 60 = .ok (.iload 6, 2) := by decide +kernel
theorem e_M_code_62 : decode prog_14_method_20_code 62 = .ok (.ifCond .eq 22, 3) := by decide +kernel
theorem e_M_code_65 : decode prog_14_method_20_code 65 = .ok (.iload 4, 2) := by decide +kernel
theorem e_M_code_67 : decode prog_14_method_20_code 67 = .ok (.aload_n 0, 1) := by decide +kernel
theorem e_M_code_68 : decode prog_14_method_20_code 68 = .ok (.iload 6, 2) := by decide +kernel
theorem e_M_code_70 : decode prog_14_method_20_code 70 = .ok (.ifCond .eq 7, 3) := by decide +kernel
theorem e_M_code_73 : decode prog_14_method_20_code 73 = .ok (.iload_n 1, 1) := by decide +kernel
theorem e_M_code_74 : decode prog_14_method_20_code 74 = .ok (.goto 4, 3) := by decide +kernel
theorem e_M_code_77 : decode prog_14_method_20_code 77 = .ok (.iconst 0, 1) := by decide +kernel
theorem e_M_code_78 : decode prog_14_method_20_code 78 = .ok (.invokevirtual 215, 3) := by decide +kernel
theorem e_M_code_81 : decode prog_14_method_20_code 81 = .ok (.if_icmp .ge 7, 3) := by decide +kernel
theorem e_M_code_84 : decode prog_14_method_20_code 84 = .ok (.iconst 1, 1) := by decide +kernel
theorem e_M_code_85 : decode prog_14_method_20_code 85 = .ok (.goto 17, 3) := by decide +kernel
theorem e_M_code_88 : decode prog_14_method_20_code 88 = .ok (.aload_n 0, 1) := by decide +kernel
theorem e_M_code_89 : decode prog_14_method_20_code 89 = .ok (.getfield 39, 3) := by decide +kernel
theorem e_M_code_92 : decode prog_14_method_20_code 92 = .ok (.iload_n 1, 1) := by decide +kernel
theorem e_M_code_93 : decode prog_14_method_20_code 93 = .ok (.iaload, 1) := by decide +kernel
theorem e_M_code_94 : decode prog_14_method_20_code 94 = .ok (.ifCond .le 7, 3) := by decide +kernel
theorem e_M_code_97 : decode prog_14_method_20_code 97 = .ok (.iconst 2, 1) := by decide +kernel
theorem e_M_code_98 : decode prog_14_method_20_code 98 = .ok (.goto 4, 3) := by decide +kernel
theorem e_M_code_101 : decode prog_14_method_20_code 101 = .ok (.iconst 0, 1) := by decide +kernel
theorem e_M_code_102 : decode prog_14_method_20_code 102 = .ok (.putfield 169, 3) := by decide +kernel
theorem e_M_code_105 : decode prog_14_method_20_code 105 = .ok (.aload_n 0, 1) := by decide +kernel
theorem e_M_code_106 : decode prog_14_method_20_code 106 = .ok (.getfield 169, 3) := by decide +kernel
theorem e_M_code_109 : decode prog_14_method_20_code 109 = .ok (.ifCond .le 4, 3) := by decide +kernel
theorem e_M_code_112 : decode prog_14_method_20_code 112 = .ok (.return_, 1) := by decide +kernel
theorem e_M_code_113 : decode prog_14_method_20_code 113 = .ok (.aload_n 0, 1) := by decide +kernel
theorem e_M_code_114 : decode prog_14_method_20_code 114 = .ok (.getfield 39, 3) := by decide +kernel
theorem e_M_code_117 : decode prog_14_method_20_code 117 = .ok (.iload_n 1, 1) := by decide +kernel
theorem e_M_code_118 : decode prog_14_method_20_code 118 = .ok (.iload_n 2, 1) := by decide +kernel
theorem e_M_code_119 : decode prog_14_method_20_code 119 = .ok (.iastore, 1) := by decide +kernel
theorem e_M_code_120 : decode prog_14_method_20_code 120 = .ok (.iconst 0, 1) := by decide +kernel
theorem e_M_code_121 : decode prog_14_method_20_code 121 = .ok (.istore 7, 2) := by decide +kernel
theorem e_M_code_123 : decode prog_14_method_20_code 123 = .ok (.iload 7, 2) := by decide +kernel
theorem e_M_code_125 : decode prog_14_method_20_code 125 = .ok (.iload_n 2, 1) := by decide +kernel
theorem e_M_code_126 : decode prog_14_method_20_code 126 = .ok (.if_icmp .ge 28, 3) := by decide +kernel
theorem e_M_code_129 : decode prog_14_method_20_code 129 = .ok (.aload_n 0, 1) := by decide +kernel
theorem e_M_code_130 : decode prog_14_method_20_code 130 = .ok (.getfield 42, 3) := by decide +kernel
theorem e_M_code_133 : decode prog_14_method_20_code 133 = .ok (.bipush 120, 2) := by decide +kernel
theorem e_M_code_135 : decode prog_14_method_20_code 135 = .ok (.iload_n 1, 1) := by decide +kernel
theorem e_M_code_136 : decode prog_14_method_20_code 136 = .ok (.imul, 1) := by decide +kernel
theorem e_M_code_137 : decode prog_14_method_20_code 137 = .ok (.iload 7, 2) := by decide +kernel
theorem e_M_code_139 : decode prog_14_method_20_code 139 = .ok (.iadd, 1) := by decide +kernel
theorem e_M_code_140 : decode prog_14_method_20_code 140 = .ok (.aload_n 0, 1) := by decide +kernel
theorem e_M_code_141 : decode prog_14_method_20_code 141 = .ok (.getfield 75, 3) := by decide +kernel
theorem e_M_code_144 : decode prog_14_method_20_code 144 = .ok (.iload 7, 2) := by decide +kernel
theorem e_M_code_146 : decode prog_14_method_20_code 146 = .ok (.iaload, 1) := by decide +kernel
theorem e_M_code_147 : decode prog_14_method_20_code 147 = .ok (.iastore, 1) := by decide +kernel
theorem e_M_code_148 : decode prog_14_method_20_code 148 = .ok (.iinc 7 1, 3) := by decide +kernel
theorem e_M_code_151 : decode prog_14_method_20_code 151 = .ok (.goto (-28), 3) := by decide +kernel
theorem e_M_code_154 : decode prog_14_method_20_code 154 = .ok (.aload_n 0, 1) := by decide +kernel
theorem e_M_code_155 : decode prog_14_method_20_code 155 = .ok (.getfield 45, 3) := by decide +kernel
theorem e_M_code_158 : decode prog_14_method_20_code 158 = .ok (.iload_n 1, 1) := by decide +kernel
theorem e_M_code_159 : decode prog_14_method_20_code 159 = .ok (.iload_n 3, 1) := by decide +kernel
theorem e_M_code_160 : decode prog_14_method_20_code 160 = .ok (.iastore, 1) := by decide +kernel
theorem e_M_code_161 : decode prog_14_method_20_code 161 = .ok (.aload_n 0, 1) := by decide +kernel
theorem e_M_code_162 : decode prog_14_method_20_code 162 = .ok (.getfield 48, 3) := by decide +kernel
theorem e_M_code_165 : decode prog_14_method_20_code 165 = .ok (.iload_n 1, 1) := by decide +kernel
theorem e_M_code_166 : decode prog_14_method_20_code 166 = .ok (.iload 4, 2) := by decide +kernel
theorem e_M_code_168 : decode prog_14_method_20_code 168 = .ok (.iastore, 1) := by decide +kernel
theorem e_M_code_169 : decode prog_14_method_20_code 169 = .ok (.return_, 1) := by decide +kernel
def w_M_code_123 (P : MST → Prop) : Nat → Int32 → Int32 → Int32 → Int32 → Int32 → MST → Prop
  | 0, _, _, _, _, _, _ => False
  | n + 1, z1, z2, z3, z4, z7, σ => ((z2 ≤ z7 → vp_in z1 8 ∧ (∀ σ2 : MST, σ2 = setA σ 14 (upd (σ.2.1 14) (z1 : Int32).toNatClampNeg z3) → vp_in z1 8 ∧ (∀ σ3 : MST, σ3 = setA σ2 15 (upd (σ2.2.1 15) (z1 : Int32).toNatClampNeg z4) → P σ3))) ∧ (¬ z2 ≤ z7 → vp_in z7 400 ∧ (∀ a4 : Int32, a4 = (σ.2.1 25 (z7 : Int32).toNatClampNeg) → vp_in (((120 : Int32) * z1) + z7) 960 ∧ (∀ σ5 : MST, σ5 = setA σ 13 (upd (σ.2.1 13) ((((120 : Int32) * z1) + z7) : Int32).toNatClampNeg a4) → w_M_code_123 P n z1 z2 z3 z4 (z7 + 1) σ5))))
def w_M_code_102 (P : MST → Prop) (z1 : Int32) (z2 : Int32) (z3 : Int32) (z4 : Int32) (s0 : Int32) (σ : MST) : Prop := ∀ σ6 : MST, σ6 = setI σ 0 s0 → (((σ6.1 0) ≤ 0 → vp_in z1 8 ∧ (∀ σ8 : MST, σ8 = setA σ6 12 (upd (σ6.2.1 12) (z1 : Int32).toNatClampNeg z2) → (∃ n9 : Nat, w_M_code_123 P n9 z1 z2 z3 z4 0 σ8))) ∧ (¬ (σ6.1 0) ≤ 0 → P σ6))
def w_M_code_84 (P : MST → Prop) (z1 : Int32) (z2 : Int32) (z3 : Int32) (z4 : Int32) (σ : MST) : Prop := w_M_code_102 P z1 z2 z3 z4 1 σ
def w_M_code_78 (P : MST → Prop) (z1 : Int32) (z2 : Int32) (z3 : Int32) (z4 : Int32) (s0 : Int32) (s2 : Int32) (σ : MST) : Prop := w_M_argumentLocals s0 σ (fun r10 σ9 => ((r10 ≤ s2 → vp_in z1 8 ∧ (∀ a12 : Int32, a12 = (σ9.2.1 12 (z1 : Int32).toNatClampNeg) → ((a12 ≤ 0 → w_M_code_102 P z1 z2 z3 z4 0 σ9) ∧ (¬ a12 ≤ 0 → w_M_code_102 P z1 z2 z3 z4 2 σ9)))) ∧ (¬ r10 ≤ s2 → w_M_code_84 P z1 z2 z3 z4 σ9)))
def w_M_code_57 (P : MST → Prop) (z1 : Int32) (z2 : Int32) (z3 : Int32) (z4 : Int32) (s0 : Int32) (σ : MST) : Prop := ((s0 = 0 → w_M_code_84 P z1 z2 z3 z4 σ) ∧ (¬ s0 = 0 → ((s0 = 0 → w_M_code_78 P z1 z2 z3 z4 0 z4 σ) ∧ (¬ s0 = 0 → w_M_code_78 P z1 z2 z3 z4 z1 z4 σ))))
def w_M_code_56 (P : MST → Prop) (z1 : Int32) (z2 : Int32) (z3 : Int32) (z4 : Int32) (σ : MST) : Prop := w_M_code_57 P z1 z2 z3 z4 0 σ
def w_M_code (x1 : Int32) (x2 : Int32) (x3 : Int32) (x4 : Int32) (σ : MST) (P : MST → Prop) : Prop := ∀ σ16 : MST, σ16 = setI σ 24 0 → w_M_isMethod x1 σ16 (fun r18 σ17 => ((r18 = 0 → w_M_code_56 P x1 x2 x3 x4 σ17) ∧ (¬ r18 = 0 → ((x2 ≤ 0 → w_M_code_56 P x1 x2 x3 x4 σ17) ∧ (¬ x2 ≤ 0 → ((120 < x2 → w_M_code_56 P x1 x2 x3 x4 σ17) ∧ (¬ 120 < x2 → (((σ.1 24) < x2 → w_M_code_56 P x1 x2 x3 x4 σ17) ∧ (¬ (σ.1 24) < x2 → ((x3 < 0 → w_M_code_56 P x1 x2 x3 x4 σ17) ∧ (¬ x3 < 0 → ((13 ≤ x3 → w_M_code_56 P x1 x2 x3 x4 σ17) ∧ (¬ 13 ≤ x3 → ((13 ≤ x4 → w_M_code_56 P x1 x2 x3 x4 σ17) ∧ (¬ 13 ≤ x4 → w_M_code_57 P x1 x2 x3 x4 1 σ17)))))))))))))))
set_option maxHeartbeats 4000000 in
set_option maxRecDepth 100000 in
theorem K_M_code (l : Launch) (dC : Nat → ClassId) (dI : Nat → Nat → Nat) (mo : Nat) (rf : Nat → Nat) (ca : Nat → ClassId) (sz : Nat) (σ : MST) (x1 : Int32) (x2 : Int32) (x3 : Int32) (x4 : Int32) {P : MST → Prop} (hw : w_M_code x1 x2 x3 x4 σ P) : Met l z_M_code (mW z_M_code prog_14_method_20_code 8 none) ({ frames := 1, cells := 0, slots := 0, locals := 23 } : Room) (va_Pc [.ref mo, .int x1, .int x2, .int x3, .int x4] (MPre (dC, dI) mo rf ca σ sz)) (va_Qv P (MB (dC, dI) mo rf ca sz) (mA mo rf sz)) 0 0 (mA mo rf sz) := by
  refine M_ofv (by decide) rfl (Nat.le_of_ble_eq_true rfl) ?_
  intro p e s m below meth cx Q A ls C hA hend h hl
  have C0 := C
  obtain ⟨⟨hx, hb, hml, hown, hts⟩, hsub⟩ := C0
  have K_123 : ∀ (n : Nat), ∀ (z1 : Int32) (z2 : Int32) (z3 : Int32) (z4 : Int32) (z7 : Int32) (σ : MST) (H : Heap) (locs : List Loc) (ls : Array Slot), w_M_code_123 P n z1 z2 z3 z4 z7 σ → MH (dC, dI) A mo rf ca σ s H locs → lv_has ls 8 [(0, .ref mo), (1, .int z1), (2, .int z2), (3, .int z3), (4, .int z4), (7, .int z7)] → W p l e ({ frames := 1, cells := 0, slots := 0, locals := 23 } : Room) s m ([.ref mo, .int x1, .int x2, .int x3, .int x4] : List Value).toArray below meth cx H locs 0 0 Q (F0 m 123 ls []) := by
    intro  n
    induction n with
    | zero => intro z1 z2 z3 z4 z7 σ H locs ls hw h hl; unfold w_M_code_123 at hw; exact hw.elim
    | succ n ih =>
      intro z1 z2 z3 z4 z7 σ H locs ls hw h hl
      unfold w_M_code_123 at hw
      refine lv_iload hx hb e_M_code_123 (lv_at hl 5 rfl) ?_
      refine lv_iload_n hx hb e_M_code_125 rfl (lv_at hl 2 rfl) ?_
      refine lv_icmp_ge (tgt := 154) hx hb e_M_code_126 (by decide) (fun c1 => ?_) (fun c1 => ?_)
      · skip
        replace hw := hw.1 c1
        refine lv_aload_n hx hb e_M_code_154 rfl (lv_at hl 0 rfl) ?_
        refine M_get C h 14 (v := .ref (rf 14)) rfl (by decide) v_48 e_M_code_155 ?_
        refine lv_iload_n hx hb e_M_code_158 rfl (lv_at hl 1 rfl) ?_
        refine lv_iload_n hx hb e_M_code_159 rfl (lv_at hl 3 rfl) ?_
        refine M_ast C h 14 (by decide) rfl hw.1 e_M_code_160 (fun H locs h => ?_)
        replace hw := hw.2
        obtain ⟨σ2, e_σ2⟩ : ∃ z : MST, z = setA σ 14 (upd (σ.2.1 14) (z1 : Int32).toNatClampNeg z3) := ⟨_, rfl⟩
        rw [← e_σ2] at h
        replace hw := hw σ2 e_σ2
        refine lv_aload_n hx hb e_M_code_161 rfl (lv_at hl 0 rfl) ?_
        refine M_get C h 15 (v := .ref (rf 15)) rfl (by decide) v_49 e_M_code_162 ?_
        refine lv_iload_n hx hb e_M_code_165 rfl (lv_at hl 1 rfl) ?_
        refine lv_iload hx hb e_M_code_166 (lv_at hl 4 rfl) ?_
        refine M_ast C h 15 (by decide) rfl hw.1 e_M_code_168 (fun H locs h => ?_)
        replace hw := hw.2
        obtain ⟨σ3, e_σ3⟩ : ∃ z : MST, z = setA σ2 15 (upd (σ2.2.1 15) (z1 : Int32).toNatClampNeg z4) := ⟨_, rfl⟩
        rw [← e_σ3] at h
        replace hw := hw σ3 e_σ3
        exact hend σ3 _ _ _ _ hw h e_M_code_169
      · skip
        replace hw := hw.2 c1
        refine lv_aload_n hx hb e_M_code_129 rfl (lv_at hl 0 rfl) ?_
        refine M_get C h 13 (v := .ref (rf 13)) rfl (by decide) v_50 e_M_code_130 ?_
        refine lv_bipush (v := 120) hx hb e_M_code_133 (by decide) ?_
        refine lv_iload_n hx hb e_M_code_135 rfl (lv_at hl 1 rfl) ?_
        refine lv_imul hx hb e_M_code_136 ?_
        refine lv_iload hx hb e_M_code_137 (lv_at hl 5 rfl) ?_
        refine lv_iadd hx hb e_M_code_139 ?_
        refine lv_aload_n hx hb e_M_code_140 rfl (lv_at hl 0 rfl) ?_
        refine M_get C h 25 (v := .ref (rf 25)) rfl (by decide) v_46 e_M_code_141 ?_
        refine lv_iload hx hb e_M_code_144 (lv_at hl 5 rfl) ?_
        refine M_ald C h 25 (by decide) rfl hw.1 e_M_code_146 ?_
        replace hw := hw.2
        refine lv_topi (fun a4 e_a4 => ?_)
        replace hw := hw a4 e_a4
        refine M_ast C h 13 (by decide) rfl hw.1 e_M_code_147 (fun H locs h => ?_)
        replace hw := hw.2
        obtain ⟨σ5, e_σ5⟩ : ∃ z : MST, z = setA σ 13 (upd (σ.2.1 13) ((((120 : Int32) * z1) + z7) : Int32).toNatClampNeg a4) := ⟨_, rfl⟩
        rw [← e_σ5] at h
        replace hw := hw σ5 e_σ5
        refine lv_iinc (v := (z7 + 1)) (lv' := [(7, .int (z7 + 1)), (0, .ref mo), (1, .int z1), (2, .int z2), (3, .int z3), (4, .int z4)]) hx hb e_M_code_148 hl (k := 5) rfl (rfl) (by decide) rfl (fun ls hl => ?_)
        refine lv_goto (tgt := 123) hx hb e_M_code_151 (by decide) ?_
        exact ih z1 z2 z3 z4 (z7 + 1) σ5 _ _ _ hw h (lv_sub hl [1, 2, 3, 4, 5, 0] rfl)
  have K_102 : ∀ (u9 : Unit), ∀ (z1 : Int32) (z2 : Int32) (z3 : Int32) (z4 : Int32) (s0 : Int32) (σ : MST) (H : Heap) (locs : List Loc) (ls : Array Slot), w_M_code_102 P z1 z2 z3 z4 s0 σ → MH (dC, dI) A mo rf ca σ s H locs → lv_has ls 8 [(0, .ref mo), (1, .int z1), (2, .int z2), (3, .int z3), (4, .int z4)] → W p l e ({ frames := 1, cells := 0, slots := 0, locals := 23 } : Room) s m ([.ref mo, .int x1, .int x2, .int x3, .int x4] : List Value).toArray below meth cx H locs 0 0 Q (F0 m 102 ls [.int s0, .ref mo]) := by
    intro u9 z1 z2 z3 z4 s0 σ H locs ls hw h hl
    unfold w_M_code_102 at hw
    refine M_puti C h 0 (by decide) rfl rfl (by decide +kernel) v_0 e_M_code_102 (fun H locs h => ?_)
    obtain ⟨σ6, e_σ6⟩ : ∃ z : MST, z = setI σ 0 s0 := ⟨_, rfl⟩
    rw [← e_σ6] at h
    replace hw := hw σ6 e_σ6
    refine lv_aload_n hx hb e_M_code_105 rfl (lv_at hl 0 rfl) ?_
    refine M_get C h 0 (v := .int (σ6.1 0)) rfl (by decide) v_0 e_M_code_106 ?_
    refine lv_if_le (tgt := 113) hx hb e_M_code_109 (by decide) (fun c7 => ?_) (fun c7 => ?_)
    · skip
      replace hw := hw.1 c7
      refine lv_aload_n hx hb e_M_code_113 rfl (lv_at hl 0 rfl) ?_
      refine M_get C h 12 (v := .ref (rf 12)) rfl (by decide) v_51 e_M_code_114 ?_
      refine lv_iload_n hx hb e_M_code_117 rfl (lv_at hl 1 rfl) ?_
      refine lv_iload_n hx hb e_M_code_118 rfl (lv_at hl 2 rfl) ?_
      refine M_ast C h 12 (by decide) rfl hw.1 e_M_code_119 (fun H locs h => ?_)
      replace hw := hw.2
      obtain ⟨σ8, e_σ8⟩ : ∃ z : MST, z = setA σ6 12 (upd (σ6.2.1 12) (z1 : Int32).toNatClampNeg z2) := ⟨_, rfl⟩
      rw [← e_σ8] at h
      replace hw := hw σ8 e_σ8
      refine lv_iconst (v := 0) hx hb e_M_code_120 (by decide) ?_
      refine lv_istore (lv' := [(7, .int 0), (0, .ref mo), (1, .int z1), (2, .int z2), (3, .int z3), (4, .int z4)]) hx hb e_M_code_121 hl (by decide) rfl (fun ls hl => ?_)
      obtain ⟨n9, hw⟩ := hw
      exact K_123 n9 z1 z2 z3 z4 0 σ8 _ _ _ hw h (lv_sub hl [1, 2, 3, 4, 5, 0] rfl)
    · skip
      replace hw := hw.2 c7
      exact hend σ6 _ _ _ _ hw h e_M_code_112
  have K_84 : ∀ (u9 : Unit), ∀ (z1 : Int32) (z2 : Int32) (z3 : Int32) (z4 : Int32) (σ : MST) (H : Heap) (locs : List Loc) (ls : Array Slot), w_M_code_84 P z1 z2 z3 z4 σ → MH (dC, dI) A mo rf ca σ s H locs → lv_has ls 8 [(0, .ref mo), (1, .int z1), (2, .int z2), (3, .int z3), (4, .int z4)] → W p l e ({ frames := 1, cells := 0, slots := 0, locals := 23 } : Room) s m ([.ref mo, .int x1, .int x2, .int x3, .int x4] : List Value).toArray below meth cx H locs 0 0 Q (F0 m 84 ls [.ref mo]) := by
    intro u9 z1 z2 z3 z4 σ H locs ls hw h hl
    unfold w_M_code_84 at hw
    refine lv_iconst (v := 1) hx hb e_M_code_84 (by decide) ?_
    refine lv_goto (tgt := 102) hx hb e_M_code_85 (by decide) ?_
    exact K_102 () z1 z2 z3 z4 1 σ _ _ _ hw h (lv_sub hl [0, 1, 2, 3, 4] rfl)
  have K_78 : ∀ (u9 : Unit), ∀ (z1 : Int32) (z2 : Int32) (z3 : Int32) (z4 : Int32) (s0 : Int32) (s2 : Int32) (σ : MST) (H : Heap) (locs : List Loc) (ls : Array Slot), w_M_code_78 P z1 z2 z3 z4 s0 s2 σ → MH (dC, dI) A mo rf ca σ s H locs → lv_has ls 8 [(0, .ref mo), (1, .int z1), (2, .int z2), (3, .int z3), (4, .int z4)] → W p l e ({ frames := 1, cells := 0, slots := 0, locals := 23 } : Room) s m ([.ref mo, .int x1, .int x2, .int x3, .int x4] : List Value).toArray below meth cx H locs 0 0 Q (F0 m 78 ls [.int s0, .ref mo, .int s2, .ref mo]) := by
    intro u9 z1 z2 z3 z4 s0 s2 σ H locs ls hw h hl
    unfold w_M_code_78 at hw
    refine M_calli (As := [.int s0]) (rest := [.int s2, .ref mo]) C h hA (K_M_argumentLocals l dC dI mo rf ca H.size σ s0 hw) (cwV 1 hts (gV hsub v_52 v_53 v_54 v_7 v_55) rfl rfl rfl (by decide +kernel) ⟨(Nat.le_of_ble_eq_true rfl), (Nat.le_of_ble_eq_true rfl)⟩) rfl hl.1 (Nat.le_of_ble_eq_true rfl) e_M_code_78 ⟨(Nat.le_of_ble_eq_true rfl), (Nat.le_of_ble_eq_true rfl)⟩ (fun r10 σ9 H locs hw h => ?_)
    refine W.eq (g2 := F0 m 81 ls [.int r10, .int s2, .ref mo]) rfl ?_
    refine lv_icmp_ge (tgt := 88) hx hb e_M_code_81 (by decide) (fun c11 => ?_) (fun c11 => ?_)
    · skip
      replace hw := hw.1 c11
      refine lv_aload_n hx hb e_M_code_88 rfl (lv_at hl 0 rfl) ?_
      refine M_get C h 12 (v := .ref (rf 12)) rfl (by decide) v_51 e_M_code_89 ?_
      refine lv_iload_n hx hb e_M_code_92 rfl (lv_at hl 1 rfl) ?_
      refine M_ald C h 12 (by decide) rfl hw.1 e_M_code_93 ?_
      replace hw := hw.2
      refine lv_topi (fun a12 e_a12 => ?_)
      replace hw := hw a12 e_a12
      refine lv_if_le (tgt := 101) hx hb e_M_code_94 (by decide) (fun c13 => ?_) (fun c13 => ?_)
      · skip
        replace hw := hw.1 c13
        refine lv_iconst (v := 0) hx hb e_M_code_101 (by decide) ?_
        exact K_102 () z1 z2 z3 z4 0 σ9 _ _ _ hw h (lv_sub hl [0, 1, 2, 3, 4] rfl)
      · skip
        replace hw := hw.2 c13
        refine lv_iconst (v := 2) hx hb e_M_code_97 (by decide) ?_
        refine lv_goto (tgt := 102) hx hb e_M_code_98 (by decide) ?_
        exact K_102 () z1 z2 z3 z4 2 σ9 _ _ _ hw h (lv_sub hl [0, 1, 2, 3, 4] rfl)
    · skip
      replace hw := hw.2 c11
      exact K_84 () z1 z2 z3 z4 σ9 _ _ _ hw h (lv_sub hl [0, 1, 2, 3, 4] rfl)
  have K_57 : ∀ (u9 : Unit), ∀ (z1 : Int32) (z2 : Int32) (z3 : Int32) (z4 : Int32) (s0 : Int32) (σ : MST) (H : Heap) (locs : List Loc) (ls : Array Slot), w_M_code_57 P z1 z2 z3 z4 s0 σ → MH (dC, dI) A mo rf ca σ s H locs → lv_has ls 8 [(0, .ref mo), (1, .int z1), (2, .int z2), (3, .int z3), (4, .int z4)] → W p l e ({ frames := 1, cells := 0, slots := 0, locals := 23 } : Room) s m ([.ref mo, .int x1, .int x2, .int x3, .int x4] : List Value).toArray below meth cx H locs 0 0 Q (F0 m 57 ls [.int s0]) := by
    intro u9 z1 z2 z3 z4 s0 σ H locs ls hw h hl
    unfold w_M_code_57 at hw
    refine lv_istore (lv' := [(6, .int s0), (0, .ref mo), (1, .int z1), (2, .int z2), (3, .int z3), (4, .int z4)]) hx hb e_M_code_57 hl (by decide) rfl (fun ls hl => ?_)
    refine lv_aload_n hx hb e_M_code_59 rfl (lv_at hl 1 rfl) ?_
    refine lv_iload hx hb e_M_code_60 (lv_at hl 0 rfl) ?_
    refine lv_if_eq (tgt := 84) hx hb e_M_code_62 (by decide) (fun c14 => ?_) (fun c14 => ?_)
    · skip
      replace hw := hw.1 c14
      exact K_84 () z1 z2 z3 z4 σ _ _ _ hw h (lv_sub hl [1, 2, 3, 4, 5] rfl)
    · skip
      replace hw := hw.2 c14
      refine lv_iload hx hb e_M_code_65 (lv_at hl 5 rfl) ?_
      refine lv_aload_n hx hb e_M_code_67 rfl (lv_at hl 1 rfl) ?_
      refine lv_iload hx hb e_M_code_68 (lv_at hl 0 rfl) ?_
      refine lv_if_eq (tgt := 77) hx hb e_M_code_70 (by decide) (fun c15 => ?_) (fun c15 => ?_)
      · skip
        replace hw := hw.1 c15
        refine lv_iconst (v := 0) hx hb e_M_code_77 (by decide) ?_
        exact K_78 () z1 z2 z3 z4 0 z4 σ _ _ _ hw h (lv_sub hl [1, 2, 3, 4, 5] rfl)
      · skip
        replace hw := hw.2 c15
        refine lv_iload_n hx hb e_M_code_73 rfl (lv_at hl 2 rfl) ?_
        refine lv_goto (tgt := 78) hx hb e_M_code_74 (by decide) ?_
        exact K_78 () z1 z2 z3 z4 z1 z4 σ _ _ _ hw h (lv_sub hl [1, 2, 3, 4, 5] rfl)
  have K_56 : ∀ (u9 : Unit), ∀ (z1 : Int32) (z2 : Int32) (z3 : Int32) (z4 : Int32) (σ : MST) (H : Heap) (locs : List Loc) (ls : Array Slot), w_M_code_56 P z1 z2 z3 z4 σ → MH (dC, dI) A mo rf ca σ s H locs → lv_has ls 8 [(0, .ref mo), (1, .int z1), (2, .int z2), (3, .int z3), (4, .int z4)] → W p l e ({ frames := 1, cells := 0, slots := 0, locals := 23 } : Room) s m ([.ref mo, .int x1, .int x2, .int x3, .int x4] : List Value).toArray below meth cx H locs 0 0 Q (F0 m 56 ls []) := by
    intro u9 z1 z2 z3 z4 σ H locs ls hw h hl
    unfold w_M_code_56 at hw
    refine lv_iconst (v := 0) hx hb e_M_code_56 (by decide) ?_
    exact K_57 () z1 z2 z3 z4 0 σ _ _ _ hw h (lv_sub hl [0, 1, 2, 3, 4] rfl)
  have hl : lv_has ls 8 [(0, .ref mo), (1, .int x1), (2, .int x2), (3, .int x3), (4, .int x4)] := hl
  unfold w_M_code at hw
  refine lv_aload_n hx hb e_M_code_0 rfl (lv_at hl 0 rfl) ?_
  refine M_get C h 24 (v := .int (σ.1 24)) rfl (by decide) v_47 e_M_code_1 ?_
  refine lv_istore (lv' := [(5, .int (σ.1 24)), (0, .ref mo), (1, .int x1), (2, .int x2), (3, .int x3), (4, .int x4)]) hx hb e_M_code_4 hl (by decide) rfl (fun ls hl => ?_)
  refine lv_aload_n hx hb e_M_code_6 rfl (lv_at hl 1 rfl) ?_
  refine lv_iconst (v := 0) hx hb e_M_code_7 (by decide) ?_
  refine M_puti C h 24 (by decide) rfl rfl (by decide +kernel) v_47 e_M_code_8 (fun H locs h => ?_)
  obtain ⟨σ16, e_σ16⟩ : ∃ z : MST, z = setI σ 24 0 := ⟨_, rfl⟩
  rw [← e_σ16] at h
  replace hw := hw σ16 e_σ16
  refine lv_aload_n hx hb e_M_code_11 rfl (lv_at hl 1 rfl) ?_
  refine lv_iload_n hx hb e_M_code_12 rfl (lv_at hl 2 rfl) ?_
  refine M_calli (As := [.int x1]) (rest := []) C h hA (K_M_isMethod l dC dI mo rf ca H.size σ16 x1 hw) (cwV 1 hts (gV hsub v_56 v_57 v_58 v_7 v_59) rfl rfl rfl (by decide +kernel) ⟨(Nat.le_of_ble_eq_true rfl), (Nat.le_of_ble_eq_true rfl)⟩) rfl hl.1 (Nat.le_of_ble_eq_true rfl) e_M_code_13 ⟨(Nat.le_of_ble_eq_true rfl), (Nat.le_of_ble_eq_true rfl)⟩ (fun r18 σ17 H locs hw h => ?_)
  refine W.eq (g2 := F0 m 16 ls [.int r18]) rfl ?_
  refine lv_if_eq (tgt := 56) hx hb e_M_code_16 (by decide) (fun c19 => ?_) (fun c19 => ?_)
  · skip
    replace hw := hw.1 c19
    exact K_56 () x1 x2 x3 x4 σ17 _ _ _ hw h (lv_sub hl [1, 2, 3, 4, 5] rfl)
  · skip
    replace hw := hw.2 c19
    refine lv_iload_n hx hb e_M_code_19 rfl (lv_at hl 3 rfl) ?_
    refine lv_if_le (tgt := 56) hx hb e_M_code_20 (by decide) (fun c20 => ?_) (fun c20 => ?_)
    · skip
      replace hw := hw.1 c20
      exact K_56 () x1 x2 x3 x4 σ17 _ _ _ hw h (lv_sub hl [1, 2, 3, 4, 5] rfl)
    · skip
      replace hw := hw.2 c20
      refine lv_iload_n hx hb e_M_code_23 rfl (lv_at hl 3 rfl) ?_
      refine lv_bipush (v := 120) hx hb e_M_code_24 (by decide) ?_
      refine lv_icmp_gt (tgt := 56) hx hb e_M_code_26 (by decide) (fun c21 => ?_) (fun c21 => ?_)
      · skip
        replace hw := hw.1 c21
        exact K_56 () x1 x2 x3 x4 σ17 _ _ _ hw h (lv_sub hl [1, 2, 3, 4, 5] rfl)
      · skip
        replace hw := hw.2 c21
        refine lv_iload_n hx hb e_M_code_29 rfl (lv_at hl 3 rfl) ?_
        refine lv_iload hx hb e_M_code_30 (lv_at hl 0 rfl) ?_
        refine lv_icmp_gt (tgt := 56) hx hb e_M_code_32 (by decide) (fun c22 => ?_) (fun c22 => ?_)
        · skip
          replace hw := hw.1 c22
          exact K_56 () x1 x2 x3 x4 σ17 _ _ _ hw h (lv_sub hl [1, 2, 3, 4, 5] rfl)
        · skip
          replace hw := hw.2 c22
          refine lv_iload_n hx hb e_M_code_35 rfl (lv_at hl 4 rfl) ?_
          refine lv_if_lt (tgt := 56) hx hb e_M_code_36 (by decide) (fun c23 => ?_) (fun c23 => ?_)
          · skip
            replace hw := hw.1 c23
            exact K_56 () x1 x2 x3 x4 σ17 _ _ _ hw h (lv_sub hl [1, 2, 3, 4, 5] rfl)
          · skip
            replace hw := hw.2 c23
            refine lv_iload_n hx hb e_M_code_39 rfl (lv_at hl 4 rfl) ?_
            refine lv_bipush (v := 13) hx hb e_M_code_40 (by decide) ?_
            refine lv_icmp_ge (tgt := 56) hx hb e_M_code_42 (by decide) (fun c24 => ?_) (fun c24 => ?_)
            · skip
              replace hw := hw.1 c24
              exact K_56 () x1 x2 x3 x4 σ17 _ _ _ hw h (lv_sub hl [1, 2, 3, 4, 5] rfl)
            · skip
              replace hw := hw.2 c24
              refine lv_iload hx hb e_M_code_45 (lv_at hl 5 rfl) ?_
              refine lv_bipush (v := 13) hx hb e_M_code_47 (by decide) ?_
              refine lv_icmp_ge (tgt := 56) hx hb e_M_code_49 (by decide) (fun c25 => ?_) (fun c25 => ?_)
              · skip
                replace hw := hw.1 c25
                exact K_56 () x1 x2 x3 x4 σ17 _ _ _ hw h (lv_sub hl [1, 2, 3, 4, 5] rfl)
              · skip
                replace hw := hw.2 c25
                refine lv_iconst (v := 1) hx hb e_M_code_52 (by decide) ?_
                refine lv_goto (tgt := 57) hx hb e_M_code_53 (by decide) ?_
                exact K_57 () x1 x2 x3 x4 1 σ17 _ _ _ hw h (lv_sub hl [1, 2, 3, 4, 5] rfl)
