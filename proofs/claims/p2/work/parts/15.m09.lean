abbrev z_M_end : MethodName := ⟨"MapFramerModel", "end", "(I)I"⟩
theorem e_M_end_0 : decode prog_14_method_104_code 0 = .ok (.aload_n 0, 1) := by decide +kernel
theorem e_M_end_1 : decode prog_14_method_104_code 1 = .ok (.iconst 0, 1) := by decide +kernel
theorem e_M_end_2 : decode prog_14_method_104_code 2 = .ok (.putfield 169, 3) := by decide +kernel
theorem e_M_end_5 : decode prog_14_method_104_code 5 = .ok (.iload_n 1, 1) := by decide +kernel
theorem e_M_end_6 : decode prog_14_method_104_code 6 = .ok (.ifCond .lt 8, 3) := by decide +kernel
theorem e_M_end_9 : decode prog_14_method_104_code 9 = .ok (.iload_n 1, 1) := by decide +kernel
theorem e_M_end_10 : decode prog_14_method_104_code 10 = .ok (.iconst 3, 1) := by decide +kernel
theorem e_M_end_11 : decode prog_14_method_104_code 11 = .ok (.if_icmp .le 7, 3) := by decide +kernel
theorem e_M_end_14 : decode prog_14_method_104_code 14 = .ok (.iconst (-1), 1) := by decide +kernel
theorem e_M_end_15 : decode prog_14_method_104_code 15 = .ok (.goto 9, 3) := by decide +kernel
theorem e_M_end_18 : decode prog_14_method_104_code 18 = .ok (.aload_n 0, 1) := by decide +kernel
theorem e_M_end_19 : decode prog_14_method_104_code 19 = .ok (.getfield 135, 3) := by decide +kernel
theorem e_M_end_22 : decode prog_14_method_104_code 22 = .ok (.iload_n 1, 1) := by decide +kernel
theorem e_M_end_23 : decode prog_14_method_104_code 23 = .ok (.iaload, 1) := by decide +kernel
theorem e_M_end_24 : decode prog_14_method_104_code 24 = .ok (.ireturn, 1) := by decide +kernel
def w_M_end_14 (P : Int32 → MST → Prop) (σ : MST) : Prop := P ((-1) : Int32) σ
def w_M_end (x1 : Int32) (σ : MST) (P : Int32 → MST → Prop) : Prop := ∀ σ1 : MST, σ1 = setI σ 0 0 → ((x1 < 0 → w_M_end_14 P σ1) ∧ (¬ x1 < 0 → ((x1 ≤ 3 → vp_in x1 4 ∧ (∀ a4 : Int32, a4 = (σ1.2.1 56 (x1 : Int32).toNatClampNeg) → P a4 σ1)) ∧ (¬ x1 ≤ 3 → w_M_end_14 P σ1))))
set_option maxHeartbeats 4000000 in
set_option maxRecDepth 100000 in
theorem K_M_end (l : Launch) (dC : Nat → ClassId) (dI : Nat → Nat → Nat) (mo : Nat) (rf : Nat → Nat) (ca : Nat → ClassId) (sz : Nat) (σ : MST) (x1 : Int32) {P : Int32 → MST → Prop} (hw : w_M_end x1 σ P) : Met l z_M_end (mW z_M_end prog_14_method_104_code 2 (some .int)) ({ frames := 0, cells := 0, slots := 0, locals := 0 } : Room) (va_Pc [.ref mo, .int x1] (MPre (dC, dI) mo rf ca σ sz)) (va_Qi P (MB (dC, dI) mo rf ca sz) (mA mo rf sz)) 0 0 (mA mo rf sz) := by
  refine M_ofi (by decide) rfl (Nat.le_of_ble_eq_true rfl) ?_
  intro p e s m below meth cx Q A ls C hA hend h hl
  have C0 := C
  obtain ⟨⟨hx, hb, hml, hown, hts⟩, hsub⟩ := C0
  have K_14 : ∀ (u9 : Unit), ∀ (σ : MST) (H : Heap) (locs : List Loc) (ls : Array Slot), w_M_end_14 P σ → MH (dC, dI) A mo rf ca σ s H locs → lv_has ls 2 [] → W p l e ({ frames := 0, cells := 0, slots := 0, locals := 0 } : Room) s m ([.ref mo, .int x1] : List Value).toArray below meth cx H locs 0 0 Q (F0 m 14 ls []) := by
    intro u9  σ H locs ls hw h hl
    unfold w_M_end_14 at hw
    refine lv_iconst (v := (-1)) hx hb e_M_end_14 (by decide) ?_
    refine lv_goto (tgt := 24) hx hb e_M_end_15 (by decide) ?_
    exact hend ((-1) : Int32) σ _ _ _ _ hw h e_M_end_24
  have hl : lv_has ls 2 [(0, .ref mo), (1, .int x1)] := hl
  unfold w_M_end at hw
  refine lv_aload_n hx hb e_M_end_0 rfl (lv_at hl 0 rfl) ?_
  refine lv_iconst (v := 0) hx hb e_M_end_1 (by decide) ?_
  refine M_puti C h 0 (by decide) rfl rfl (by decide +kernel) v_0 e_M_end_2 (fun H locs h => ?_)
  obtain ⟨σ1, e_σ1⟩ : ∃ z : MST, z = setI σ 0 0 := ⟨_, rfl⟩
  rw [← e_σ1] at h
  replace hw := hw σ1 e_σ1
  refine lv_iload_n hx hb e_M_end_5 rfl (lv_at hl 1 rfl) ?_
  refine lv_if_lt (tgt := 14) hx hb e_M_end_6 (by decide) (fun c2 => ?_) (fun c2 => ?_)
  · skip
    replace hw := hw.1 c2
    exact K_14 () σ1 _ _ _ hw h (lv_sub hl [] rfl)
  · skip
    replace hw := hw.2 c2
    refine lv_iload_n hx hb e_M_end_9 rfl (lv_at hl 1 rfl) ?_
    refine lv_iconst (v := 3) hx hb e_M_end_10 (by decide) ?_
    refine lv_icmp_le (tgt := 18) hx hb e_M_end_11 (by decide) (fun c3 => ?_) (fun c3 => ?_)
    · skip
      replace hw := hw.1 c3
      refine lv_aload_n hx hb e_M_end_18 rfl (lv_at hl 0 rfl) ?_
      refine M_get C h 56 (v := .ref (rf 56)) rfl (by decide) v_312 e_M_end_19 ?_
      refine lv_iload_n hx hb e_M_end_22 rfl (lv_at hl 1 rfl) ?_
      refine M_ald C h 56 (by decide) rfl hw.1 e_M_end_23 ?_
      replace hw := hw.2
      refine lv_topi (fun a4 e_a4 => ?_)
      replace hw := hw a4 e_a4
      exact hend a4 σ1 _ _ _ _ hw h e_M_end_24
    · skip
      replace hw := hw.2 c3
      exact K_14 () σ1 _ _ _ hw h (lv_sub hl [] rfl)
abbrev z_M_count : MethodName := ⟨"MapFramerModel", "count", "(I)I"⟩
theorem e_M_count_0 : decode prog_14_method_105_code 0 = .ok (.aload_n 0, 1) := by decide +kernel
theorem e_M_count_1 : decode prog_14_method_105_code 1 = .ok (.iconst 0, 1) := by decide +kernel
theorem e_M_count_2 : decode prog_14_method_105_code 2 = .ok (.putfield 169, 3) := by decide +kernel
theorem e_M_count_5 : decode prog_14_method_105_code 5 = .ok (.iload_n 1, 1) := by decide +kernel
theorem e_M_count_6 : decode prog_14_method_105_code 6 = .ok (.ifCond .ne 10, 3) := by decide +kernel
theorem e_M_count_9 : decode prog_14_method_105_code 9 = .ok (.aload_n 0, 1) := by decide +kernel
theorem e_M_count_10 : decode prog_14_method_105_code 10 = .ok (.getfield 7, 3) := by decide +kernel
theorem e_M_count_13 : decode prog_14_method_105_code 13 = .ok (.goto 40, 3) := by decide +kernel
theorem e_M_count_16 : decode prog_14_method_105_code 16 = .ok (.iload_n 1, 1) := by decide +kernel
theorem e_M_count_17 : decode prog_14_method_105_code 17 = .ok (.iconst 1, 1) := by decide +kernel
theorem e_M_count_18 : decode prog_14_method_105_code 18 = .ok (.if_icmp .ne 10, 3) := by decide +kernel
theorem e_M_count_21 : decode prog_14_method_105_code 21 = .ok (.aload_n 0, 1) := by decide +kernel
theorem e_M_count_22 : decode prog_14_method_105_code 22 = .ok (.getfield 203, 3) := by decide +kernel
theorem e_M_count_25 : decode prog_14_method_105_code 25 = .ok (.goto 28, 3) := by decide +kernel
theorem e_M_count_28 : decode prog_14_method_105_code 28 = .ok (.iload_n 1, 1) := by decide +kernel
theorem e_M_count_29 : decode prog_14_method_105_code 29 = .ok (.iconst 2, 1) := by decide +kernel
theorem e_M_count_30 : decode prog_14_method_105_code 30 = .ok (.if_icmp .ne 10, 3) := by decide +kernel
theorem e_M_count_33 : decode prog_14_method_105_code 33 = .ok (.aload_n 0, 1) := by decide +kernel
theorem e_M_count_34 : decode prog_14_method_105_code 34 = .ok (.getfield 206, 3) := by decide +kernel
theorem e_M_count_37 : decode prog_14_method_105_code 37 = .ok (.goto 16, 3) := by decide +kernel
theorem e_M_count_40 : decode prog_14_method_105_code 40 = .ok (.iload_n 1, 1) := by decide +kernel
theorem e_M_count_41 : decode prog_14_method_105_code 41 = .ok (.iconst 3, 1) := by decide +kernel
theorem e_M_count_42 : decode prog_14_method_105_code 42 = .ok (.if_icmp .ne 10, 3) := by decide +kernel
theorem e_M_count_45 : decode prog_14_method_105_code 45 = .ok (.aload_n 0, 1) := by decide +kernel
theorem e_M_count_46 : decode prog_14_method_105_code 46 = .ok (.getfield 209, 3) := by decide +kernel
theorem e_M_count_49 : decode prog_14_method_105_code 49 = .ok (.goto 4, 3) := by decide +kernel
theorem e_M_count_52 : decode prog_14_method_105_code 52 = .ok (.iconst (-1), 1) := by decide +kernel
theorem e_M_count_53 : decode prog_14_method_105_code 53 = .ok (.ireturn, 1) := by decide +kernel
def w_M_count (x1 : Int32) (σ : MST) (P : Int32 → MST → Prop) : Prop := ∀ σ1 : MST, σ1 = setI σ 0 0 → ((x1 = 0 → P (σ1.1 1) σ1) ∧ (¬ x1 = 0 → ((x1 = 1 → P (σ1.1 4) σ1) ∧ (¬ x1 = 1 → ((x1 = 2 → P (σ1.1 8) σ1) ∧ (¬ x1 = 2 → ((x1 = 3 → P (σ1.1 24) σ1) ∧ (¬ x1 = 3 → P ((-1) : Int32) σ1))))))))
set_option maxHeartbeats 4000000 in
set_option maxRecDepth 100000 in
theorem K_M_count (l : Launch) (dC : Nat → ClassId) (dI : Nat → Nat → Nat) (mo : Nat) (rf : Nat → Nat) (ca : Nat → ClassId) (sz : Nat) (σ : MST) (x1 : Int32) {P : Int32 → MST → Prop} (hw : w_M_count x1 σ P) : Met l z_M_count (mW z_M_count prog_14_method_105_code 2 (some .int)) ({ frames := 0, cells := 0, slots := 0, locals := 0 } : Room) (va_Pc [.ref mo, .int x1] (MPre (dC, dI) mo rf ca σ sz)) (va_Qi P (MB (dC, dI) mo rf ca sz) (mA mo rf sz)) 0 0 (mA mo rf sz) := by
  refine M_ofi (by decide) rfl (Nat.le_of_ble_eq_true rfl) ?_
  intro p e s m below meth cx Q A ls C hA hend h hl
  have C0 := C
  obtain ⟨⟨hx, hb, hml, hown, hts⟩, hsub⟩ := C0
  have hl : lv_has ls 2 [(0, .ref mo), (1, .int x1)] := hl
  unfold w_M_count at hw
  refine lv_aload_n hx hb e_M_count_0 rfl (lv_at hl 0 rfl) ?_
  refine lv_iconst (v := 0) hx hb e_M_count_1 (by decide) ?_
  refine M_puti C h 0 (by decide) rfl rfl (by decide +kernel) v_0 e_M_count_2 (fun H locs h => ?_)
  obtain ⟨σ1, e_σ1⟩ : ∃ z : MST, z = setI σ 0 0 := ⟨_, rfl⟩
  rw [← e_σ1] at h
  replace hw := hw σ1 e_σ1
  refine lv_iload_n hx hb e_M_count_5 rfl (lv_at hl 1 rfl) ?_
  refine lv_if_ne (tgt := 16) hx hb e_M_count_6 (by decide) (fun c2 => ?_) (fun c2 => ?_)
  · skip
    replace hw := hw.2 c2
    refine lv_iload_n hx hb e_M_count_16 rfl (lv_at hl 1 rfl) ?_
    refine lv_iconst (v := 1) hx hb e_M_count_17 (by decide) ?_
    refine lv_icmp_ne (tgt := 28) hx hb e_M_count_18 (by decide) (fun c3 => ?_) (fun c3 => ?_)
    · skip
      replace hw := hw.2 c3
      refine lv_iload_n hx hb e_M_count_28 rfl (lv_at hl 1 rfl) ?_
      refine lv_iconst (v := 2) hx hb e_M_count_29 (by decide) ?_
      refine lv_icmp_ne (tgt := 40) hx hb e_M_count_30 (by decide) (fun c4 => ?_) (fun c4 => ?_)
      · skip
        replace hw := hw.2 c4
        refine lv_iload_n hx hb e_M_count_40 rfl (lv_at hl 1 rfl) ?_
        refine lv_iconst (v := 3) hx hb e_M_count_41 (by decide) ?_
        refine lv_icmp_ne (tgt := 52) hx hb e_M_count_42 (by decide) (fun c5 => ?_) (fun c5 => ?_)
        · skip
          replace hw := hw.2 c5
          refine lv_iconst (v := (-1)) hx hb e_M_count_52 (by decide) ?_
          exact hend ((-1) : Int32) σ1 _ _ _ _ hw h e_M_count_53
        · skip
          replace hw := hw.1 c5
          refine lv_aload_n hx hb e_M_count_45 rfl (lv_at hl 0 rfl) ?_
          refine M_get C h 24 (v := .int (σ1.1 24)) rfl (by decide) v_47 e_M_count_46 ?_
          refine lv_goto (tgt := 53) hx hb e_M_count_49 (by decide) ?_
          exact hend (σ1.1 24) σ1 _ _ _ _ hw h e_M_count_53
      · skip
        replace hw := hw.1 c4
        refine lv_aload_n hx hb e_M_count_33 rfl (lv_at hl 0 rfl) ?_
        refine M_get C h 8 (v := .int (σ1.1 8)) rfl (by decide) v_43 e_M_count_34 ?_
        refine lv_goto (tgt := 53) hx hb e_M_count_37 (by decide) ?_
        exact hend (σ1.1 8) σ1 _ _ _ _ hw h e_M_count_53
    · skip
      replace hw := hw.1 c3
      refine lv_aload_n hx hb e_M_count_21 rfl (lv_at hl 0 rfl) ?_
      refine M_get C h 4 (v := .int (σ1.1 4)) rfl (by decide) v_34 e_M_count_22 ?_
      refine lv_goto (tgt := 53) hx hb e_M_count_25 (by decide) ?_
      exact hend (σ1.1 4) σ1 _ _ _ _ hw h e_M_count_53
  · skip
    replace hw := hw.1 c2
    refine lv_aload_n hx hb e_M_count_9 rfl (lv_at hl 0 rfl) ?_
    refine M_get C h 1 (v := .int (σ1.1 1)) rfl (by decide) v_1 e_M_count_10 ?_
    refine lv_goto (tgt := 53) hx hb e_M_count_13 (by decide) ?_
    exact hend (σ1.1 1) σ1 _ _ _ _ hw h e_M_count_53
