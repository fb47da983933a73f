abbrev g_St_fits : MethodName := ⟨"MapFramer$State", "fits", "(LMapFramer$World;LMapFramer$State;)Z"⟩
theorem u_508 : (Cond.methodLink "MapFramer$State" 45 ⟨"MapFramer$World", "merge", "(II)I"⟩ : Cond) ∈ bigW := inB_4 95 (by decide +kernel) rfl
theorem u_509 : (Cond.instanceMethod ⟨"MapFramer$World", "merge", "(II)I"⟩ : Cond) ∈ bigW := inB_4 96 (by decide +kernel) rfl
theorem u_510 : (Cond.selects "MapFramer$World" ⟨"MapFramer$World", "merge", "(II)I"⟩ ⟨"MapFramer$World", "merge", "(II)I"⟩ : Cond) ∈ bigW := inB_4 97 (by decide +kernel) rfl
theorem u_511 : (Cond.code ⟨"MapFramer$World", "merge", "(II)I"⟩ prog_12_method_22_code 7 (some .int) : Cond) ∈ bigW := inB_4 98 rfl rfl
theorem h_St_fits_0 : decode prog_9_method_12_code 0 = .ok (.aload_n 0, 1) := by decide +kernel
theorem h_St_fits_1 : decode prog_9_method_12_code 1 = .ok (.getfield 32, 3) := by decide +kernel
theorem h_St_fits_4 : decode prog_9_method_12_code 4 = .ok (.aload_n 2, 1) := by decide +kernel
theorem h_St_fits_5 : decode prog_9_method_12_code 5 = .ok (.getfield 32, 3) := by decide +kernel
theorem h_St_fits_8 : decode prog_9_method_12_code 8 = .ok (.if_icmp .eq 5, 3) := by decide +kernel
theorem h_St_fits_11 : decode prog_9_method_12_code 11 = .ok (.iconst 0, 1) := by decide +kernel
theorem h_St_fits_12 : decode prog_9_method_12_code 12 = .ok (.ireturn, 1) := by decide +kernel
theorem h_St_fits_13 : decode prog_9_method_12_code 13 = .ok (.iconst 0, 1) := by decide +kernel
theorem h_St_fits_14 : decode prog_9_method_12_code 14 = .ok (.istore_n 3, 1) := by decide +kernel
theorem h_St_fits_15 : decode prog_9_method_12_code 15 = .ok (.iload_n 3, 1) := by decide +kernel
theorem h_St_fits_16 : decode prog_9_method_12_code 16 = .ok (.aload_n 0, 1) := by decide +kernel
theorem h_St_fits_17 : decode prog_9_method_12_code 17 = .ok (.getfield 32, 3) := by decide +kernel
theorem h_St_fits_20 : decode prog_9_method_12_code 20 = .ok (.if_icmp .ge 30, 3) := by decide +kernel
theorem h_St_fits_23 : decode prog_9_method_12_code 23 = .ok (.aload_n 1, 1) := by decide +kernel
theorem h_St_fits_24 : decode prog_9_method_12_code 24 = .ok (.aload_n 0, 1) := by decide +kernel
theorem h_St_fits_25 : decode prog_9_method_12_code 25 = .ok (.getfield 13, 3) := by decide +kernel
theorem h_St_fits_28 : decode prog_9_method_12_code 28 = .ok (.iload_n 3, 1) := by decide +kernel
theorem h_St_fits_29 : decode prog_9_method_12_code 29 = .ok (.iaload, 1) := by decide +kernel
theorem h_St_fits_30 : decode prog_9_method_12_code 30 = .ok (.aload_n 2, 1) := by decide +kernel
theorem h_St_fits_31 : decode prog_9_method_12_code 31 = .ok (.getfield 13, 3) := by decide +kernel
theorem h_St_fits_34 : decode prog_9_method_12_code 34 = .ok (.iload_n 3, 1) := by decide +kernel
theorem h_St_fits_35 : decode prog_9_method_12_code 35 = .ok (.iaload, 1) := by decide +kernel
theorem h_St_fits_36 : decode prog_9_method_12_code 36 = .ok (.invokevirtual 45, 3) := by decide +kernel
theorem h_St_fits_39 : decode prog_9_method_12_code 39 = .ok (.ifCond .ne 5, 3) := by decide +kernel
theorem h_St_fits_42 : decode prog_9_method_12_code 42 = .ok (.iconst 0, 1) := by decide +kernel
theorem h_St_fits_43 : decode prog_9_method_12_code 43 = .ok (.ireturn, 1) := by decide +kernel
theorem h_St_fits_44 : decode prog_9_method_12_code 44 = .ok (.iinc 3 1, 3) := by decide +kernel
theorem h_St_fits_47 : decode prog_9_method_12_code 47 = .ok (.goto (-32), 3) := by decide +kernel
theorem h_St_fits_50 : decode prog_9_method_12_code 50 = .ok (.iconst 1, 1) := by decide +kernel
theorem h_St_fits_51 : decode prog_9_method_12_code 51 = .ok (.ireturn, 1) := by decide +kernel
def x_St_fits_15 (a0 : Nat) (a1 : Nat) (a2 : Nat) (P : Int32 → CST → Prop) : Nat → Int32 → CST → Prop
  | 0, _, _ => False
  | n + 1, z3, σ => σ.1 a0 = some (8, 0) ∧ ((((σ.2.1 a0 2) ≤ z3 → P (1 : Int32) σ) ∧ (¬ (σ.2.1 a0 2) ≤ z3 → ∀ b3 : Option Nat, b3 = (σ.2.2.2.1 a0 1) → (∃ r4 : Nat, b3 = some r4 ∧ ((∃ n6 : Nat, σ.1 r4 = some (20, n6) ∧ (vp_in z3 n6 ∧ (∀ b8 : Int32, b8 = (σ.2.1 r4 (z3 : Int32).toNatClampNeg) → σ.1 a2 = some (8, 0) ∧ (∀ b10 : Option Nat, b10 = (σ.2.2.2.1 a2 1) → (∃ r11 : Nat, b10 = some r11 ∧ ((∃ n13 : Nat, σ.1 r11 = some (20, n13) ∧ (vp_in z3 n13 ∧ (∀ b15 : Int32, b15 = (σ.2.1 r11 (z3 : Int32).toNatClampNeg) → σ.1 a1 = some (3, 0) ∧ (x_W_merge a1 b8 b15 σ (fun r18 σ17 => ((r18 = 0 → P (0 : Int32) σ17) ∧ (¬ r18 = 0 → x_St_fits_15 a0 a1 a2 P n (z3 + 1) σ17))))))))))))))))))
def x_St_fits (a0 : Nat) (a1 : Nat) (a2 : Nat) (σ0 : CST) (P : Int32 → CST → Prop) : Prop := σ0.1 a0 = some (8, 0) ∧ (σ0.1 a2 = some (8, 0) ∧ ((((σ0.2.1 a0 2) = (σ0.2.1 a2 2) → (∃ n9 : Nat, x_St_fits_15 a0 a1 a2 P n9 0 σ0)) ∧ (¬ (σ0.2.1 a0 2) = (σ0.2.1 a2 2) → P (0 : Int32) σ0))))
set_option maxHeartbeats 4000000 in
set_option maxRecDepth 100000 in
theorem X_St_fits (l : Launch) (dC : Nat → ClassId) (dI : Nat → Nat → Nat) (ca : Nat → ClassId) (H0 : Heap) (σ0 : CST) (a0 : Nat) (a1 : Nat) (a2 : Nat) {P : Int32 → CST → Prop} (hw : x_St_fits a0 a1 a2 σ0 P) : Met l g_St_fits (mW g_St_fits prog_9_method_12_code 4 (some .boolean)) ({ frames := 2, cells := σ0.2.2.2.2.1, slots := σ0.2.2.2.2.2.1, locals := 48 } : Room) (va_Pc [.ref a0, .ref a1, .ref a2] (CPre (dC, dI) ca σ0 H0)) (va_Qi P (CB (dC, dI) ca σ0 H0) (cA σ0 H0.size)) σ0.2.2.2.2.1 σ0.2.2.2.2.2.1 (cA σ0 H0.size) := by
  refine C_ofz (by decide +kernel) rfl rfl rfl (Nat.le_of_ble_eq_true rfl) ?_
  intro p e s m below meth cx Q A ls C hnm hend hH0 h hl
  subst hH0
  have C0 := C
  obtain ⟨⟨hx, hb, hml, hown, hts⟩, hsub⟩ := C0
  obtain ⟨cells, e_cells⟩ : ∃ z : Nat, z = 0 := ⟨_, rfl⟩
  obtain ⟨slots, e_slots⟩ : ∃ z : Nat, z = 0 := ⟨_, rfl⟩
  have h : CH (dC, dI) A ca ({ frames := 2, cells := σ0.2.2.2.2.1, slots := σ0.2.2.2.2.2.1, locals := 48 } : Room) σ0.2.2.2.2.2.2 σ0 s s.heap [] cells slots := by rw [e_cells, e_slots]; exact h
  show W p l e ({ frames := 2, cells := σ0.2.2.2.2.1, slots := σ0.2.2.2.2.2.1, locals := 48 } : Room) s m ([.ref a0, .ref a1, .ref a2] : List Value).toArray below meth cx s.heap [] 0 0 Q (F0 m 0 ls [])
  rw [show W p l e ({ frames := 2, cells := σ0.2.2.2.2.1, slots := σ0.2.2.2.2.2.1, locals := 48 } : Room) s m ([.ref a0, .ref a1, .ref a2] : List Value).toArray below meth cx s.heap [] 0 0 Q (F0 m 0 ls []) = W p l e ({ frames := 2, cells := σ0.2.2.2.2.1, slots := σ0.2.2.2.2.2.1, locals := 48 } : Room) s m ([.ref a0, .ref a1, .ref a2] : List Value).toArray below meth cx s.heap [] cells slots Q (F0 m 0 ls []) by rw [e_cells, e_slots]]
  have K_15 : ∀ (n : Nat), ∀ (z3 : Int32) (σ : CST) (H : Heap) (locs : List Loc) (cells slots : Nat) (ls : Array Slot), x_St_fits_15 a0 a1 a2 P n z3 σ → CH (dC, dI) A ca ({ frames := 2, cells := σ0.2.2.2.2.1, slots := σ0.2.2.2.2.2.1, locals := 48 } : Room) σ0.2.2.2.2.2.2 σ s H locs cells slots → lv_has ls 4 [(0, .ref a0), (1, .ref a1), (2, .ref a2), (3, .int z3)] → W p l e ({ frames := 2, cells := σ0.2.2.2.2.1, slots := σ0.2.2.2.2.2.1, locals := 48 } : Room) s m ([.ref a0, .ref a1, .ref a2] : List Value).toArray below meth cx H locs cells slots Q (F0 m 15 ls []) := by
    intro  n
    induction n with
    | zero => intro z3 σ H locs cells slots ls hw h hl; unfold x_St_fits_15 at hw; exact hw.elim
    | succ n ih =>
      intro z3 σ H locs cells slots ls hw h hl
      unfold x_St_fits_15 at hw
      refine lv_iload_n hx hb h_St_fits_15 rfl (lv_at hl 3 rfl) ?_
      refine lv_aload_n hx hb h_St_fits_16 rfl (lv_at hl 0 rfl) ?_
      obtain ⟨g1, hw⟩ := hw
      refine C_get C h 8 2 (v := .int (σ.2.1 a0 2)) g1 rfl (Cn := R_St) (T := T_St) (N := 4) rfl (by decide) rfl uw_St (by decide) u_504 (fun _ q => q) h_St_fits_17 ?_
      refine lv_icmp_ge (tgt := 50) hx hb h_St_fits_20 (by decide) (fun c2 => ?_) (fun c2 => ?_)
      · skip
        replace hw := hw.1 c2
        refine lv_iconst (v := 1) hx hb h_St_fits_50 (by decide) ?_
        exact hend (1 : Int32) σ _ _ _ _ _ _ rfl hw h h_St_fits_51
      · skip
        replace hw := hw.2 c2
        refine lv_aload_n hx hb h_St_fits_23 rfl (lv_at hl 1 rfl) ?_
        refine lv_aload_n hx hb h_St_fits_24 rfl (lv_at hl 0 rfl) ?_
        refine C_get C h 8 1 (v := va_rf (σ.2.2.2.1 a0 1)) g1 rfl (Cn := R_St) (T := T_St) (N := 4) rfl (by decide) rfl uw_St (by decide) u_496 (fun _ q => q) h_St_fits_25 ?_
        refine lv_topq (fun b3 e_b3 => ?_)
        replace hw := hw b3 e_b3
        refine lv_iload_n hx hb h_St_fits_28 rfl (lv_at hl 3 rfl) ?_
        obtain ⟨r4, e_r4, hw⟩ := hw
        subst e_r4
        have hl : lv_has ls 4 [(0, .ref a0), (1, .ref a1), (2, .ref a2), (3, .int z3)] := hl
        refine W.eq (g2 := F0 m 29 ls [.int z3, .ref r4, .ref a1]) rfl ?_
        obtain ⟨n6, g5, hw⟩ := hw
        obtain ⟨g7, hw⟩ := hw
        refine C_iald C h g5 g7 h_St_fits_29 ?_
        refine lv_topi (fun b8 e_b8 => ?_)
        replace hw := hw b8 e_b8
        refine lv_aload_n hx hb h_St_fits_30 rfl (lv_at hl 2 rfl) ?_
        obtain ⟨g9, hw⟩ := hw
        refine C_get C h 8 1 (v := va_rf (σ.2.2.2.1 a2 1)) g9 rfl (Cn := R_St) (T := T_St) (N := 4) rfl (by decide) rfl uw_St (by decide) u_496 (fun _ q => q) h_St_fits_31 ?_
        refine lv_topq (fun b10 e_b10 => ?_)
        replace hw := hw b10 e_b10
        refine lv_iload_n hx hb h_St_fits_34 rfl (lv_at hl 3 rfl) ?_
        obtain ⟨r11, e_r11, hw⟩ := hw
        subst e_r11
        have hl : lv_has ls 4 [(0, .ref a0), (1, .ref a1), (2, .ref a2), (3, .int z3)] := hl
        refine W.eq (g2 := F0 m 35 ls [.int z3, .ref r11, .int b8, .ref a1]) rfl ?_
        obtain ⟨n13, g12, hw⟩ := hw
        obtain ⟨g14, hw⟩ := hw
        refine C_iald C h g12 g14 h_St_fits_35 ?_
        refine lv_topi (fun b15 e_b15 => ?_)
        replace hw := hw b15 e_b15
        obtain ⟨g16, hw⟩ := hw
        refine C_callVi (As := [.int b8, .int b15]) (rest := []) C h (ci := 3) (Cn := R_W) (T := T_W) (N := 10) g16 rfl (by decide) (X_W_merge l dC dI ca H σ a1 b8 b15 hw) (cwV 2 hts (gV hsub u_508 u_509 u_510 u_51 u_511) rfl rfl rfl (by decide +kernel) ⟨(Nat.le_of_ble_eq_true rfl), (Nat.le_of_ble_eq_true rfl)⟩) rfl hl.1 (Nat.le_of_ble_eq_true rfl) h_St_fits_36 (fun r18 σ17 H locs cells slots hw9 h9 => ?_)
        clear hw h; have hw := hw9; have h := h9; clear hw9 h9
        refine W.eq (g2 := F0 m 39 ls [.int r18]) rfl ?_
        refine lv_if_ne (tgt := 44) hx hb h_St_fits_39 (by decide) (fun c19 => ?_) (fun c19 => ?_)
        · skip
          replace hw := hw.2 c19
          refine lv_iinc (v := (z3 + 1)) (lv' := [(3, .int (z3 + 1)), (0, .ref a0), (1, .ref a1), (2, .ref a2)]) hx hb h_St_fits_44 hl (k := 3) rfl (rfl) (by decide) rfl (fun ls hl => ?_)
          refine lv_goto (tgt := 15) hx hb h_St_fits_47 (by decide) ?_
          exact ih (z3 + 1) σ17 _ _ _ _ _ hw h (lv_sub hl [1, 2, 3, 0] rfl)
        · skip
          replace hw := hw.1 c19
          refine lv_iconst (v := 0) hx hb h_St_fits_42 (by decide) ?_
          exact hend (0 : Int32) σ17 _ _ _ _ _ _ rfl hw h h_St_fits_43
  have hl : lv_has ls 4 [(0, .ref a0), (1, .ref a1), (2, .ref a2)] := hl
  unfold x_St_fits at hw
  refine lv_aload_n hx hb h_St_fits_0 rfl (lv_at hl 0 rfl) ?_
  obtain ⟨g20, hw⟩ := hw
  refine C_get C h 8 2 (v := .int (σ0.2.1 a0 2)) g20 rfl (Cn := R_St) (T := T_St) (N := 4) rfl (by decide) rfl uw_St (by decide) u_504 (fun _ q => q) h_St_fits_1 ?_
  refine lv_aload_n hx hb h_St_fits_4 rfl (lv_at hl 2 rfl) ?_
  obtain ⟨g21, hw⟩ := hw
  refine C_get C h 8 2 (v := .int (σ0.2.1 a2 2)) g21 rfl (Cn := R_St) (T := T_St) (N := 4) rfl (by decide) rfl uw_St (by decide) u_504 (fun _ q => q) h_St_fits_5 ?_
  refine lv_icmp_eq (tgt := 13) hx hb h_St_fits_8 (by decide) (fun c22 => ?_) (fun c22 => ?_)
  · skip
    replace hw := hw.1 c22
    refine lv_iconst (v := 0) hx hb h_St_fits_13 (by decide) ?_
    refine lv_istore_n (i := 3) (lv' := [(3, .int 0), (0, .ref a0), (1, .ref a1), (2, .ref a2)]) hx hb h_St_fits_14 rfl hl (by decide) rfl (fun ls hl => ?_)
    obtain ⟨n9, hw⟩ := hw
    exact K_15 n9 0 σ0 _ _ _ _ _ hw h (lv_sub hl [1, 2, 3, 0] rfl)
  · skip
    replace hw := hw.2 c22
    refine lv_iconst (v := 0) hx hb h_St_fits_11 (by decide) ?_
    exact hend (0 : Int32) σ0 _ _ _ _ _ _ rfl hw h h_St_fits_12
abbrev g_St_merge : MethodName := ⟨"MapFramer$State", "merge", "(LMapFramer$World;LMapFramer$State;)Z"⟩
theorem h_St_merge_0 : decode prog_9_method_13_code 0 = .ok (.iconst 0, 1) := by decide +kernel
theorem h_St_merge_1 : decode prog_9_method_13_code 1 = .ok (.istore_n 3, 1) := by decide +kernel
theorem h_St_merge_2 : decode prog_9_method_13_code 2 = .ok (.iconst 0, 1) := by decide +kernel
theorem h_St_merge_3 : decode prog_9_method_13_code 3 = .ok (.istore 4, 2) := by decide +kernel
theorem h_St_merge_5 : decode prog_9_method_13_code 5 = .ok (.iload 4, 2) := by decide +kernel
theorem h_St_merge_7 : decode prog_9_method_13_code 7 = .ok (.aload_n 0, 1) := by decide +kernel
theorem h_St_merge_8 : decode prog_9_method_13_code 8 = .ok (.getfield 7, 3) := by decide +kernel
theorem h_St_merge_11 : decode prog_9_method_13_code 11 = .ok (.arraylength, 1) := by decide +kernel
theorem h_St_merge_12 : decode prog_9_method_13_code 12 = .ok (.if_icmp .ge 70, 3) := by decide +kernel
theorem h_St_merge_15 : decode prog_9_method_13_code 15 = .ok (.iload 4, 2) := by decide +kernel
theorem h_St_merge_17 : decode prog_9_method_13_code 17 = .ok (.aload_n 2, 1) := by decide +kernel
theorem h_St_merge_18 : decode prog_9_method_13_code 18 = .ok (.getfield 7, 3) := by decide +kernel
theorem h_St_merge_21 : decode prog_9_method_13_code 21 = .ok (.arraylength, 1) := by decide +kernel
theorem h_St_merge_22 : decode prog_9_method_13_code 22 = .ok (.if_icmp .ge 60, 3) := by decide +kernel
theorem h_St_merge_25 : decode prog_9_method_13_code 25 = .ok (.aload_n 1, 1) := by decide +kernel
theorem h_St_merge_26 : decode prog_9_method_13_code 26 = .ok (.aload_n 0, 1) := by decide +kernel
theorem h_St_merge_27 : decode prog_9_method_13_code 27 = .ok (.getfield 7, 3) := by decide +kernel
theorem h_St_merge_30 : decode prog_9_method_13_code 30 = .ok (.iload 4, 2) := by decide +kernel
theorem h_St_merge_32 : decode prog_9_method_13_code 32 = .ok (.iaload, 1) := by decide +kernel
theorem h_St_merge_33 : decode prog_9_method_13_code 33 = .ok (.aload_n 2, 1) := by decide +kernel
theorem h_St_merge_34 : decode prog_9_method_13_code 34 = .ok (.getfield 7, 3) := by decide +kernel
theorem h_St_merge_37 : decode prog_9_method_13_code 37 = .ok (.iload 4, 2) := by decide +kernel
theorem h_St_merge_39 : decode prog_9_method_13_code 39 = .ok (.iaload, 1) := by decide +kernel
theorem h_St_merge_40 : decode prog_9_method_13_code 40 = .ok (.invokevirtual 45, 3) := by decide +kernel
theorem h_St_merge_43 : decode prog_9_method_13_code 43 = .ok (.istore 5, 2) := by decide +kernel
theorem h_St_merge_45 : decode prog_9_method_13_code 45 = .ok (.iload_n 3, 1) := by decide +kernel
theorem h_St_merge_46 : decode prog_9_method_13_code 46 = .ok (.ifCond .ne 15, 3) := by decide +kernel
theorem h_St_merge_49 : decode prog_9_method_13_code 49 = .ok (.iload 5, 2) := by decide +kernel
theorem h_St_merge_51 : decode prog_9_method_13_code 51 = .ok (.aload_n 0, 1) := by decide +kernel
theorem h_St_merge_52 : decode prog_9_method_13_code 52 = .ok (.getfield 7, 3) := by decide +kernel
theorem h_St_merge_55 : decode prog_9_method_13_code 55 = .ok (.iload 4, 2) := by decide +kernel
theorem h_St_merge_57 : decode prog_9_method_13_code 57 = .ok (.iaload, 1) := by decide +kernel
theorem h_St_merge_58 : decode prog_9_method_13_code 58 = .ok (.if_icmp .eq 7, 3) := by decide +kernel
theorem h_St_merge_61 : decode prog_9_method_13_code 61 = .ok (.iconst 1, 1) := by decide +kernel
theorem h_St_merge_62 : decode prog_9_method_13_code 62 = .ok (.goto 4, 3) := by decide +kernel
theorem h_St_merge_65 : decode prog_9_method_13_code 65 = .ok (.iconst 0, 1) := by decide +kernel
theorem h_St_merge_66 : decode prog_9_method_13_code 66 = .ok (.istore_n 3, 1) := by decide +kernel
theorem h_St_merge_67 : decode prog_9_method_13_code 67 = .ok (.aload_n 0, 1) := by decide +kernel
theorem h_St_merge_68 : decode prog_9_method_13_code 68 = .ok (.getfield 7, 3) := by decide +kernel
theorem h_St_merge_71 : decode prog_9_method_13_code 71 = .ok (.iload 4, 2) := by decide +kernel
theorem h_St_merge_73 : decode prog_9_method_13_code 73 = .ok (.iload 5, 2) := by decide +kernel
theorem h_St_merge_75 : decode prog_9_method_13_code 75 = .ok (.iastore, 1) := by decide +kernel
theorem h_St_merge_76 : decode prog_9_method_13_code 76 = .ok (.iinc 4 1, 3) := by decide +kernel
theorem h_St_merge_79 : decode prog_9_method_13_code 79 = .ok (.goto (-74), 3) := by decide +kernel
theorem h_St_merge_82 : decode prog_9_method_13_code 82 = .ok (.iconst 0, 1) := by decide +kernel
theorem h_St_merge_83 : decode prog_9_method_13_code 83 = .ok (.istore 4, 2) := by decide +kernel
theorem h_St_merge_85 : decode prog_9_method_13_code 85 = .ok (.iload 4, 2) := by decide +kernel
theorem h_St_merge_87 : decode prog_9_method_13_code 87 = .ok (.aload_n 0, 1) := by decide +kernel
theorem h_St_merge_88 : decode prog_9_method_13_code 88 = .ok (.getfield 32, 3) := by decide +kernel
theorem h_St_merge_91 : decode prog_9_method_13_code 91 = .ok (.if_icmp .ge 69, 3) := by decide +kernel
theorem h_St_merge_94 : decode prog_9_method_13_code 94 = .ok (.iload 4, 2) := by decide +kernel
theorem h_St_merge_96 : decode prog_9_method_13_code 96 = .ok (.aload_n 2, 1) := by decide +kernel
theorem h_St_merge_97 : decode prog_9_method_13_code 97 = .ok (.getfield 32, 3) := by decide +kernel
theorem h_St_merge_100 : decode prog_9_method_13_code 100 = .ok (.if_icmp .ge 60, 3) := by decide +kernel
theorem h_St_merge_103 : decode prog_9_method_13_code 103 = .ok (.aload_n 1, 1) := by decide +kernel
theorem h_St_merge_104 : decode prog_9_method_13_code 104 = .ok (.aload_n 0, 1) := by decide +kernel
theorem h_St_merge_105 : decode prog_9_method_13_code 105 = .ok (.getfield 13, 3) := by decide +kernel
theorem h_St_merge_108 : decode prog_9_method_13_code 108 = .ok (.iload 4, 2) := by decide +kernel
theorem h_St_merge_110 : decode prog_9_method_13_code 110 = .ok (.iaload, 1) := by decide +kernel
theorem h_St_merge_111 : decode prog_9_method_13_code 111 = .ok (.aload_n 2, 1) := by decide +kernel
theorem h_St_merge_112 : decode prog_9_method_13_code 112 = .ok (.getfield 13, 3) := by decide +kernel
theorem h_St_merge_115 : decode prog_9_method_13_code 115 = .ok (.iload 4, 2) := by decide +kernel
theorem h_St_merge_117 : decode prog_9_method_13_code 117 = .ok (.iaload, 1) := by decide +kernel
theorem h_St_merge_118 : decode prog_9_method_13_code 118 = .ok (.invokevirtual 45, 3) := by decide +kernel
theorem h_St_merge_121 : decode prog_9_method_13_code 121 = .ok (.istore 5, 2) := by decide +kernel
theorem h_St_merge_123 : decode prog_9_method_13_code 123 = .ok (.iload_n 3, 1) := by decide +kernel
theorem h_St_merge_124 : decode prog_9_method_13_code 124 = .ok (.ifCond .ne 15, 3) := by decide +kernel
theorem h_St_merge_127 : decode prog_9_method_13_code 127 = .ok (.iload 5, 2) := by decide +kernel
theorem h_St_merge_129 : decode prog_9_method_13_code 129 = .ok (.aload_n 0, 1) := by decide +kernel
theorem h_St_merge_130 : decode prog_9_method_13_code 130 = .ok (.getfield 13, 3) := by decide +kernel
theorem h_St_merge_133 : decode prog_9_method_13_code 133 = .ok (.iload 4, 2) := by decide +kernel
theorem h_St_merge_135 : decode prog_9_method_13_code 135 = .ok (.iaload, 1) := by decide +kernel
theorem h_St_merge_136 : decode prog_9_method_13_code 136 = .ok (.if_icmp .eq 7, 3) := by decide +kernel
theorem h_St_merge_139 : decode prog_9_method_13_code 139 = .ok (.iconst 1, 1) := by decide +kernel
theorem h_St_merge_140 : decode prog_9_method_13_code 140 = .ok (.goto 4, 3) := by decide +kernel
theorem h_St_merge_143 : decode prog_9_method_13_code 143 = .ok (.iconst 0, 1) := by decide +kernel
theorem h_St_merge_144 : decode prog_9_method_13_code 144 = .ok (.istore_n 3, 1) := by decide +kernel
theorem h_St_merge_145 : decode prog_9_method_13_code 145 = .ok (.aload_n 0, 1) := by decide +kernel
theorem h_St_merge_146 : decode prog_9_method_13_code 146 = .ok (.getfield 13, 3) := by decide +kernel
theorem h_St_merge_149 : decode prog_9_method_13_code 149 = .ok (.iload 4, 2) := by decide +kernel
theorem h_St_merge_151 : decode prog_9_method_13_code 151 = .ok (.iload 5, 2) := by decide +kernel
theorem h_St_merge_153 : decode prog_9_method_13_code 153 = .ok (.iastore, 1) := by decide +kernel
theorem h_St_merge_154 : decode prog_9_method_13_code 154 = .ok (.iinc 4 1, 3) := by decide +kernel
theorem h_St_merge_157 : decode prog_9_method_13_code 157 = .ok (.goto (-72), 3) := by decide +kernel
theorem h_St_merge_160 : decode prog_9_method_13_code 160 = .ok (.iload_n 3, 1) := by decide +kernel
theorem h_St_merge_161 : decode prog_9_method_13_code 161 = .ok (.ireturn, 1) := by decide +kernel
def x_St_merge_144 (a0 : Nat) (a1 : Nat) (a2 : Nat) (K85 : Int32 → Int32 → CST → Prop) (P : Int32 → CST → Prop) (z4 : Int32) (z5 : Int32) (s0 : Int32) (σ : CST) : Prop := σ.1 a0 = some (8, 0) ∧ (∀ b2 : Option Nat, b2 = (σ.2.2.2.1 a0 1) → (∃ r3 : Nat, b2 = some r3 ∧ ((∃ n5 : Nat, σ.1 r3 = some (20, n5) ∧ (vp_in z4 n5 ∧ (∀ σ7 : CST, σ7 = sI σ r3 (z4 : Int32).toNatClampNeg z5 → K85 s0 (z4 + 1) σ7))))))
def x_St_merge_139 (a0 : Nat) (a1 : Nat) (a2 : Nat) (K85 : Int32 → Int32 → CST → Prop) (P : Int32 → CST → Prop) (z4 : Int32) (z5 : Int32) (σ : CST) : Prop := x_St_merge_144 a0 a1 a2 K85 P z4 z5 1 σ
def x_St_merge_85 (a0 : Nat) (a1 : Nat) (a2 : Nat) (P : Int32 → CST → Prop) : Nat → Int32 → Int32 → CST → Prop
  | 0, _, _, _ => False
  | n + 1, z3, z4, σ => σ.1 a0 = some (8, 0) ∧ ((((σ.2.1 a0 2) ≤ z4 → (narrow .boolean (.int z3) = .int z3 ∧ P z3 σ)) ∧ (¬ (σ.2.1 a0 2) ≤ z4 → σ.1 a2 = some (8, 0) ∧ ((((σ.2.1 a2 2) ≤ z4 → (narrow .boolean (.int z3) = .int z3 ∧ P z3 σ)) ∧ (¬ (σ.2.1 a2 2) ≤ z4 → ∀ b12 : Option Nat, b12 = (σ.2.2.2.1 a0 1) → (∃ r13 : Nat, b12 = some r13 ∧ ((∃ n15 : Nat, σ.1 r13 = some (20, n15) ∧ (vp_in z4 n15 ∧ (∀ b17 : Int32, b17 = (σ.2.1 r13 (z4 : Int32).toNatClampNeg) → ∀ b18 : Option Nat, b18 = (σ.2.2.2.1 a2 1) → (∃ r19 : Nat, b18 = some r19 ∧ ((∃ n21 : Nat, σ.1 r19 = some (20, n21) ∧ (vp_in z4 n21 ∧ (∀ b23 : Int32, b23 = (σ.2.1 r19 (z4 : Int32).toNatClampNeg) → σ.1 a1 = some (3, 0) ∧ (x_W_merge a1 b17 b23 σ (fun r26 σ25 => ((z3 = 0 → σ25.1 a0 = some (8, 0) ∧ (∀ b29 : Option Nat, b29 = (σ25.2.2.2.1 a0 1) → (∃ r30 : Nat, b29 = some r30 ∧ ((∃ n32 : Nat, σ25.1 r30 = some (20, n32) ∧ (vp_in z4 n32 ∧ (∀ b34 : Int32, b34 = (σ25.2.1 r30 (z4 : Int32).toNatClampNeg) → ((r26 = b34 → x_St_merge_144 a0 a1 a2 (x_St_merge_85 a0 a1 a2 P n) P z4 r26 0 σ25) ∧ (¬ r26 = b34 → x_St_merge_139 a0 a1 a2 (x_St_merge_85 a0 a1 a2 P n) P z4 r26 σ25))))))))) ∧ (¬ z3 = 0 → x_St_merge_139 a0 a1 a2 (x_St_merge_85 a0 a1 a2 P n) P z4 r26 σ25))))))))))))))))))))
def x_St_merge_82 (a0 : Nat) (a1 : Nat) (a2 : Nat) (P : Int32 → CST → Prop) (z3 : Int32) (σ : CST) : Prop := (∃ n9 : Nat, x_St_merge_85 a0 a1 a2 P n9 z3 0 σ)
def x_St_merge_66 (a0 : Nat) (a1 : Nat) (a2 : Nat) (K5 : Int32 → Int32 → CST → Prop) (P : Int32 → CST → Prop) (z4 : Int32) (z5 : Int32) (s0 : Int32) (σ : CST) : Prop := σ.1 a0 = some (8, 0) ∧ (∀ b37 : Option Nat, b37 = (σ.2.2.2.1 a0 0) → (∃ r38 : Nat, b37 = some r38 ∧ ((∃ n40 : Nat, σ.1 r38 = some (20, n40) ∧ (vp_in z4 n40 ∧ (∀ σ42 : CST, σ42 = sI σ r38 (z4 : Int32).toNatClampNeg z5 → K5 s0 (z4 + 1) σ42))))))
def x_St_merge_61 (a0 : Nat) (a1 : Nat) (a2 : Nat) (K5 : Int32 → Int32 → CST → Prop) (P : Int32 → CST → Prop) (z4 : Int32) (z5 : Int32) (σ : CST) : Prop := x_St_merge_66 a0 a1 a2 K5 P z4 z5 1 σ
def x_St_merge_5 (a0 : Nat) (a1 : Nat) (a2 : Nat) (P : Int32 → CST → Prop) : Nat → Int32 → Int32 → CST → Prop
  | 0, _, _, _ => False
  | n + 1, z3, z4, σ => σ.1 a0 = some (8, 0) ∧ (∀ b44 : Option Nat, b44 = (σ.2.2.2.1 a0 0) → (∃ r45 : Nat, b44 = some r45 ∧ ((∃ n47 : Nat, σ.1 r45 = some (20, n47) ∧ ((((Int32.ofNat n47) ≤ z4 → x_St_merge_82 a0 a1 a2 P z3 σ) ∧ (¬ (Int32.ofNat n47) ≤ z4 → σ.1 a2 = some (8, 0) ∧ (∀ b50 : Option Nat, b50 = (σ.2.2.2.1 a2 0) → (∃ r51 : Nat, b50 = some r51 ∧ ((∃ n53 : Nat, σ.1 r51 = some (20, n53) ∧ ((((Int32.ofNat n53) ≤ z4 → x_St_merge_82 a0 a1 a2 P z3 σ) ∧ (¬ (Int32.ofNat n53) ≤ z4 → ∀ b55 : Option Nat, b55 = (σ.2.2.2.1 a0 0) → (∃ r56 : Nat, b55 = some r56 ∧ ((∃ n58 : Nat, σ.1 r56 = some (20, n58) ∧ (vp_in z4 n58 ∧ (∀ b60 : Int32, b60 = (σ.2.1 r56 (z4 : Int32).toNatClampNeg) → ∀ b61 : Option Nat, b61 = (σ.2.2.2.1 a2 0) → (∃ r62 : Nat, b61 = some r62 ∧ ((∃ n64 : Nat, σ.1 r62 = some (20, n64) ∧ (vp_in z4 n64 ∧ (∀ b66 : Int32, b66 = (σ.2.1 r62 (z4 : Int32).toNatClampNeg) → σ.1 a1 = some (3, 0) ∧ (x_W_merge a1 b60 b66 σ (fun r69 σ68 => ((z3 = 0 → σ68.1 a0 = some (8, 0) ∧ (∀ b72 : Option Nat, b72 = (σ68.2.2.2.1 a0 0) → (∃ r73 : Nat, b72 = some r73 ∧ ((∃ n75 : Nat, σ68.1 r73 = some (20, n75) ∧ (vp_in z4 n75 ∧ (∀ b77 : Int32, b77 = (σ68.2.1 r73 (z4 : Int32).toNatClampNeg) → ((r69 = b77 → x_St_merge_66 a0 a1 a2 (x_St_merge_5 a0 a1 a2 P n) P z4 r69 0 σ68) ∧ (¬ r69 = b77 → x_St_merge_61 a0 a1 a2 (x_St_merge_5 a0 a1 a2 P n) P z4 r69 σ68))))))))) ∧ (¬ z3 = 0 → x_St_merge_61 a0 a1 a2 (x_St_merge_5 a0 a1 a2 P n) P z4 r69 σ68))))))))))))))))))))))))))))
def x_St_merge (a0 : Nat) (a1 : Nat) (a2 : Nat) (σ0 : CST) (P : Int32 → CST → Prop) : Prop := (∃ n9 : Nat, x_St_merge_5 a0 a1 a2 P n9 0 0 σ0)
set_option maxHeartbeats 4000000 in
set_option maxRecDepth 100000 in
theorem X_St_merge (l : Launch) (dC : Nat → ClassId) (dI : Nat → Nat → Nat) (ca : Nat → ClassId) (H0 : Heap) (σ0 : CST) (a0 : Nat) (a1 : Nat) (a2 : Nat) {P : Int32 → CST → Prop} (hw : x_St_merge a0 a1 a2 σ0 P) : Met l g_St_merge (mW g_St_merge prog_9_method_13_code 6 (some .boolean)) ({ frames := 2, cells := σ0.2.2.2.2.1, slots := σ0.2.2.2.2.2.1, locals := 48 } : Room) (va_Pc [.ref a0, .ref a1, .ref a2] (CPre (dC, dI) ca σ0 H0)) (va_Qi P (CB (dC, dI) ca σ0 H0) (cA σ0 H0.size)) σ0.2.2.2.2.1 σ0.2.2.2.2.2.1 (cA σ0 H0.size) := by
  refine C_ofz (by decide +kernel) rfl rfl rfl (Nat.le_of_ble_eq_true rfl) ?_
  intro p e s m below meth cx Q A ls C hnm hend hH0 h hl
  subst hH0
  have C0 := C
  obtain ⟨⟨hx, hb, hml, hown, hts⟩, hsub⟩ := C0
  obtain ⟨cells, e_cells⟩ : ∃ z : Nat, z = 0 := ⟨_, rfl⟩
  obtain ⟨slots, e_slots⟩ : ∃ z : Nat, z = 0 := ⟨_, rfl⟩
  have h : CH (dC, dI) A ca ({ frames := 2, cells := σ0.2.2.2.2.1, slots := σ0.2.2.2.2.2.1, locals := 48 } : Room) σ0.2.2.2.2.2.2 σ0 s s.heap [] cells slots := by rw [e_cells, e_slots]; exact h
  show W p l e ({ frames := 2, cells := σ0.2.2.2.2.1, slots := σ0.2.2.2.2.2.1, locals := 48 } : Room) s m ([.ref a0, .ref a1, .ref a2] : List Value).toArray below meth cx s.heap [] 0 0 Q (F0 m 0 ls [])
  rw [show W p l e ({ frames := 2, cells := σ0.2.2.2.2.1, slots := σ0.2.2.2.2.2.1, locals := 48 } : Room) s m ([.ref a0, .ref a1, .ref a2] : List Value).toArray below meth cx s.heap [] 0 0 Q (F0 m 0 ls []) = W p l e ({ frames := 2, cells := σ0.2.2.2.2.1, slots := σ0.2.2.2.2.2.1, locals := 48 } : Room) s m ([.ref a0, .ref a1, .ref a2] : List Value).toArray below meth cx s.heap [] cells slots Q (F0 m 0 ls []) by rw [e_cells, e_slots]]
  have K_144 : ∀ (K85 : Int32 → Int32 → CST → Prop) (hK85 : ∀ (z3 : Int32) (z4 : Int32) (σ : CST) (H : Heap) (locs : List Loc) (cells slots : Nat) (ls : Array Slot), K85 z3 z4 σ → CH (dC, dI) A ca ({ frames := 2, cells := σ0.2.2.2.2.1, slots := σ0.2.2.2.2.2.1, locals := 48 } : Room) σ0.2.2.2.2.2.2 σ s H locs cells slots → lv_has ls 6 [(0, .ref a0), (1, .ref a1), (2, .ref a2), (3, .int z3), (4, .int z4)] → W p l e ({ frames := 2, cells := σ0.2.2.2.2.1, slots := σ0.2.2.2.2.2.1, locals := 48 } : Room) s m ([.ref a0, .ref a1, .ref a2] : List Value).toArray below meth cx H locs cells slots Q (F0 m 85 ls [])), ∀ (z4 : Int32) (z5 : Int32) (s0 : Int32) (σ : CST) (H : Heap) (locs : List Loc) (cells slots : Nat) (ls : Array Slot), x_St_merge_144 a0 a1 a2 K85 P z4 z5 s0 σ → CH (dC, dI) A ca ({ frames := 2, cells := σ0.2.2.2.2.1, slots := σ0.2.2.2.2.2.1, locals := 48 } : Room) σ0.2.2.2.2.2.2 σ s H locs cells slots → lv_has ls 6 [(0, .ref a0), (1, .ref a1), (2, .ref a2), (4, .int z4), (5, .int z5)] → W p l e ({ frames := 2, cells := σ0.2.2.2.2.1, slots := σ0.2.2.2.2.2.1, locals := 48 } : Room) s m ([.ref a0, .ref a1, .ref a2] : List Value).toArray below meth cx H locs cells slots Q (F0 m 144 ls [.int s0]) := by
    intro K85 hK85 z4 z5 s0 σ H locs cells slots ls hw h hl
    unfold x_St_merge_144 at hw
    refine lv_istore_n (i := 3) (lv' := [(3, .int s0), (0, .ref a0), (1, .ref a1), (2, .ref a2), (4, .int z4), (5, .int z5)]) hx hb h_St_merge_144 rfl hl (by decide) rfl (fun ls hl => ?_)
    refine lv_aload_n hx hb h_St_merge_145 rfl (lv_at hl 1 rfl) ?_
    obtain ⟨g1, hw⟩ := hw
    refine C_get C h 8 1 (v := va_rf (σ.2.2.2.1 a0 1)) g1 rfl (Cn := R_St) (T := T_St) (N := 4) rfl (by decide) rfl uw_St (by decide) u_496 (fun _ q => q) h_St_merge_146 ?_
    refine lv_topq (fun b2 e_b2 => ?_)
    replace hw := hw b2 e_b2
    refine lv_iload hx hb h_St_merge_149 (lv_at hl 4 rfl) ?_
    refine lv_iload hx hb h_St_merge_151 (lv_at hl 5 rfl) ?_
    obtain ⟨r3, e_r3, hw⟩ := hw
    subst e_r3
    have hl : lv_has ls 6 [(3, .int s0), (0, .ref a0), (1, .ref a1), (2, .ref a2), (4, .int z4), (5, .int z5)] := hl
    refine W.eq (g2 := F0 m 153 ls [.int z5, .int z4, .ref r3]) rfl ?_
    obtain ⟨n5, g4, hw⟩ := hw
    obtain ⟨g6, hw⟩ := hw
    refine C_iast C h g4 g6 h_St_merge_153 (fun H locs h => ?_)
    obtain ⟨σ7, e_σ7⟩ : ∃ z : CST, z = sI σ r3 (z4 : Int32).toNatClampNeg z5 := ⟨_, rfl⟩
    rw [← e_σ7] at h
    replace hw := hw σ7 e_σ7
    refine lv_iinc (v := (z4 + 1)) (lv' := [(4, .int (z4 + 1)), (3, .int s0), (0, .ref a0), (1, .ref a1), (2, .ref a2), (5, .int z5)]) hx hb h_St_merge_154 hl (k := 4) rfl (rfl) (by decide) rfl (fun ls hl => ?_)
    refine lv_goto (tgt := 85) hx hb h_St_merge_157 (by decide) ?_
    exact hK85 s0 (z4 + 1) σ7 _ _ _ _ _ hw h (lv_sub hl [2, 3, 4, 1, 0] rfl)
  have K_139 : ∀ (K85 : Int32 → Int32 → CST → Prop) (hK85 : ∀ (z3 : Int32) (z4 : Int32) (σ : CST) (H : Heap) (locs : List Loc) (cells slots : Nat) (ls : Array Slot), K85 z3 z4 σ → CH (dC, dI) A ca ({ frames := 2, cells := σ0.2.2.2.2.1, slots := σ0.2.2.2.2.2.1, locals := 48 } : Room) σ0.2.2.2.2.2.2 σ s H locs cells slots → lv_has ls 6 [(0, .ref a0), (1, .ref a1), (2, .ref a2), (3, .int z3), (4, .int z4)] → W p l e ({ frames := 2, cells := σ0.2.2.2.2.1, slots := σ0.2.2.2.2.2.1, locals := 48 } : Room) s m ([.ref a0, .ref a1, .ref a2] : List Value).toArray below meth cx H locs cells slots Q (F0 m 85 ls [])), ∀ (z4 : Int32) (z5 : Int32) (σ : CST) (H : Heap) (locs : List Loc) (cells slots : Nat) (ls : Array Slot), x_St_merge_139 a0 a1 a2 K85 P z4 z5 σ → CH (dC, dI) A ca ({ frames := 2, cells := σ0.2.2.2.2.1, slots := σ0.2.2.2.2.2.1, locals := 48 } : Room) σ0.2.2.2.2.2.2 σ s H locs cells slots → lv_has ls 6 [(0, .ref a0), (1, .ref a1), (2, .ref a2), (4, .int z4), (5, .int z5)] → W p l e ({ frames := 2, cells := σ0.2.2.2.2.1, slots := σ0.2.2.2.2.2.1, locals := 48 } : Room) s m ([.ref a0, .ref a1, .ref a2] : List Value).toArray below meth cx H locs cells slots Q (F0 m 139 ls []) := by
    intro K85 hK85 z4 z5 σ H locs cells slots ls hw h hl
    unfold x_St_merge_139 at hw
    refine lv_iconst (v := 1) hx hb h_St_merge_139 (by decide) ?_
    refine lv_goto (tgt := 144) hx hb h_St_merge_140 (by decide) ?_
    exact K_144 _ hK85 z4 z5 1 σ _ _ _ _ _ hw h (lv_sub hl [0, 1, 2, 3, 4] rfl)
  have K_85 : ∀ (n : Nat), ∀ (z3 : Int32) (z4 : Int32) (σ : CST) (H : Heap) (locs : List Loc) (cells slots : Nat) (ls : Array Slot), x_St_merge_85 a0 a1 a2 P n z3 z4 σ → CH (dC, dI) A ca ({ frames := 2, cells := σ0.2.2.2.2.1, slots := σ0.2.2.2.2.2.1, locals := 48 } : Room) σ0.2.2.2.2.2.2 σ s H locs cells slots → lv_has ls 6 [(0, .ref a0), (1, .ref a1), (2, .ref a2), (3, .int z3), (4, .int z4)] → W p l e ({ frames := 2, cells := σ0.2.2.2.2.1, slots := σ0.2.2.2.2.2.1, locals := 48 } : Room) s m ([.ref a0, .ref a1, .ref a2] : List Value).toArray below meth cx H locs cells slots Q (F0 m 85 ls []) := by
    intro  n
    induction n with
    | zero => intro z3 z4 σ H locs cells slots ls hw h hl; unfold x_St_merge_85 at hw; exact hw.elim
    | succ n ih =>
      intro z3 z4 σ H locs cells slots ls hw h hl
      unfold x_St_merge_85 at hw
      refine lv_iload hx hb h_St_merge_85 (lv_at hl 4 rfl) ?_
      refine lv_aload_n hx hb h_St_merge_87 rfl (lv_at hl 0 rfl) ?_
      obtain ⟨g8, hw⟩ := hw
      refine C_get C h 8 2 (v := .int (σ.2.1 a0 2)) g8 rfl (Cn := R_St) (T := T_St) (N := 4) rfl (by decide) rfl uw_St (by decide) u_504 (fun _ q => q) h_St_merge_88 ?_
      refine lv_icmp_ge (tgt := 160) hx hb h_St_merge_91 (by decide) (fun c9 => ?_) (fun c9 => ?_)
      · skip
        replace hw := hw.1 c9
        refine lv_iload_n hx hb h_St_merge_160 rfl (lv_at hl 3 rfl) ?_
        exact hend z3 σ _ _ _ _ _ _ hw.1 hw.2 h h_St_merge_161
      · skip
        replace hw := hw.2 c9
        refine lv_iload hx hb h_St_merge_94 (lv_at hl 4 rfl) ?_
        refine lv_aload_n hx hb h_St_merge_96 rfl (lv_at hl 2 rfl) ?_
        obtain ⟨g10, hw⟩ := hw
        refine C_get C h 8 2 (v := .int (σ.2.1 a2 2)) g10 rfl (Cn := R_St) (T := T_St) (N := 4) rfl (by decide) rfl uw_St (by decide) u_504 (fun _ q => q) h_St_merge_97 ?_
        refine lv_icmp_ge (tgt := 160) hx hb h_St_merge_100 (by decide) (fun c11 => ?_) (fun c11 => ?_)
        · skip
          replace hw := hw.1 c11
          refine lv_iload_n hx hb h_St_merge_160 rfl (lv_at hl 3 rfl) ?_
          exact hend z3 σ _ _ _ _ _ _ hw.1 hw.2 h h_St_merge_161
        · skip
          replace hw := hw.2 c11
          refine lv_aload_n hx hb h_St_merge_103 rfl (lv_at hl 1 rfl) ?_
          refine lv_aload_n hx hb h_St_merge_104 rfl (lv_at hl 0 rfl) ?_
          refine C_get C h 8 1 (v := va_rf (σ.2.2.2.1 a0 1)) g8 rfl (Cn := R_St) (T := T_St) (N := 4) rfl (by decide) rfl uw_St (by decide) u_496 (fun _ q => q) h_St_merge_105 ?_
          refine lv_topq (fun b12 e_b12 => ?_)
          replace hw := hw b12 e_b12
          refine lv_iload hx hb h_St_merge_108 (lv_at hl 4 rfl) ?_
          obtain ⟨r13, e_r13, hw⟩ := hw
          subst e_r13
          have hl : lv_has ls 6 [(0, .ref a0), (1, .ref a1), (2, .ref a2), (3, .int z3), (4, .int z4)] := hl
          refine W.eq (g2 := F0 m 110 ls [.int z4, .ref r13, .ref a1]) rfl ?_
          obtain ⟨n15, g14, hw⟩ := hw
          obtain ⟨g16, hw⟩ := hw
          refine C_iald C h g14 g16 h_St_merge_110 ?_
          refine lv_topi (fun b17 e_b17 => ?_)
          replace hw := hw b17 e_b17
          refine lv_aload_n hx hb h_St_merge_111 rfl (lv_at hl 2 rfl) ?_
          refine C_get C h 8 1 (v := va_rf (σ.2.2.2.1 a2 1)) g10 rfl (Cn := R_St) (T := T_St) (N := 4) rfl (by decide) rfl uw_St (by decide) u_496 (fun _ q => q) h_St_merge_112 ?_
          refine lv_topq (fun b18 e_b18 => ?_)
          replace hw := hw b18 e_b18
          refine lv_iload hx hb h_St_merge_115 (lv_at hl 4 rfl) ?_
          obtain ⟨r19, e_r19, hw⟩ := hw
          subst e_r19
          have hl : lv_has ls 6 [(0, .ref a0), (1, .ref a1), (2, .ref a2), (3, .int z3), (4, .int z4)] := hl
          refine W.eq (g2 := F0 m 117 ls [.int z4, .ref r19, .int b17, .ref a1]) rfl ?_
          obtain ⟨n21, g20, hw⟩ := hw
          obtain ⟨g22, hw⟩ := hw
          refine C_iald C h g20 g22 h_St_merge_117 ?_
          refine lv_topi (fun b23 e_b23 => ?_)
          replace hw := hw b23 e_b23
          obtain ⟨g24, hw⟩ := hw
          refine C_callVi (As := [.int b17, .int b23]) (rest := []) C h (ci := 3) (Cn := R_W) (T := T_W) (N := 10) g24 rfl (by decide) (X_W_merge l dC dI ca H σ a1 b17 b23 hw) (cwV 2 hts (gV hsub u_508 u_509 u_510 u_51 u_511) rfl rfl rfl (by decide +kernel) ⟨(Nat.le_of_ble_eq_true rfl), (Nat.le_of_ble_eq_true rfl)⟩) rfl hl.1 (Nat.le_of_ble_eq_true rfl) h_St_merge_118 (fun r26 σ25 H locs cells slots hw9 h9 => ?_)
          clear hw h; have hw := hw9; have h := h9; clear hw9 h9
          refine W.eq (g2 := F0 m 121 ls [.int r26]) rfl ?_
          refine lv_istore (lv' := [(5, .int r26), (0, .ref a0), (1, .ref a1), (2, .ref a2), (3, .int z3), (4, .int z4)]) hx hb h_St_merge_121 hl (by decide) rfl (fun ls hl => ?_)
          refine lv_iload_n hx hb h_St_merge_123 rfl (lv_at hl 4 rfl) ?_
          refine lv_if_ne (tgt := 139) hx hb h_St_merge_124 (by decide) (fun c27 => ?_) (fun c27 => ?_)
          · skip
            replace hw := hw.2 c27
            exact K_139 _ ih z4 r26 σ25 _ _ _ _ _ hw h (lv_sub hl [1, 2, 3, 5, 0] rfl)
          · skip
            replace hw := hw.1 c27
            refine lv_iload hx hb h_St_merge_127 (lv_at hl 0 rfl) ?_
            refine lv_aload_n hx hb h_St_merge_129 rfl (lv_at hl 1 rfl) ?_
            obtain ⟨g28, hw⟩ := hw
            refine C_get C h 8 1 (v := va_rf (σ25.2.2.2.1 a0 1)) g28 rfl (Cn := R_St) (T := T_St) (N := 4) rfl (by decide) rfl uw_St (by decide) u_496 (fun _ q => q) h_St_merge_130 ?_
            refine lv_topq (fun b29 e_b29 => ?_)
            replace hw := hw b29 e_b29
            refine lv_iload hx hb h_St_merge_133 (lv_at hl 5 rfl) ?_
            obtain ⟨r30, e_r30, hw⟩ := hw
            subst e_r30
            have hl : lv_has ls 6 [(5, .int r26), (0, .ref a0), (1, .ref a1), (2, .ref a2), (3, .int z3), (4, .int z4)] := hl
            refine W.eq (g2 := F0 m 135 ls [.int z4, .ref r30, .int r26]) rfl ?_
            obtain ⟨n32, g31, hw⟩ := hw
            obtain ⟨g33, hw⟩ := hw
            refine C_iald C h g31 g33 h_St_merge_135 ?_
            refine lv_topi (fun b34 e_b34 => ?_)
            replace hw := hw b34 e_b34
            refine lv_icmp_eq (tgt := 143) hx hb h_St_merge_136 (by decide) (fun c35 => ?_) (fun c35 => ?_)
            · skip
              replace hw := hw.1 c35
              refine lv_iconst (v := 0) hx hb h_St_merge_143 (by decide) ?_
              exact K_144 _ ih z4 r26 0 σ25 _ _ _ _ _ hw h (lv_sub hl [1, 2, 3, 5, 0] rfl)
            · skip
              replace hw := hw.2 c35
              exact K_139 _ ih z4 r26 σ25 _ _ _ _ _ hw h (lv_sub hl [1, 2, 3, 5, 0] rfl)
  have K_82 : ∀ (u9 : Unit), ∀ (z3 : Int32) (σ : CST) (H : Heap) (locs : List Loc) (cells slots : Nat) (ls : Array Slot), x_St_merge_82 a0 a1 a2 P z3 σ → CH (dC, dI) A ca ({ frames := 2, cells := σ0.2.2.2.2.1, slots := σ0.2.2.2.2.2.1, locals := 48 } : Room) σ0.2.2.2.2.2.2 σ s H locs cells slots → lv_has ls 6 [(0, .ref a0), (1, .ref a1), (2, .ref a2), (3, .int z3)] → W p l e ({ frames := 2, cells := σ0.2.2.2.2.1, slots := σ0.2.2.2.2.2.1, locals := 48 } : Room) s m ([.ref a0, .ref a1, .ref a2] : List Value).toArray below meth cx H locs cells slots Q (F0 m 82 ls []) := by
    intro u9 z3 σ H locs cells slots ls hw h hl
    unfold x_St_merge_82 at hw
    refine lv_iconst (v := 0) hx hb h_St_merge_82 (by decide) ?_
    refine lv_istore (lv' := [(4, .int 0), (0, .ref a0), (1, .ref a1), (2, .ref a2), (3, .int z3)]) hx hb h_St_merge_83 hl (by decide) rfl (fun ls hl => ?_)
    obtain ⟨n9, hw⟩ := hw
    exact K_85 n9 z3 0 σ _ _ _ _ _ hw h (lv_sub hl [1, 2, 3, 4, 0] rfl)
  have K_66 : ∀ (K5 : Int32 → Int32 → CST → Prop) (hK5 : ∀ (z3 : Int32) (z4 : Int32) (σ : CST) (H : Heap) (locs : List Loc) (cells slots : Nat) (ls : Array Slot), K5 z3 z4 σ → CH (dC, dI) A ca ({ frames := 2, cells := σ0.2.2.2.2.1, slots := σ0.2.2.2.2.2.1, locals := 48 } : Room) σ0.2.2.2.2.2.2 σ s H locs cells slots → lv_has ls 6 [(0, .ref a0), (1, .ref a1), (2, .ref a2), (3, .int z3), (4, .int z4)] → W p l e ({ frames := 2, cells := σ0.2.2.2.2.1, slots := σ0.2.2.2.2.2.1, locals := 48 } : Room) s m ([.ref a0, .ref a1, .ref a2] : List Value).toArray below meth cx H locs cells slots Q (F0 m 5 ls [])), ∀ (z4 : Int32) (z5 : Int32) (s0 : Int32) (σ : CST) (H : Heap) (locs : List Loc) (cells slots : Nat) (ls : Array Slot), x_St_merge_66 a0 a1 a2 K5 P z4 z5 s0 σ → CH (dC, dI) A ca ({ frames := 2, cells := σ0.2.2.2.2.1, slots := σ0.2.2.2.2.2.1, locals := 48 } : Room) σ0.2.2.2.2.2.2 σ s H locs cells slots → lv_has ls 6 [(0, .ref a0), (1, .ref a1), (2, .ref a2), (4, .int z4), (5, .int z5)] → W p l e ({ frames := 2, cells := σ0.2.2.2.2.1, slots := σ0.2.2.2.2.2.1, locals := 48 } : Room) s m ([.ref a0, .ref a1, .ref a2] : List Value).toArray below meth cx H locs cells slots Q (F0 m 66 ls [.int s0]) := by
    intro K5 hK5 z4 z5 s0 σ H locs cells slots ls hw h hl
    unfold x_St_merge_66 at hw
    refine lv_istore_n (i := 3) (lv' := [(3, .int s0), (0, .ref a0), (1, .ref a1), (2, .ref a2), (4, .int z4), (5, .int z5)]) hx hb h_St_merge_66 rfl hl (by decide) rfl (fun ls hl => ?_)
    refine lv_aload_n hx hb h_St_merge_67 rfl (lv_at hl 1 rfl) ?_
    obtain ⟨g36, hw⟩ := hw
    refine C_get C h 8 0 (v := va_rf (σ.2.2.2.1 a0 0)) g36 rfl (Cn := R_St) (T := T_St) (N := 4) rfl (by decide) rfl uw_St (by decide) u_495 (fun _ q => q) h_St_merge_68 ?_
    refine lv_topq (fun b37 e_b37 => ?_)
    replace hw := hw b37 e_b37
    refine lv_iload hx hb h_St_merge_71 (lv_at hl 4 rfl) ?_
    refine lv_iload hx hb h_St_merge_73 (lv_at hl 5 rfl) ?_
    obtain ⟨r38, e_r38, hw⟩ := hw
    subst e_r38
    have hl : lv_has ls 6 [(3, .int s0), (0, .ref a0), (1, .ref a1), (2, .ref a2), (4, .int z4), (5, .int z5)] := hl
    refine W.eq (g2 := F0 m 75 ls [.int z5, .int z4, .ref r38]) rfl ?_
    obtain ⟨n40, g39, hw⟩ := hw
    obtain ⟨g41, hw⟩ := hw
    refine C_iast C h g39 g41 h_St_merge_75 (fun H locs h => ?_)
    obtain ⟨σ42, e_σ42⟩ : ∃ z : CST, z = sI σ r38 (z4 : Int32).toNatClampNeg z5 := ⟨_, rfl⟩
    rw [← e_σ42] at h
    replace hw := hw σ42 e_σ42
    refine lv_iinc (v := (z4 + 1)) (lv' := [(4, .int (z4 + 1)), (3, .int s0), (0, .ref a0), (1, .ref a1), (2, .ref a2), (5, .int z5)]) hx hb h_St_merge_76 hl (k := 4) rfl (rfl) (by decide) rfl (fun ls hl => ?_)
    refine lv_goto (tgt := 5) hx hb h_St_merge_79 (by decide) ?_
    exact hK5 s0 (z4 + 1) σ42 _ _ _ _ _ hw h (lv_sub hl [2, 3, 4, 1, 0] rfl)
  have K_61 : ∀ (K5 : Int32 → Int32 → CST → Prop) (hK5 : ∀ (z3 : Int32) (z4 : Int32) (σ : CST) (H : Heap) (locs : List Loc) (cells slots : Nat) (ls : Array Slot), K5 z3 z4 σ → CH (dC, dI) A ca ({ frames := 2, cells := σ0.2.2.2.2.1, slots := σ0.2.2.2.2.2.1, locals := 48 } : Room) σ0.2.2.2.2.2.2 σ s H locs cells slots → lv_has ls 6 [(0, .ref a0), (1, .ref a1), (2, .ref a2), (3, .int z3), (4, .int z4)] → W p l e ({ frames := 2, cells := σ0.2.2.2.2.1, slots := σ0.2.2.2.2.2.1, locals := 48 } : Room) s m ([.ref a0, .ref a1, .ref a2] : List Value).toArray below meth cx H locs cells slots Q (F0 m 5 ls [])), ∀ (z4 : Int32) (z5 : Int32) (σ : CST) (H : Heap) (locs : List Loc) (cells slots : Nat) (ls : Array Slot), x_St_merge_61 a0 a1 a2 K5 P z4 z5 σ → CH (dC, dI) A ca ({ frames := 2, cells := σ0.2.2.2.2.1, slots := σ0.2.2.2.2.2.1, locals := 48 } : Room) σ0.2.2.2.2.2.2 σ s H locs cells slots → lv_has ls 6 [(0, .ref a0), (1, .ref a1), (2, .ref a2), (4, .int z4), (5, .int z5)] → W p l e ({ frames := 2, cells := σ0.2.2.2.2.1, slots := σ0.2.2.2.2.2.1, locals := 48 } : Room) s m ([.ref a0, .ref a1, .ref a2] : List Value).toArray below meth cx H locs cells slots Q (F0 m 61 ls []) := by
    intro K5 hK5 z4 z5 σ H locs cells slots ls hw h hl
    unfold x_St_merge_61 at hw
    refine lv_iconst (v := 1) hx hb h_St_merge_61 (by decide) ?_
    refine lv_goto (tgt := 66) hx hb h_St_merge_62 (by decide) ?_
    exact K_66 _ hK5 z4 z5 1 σ _ _ _ _ _ hw h (lv_sub hl [0, 1, 2, 3, 4] rfl)
  have K_5 : ∀ (n : Nat), ∀ (z3 : Int32) (z4 : Int32) (σ : CST) (H : Heap) (locs : List Loc) (cells slots : Nat) (ls : Array Slot), x_St_merge_5 a0 a1 a2 P n z3 z4 σ → CH (dC, dI) A ca ({ frames := 2, cells := σ0.2.2.2.2.1, slots := σ0.2.2.2.2.2.1, locals := 48 } : Room) σ0.2.2.2.2.2.2 σ s H locs cells slots → lv_has ls 6 [(0, .ref a0), (1, .ref a1), (2, .ref a2), (3, .int z3), (4, .int z4)] → W p l e ({ frames := 2, cells := σ0.2.2.2.2.1, slots := σ0.2.2.2.2.2.1, locals := 48 } : Room) s m ([.ref a0, .ref a1, .ref a2] : List Value).toArray below meth cx H locs cells slots Q (F0 m 5 ls []) := by
    intro  n
    induction n with
    | zero => intro z3 z4 σ H locs cells slots ls hw h hl; unfold x_St_merge_5 at hw; exact hw.elim
    | succ n ih =>
      intro z3 z4 σ H locs cells slots ls hw h hl
      unfold x_St_merge_5 at hw
      refine lv_iload hx hb h_St_merge_5 (lv_at hl 4 rfl) ?_
      refine lv_aload_n hx hb h_St_merge_7 rfl (lv_at hl 0 rfl) ?_
      obtain ⟨g43, hw⟩ := hw
      refine C_get C h 8 0 (v := va_rf (σ.2.2.2.1 a0 0)) g43 rfl (Cn := R_St) (T := T_St) (N := 4) rfl (by decide) rfl uw_St (by decide) u_495 (fun _ q => q) h_St_merge_8 ?_
      refine lv_topq (fun b44 e_b44 => ?_)
      replace hw := hw b44 e_b44
      obtain ⟨r45, e_r45, hw⟩ := hw
      subst e_r45
      have hl : lv_has ls 6 [(0, .ref a0), (1, .ref a1), (2, .ref a2), (3, .int z3), (4, .int z4)] := hl
      refine W.eq (g2 := F0 m 11 ls [.ref r45, .int z4]) rfl ?_
      obtain ⟨n47, g46, hw⟩ := hw
      refine C_alen C h 20 0 rfl (by decide) g46 h_St_merge_11 ?_
      refine lv_icmp_ge (tgt := 82) hx hb h_St_merge_12 (by decide) (fun c48 => ?_) (fun c48 => ?_)
      · skip
        replace hw := hw.1 c48
        exact K_82 () z3 σ _ _ _ _ _ hw h (lv_sub hl [0, 1, 2, 3] rfl)
      · skip
        replace hw := hw.2 c48
        refine lv_iload hx hb h_St_merge_15 (lv_at hl 4 rfl) ?_
        refine lv_aload_n hx hb h_St_merge_17 rfl (lv_at hl 2 rfl) ?_
        obtain ⟨g49, hw⟩ := hw
        refine C_get C h 8 0 (v := va_rf (σ.2.2.2.1 a2 0)) g49 rfl (Cn := R_St) (T := T_St) (N := 4) rfl (by decide) rfl uw_St (by decide) u_495 (fun _ q => q) h_St_merge_18 ?_
        refine lv_topq (fun b50 e_b50 => ?_)
        replace hw := hw b50 e_b50
        obtain ⟨r51, e_r51, hw⟩ := hw
        subst e_r51
        have hl : lv_has ls 6 [(0, .ref a0), (1, .ref a1), (2, .ref a2), (3, .int z3), (4, .int z4)] := hl
        refine W.eq (g2 := F0 m 21 ls [.ref r51, .int z4]) rfl ?_
        obtain ⟨n53, g52, hw⟩ := hw
        refine C_alen C h 20 0 rfl (by decide) g52 h_St_merge_21 ?_
        refine lv_icmp_ge (tgt := 82) hx hb h_St_merge_22 (by decide) (fun c54 => ?_) (fun c54 => ?_)
        · skip
          replace hw := hw.1 c54
          exact K_82 () z3 σ _ _ _ _ _ hw h (lv_sub hl [0, 1, 2, 3] rfl)
        · skip
          replace hw := hw.2 c54
          refine lv_aload_n hx hb h_St_merge_25 rfl (lv_at hl 1 rfl) ?_
          refine lv_aload_n hx hb h_St_merge_26 rfl (lv_at hl 0 rfl) ?_
          refine C_get C h 8 0 (v := va_rf (σ.2.2.2.1 a0 0)) g43 rfl (Cn := R_St) (T := T_St) (N := 4) rfl (by decide) rfl uw_St (by decide) u_495 (fun _ q => q) h_St_merge_27 ?_
          refine lv_topq (fun b55 e_b55 => ?_)
          replace hw := hw b55 e_b55
          refine lv_iload hx hb h_St_merge_30 (lv_at hl 4 rfl) ?_
          obtain ⟨r56, e_r56, hw⟩ := hw
          subst e_r56
          have hl : lv_has ls 6 [(0, .ref a0), (1, .ref a1), (2, .ref a2), (3, .int z3), (4, .int z4)] := hl
          refine W.eq (g2 := F0 m 32 ls [.int z4, .ref r56, .ref a1]) rfl ?_
          obtain ⟨n58, g57, hw⟩ := hw
          obtain ⟨g59, hw⟩ := hw
          refine C_iald C h g57 g59 h_St_merge_32 ?_
          refine lv_topi (fun b60 e_b60 => ?_)
          replace hw := hw b60 e_b60
          refine lv_aload_n hx hb h_St_merge_33 rfl (lv_at hl 2 rfl) ?_
          refine C_get C h 8 0 (v := va_rf (σ.2.2.2.1 a2 0)) g49 rfl (Cn := R_St) (T := T_St) (N := 4) rfl (by decide) rfl uw_St (by decide) u_495 (fun _ q => q) h_St_merge_34 ?_
          refine lv_topq (fun b61 e_b61 => ?_)
          replace hw := hw b61 e_b61
          refine lv_iload hx hb h_St_merge_37 (lv_at hl 4 rfl) ?_
          obtain ⟨r62, e_r62, hw⟩ := hw
          subst e_r62
          have hl : lv_has ls 6 [(0, .ref a0), (1, .ref a1), (2, .ref a2), (3, .int z3), (4, .int z4)] := hl
          refine W.eq (g2 := F0 m 39 ls [.int z4, .ref r62, .int b60, .ref a1]) rfl ?_
          obtain ⟨n64, g63, hw⟩ := hw
          obtain ⟨g65, hw⟩ := hw
          refine C_iald C h g63 g65 h_St_merge_39 ?_
          refine lv_topi (fun b66 e_b66 => ?_)
          replace hw := hw b66 e_b66
          obtain ⟨g67, hw⟩ := hw
          refine C_callVi (As := [.int b60, .int b66]) (rest := []) C h (ci := 3) (Cn := R_W) (T := T_W) (N := 10) g67 rfl (by decide) (X_W_merge l dC dI ca H σ a1 b60 b66 hw) (cwV 2 hts (gV hsub u_508 u_509 u_510 u_51 u_511) rfl rfl rfl (by decide +kernel) ⟨(Nat.le_of_ble_eq_true rfl), (Nat.le_of_ble_eq_true rfl)⟩) rfl hl.1 (Nat.le_of_ble_eq_true rfl) h_St_merge_40 (fun r69 σ68 H locs cells slots hw9 h9 => ?_)
          clear hw h; have hw := hw9; have h := h9; clear hw9 h9
          refine W.eq (g2 := F0 m 43 ls [.int r69]) rfl ?_
          refine lv_istore (lv' := [(5, .int r69), (0, .ref a0), (1, .ref a1), (2, .ref a2), (3, .int z3), (4, .int z4)]) hx hb h_St_merge_43 hl (by decide) rfl (fun ls hl => ?_)
          refine lv_iload_n hx hb h_St_merge_45 rfl (lv_at hl 4 rfl) ?_
          refine lv_if_ne (tgt := 61) hx hb h_St_merge_46 (by decide) (fun c70 => ?_) (fun c70 => ?_)
          · skip
            replace hw := hw.2 c70
            exact K_61 _ ih z4 r69 σ68 _ _ _ _ _ hw h (lv_sub hl [1, 2, 3, 5, 0] rfl)
          · skip
            replace hw := hw.1 c70
            refine lv_iload hx hb h_St_merge_49 (lv_at hl 0 rfl) ?_
            refine lv_aload_n hx hb h_St_merge_51 rfl (lv_at hl 1 rfl) ?_
            obtain ⟨g71, hw⟩ := hw
            refine C_get C h 8 0 (v := va_rf (σ68.2.2.2.1 a0 0)) g71 rfl (Cn := R_St) (T := T_St) (N := 4) rfl (by decide) rfl uw_St (by decide) u_495 (fun _ q => q) h_St_merge_52 ?_
            refine lv_topq (fun b72 e_b72 => ?_)
            replace hw := hw b72 e_b72
            refine lv_iload hx hb h_St_merge_55 (lv_at hl 5 rfl) ?_
            obtain ⟨r73, e_r73, hw⟩ := hw
            subst e_r73
            have hl : lv_has ls 6 [(5, .int r69), (0, .ref a0), (1, .ref a1), (2, .ref a2), (3, .int z3), (4, .int z4)] := hl
            refine W.eq (g2 := F0 m 57 ls [.int z4, .ref r73, .int r69]) rfl ?_
            obtain ⟨n75, g74, hw⟩ := hw
            obtain ⟨g76, hw⟩ := hw
            refine C_iald C h g74 g76 h_St_merge_57 ?_
            refine lv_topi (fun b77 e_b77 => ?_)
            replace hw := hw b77 e_b77
            refine lv_icmp_eq (tgt := 65) hx hb h_St_merge_58 (by decide) (fun c78 => ?_) (fun c78 => ?_)
            · skip
              replace hw := hw.1 c78
              refine lv_iconst (v := 0) hx hb h_St_merge_65 (by decide) ?_
              exact K_66 _ ih z4 r69 0 σ68 _ _ _ _ _ hw h (lv_sub hl [1, 2, 3, 5, 0] rfl)
            · skip
              replace hw := hw.2 c78
              exact K_61 _ ih z4 r69 σ68 _ _ _ _ _ hw h (lv_sub hl [1, 2, 3, 5, 0] rfl)
  have hl : lv_has ls 6 [(0, .ref a0), (1, .ref a1), (2, .ref a2)] := hl
  unfold x_St_merge at hw
  refine lv_iconst (v := 0) hx hb h_St_merge_0 (by decide) ?_
  refine lv_istore_n (i := 3) (lv' := [(3, .int 0), (0, .ref a0), (1, .ref a1), (2, .ref a2)]) hx hb h_St_merge_1 rfl hl (by decide) rfl (fun ls hl => ?_)
  refine lv_iconst (v := 0) hx hb h_St_merge_2 (by decide) ?_
  refine lv_istore (lv' := [(4, .int 0), (3, .int 0), (0, .ref a0), (1, .ref a1), (2, .ref a2)]) hx hb h_St_merge_3 hl (by decide) rfl (fun ls hl => ?_)
  obtain ⟨n9, hw⟩ := hw
  exact K_5 n9 0 0 σ0 _ _ _ _ _ hw h (lv_sub hl [2, 3, 4, 1, 0] rfl)
abbrev g_Sp_init : MethodName := ⟨"MapFramer$Stepper", "<init>", "(LMapFramer$World;LMapFramer$Method;)V"⟩
theorem u_512 : (Cond.methodLink "MapFramer$Stepper" 1 ⟨"java/lang/Object", "<init>", "()V"⟩ : Cond) ∈ bigW := inB_3 153 (by decide +kernel) rfl
theorem u_513 : (Cond.fieldLink "MapFramer$Stepper" 7 "MapFramer$Stepper" "world" "LMapFramer$World;" : Cond) ∈ bigW := inB_3 154 (by decide +kernel) rfl
theorem u_514 : (Cond.fieldLink "MapFramer$Stepper" 13 "MapFramer$Stepper" "method" "LMapFramer$Method;" : Cond) ∈ bigW := inB_3 155 (by decide +kernel) rfl
theorem h_Sp_init_0 : decode prog_10_method_1_code 0 = .ok (.aload_n 0, 1) := by decide +kernel
theorem h_Sp_init_1 : decode prog_10_method_1_code 1 = .ok (.invokespecial 1, 3) := by decide +kernel
theorem h_Sp_init_4 : decode prog_10_method_1_code 4 = .ok (.aload_n 0, 1) := by decide +kernel
theorem h_Sp_init_5 : decode prog_10_method_1_code 5 = .ok (.aload_n 1, 1) := by decide +kernel
theorem h_Sp_init_6 : decode prog_10_method_1_code 6 = .ok (.putfield 7, 3) := by decide +kernel
theorem h_Sp_init_9 : decode prog_10_method_1_code 9 = .ok (.aload_n 0, 1) := by decide +kernel
theorem h_Sp_init_10 : decode prog_10_method_1_code 10 = .ok (.aload_n 2, 1) := by decide +kernel
theorem h_Sp_init_11 : decode prog_10_method_1_code 11 = .ok (.putfield 13, 3) := by decide +kernel
theorem h_Sp_init_14 : decode prog_10_method_1_code 14 = .ok (.return_, 1) := by decide +kernel
def x_Sp_init (a0 : Nat) (a1 : Nat) (a2 : Nat) (σ0 : CST) (P : CST → Prop) : Prop := σ0.1 a0 = some (9, 0) ∧ (∀ σ2 : CST, σ2 = sR σ0 a0 0 (some a1) → σ2.1 a0 = some (9, 0) ∧ (∀ σ4 : CST, σ4 = sR σ2 a0 1 (some a2) → P σ4))
set_option maxHeartbeats 4000000 in
set_option maxRecDepth 100000 in
theorem X_Sp_init (l : Launch) (dC : Nat → ClassId) (dI : Nat → Nat → Nat) (ca : Nat → ClassId) (H0 : Heap) (σ0 : CST) (a0 : Nat) (a1 : Nat) (a2 : Nat) {P : CST → Prop} (hw : x_Sp_init a0 a1 a2 σ0 P) : Met l g_Sp_init (mW g_Sp_init prog_10_method_1_code 3 none) ({ frames := 1, cells := σ0.2.2.2.2.1, slots := σ0.2.2.2.2.2.1, locals := 12 } : Room) (va_Pc [.ref a0, .ref a1, .ref a2] (CPre (dC, dI) ca σ0 H0)) (va_Qv P (CB (dC, dI) ca σ0 H0) (cA σ0 H0.size)) σ0.2.2.2.2.1 σ0.2.2.2.2.2.1 (cA σ0 H0.size) := by
  refine C_ofv (by decide +kernel) rfl rfl rfl (Nat.le_of_ble_eq_true rfl) ?_
  intro p e s m below meth cx Q A ls C hnm hend hH0 h hl
  subst hH0
  have C0 := C
  obtain ⟨⟨hx, hb, hml, hown, hts⟩, hsub⟩ := C0
  obtain ⟨cells, e_cells⟩ : ∃ z : Nat, z = 0 := ⟨_, rfl⟩
  obtain ⟨slots, e_slots⟩ : ∃ z : Nat, z = 0 := ⟨_, rfl⟩
  have h : CH (dC, dI) A ca ({ frames := 1, cells := σ0.2.2.2.2.1, slots := σ0.2.2.2.2.2.1, locals := 12 } : Room) σ0.2.2.2.2.2.2 σ0 s s.heap [] cells slots := by rw [e_cells, e_slots]; exact h
  show W p l e ({ frames := 1, cells := σ0.2.2.2.2.1, slots := σ0.2.2.2.2.2.1, locals := 12 } : Room) s m ([.ref a0, .ref a1, .ref a2] : List Value).toArray below meth cx s.heap [] 0 0 Q (F0 m 0 ls [])
  rw [show W p l e ({ frames := 1, cells := σ0.2.2.2.2.1, slots := σ0.2.2.2.2.2.1, locals := 12 } : Room) s m ([.ref a0, .ref a1, .ref a2] : List Value).toArray below meth cx s.heap [] 0 0 Q (F0 m 0 ls []) = W p l e ({ frames := 1, cells := σ0.2.2.2.2.1, slots := σ0.2.2.2.2.2.1, locals := 12 } : Room) s m ([.ref a0, .ref a1, .ref a2] : List Value).toArray below meth cx s.heap [] cells slots Q (F0 m 0 ls []) by rw [e_cells, e_slots]]
  have hl : lv_has ls 3 [(0, .ref a0), (1, .ref a1), (2, .ref a2)] := hl
  unfold x_Sp_init at hw
  refine lv_aload_n hx hb h_Sp_init_0 rfl (lv_at hl 0 rfl) ?_
  refine W.objInit hx hb hown (hts _ (hsub _ u_512)) (hts _ (hsub _ u_1)) (hts _ (hsub _ u_2)) rfl (by rw [hml]; exact hl.1) rfl h_Sp_init_1 (Nat.le_of_ble_eq_true rfl) (Nat.le_of_ble_eq_true rfl) ?_
  refine W.eq (g2 := F0 m 4 ls []) rfl ?_
  refine lv_aload_n hx hb h_Sp_init_4 rfl (lv_at hl 0 rfl) ?_
  refine lv_aload_n hx hb h_Sp_init_5 rfl (lv_at hl 1 rfl) ?_
  obtain ⟨g1, hw⟩ := hw
  refine C_putr C h 9 0 (v := (some a1)) (ty := (.object "MapFramer$World")) g1 (Cn := R_Sp) (T := T_Sp) (N := 5) rfl (by decide) rfl uw_Sp tok_Sp nm_Sp (by decide) rfl u_513 (fun _ q => q) (Or.inr ⟨rfl, hnm, rfl⟩) (by decide +kernel) ck_o h_Sp_init_6 (fun H locs h => ?_)
  obtain ⟨σ2, e_σ2⟩ : ∃ z : CST, z = sR σ0 a0 0 (some a1) := ⟨_, rfl⟩
  rw [← e_σ2] at h
  replace hw := hw σ2 e_σ2
  refine lv_aload_n hx hb h_Sp_init_9 rfl (lv_at hl 0 rfl) ?_
  refine lv_aload_n hx hb h_Sp_init_10 rfl (lv_at hl 2 rfl) ?_
  obtain ⟨g3, hw⟩ := hw
  refine C_putr C h 9 1 (v := (some a2)) (ty := (.object "MapFramer$Method")) g3 (Cn := R_Sp) (T := T_Sp) (N := 5) rfl (by decide) rfl uw_Sp tok_Sp nm_Sp (by decide) rfl u_514 (fun _ q => q) (Or.inr ⟨rfl, hnm, rfl⟩) (by decide +kernel) ck_o h_Sp_init_11 (fun H locs h => ?_)
  obtain ⟨σ4, e_σ4⟩ : ∃ z : CST, z = sR σ2 a0 1 (some a2) := ⟨_, rfl⟩
  rw [← e_σ4] at h
  replace hw := hw σ4 e_σ4
  exact hend σ4 _ _ _ _ _ _ hw h h_Sp_init_14
abbrev g_Sp_fail : MethodName := ⟨"MapFramer$Stepper", "fail", "(I)V"⟩
theorem u_515 : (Cond.fieldLink "MapFramer$Stepper" 25 "MapFramer$Stepper" "fault" "I" : Cond) ∈ bigW := inB_3 158 (by decide +kernel) rfl
theorem h_Sp_fail_0 : decode prog_10_method_3_code 0 = .ok (.aload_n 0, 1) := by decide +kernel
theorem h_Sp_fail_1 : decode prog_10_method_3_code 1 = .ok (.getfield 25, 3) := by decide +kernel
theorem h_Sp_fail_4 : decode prog_10_method_3_code 4 = .ok (.ifCond .ne 8, 3) := by decide +kernel
theorem h_Sp_fail_7 : decode prog_10_method_3_code 7 = .ok (.aload_n 0, 1) := by decide +kernel
theorem h_Sp_fail_8 : decode prog_10_method_3_code 8 = .ok (.iload_n 1, 1) := by decide +kernel
theorem h_Sp_fail_9 : decode prog_10_method_3_code 9 = .ok (.putfield 25, 3) := by decide +kernel
theorem h_Sp_fail_12 : decode prog_10_method_3_code 12 = .ok (.return_, 1) := by decide +kernel
def x_Sp_fail (a0 : Nat) (x1 : Int32) (σ0 : CST) (P : CST → Prop) : Prop := σ0.1 a0 = some (9, 0) ∧ ((((σ0.2.1 a0 4) = 0 → ∀ σ3 : CST, σ3 = sI σ0 a0 4 x1 → P σ3) ∧ (¬ (σ0.2.1 a0 4) = 0 → P σ0)))
set_option maxHeartbeats 4000000 in
set_option maxRecDepth 100000 in
theorem X_Sp_fail (l : Launch) (dC : Nat → ClassId) (dI : Nat → Nat → Nat) (ca : Nat → ClassId) (H0 : Heap) (σ0 : CST) (a0 : Nat) (x1 : Int32) {P : CST → Prop} (hw : x_Sp_fail a0 x1 σ0 P) : Met l g_Sp_fail (mW g_Sp_fail prog_10_method_3_code 2 none) ({ frames := 0, cells := σ0.2.2.2.2.1, slots := σ0.2.2.2.2.2.1, locals := 0 } : Room) (va_Pc [.ref a0, .int x1] (CPre (dC, dI) ca σ0 H0)) (va_Qv P (CB (dC, dI) ca σ0 H0) (cA σ0 H0.size)) σ0.2.2.2.2.1 σ0.2.2.2.2.2.1 (cA σ0 H0.size) := by
  refine C_ofv (by decide +kernel) rfl rfl rfl (Nat.le_of_ble_eq_true rfl) ?_
  intro p e s m below meth cx Q A ls C hnm hend hH0 h hl
  subst hH0
  have C0 := C
  obtain ⟨⟨hx, hb, hml, hown, hts⟩, hsub⟩ := C0
  obtain ⟨cells, e_cells⟩ : ∃ z : Nat, z = 0 := ⟨_, rfl⟩
  obtain ⟨slots, e_slots⟩ : ∃ z : Nat, z = 0 := ⟨_, rfl⟩
  have h : CH (dC, dI) A ca ({ frames := 0, cells := σ0.2.2.2.2.1, slots := σ0.2.2.2.2.2.1, locals := 0 } : Room) σ0.2.2.2.2.2.2 σ0 s s.heap [] cells slots := by rw [e_cells, e_slots]; exact h
  show W p l e ({ frames := 0, cells := σ0.2.2.2.2.1, slots := σ0.2.2.2.2.2.1, locals := 0 } : Room) s m ([.ref a0, .int x1] : List Value).toArray below meth cx s.heap [] 0 0 Q (F0 m 0 ls [])
  rw [show W p l e ({ frames := 0, cells := σ0.2.2.2.2.1, slots := σ0.2.2.2.2.2.1, locals := 0 } : Room) s m ([.ref a0, .int x1] : List Value).toArray below meth cx s.heap [] 0 0 Q (F0 m 0 ls []) = W p l e ({ frames := 0, cells := σ0.2.2.2.2.1, slots := σ0.2.2.2.2.2.1, locals := 0 } : Room) s m ([.ref a0, .int x1] : List Value).toArray below meth cx s.heap [] cells slots Q (F0 m 0 ls []) by rw [e_cells, e_slots]]
  have hl : lv_has ls 2 [(0, .ref a0), (1, .int x1)] := hl
  unfold x_Sp_fail at hw
  refine lv_aload_n hx hb h_Sp_fail_0 rfl (lv_at hl 0 rfl) ?_
  obtain ⟨g1, hw⟩ := hw
  refine C_get C h 9 4 (v := .int (σ0.2.1 a0 4)) g1 rfl (Cn := R_Sp) (T := T_Sp) (N := 5) rfl (by decide) rfl uw_Sp (by decide) u_515 (fun _ q => q) h_Sp_fail_1 ?_
  refine lv_if_ne (tgt := 12) hx hb h_Sp_fail_4 (by decide) (fun c2 => ?_) (fun c2 => ?_)
  · skip
    replace hw := hw.2 c2
    exact hend σ0 _ _ _ _ _ _ hw h h_Sp_fail_12
  · skip
    replace hw := hw.1 c2
    refine lv_aload_n hx hb h_Sp_fail_7 rfl (lv_at hl 0 rfl) ?_
    refine lv_iload_n hx hb h_Sp_fail_8 rfl (lv_at hl 1 rfl) ?_
    refine C_puti C h 9 4 g1 (Cn := R_Sp) (T := T_Sp) (N := 5) rfl (by decide) rfl uw_Sp tok_Sp nm_Sp (by decide) rfl u_515 (fun _ q => q) (Or.inl rfl) (by decide +kernel) h_Sp_fail_9 (fun H locs h => ?_)
    obtain ⟨σ3, e_σ3⟩ : ∃ z : CST, z = sI σ0 a0 4 x1 := ⟨_, rfl⟩
    rw [← e_σ3] at h
    replace hw := hw σ3 e_σ3
    exact hend σ3 _ _ _ _ _ _ hw h h_Sp_fail_12
abbrev g_Sp_push : MethodName := ⟨"MapFramer$Stepper", "push", "(I)V"⟩
theorem u_516 : (Cond.fieldLink "MapFramer$Stepper" 17 "MapFramer$Stepper" "state" "LMapFramer$State;" : Cond) ∈ bigW := inB_3 156 (by decide +kernel) rfl
theorem u_517 : (Cond.methodLink "MapFramer$Stepper" 90 ⟨"MapFramer$State", "push", "(I)Z"⟩ : Cond) ∈ bigW := inB_4 131 (by decide +kernel) rfl
theorem u_518 : (Cond.instanceMethod ⟨"MapFramer$State", "push", "(I)Z"⟩ : Cond) ∈ bigW := inB_4 132 (by decide +kernel) rfl
theorem u_519 : (Cond.selects "MapFramer$State" ⟨"MapFramer$State", "push", "(I)Z"⟩ ⟨"MapFramer$State", "push", "(I)Z"⟩ : Cond) ∈ bigW := inB_4 133 (by decide +kernel) rfl
theorem u_520 : (Cond.code ⟨"MapFramer$State", "push", "(I)Z"⟩ prog_9_method_5_code 3 (some .boolean) : Cond) ∈ bigW := inB_4 134 rfl rfl
theorem u_521 : (Cond.methodLink "MapFramer$Stepper" 87 ⟨"MapFramer$Stepper", "fail", "(I)V"⟩ : Cond) ∈ bigW := inB_4 135 (by decide +kernel) rfl
theorem u_522 : (Cond.instanceMethod ⟨"MapFramer$Stepper", "fail", "(I)V"⟩ : Cond) ∈ bigW := inB_4 137 (by decide +kernel) rfl
theorem u_523 : (Cond.selects "MapFramer$Stepper" ⟨"MapFramer$Stepper", "fail", "(I)V"⟩ ⟨"MapFramer$Stepper", "fail", "(I)V"⟩ : Cond) ∈ bigW := inS (y := ⟨"MapFramer$Stepper", "fail", "(I)V"⟩) (n := 5) (List.mem_of_getElem? (i := 12) (by decide +kernel))
theorem u_524 : (Cond.initialized "MapFramer$Stepper" : Cond) ∈ bigW := inB_1 22 (by decide +kernel) rfl
theorem u_525 : (Cond.code ⟨"MapFramer$Stepper", "fail", "(I)V"⟩ prog_10_method_3_code 2 none : Cond) ∈ bigW := inB_4 138 rfl rfl
theorem h_Sp_push_0 : decode prog_10_method_5_code 0 = .ok (.aload_n 0, 1) := by decide +kernel
theorem h_Sp_push_1 : decode prog_10_method_5_code 1 = .ok (.getfield 17, 3) := by decide +kernel
theorem h_Sp_push_4 : decode prog_10_method_5_code 4 = .ok (.iload_n 1, 1) := by decide +kernel
theorem h_Sp_push_5 : decode prog_10_method_5_code 5 = .ok (.invokevirtual 90, 3) := by decide +kernel
theorem h_Sp_push_8 : decode prog_10_method_5_code 8 = .ok (.ifCond .ne 9, 3) := by decide +kernel
theorem h_Sp_push_11 : decode prog_10_method_5_code 11 = .ok (.aload_n 0, 1) := by decide +kernel
theorem h_Sp_push_12 : decode prog_10_method_5_code 12 = .ok (.bipush 7, 2) := by decide +kernel
theorem h_Sp_push_14 : decode prog_10_method_5_code 14 = .ok (.invokevirtual 87, 3) := by decide +kernel
theorem h_Sp_push_17 : decode prog_10_method_5_code 17 = .ok (.return_, 1) := by decide +kernel
def x_Sp_push (a0 : Nat) (x1 : Int32) (σ0 : CST) (P : CST → Prop) : Prop := σ0.1 a0 = some (9, 0) ∧ (∀ b2 : Option Nat, b2 = (σ0.2.2.2.1 a0 2) → (∃ r3 : Nat, b2 = some r3 ∧ (σ0.1 r3 = some (8, 0) ∧ (x_St_push r3 x1 σ0 (fun r6 σ5 => ((r6 = 0 → σ5.1 a0 = some (9, 0) ∧ (x_Sp_fail a0 (7 : Int32) σ5 (fun σ9 => P σ9))) ∧ (¬ r6 = 0 → P σ5)))))))
set_option maxHeartbeats 4000000 in
set_option maxRecDepth 100000 in
theorem X_Sp_push (l : Launch) (dC : Nat → ClassId) (dI : Nat → Nat → Nat) (ca : Nat → ClassId) (H0 : Heap) (σ0 : CST) (a0 : Nat) (x1 : Int32) {P : CST → Prop} (hw : x_Sp_push a0 x1 σ0 P) : Met l g_Sp_push (mW g_Sp_push prog_10_method_5_code 2 none) ({ frames := 1, cells := σ0.2.2.2.2.1, slots := σ0.2.2.2.2.2.1, locals := 22 } : Room) (va_Pc [.ref a0, .int x1] (CPre (dC, dI) ca σ0 H0)) (va_Qv P (CB (dC, dI) ca σ0 H0) (cA σ0 H0.size)) σ0.2.2.2.2.1 σ0.2.2.2.2.2.1 (cA σ0 H0.size) := by
  refine C_ofv (by decide +kernel) rfl rfl rfl (Nat.le_of_ble_eq_true rfl) ?_
  intro p e s m below meth cx Q A ls C hnm hend hH0 h hl
  subst hH0
  have C0 := C
  obtain ⟨⟨hx, hb, hml, hown, hts⟩, hsub⟩ := C0
  obtain ⟨cells, e_cells⟩ : ∃ z : Nat, z = 0 := ⟨_, rfl⟩
  obtain ⟨slots, e_slots⟩ : ∃ z : Nat, z = 0 := ⟨_, rfl⟩
  have h : CH (dC, dI) A ca ({ frames := 1, cells := σ0.2.2.2.2.1, slots := σ0.2.2.2.2.2.1, locals := 22 } : Room) σ0.2.2.2.2.2.2 σ0 s s.heap [] cells slots := by rw [e_cells, e_slots]; exact h
  show W p l e ({ frames := 1, cells := σ0.2.2.2.2.1, slots := σ0.2.2.2.2.2.1, locals := 22 } : Room) s m ([.ref a0, .int x1] : List Value).toArray below meth cx s.heap [] 0 0 Q (F0 m 0 ls [])
  rw [show W p l e ({ frames := 1, cells := σ0.2.2.2.2.1, slots := σ0.2.2.2.2.2.1, locals := 22 } : Room) s m ([.ref a0, .int x1] : List Value).toArray below meth cx s.heap [] 0 0 Q (F0 m 0 ls []) = W p l e ({ frames := 1, cells := σ0.2.2.2.2.1, slots := σ0.2.2.2.2.2.1, locals := 22 } : Room) s m ([.ref a0, .int x1] : List Value).toArray below meth cx s.heap [] cells slots Q (F0 m 0 ls []) by rw [e_cells, e_slots]]
  have hl : lv_has ls 2 [(0, .ref a0), (1, .int x1)] := hl
  unfold x_Sp_push at hw
  refine lv_aload_n hx hb h_Sp_push_0 rfl (lv_at hl 0 rfl) ?_
  obtain ⟨g1, hw⟩ := hw
  refine C_get C h 9 2 (v := va_rf (σ0.2.2.2.1 a0 2)) g1 rfl (Cn := R_Sp) (T := T_Sp) (N := 5) rfl (by decide) rfl uw_Sp (by decide) u_516 (fun _ q => q) h_Sp_push_1 ?_
  refine lv_topq (fun b2 e_b2 => ?_)
  replace hw := hw b2 e_b2
  refine lv_iload_n hx hb h_Sp_push_4 rfl (lv_at hl 1 rfl) ?_
  obtain ⟨r3, e_r3, hw⟩ := hw
  subst e_r3
  have hl : lv_has ls 2 [(0, .ref a0), (1, .int x1)] := hl
  refine W.eq (g2 := F0 m 5 ls [.int x1, .ref r3]) rfl ?_
  obtain ⟨g4, hw⟩ := hw
  refine C_callVi (As := [.int x1]) (rest := []) C h (ci := 8) (Cn := R_St) (T := T_St) (N := 4) g4 rfl (by decide) (X_St_push l dC dI ca s.heap σ0 r3 x1 hw) (cwV 1 hts (gV hsub u_517 u_518 u_519 u_502 u_520) rfl rfl rfl (by decide +kernel) ⟨(Nat.le_of_ble_eq_true rfl), (Nat.le_of_ble_eq_true rfl)⟩) rfl hl.1 (Nat.le_of_ble_eq_true rfl) h_Sp_push_5 (fun r6 σ5 H locs cells slots hw9 h9 => ?_)
  clear hw h; have hw := hw9; have h := h9; clear hw9 h9
  refine W.eq (g2 := F0 m 8 ls [.int r6]) rfl ?_
  refine lv_if_ne (tgt := 17) hx hb h_Sp_push_8 (by decide) (fun c7 => ?_) (fun c7 => ?_)
  · skip
    replace hw := hw.2 c7
    exact hend σ5 _ _ _ _ _ _ hw h h_Sp_push_17
  · skip
    replace hw := hw.1 c7
    refine lv_aload_n hx hb h_Sp_push_11 rfl (lv_at hl 0 rfl) ?_
    refine lv_bipush (v := 7) hx hb h_Sp_push_12 (by decide) ?_
    obtain ⟨g8, hw⟩ := hw
    refine C_callVv (As := [.int 7]) (rest := []) C h (ci := 9) (Cn := R_Sp) (T := T_Sp) (N := 5) g8 rfl (by decide) (X_Sp_fail l dC dI ca H σ5 a0 (7 : Int32) hw) (cwV 1 hts (gV hsub u_521 u_522 u_523 u_524 u_525) rfl rfl rfl (by decide +kernel) ⟨(Nat.le_of_ble_eq_true rfl), (Nat.le_of_ble_eq_true rfl)⟩) rfl hl.1 (Nat.le_of_ble_eq_true rfl) h_Sp_push_14 (fun σ9 H locs cells slots hw9 h9 => ?_)
    clear hw h; have hw := hw9; have h := h9; clear hw9 h9
    refine W.eq (g2 := F0 m 17 ls []) rfl ?_
    exact hend σ9 _ _ _ _ _ _ hw h h_Sp_push_17
abbrev g_Sp_pushConstant : MethodName := ⟨"MapFramer$Stepper", "pushConstant", "(I)V"⟩
theorem u_526 : (Cond.methodLink "MapFramer$Stepper" 108 ⟨"MapFramer$Stepper", "push", "(I)V"⟩ : Cond) ∈ bigW := inB_4 127 (by decide +kernel) rfl
theorem u_527 : (Cond.instanceMethod ⟨"MapFramer$Stepper", "push", "(I)V"⟩ : Cond) ∈ bigW := inB_4 129 (by decide +kernel) rfl
theorem u_528 : (Cond.selects "MapFramer$Stepper" ⟨"MapFramer$Stepper", "push", "(I)V"⟩ ⟨"MapFramer$Stepper", "push", "(I)V"⟩ : Cond) ∈ bigW := inS (y := ⟨"MapFramer$Stepper", "push", "(I)V"⟩) (n := 5) (List.mem_of_getElem? (i := 11) (by decide +kernel))
theorem u_529 : (Cond.code ⟨"MapFramer$Stepper", "push", "(I)V"⟩ prog_10_method_5_code 2 none : Cond) ∈ bigW := inB_4 130 rfl rfl
theorem h_Sp_pushConstant_0 : decode prog_10_method_10_code 0 = .ok (.iload_n 1, 1) := by decide +kernel
theorem h_Sp_pushConstant_1 : decode prog_10_method_10_code 1 = .ok (.iconst 1, 1) := by decide +kernel
theorem h_Sp_pushConstant_2 : decode prog_10_method_10_code 2 = .ok (.if_icmp .ne 11, 3) := by decide +kernel
theorem h_Sp_pushConstant_5 : decode prog_10_method_10_code 5 = .ok (.aload_n 0, 1) := by decide +kernel
theorem h_Sp_pushConstant_6 : decode prog_10_method_10_code 6 = .ok (.iconst 5, 1) := by decide +kernel
theorem h_Sp_pushConstant_7 : decode prog_10_method_10_code 7 = .ok (.invokevirtual 108, 3) := by decide +kernel
theorem h_Sp_pushConstant_10 : decode prog_10_method_10_code 10 = .ok (.goto 33, 3) := by decide +kernel
theorem h_Sp_pushConstant_13 : decode prog_10_method_10_code 13 = .ok (.iload_n 1, 1) := by decide +kernel
theorem h_Sp_pushConstant_14 : decode prog_10_method_10_code 14 = .ok (.bipush 9, 2) := by decide +kernel
theorem h_Sp_pushConstant_16 : decode prog_10_method_10_code 16 = .ok (.if_icmp .eq 9, 3) := by decide +kernel
theorem h_Sp_pushConstant_19 : decode prog_10_method_10_code 19 = .ok (.iload_n 1, 1) := by decide +kernel
theorem h_Sp_pushConstant_20 : decode prog_10_method_10_code 20 = .ok (.bipush 10, 2) := by decide +kernel
theorem h_Sp_pushConstant_22 : decode prog_10_method_10_code 22 = .ok (.if_icmp .ne 11, 3) := by decide +kernel
theorem h_Sp_pushConstant_25 : decode prog_10_method_10_code 25 = .ok (.aload_n 0, 1) := by decide +kernel
theorem h_Sp_pushConstant_26 : decode prog_10_method_10_code 26 = .ok (.iconst 2, 1) := by decide +kernel
theorem h_Sp_pushConstant_27 : decode prog_10_method_10_code 27 = .ok (.invokevirtual 108, 3) := by decide +kernel
theorem h_Sp_pushConstant_30 : decode prog_10_method_10_code 30 = .ok (.goto 13, 3) := by decide +kernel
theorem h_Sp_pushConstant_33 : decode prog_10_method_10_code 33 = .ok (.iload_n 1, 1) := by decide +kernel
theorem h_Sp_pushConstant_34 : decode prog_10_method_10_code 34 = .ok (.iconst 2, 1) := by decide +kernel
theorem h_Sp_pushConstant_35 : decode prog_10_method_10_code 35 = .ok (.if_icmp .lt 8, 3) := by decide +kernel
theorem h_Sp_pushConstant_38 : decode prog_10_method_10_code 38 = .ok (.aload_n 0, 1) := by decide +kernel
theorem h_Sp_pushConstant_39 : decode prog_10_method_10_code 39 = .ok (.iconst 1, 1) := by decide +kernel
theorem h_Sp_pushConstant_40 : decode prog_10_method_10_code 40 = .ok (.invokevirtual 108, 3) := by decide +kernel
theorem h_Sp_pushConstant_43 : decode prog_10_method_10_code 43 = .ok (.return_, 1) := by decide +kernel
def x_Sp_pushConstant_25 (a0 : Nat) (P : CST → Prop) (σ : CST) : Prop := σ.1 a0 = some (9, 0) ∧ (x_Sp_push a0 (2 : Int32) σ (fun σ2 => P σ2))
def x_Sp_pushConstant (a0 : Nat) (x1 : Int32) (σ0 : CST) (P : CST → Prop) : Prop := ((x1 = 1 → σ0.1 a0 = some (9, 0) ∧ (x_Sp_push a0 (5 : Int32) σ0 (fun σ12 => P σ12))) ∧ (¬ x1 = 1 → ((x1 = 9 → x_Sp_pushConstant_25 a0 P σ0) ∧ (¬ x1 = 9 → ((x1 = 10 → x_Sp_pushConstant_25 a0 P σ0) ∧ (¬ x1 = 10 → ((x1 < 2 → P σ0) ∧ (¬ x1 < 2 → σ0.1 a0 = some (9, 0) ∧ (x_Sp_push a0 (1 : Int32) σ0 (fun σ9 => P σ9))))))))))
set_option maxHeartbeats 4000000 in
set_option maxRecDepth 100000 in
theorem X_Sp_pushConstant (l : Launch) (dC : Nat → ClassId) (dI : Nat → Nat → Nat) (ca : Nat → ClassId) (H0 : Heap) (σ0 : CST) (a0 : Nat) (x1 : Int32) {P : CST → Prop} (hw : x_Sp_pushConstant a0 x1 σ0 P) : Met l g_Sp_pushConstant (mW g_Sp_pushConstant prog_10_method_10_code 2 none) ({ frames := 2, cells := σ0.2.2.2.2.1, slots := σ0.2.2.2.2.2.1, locals := 43 } : Room) (va_Pc [.ref a0, .int x1] (CPre (dC, dI) ca σ0 H0)) (va_Qv P (CB (dC, dI) ca σ0 H0) (cA σ0 H0.size)) σ0.2.2.2.2.1 σ0.2.2.2.2.2.1 (cA σ0 H0.size) := by
  refine C_ofv (by decide +kernel) rfl rfl rfl (Nat.le_of_ble_eq_true rfl) ?_
  intro p e s m below meth cx Q A ls C hnm hend hH0 h hl
  subst hH0
  have C0 := C
  obtain ⟨⟨hx, hb, hml, hown, hts⟩, hsub⟩ := C0
  obtain ⟨cells, e_cells⟩ : ∃ z : Nat, z = 0 := ⟨_, rfl⟩
  obtain ⟨slots, e_slots⟩ : ∃ z : Nat, z = 0 := ⟨_, rfl⟩
  have h : CH (dC, dI) A ca ({ frames := 2, cells := σ0.2.2.2.2.1, slots := σ0.2.2.2.2.2.1, locals := 43 } : Room) σ0.2.2.2.2.2.2 σ0 s s.heap [] cells slots := by rw [e_cells, e_slots]; exact h
  show W p l e ({ frames := 2, cells := σ0.2.2.2.2.1, slots := σ0.2.2.2.2.2.1, locals := 43 } : Room) s m ([.ref a0, .int x1] : List Value).toArray below meth cx s.heap [] 0 0 Q (F0 m 0 ls [])
  rw [show W p l e ({ frames := 2, cells := σ0.2.2.2.2.1, slots := σ0.2.2.2.2.2.1, locals := 43 } : Room) s m ([.ref a0, .int x1] : List Value).toArray below meth cx s.heap [] 0 0 Q (F0 m 0 ls []) = W p l e ({ frames := 2, cells := σ0.2.2.2.2.1, slots := σ0.2.2.2.2.2.1, locals := 43 } : Room) s m ([.ref a0, .int x1] : List Value).toArray below meth cx s.heap [] cells slots Q (F0 m 0 ls []) by rw [e_cells, e_slots]]
  have K_25 : ∀ (u9 : Unit), ∀ (σ : CST) (H : Heap) (locs : List Loc) (cells slots : Nat) (ls : Array Slot), x_Sp_pushConstant_25 a0 P σ → CH (dC, dI) A ca ({ frames := 2, cells := σ0.2.2.2.2.1, slots := σ0.2.2.2.2.2.1, locals := 43 } : Room) σ0.2.2.2.2.2.2 σ s H locs cells slots → lv_has ls 2 [(0, .ref a0)] → W p l e ({ frames := 2, cells := σ0.2.2.2.2.1, slots := σ0.2.2.2.2.2.1, locals := 43 } : Room) s m ([.ref a0, .int x1] : List Value).toArray below meth cx H locs cells slots Q (F0 m 25 ls []) := by
    intro u9  σ H locs cells slots ls hw h hl
    unfold x_Sp_pushConstant_25 at hw
    refine lv_aload_n hx hb h_Sp_pushConstant_25 rfl (lv_at hl 0 rfl) ?_
    refine lv_iconst (v := 2) hx hb h_Sp_pushConstant_26 (by decide) ?_
    obtain ⟨g1, hw⟩ := hw
    refine C_callVv (As := [.int 2]) (rest := []) C h (ci := 9) (Cn := R_Sp) (T := T_Sp) (N := 5) g1 rfl (by decide) (X_Sp_push l dC dI ca H σ a0 (2 : Int32) hw) (cwV 1 hts (gV hsub u_526 u_527 u_528 u_524 u_529) rfl rfl rfl (by decide +kernel) ⟨(Nat.le_of_ble_eq_true rfl), (Nat.le_of_ble_eq_true rfl)⟩) rfl hl.1 (Nat.le_of_ble_eq_true rfl) h_Sp_pushConstant_27 (fun σ2 H locs cells slots hw9 h9 => ?_)
    clear hw h; have hw := hw9; have h := h9; clear hw9 h9
    refine W.eq (g2 := F0 m 30 ls []) rfl ?_
    refine lv_goto (tgt := 43) hx hb h_Sp_pushConstant_30 (by decide) ?_
    exact hend σ2 _ _ _ _ _ _ hw h h_Sp_pushConstant_43
  have hl : lv_has ls 2 [(0, .ref a0), (1, .int x1)] := hl
  unfold x_Sp_pushConstant at hw
  refine lv_iload_n hx hb h_Sp_pushConstant_0 rfl (lv_at hl 1 rfl) ?_
  refine lv_iconst (v := 1) hx hb h_Sp_pushConstant_1 (by decide) ?_
  refine lv_icmp_ne (tgt := 13) hx hb h_Sp_pushConstant_2 (by decide) (fun c4 => ?_) (fun c4 => ?_)
  · skip
    replace hw := hw.2 c4
    refine lv_iload_n hx hb h_Sp_pushConstant_13 rfl (lv_at hl 1 rfl) ?_
    refine lv_bipush (v := 9) hx hb h_Sp_pushConstant_14 (by decide) ?_
    refine lv_icmp_eq (tgt := 25) hx hb h_Sp_pushConstant_16 (by decide) (fun c5 => ?_) (fun c5 => ?_)
    · skip
      replace hw := hw.1 c5
      exact K_25 () σ0 _ _ _ _ _ hw h (lv_sub hl [0] rfl)
    · skip
      replace hw := hw.2 c5
      refine lv_iload_n hx hb h_Sp_pushConstant_19 rfl (lv_at hl 1 rfl) ?_
      refine lv_bipush (v := 10) hx hb h_Sp_pushConstant_20 (by decide) ?_
      refine lv_icmp_ne (tgt := 33) hx hb h_Sp_pushConstant_22 (by decide) (fun c6 => ?_) (fun c6 => ?_)
      · skip
        replace hw := hw.2 c6
        refine lv_iload_n hx hb h_Sp_pushConstant_33 rfl (lv_at hl 1 rfl) ?_
        refine lv_iconst (v := 2) hx hb h_Sp_pushConstant_34 (by decide) ?_
        refine lv_icmp_lt (tgt := 43) hx hb h_Sp_pushConstant_35 (by decide) (fun c7 => ?_) (fun c7 => ?_)
        · skip
          replace hw := hw.1 c7
          exact hend σ0 _ _ _ _ _ _ hw h h_Sp_pushConstant_43
        · skip
          replace hw := hw.2 c7
          refine lv_aload_n hx hb h_Sp_pushConstant_38 rfl (lv_at hl 0 rfl) ?_
          refine lv_iconst (v := 1) hx hb h_Sp_pushConstant_39 (by decide) ?_
          obtain ⟨g8, hw⟩ := hw
          refine C_callVv (As := [.int 1]) (rest := []) C h (ci := 9) (Cn := R_Sp) (T := T_Sp) (N := 5) g8 rfl (by decide) (X_Sp_push l dC dI ca s.heap σ0 a0 (1 : Int32) hw) (cwV 1 hts (gV hsub u_526 u_527 u_528 u_524 u_529) rfl rfl rfl (by decide +kernel) ⟨(Nat.le_of_ble_eq_true rfl), (Nat.le_of_ble_eq_true rfl)⟩) rfl hl.1 (Nat.le_of_ble_eq_true rfl) h_Sp_pushConstant_40 (fun σ9 H locs cells slots hw9 h9 => ?_)
          clear hw h; have hw := hw9; have h := h9; clear hw9 h9
          refine W.eq (g2 := F0 m 43 ls []) rfl ?_
          exact hend σ9 _ _ _ _ _ _ hw h h_Sp_pushConstant_43
      · skip
        replace hw := hw.1 c6
        exact K_25 () σ0 _ _ _ _ _ hw h (lv_sub hl [0] rfl)
  · skip
    replace hw := hw.1 c4
    refine lv_aload_n hx hb h_Sp_pushConstant_5 rfl (lv_at hl 0 rfl) ?_
    refine lv_iconst (v := 5) hx hb h_Sp_pushConstant_6 (by decide) ?_
    obtain ⟨g11, hw⟩ := hw
    refine C_callVv (As := [.int 5]) (rest := []) C h (ci := 9) (Cn := R_Sp) (T := T_Sp) (N := 5) g11 rfl (by decide) (X_Sp_push l dC dI ca s.heap σ0 a0 (5 : Int32) hw) (cwV 1 hts (gV hsub u_526 u_527 u_528 u_524 u_529) rfl rfl rfl (by decide +kernel) ⟨(Nat.le_of_ble_eq_true rfl), (Nat.le_of_ble_eq_true rfl)⟩) rfl hl.1 (Nat.le_of_ble_eq_true rfl) h_Sp_pushConstant_7 (fun σ12 H locs cells slots hw9 h9 => ?_)
    clear hw h; have hw := hw9; have h := h9; clear hw9 h9
    refine W.eq (g2 := F0 m 10 ls []) rfl ?_
    refine lv_goto (tgt := 43) hx hb h_Sp_pushConstant_10 (by decide) ?_
    exact hend σ12 _ _ _ _ _ _ hw h h_Sp_pushConstant_43
abbrev g_Sp_popAs : MethodName := ⟨"MapFramer$Stepper", "popAs", "(I)V"⟩
theorem u_530 : (Cond.methodLink "MapFramer$Stepper" 95 ⟨"MapFramer$State", "pop", "()I"⟩ : Cond) ∈ bigW := inB_4 150 (by decide +kernel) rfl
theorem u_531 : (Cond.instanceMethod ⟨"MapFramer$State", "pop", "()I"⟩ : Cond) ∈ bigW := inB_4 151 (by decide +kernel) rfl
theorem u_532 : (Cond.selects "MapFramer$State" ⟨"MapFramer$State", "pop", "()I"⟩ ⟨"MapFramer$State", "pop", "()I"⟩ : Cond) ∈ bigW := inB_4 152 (by decide +kernel) rfl
theorem u_533 : (Cond.code ⟨"MapFramer$State", "pop", "()I"⟩ prog_9_method_6_code 1 (some .int) : Cond) ∈ bigW := inB_4 153 rfl rfl
theorem u_534 : (Cond.methodLink "MapFramer$Stepper" 104 ⟨"MapFramer$World", "assignable", "(II)Z"⟩ : Cond) ∈ bigW := inB_4 154 (by decide +kernel) rfl
theorem h_Sp_popAs_0 : decode prog_10_method_9_code 0 = .ok (.aload_n 0, 1) := by decide +kernel
theorem h_Sp_popAs_1 : decode prog_10_method_9_code 1 = .ok (.getfield 7, 3) := by decide +kernel
theorem h_Sp_popAs_4 : decode prog_10_method_9_code 4 = .ok (.aload_n 0, 1) := by decide +kernel
theorem h_Sp_popAs_5 : decode prog_10_method_9_code 5 = .ok (.getfield 17, 3) := by decide +kernel
theorem h_Sp_popAs_8 : decode prog_10_method_9_code 8 = .ok (.invokevirtual 95, 3) := by decide +kernel
theorem h_Sp_popAs_11 : decode prog_10_method_9_code 11 = .ok (.iload_n 1, 1) := by decide +kernel
theorem h_Sp_popAs_12 : decode prog_10_method_9_code 12 = .ok (.invokevirtual 104, 3) := by decide +kernel
theorem h_Sp_popAs_15 : decode prog_10_method_9_code 15 = .ok (.ifCond .ne 9, 3) := by decide +kernel
theorem h_Sp_popAs_18 : decode prog_10_method_9_code 18 = .ok (.aload_n 0, 1) := by decide +kernel
theorem h_Sp_popAs_19 : decode prog_10_method_9_code 19 = .ok (.bipush 6, 2) := by decide +kernel
theorem h_Sp_popAs_21 : decode prog_10_method_9_code 21 = .ok (.invokevirtual 87, 3) := by decide +kernel
theorem h_Sp_popAs_24 : decode prog_10_method_9_code 24 = .ok (.return_, 1) := by decide +kernel
def x_Sp_popAs (a0 : Nat) (x1 : Int32) (σ0 : CST) (P : CST → Prop) : Prop := σ0.1 a0 = some (9, 0) ∧ (∀ b2 : Option Nat, b2 = (σ0.2.2.2.1 a0 0) → ∀ b3 : Option Nat, b3 = (σ0.2.2.2.1 a0 2) → (∃ r4 : Nat, b3 = some r4 ∧ (σ0.1 r4 = some (8, 0) ∧ (x_St_pop r4 σ0 (fun r7 σ6 => (∃ r8 : Nat, b2 = some r8 ∧ (σ6.1 r8 = some (3, 0) ∧ (x_W_assignable r8 r7 x1 σ6 (fun r11 σ10 => ((r11 = 0 → σ10.1 a0 = some (9, 0) ∧ (x_Sp_fail a0 (6 : Int32) σ10 (fun σ14 => P σ14))) ∧ (¬ r11 = 0 → P σ10)))))))))))
set_option maxHeartbeats 4000000 in
set_option maxRecDepth 100000 in
theorem X_Sp_popAs (l : Launch) (dC : Nat → ClassId) (dI : Nat → Nat → Nat) (ca : Nat → ClassId) (H0 : Heap) (σ0 : CST) (a0 : Nat) (x1 : Int32) {P : CST → Prop} (hw : x_Sp_popAs a0 x1 σ0 P) : Met l g_Sp_popAs (mW g_Sp_popAs prog_10_method_9_code 2 none) ({ frames := 2, cells := σ0.2.2.2.2.1, slots := σ0.2.2.2.2.2.1, locals := 46 } : Room) (va_Pc [.ref a0, .int x1] (CPre (dC, dI) ca σ0 H0)) (va_Qv P (CB (dC, dI) ca σ0 H0) (cA σ0 H0.size)) σ0.2.2.2.2.1 σ0.2.2.2.2.2.1 (cA σ0 H0.size) := by
  refine C_ofv (by decide +kernel) rfl rfl rfl (Nat.le_of_ble_eq_true rfl) ?_
  intro p e s m below meth cx Q A ls C hnm hend hH0 h hl
  subst hH0
  have C0 := C
  obtain ⟨⟨hx, hb, hml, hown, hts⟩, hsub⟩ := C0
  obtain ⟨cells, e_cells⟩ : ∃ z : Nat, z = 0 := ⟨_, rfl⟩
  obtain ⟨slots, e_slots⟩ : ∃ z : Nat, z = 0 := ⟨_, rfl⟩
  have h : CH (dC, dI) A ca ({ frames := 2, cells := σ0.2.2.2.2.1, slots := σ0.2.2.2.2.2.1, locals := 46 } : Room) σ0.2.2.2.2.2.2 σ0 s s.heap [] cells slots := by rw [e_cells, e_slots]; exact h
  show W p l e ({ frames := 2, cells := σ0.2.2.2.2.1, slots := σ0.2.2.2.2.2.1, locals := 46 } : Room) s m ([.ref a0, .int x1] : List Value).toArray below meth cx s.heap [] 0 0 Q (F0 m 0 ls [])
  rw [show W p l e ({ frames := 2, cells := σ0.2.2.2.2.1, slots := σ0.2.2.2.2.2.1, locals := 46 } : Room) s m ([.ref a0, .int x1] : List Value).toArray below meth cx s.heap [] 0 0 Q (F0 m 0 ls []) = W p l e ({ frames := 2, cells := σ0.2.2.2.2.1, slots := σ0.2.2.2.2.2.1, locals := 46 } : Room) s m ([.ref a0, .int x1] : List Value).toArray below meth cx s.heap [] cells slots Q (F0 m 0 ls []) by rw [e_cells, e_slots]]
  have hl : lv_has ls 2 [(0, .ref a0), (1, .int x1)] := hl
  unfold x_Sp_popAs at hw
  refine lv_aload_n hx hb h_Sp_popAs_0 rfl (lv_at hl 0 rfl) ?_
  obtain ⟨g1, hw⟩ := hw
  refine C_get C h 9 0 (v := va_rf (σ0.2.2.2.1 a0 0)) g1 rfl (Cn := R_Sp) (T := T_Sp) (N := 5) rfl (by decide) rfl uw_Sp (by decide) u_513 (fun _ q => q) h_Sp_popAs_1 ?_
  refine lv_topq (fun b2 e_b2 => ?_)
  replace hw := hw b2 e_b2
  refine lv_aload_n hx hb h_Sp_popAs_4 rfl (lv_at hl 0 rfl) ?_
  refine C_get C h 9 2 (v := va_rf (σ0.2.2.2.1 a0 2)) g1 rfl (Cn := R_Sp) (T := T_Sp) (N := 5) rfl (by decide) rfl uw_Sp (by decide) u_516 (fun _ q => q) h_Sp_popAs_5 ?_
  refine lv_topq (fun b3 e_b3 => ?_)
  replace hw := hw b3 e_b3
  obtain ⟨r4, e_r4, hw⟩ := hw
  subst e_r4
  have hl : lv_has ls 2 [(0, .ref a0), (1, .int x1)] := hl
  refine W.eq (g2 := F0 m 8 ls [.ref r4, va_rf b2]) rfl ?_
  obtain ⟨g5, hw⟩ := hw
  refine C_callVi (As := []) (rest := [va_rf b2]) C h (ci := 8) (Cn := R_St) (T := T_St) (N := 4) g5 rfl (by decide) (X_St_pop l dC dI ca s.heap σ0 r4 hw) (cwV 0 hts (gV hsub u_530 u_531 u_532 u_502 u_533) rfl rfl rfl (by decide +kernel) ⟨(Nat.le_of_ble_eq_true rfl), (Nat.le_of_ble_eq_true rfl)⟩) rfl hl.1 (by simp only [List.map_cons, List.map_nil, List.sum_cons, List.sum_nil, cq_cat]; exact Nat.le_of_ble_eq_true rfl) h_Sp_popAs_8 (fun r7 σ6 H locs cells slots hw9 h9 => ?_)
  clear hw h; have hw := hw9; have h := h9; clear hw9 h9
  refine W.eq (g2 := F0 m 11 ls [.int r7, va_rf b2]) rfl ?_
  refine lv_iload_n hx hb h_Sp_popAs_11 rfl (lv_at hl 1 rfl) ?_
  obtain ⟨r8, e_r8, hw⟩ := hw
  subst e_r8
  have hl : lv_has ls 2 [(0, .ref a0), (1, .int x1)] := hl
  refine W.eq (g2 := F0 m 12 ls [.int x1, .int r7, .ref r8]) rfl ?_
  obtain ⟨g9, hw⟩ := hw
  refine C_callVi (As := [.int r7, .int x1]) (rest := []) C h (ci := 3) (Cn := R_W) (T := T_W) (N := 10) g9 rfl (by decide) (X_W_assignable l dC dI ca H σ6 r8 r7 x1 hw) (cwV 2 hts (gV hsub u_534 u_288 u_289 u_51 u_290) rfl rfl rfl (by decide +kernel) ⟨(Nat.le_of_ble_eq_true rfl), (Nat.le_of_ble_eq_true rfl)⟩) rfl hl.1 (Nat.le_of_ble_eq_true rfl) h_Sp_popAs_12 (fun r11 σ10 H locs cells slots hw9 h9 => ?_)
  clear hw h; have hw := hw9; have h := h9; clear hw9 h9
  refine W.eq (g2 := F0 m 15 ls [.int r11]) rfl ?_
  refine lv_if_ne (tgt := 24) hx hb h_Sp_popAs_15 (by decide) (fun c12 => ?_) (fun c12 => ?_)
  · skip
    replace hw := hw.2 c12
    exact hend σ10 _ _ _ _ _ _ hw h h_Sp_popAs_24
  · skip
    replace hw := hw.1 c12
    refine lv_aload_n hx hb h_Sp_popAs_18 rfl (lv_at hl 0 rfl) ?_
    refine lv_bipush (v := 6) hx hb h_Sp_popAs_19 (by decide) ?_
    obtain ⟨g13, hw⟩ := hw
    refine C_callVv (As := [.int 6]) (rest := []) C h (ci := 9) (Cn := R_Sp) (T := T_Sp) (N := 5) g13 rfl (by decide) (X_Sp_fail l dC dI ca H σ10 a0 (6 : Int32) hw) (cwV 1 hts (gV hsub u_521 u_522 u_523 u_524 u_525) rfl rfl rfl (by decide +kernel) ⟨(Nat.le_of_ble_eq_true rfl), (Nat.le_of_ble_eq_true rfl)⟩) rfl hl.1 (Nat.le_of_ble_eq_true rfl) h_Sp_popAs_21 (fun σ14 H locs cells slots hw9 h9 => ?_)
    clear hw h; have hw := hw9; have h := h9; clear hw9 h9
    refine W.eq (g2 := F0 m 24 ls []) rfl ?_
    exact hend σ14 _ _ _ _ _ _ hw h h_Sp_popAs_24
abbrev g_Sp_popClassArray : MethodName := ⟨"MapFramer$Stepper", "popClassArray", "()I"⟩
theorem u_535 : (Cond.methodLink "MapFramer$Stepper" 142 ⟨"MapFramer$World", "isClassArray", "(I)Z"⟩ : Cond) ∈ bigW := inB_4 162 (by decide +kernel) rfl
theorem h_Sp_popClassArray_0 : decode prog_10_method_17_code 0 = .ok (.aload_n 0, 1) := by decide +kernel
theorem h_Sp_popClassArray_1 : decode prog_10_method_17_code 1 = .ok (.getfield 17, 3) := by decide +kernel
theorem h_Sp_popClassArray_4 : decode prog_10_method_17_code 4 = .ok (.invokevirtual 95, 3) := by decide +kernel
theorem h_Sp_popClassArray_7 : decode prog_10_method_17_code 7 = .ok (.istore_n 1, 1) := by decide +kernel
theorem h_Sp_popClassArray_8 : decode prog_10_method_17_code 8 = .ok (.iload_n 1, 1) := by decide +kernel
theorem h_Sp_popClassArray_9 : decode prog_10_method_17_code 9 = .ok (.iconst 5, 1) := by decide +kernel
theorem h_Sp_popClassArray_10 : decode prog_10_method_17_code 10 = .ok (.if_icmp .eq 16, 3) := by decide +kernel
theorem h_Sp_popClassArray_13 : decode prog_10_method_17_code 13 = .ok (.iload_n 1, 1) := by decide +kernel
theorem h_Sp_popClassArray_14 : decode prog_10_method_17_code 14 = .ok (.invokestatic 142, 3) := by decide +kernel
theorem h_Sp_popClassArray_17 : decode prog_10_method_17_code 17 = .ok (.ifCond .ne 9, 3) := by decide +kernel
theorem h_Sp_popClassArray_20 : decode prog_10_method_17_code 20 = .ok (.aload_n 0, 1) := by decide +kernel
theorem h_Sp_popClassArray_21 : decode prog_10_method_17_code 21 = .ok (.bipush 6, 2) := by decide +kernel
theorem h_Sp_popClassArray_23 : decode prog_10_method_17_code 23 = .ok (.invokevirtual 87, 3) := by decide +kernel
theorem h_Sp_popClassArray_26 : decode prog_10_method_17_code 26 = .ok (.iload_n 1, 1) := by decide +kernel
theorem h_Sp_popClassArray_27 : decode prog_10_method_17_code 27 = .ok (.ireturn, 1) := by decide +kernel
def x_Sp_popClassArray (a0 : Nat) (σ0 : CST) (P : Int32 → CST → Prop) : Prop := σ0.1 a0 = some (9, 0) ∧ (∀ b2 : Option Nat, b2 = (σ0.2.2.2.1 a0 2) → (∃ r3 : Nat, b2 = some r3 ∧ (σ0.1 r3 = some (8, 0) ∧ (x_St_pop r3 σ0 (fun r6 σ5 => ((r6 = 5 → P r6 σ5) ∧ (¬ r6 = 5 → x_W_isClassArray r6 σ5 (fun r9 σ8 => ((r9 = 0 → σ8.1 a0 = some (9, 0) ∧ (x_Sp_fail a0 (6 : Int32) σ8 (fun σ12 => P r6 σ12))) ∧ (¬ r9 = 0 → P r6 σ8))))))))))
set_option maxHeartbeats 4000000 in
set_option maxRecDepth 100000 in
theorem X_Sp_popClassArray (l : Launch) (dC : Nat → ClassId) (dI : Nat → Nat → Nat) (ca : Nat → ClassId) (H0 : Heap) (σ0 : CST) (a0 : Nat) {P : Int32 → CST → Prop} (hw : x_Sp_popClassArray a0 σ0 P) : Met l g_Sp_popClassArray (mW g_Sp_popClassArray prog_10_method_17_code 2 (some .int)) ({ frames := 1, cells := σ0.2.2.2.2.1, slots := σ0.2.2.2.2.2.1, locals := 21 } : Room) (va_Pc [.ref a0] (CPre (dC, dI) ca σ0 H0)) (va_Qi P (CB (dC, dI) ca σ0 H0) (cA σ0 H0.size)) σ0.2.2.2.2.1 σ0.2.2.2.2.2.1 (cA σ0 H0.size) := by
  refine C_ofi (by decide +kernel) rfl rfl rfl (Nat.le_of_ble_eq_true rfl) ?_
  intro p e s m below meth cx Q A ls C hnm hend hH0 h hl
  subst hH0
  have C0 := C
  obtain ⟨⟨hx, hb, hml, hown, hts⟩, hsub⟩ := C0
  obtain ⟨cells, e_cells⟩ : ∃ z : Nat, z = 0 := ⟨_, rfl⟩
  obtain ⟨slots, e_slots⟩ : ∃ z : Nat, z = 0 := ⟨_, rfl⟩
  have h : CH (dC, dI) A ca ({ frames := 1, cells := σ0.2.2.2.2.1, slots := σ0.2.2.2.2.2.1, locals := 21 } : Room) σ0.2.2.2.2.2.2 σ0 s s.heap [] cells slots := by rw [e_cells, e_slots]; exact h
  show W p l e ({ frames := 1, cells := σ0.2.2.2.2.1, slots := σ0.2.2.2.2.2.1, locals := 21 } : Room) s m ([.ref a0] : List Value).toArray below meth cx s.heap [] 0 0 Q (F0 m 0 ls [])
  rw [show W p l e ({ frames := 1, cells := σ0.2.2.2.2.1, slots := σ0.2.2.2.2.2.1, locals := 21 } : Room) s m ([.ref a0] : List Value).toArray below meth cx s.heap [] 0 0 Q (F0 m 0 ls []) = W p l e ({ frames := 1, cells := σ0.2.2.2.2.1, slots := σ0.2.2.2.2.2.1, locals := 21 } : Room) s m ([.ref a0] : List Value).toArray below meth cx s.heap [] cells slots Q (F0 m 0 ls []) by rw [e_cells, e_slots]]
  have hl : lv_has ls 2 [(0, .ref a0)] := hl
  unfold x_Sp_popClassArray at hw
  refine lv_aload_n hx hb h_Sp_popClassArray_0 rfl (lv_at hl 0 rfl) ?_
  obtain ⟨g1, hw⟩ := hw
  refine C_get C h 9 2 (v := va_rf (σ0.2.2.2.1 a0 2)) g1 rfl (Cn := R_Sp) (T := T_Sp) (N := 5) rfl (by decide) rfl uw_Sp (by decide) u_516 (fun _ q => q) h_Sp_popClassArray_1 ?_
  refine lv_topq (fun b2 e_b2 => ?_)
  replace hw := hw b2 e_b2
  obtain ⟨r3, e_r3, hw⟩ := hw
  subst e_r3
  have hl : lv_has ls 2 [(0, .ref a0)] := hl
  refine W.eq (g2 := F0 m 4 ls [.ref r3]) rfl ?_
  obtain ⟨g4, hw⟩ := hw
  refine C_callVi (As := []) (rest := []) C h (ci := 8) (Cn := R_St) (T := T_St) (N := 4) g4 rfl (by decide) (X_St_pop l dC dI ca s.heap σ0 r3 hw) (cwV 0 hts (gV hsub u_530 u_531 u_532 u_502 u_533) rfl rfl rfl (by decide +kernel) ⟨(Nat.le_of_ble_eq_true rfl), (Nat.le_of_ble_eq_true rfl)⟩) rfl hl.1 (Nat.le_of_ble_eq_true rfl) h_Sp_popClassArray_4 (fun r6 σ5 H locs cells slots hw9 h9 => ?_)
  clear hw h; have hw := hw9; have h := h9; clear hw9 h9
  refine W.eq (g2 := F0 m 7 ls [.int r6]) rfl ?_
  refine lv_istore_n (i := 1) (lv' := [(1, .int r6), (0, .ref a0)]) hx hb h_Sp_popClassArray_7 rfl hl (by decide) rfl (fun ls hl => ?_)
  refine lv_iload_n hx hb h_Sp_popClassArray_8 rfl (lv_at hl 0 rfl) ?_
  refine lv_iconst (v := 5) hx hb h_Sp_popClassArray_9 (by decide) ?_
  refine lv_icmp_eq (tgt := 26) hx hb h_Sp_popClassArray_10 (by decide) (fun c7 => ?_) (fun c7 => ?_)
  · skip
    replace hw := hw.1 c7
    refine lv_iload_n hx hb h_Sp_popClassArray_26 rfl (lv_at hl 0 rfl) ?_
    exact hend r6 σ5 _ _ _ _ _ _ hw h h_Sp_popClassArray_27
  · skip
    replace hw := hw.2 c7
    refine lv_iload_n hx hb h_Sp_popClassArray_13 rfl (lv_at hl 0 rfl) ?_
    refine C_callSi (As := [.int r6]) (rest := []) C h (X_W_isClassArray l dC dI ca H σ5 r6 hw) (va_cwS 1 hts (gS hsub u_535 u_67 u_51 u_68) rfl rfl rfl (by decide +kernel) ⟨(Nat.le_of_ble_eq_true rfl), (Nat.le_of_ble_eq_true rfl)⟩) rfl hl.1 (Nat.le_of_ble_eq_true rfl) h_Sp_popClassArray_14 (fun r9 σ8 H locs cells slots hw9 h9 => ?_)
    clear hw h; have hw := hw9; have h := h9; clear hw9 h9
    refine W.eq (g2 := F0 m 17 ls [.int r9]) rfl ?_
    refine lv_if_ne (tgt := 26) hx hb h_Sp_popClassArray_17 (by decide) (fun c10 => ?_) (fun c10 => ?_)
    · skip
      replace hw := hw.2 c10
      refine lv_iload_n hx hb h_Sp_popClassArray_26 rfl (lv_at hl 0 rfl) ?_
      exact hend r6 σ8 _ _ _ _ _ _ hw h h_Sp_popClassArray_27
    · skip
      replace hw := hw.1 c10
      refine lv_aload_n hx hb h_Sp_popClassArray_20 rfl (lv_at hl 1 rfl) ?_
      refine lv_bipush (v := 6) hx hb h_Sp_popClassArray_21 (by decide) ?_
      obtain ⟨g11, hw⟩ := hw
      refine C_callVv (As := [.int 6]) (rest := []) C h (ci := 9) (Cn := R_Sp) (T := T_Sp) (N := 5) g11 rfl (by decide) (X_Sp_fail l dC dI ca H σ8 a0 (6 : Int32) hw) (cwV 1 hts (gV hsub u_521 u_522 u_523 u_524 u_525) rfl rfl rfl (by decide +kernel) ⟨(Nat.le_of_ble_eq_true rfl), (Nat.le_of_ble_eq_true rfl)⟩) rfl hl.1 (Nat.le_of_ble_eq_true rfl) h_Sp_popClassArray_23 (fun σ12 H locs cells slots hw9 h9 => ?_)
      clear hw h; have hw := hw9; have h := h9; clear hw9 h9
      refine W.eq (g2 := F0 m 26 ls []) rfl ?_
      refine lv_iload_n hx hb h_Sp_popClassArray_26 rfl (lv_at hl 0 rfl) ?_
      exact hend r6 σ12 _ _ _ _ _ _ hw h h_Sp_popClassArray_27
abbrev g_Sp_getElement : MethodName := ⟨"MapFramer$Stepper", "getElement", "(I)V"⟩
theorem u_536 : (Cond.methodLink "MapFramer$Stepper" 116 ⟨"MapFramer$Stepper", "popAs", "(I)V"⟩ : Cond) ∈ bigW := inB_4 146 (by decide +kernel) rfl
theorem u_537 : (Cond.instanceMethod ⟨"MapFramer$Stepper", "popAs", "(I)V"⟩ : Cond) ∈ bigW := inB_4 148 (by decide +kernel) rfl
theorem u_538 : (Cond.selects "MapFramer$Stepper" ⟨"MapFramer$Stepper", "popAs", "(I)V"⟩ ⟨"MapFramer$Stepper", "popAs", "(I)V"⟩ : Cond) ∈ bigW := inS (y := ⟨"MapFramer$Stepper", "popAs", "(I)V"⟩) (n := 5) (List.mem_of_getElem? (i := 14) (by decide +kernel))
theorem u_539 : (Cond.code ⟨"MapFramer$Stepper", "popAs", "(I)V"⟩ prog_10_method_9_code 2 none : Cond) ∈ bigW := inB_4 149 rfl rfl
theorem u_540 : (Cond.methodLink "MapFramer$Stepper" 139 ⟨"MapFramer$Stepper", "popClassArray", "()I"⟩ : Cond) ∈ bigW := inB_4 158 (by decide +kernel) rfl
theorem u_541 : (Cond.instanceMethod ⟨"MapFramer$Stepper", "popClassArray", "()I"⟩ : Cond) ∈ bigW := inB_4 160 (by decide +kernel) rfl
theorem u_542 : (Cond.selects "MapFramer$Stepper" ⟨"MapFramer$Stepper", "popClassArray", "()I"⟩ ⟨"MapFramer$Stepper", "popClassArray", "()I"⟩ : Cond) ∈ bigW := inS (y := ⟨"MapFramer$Stepper", "popClassArray", "()I"⟩) (n := 5) (List.mem_of_getElem? (i := 15) (by decide +kernel))
theorem u_543 : (Cond.code ⟨"MapFramer$Stepper", "popClassArray", "()I"⟩ prog_10_method_17_code 2 (some .int) : Cond) ∈ bigW := inB_4 161 rfl rfl
theorem h_Sp_getElement_0 : decode prog_10_method_16_code 0 = .ok (.aload_n 0, 1) := by decide +kernel
theorem h_Sp_getElement_1 : decode prog_10_method_16_code 1 = .ok (.iconst 1, 1) := by decide +kernel
theorem h_Sp_getElement_2 : decode prog_10_method_16_code 2 = .ok (.invokevirtual 116, 3) := by decide +kernel
theorem h_Sp_getElement_5 : decode prog_10_method_16_code 5 = .ok (.iload_n 1, 1) := by decide +kernel
theorem h_Sp_getElement_6 : decode prog_10_method_16_code 6 = .ok (.bipush 46, 2) := by decide +kernel
theorem h_Sp_getElement_8 : decode prog_10_method_16_code 8 = .ok (.if_icmp .ne 16, 3) := by decide +kernel
theorem h_Sp_getElement_11 : decode prog_10_method_16_code 11 = .ok (.aload_n 0, 1) := by decide +kernel
theorem h_Sp_getElement_12 : decode prog_10_method_16_code 12 = .ok (.iconst 3, 1) := by decide +kernel
theorem h_Sp_getElement_13 : decode prog_10_method_16_code 13 = .ok (.invokevirtual 116, 3) := by decide +kernel
theorem h_Sp_getElement_16 : decode prog_10_method_16_code 16 = .ok (.aload_n 0, 1) := by decide +kernel
theorem h_Sp_getElement_17 : decode prog_10_method_16_code 17 = .ok (.iconst 1, 1) := by decide +kernel
theorem h_Sp_getElement_18 : decode prog_10_method_16_code 18 = .ok (.invokevirtual 108, 3) := by decide +kernel
theorem h_Sp_getElement_21 : decode prog_10_method_16_code 21 = .ok (.goto 47, 3) := by decide +kernel
theorem h_Sp_getElement_24 : decode prog_10_method_16_code 24 = .ok (.iload_n 1, 1) := by decide +kernel
theorem h_Sp_getElement_25 : decode prog_10_method_16_code 25 = .ok (.bipush 47, 2) := by decide +kernel
theorem h_Sp_getElement_27 : decode prog_10_method_16_code 27 = .ok (.if_icmp .ne 16, 3) := by decide +kernel
theorem h_Sp_getElement_30 : decode prog_10_method_16_code 30 = .ok (.aload_n 0, 1) := by decide +kernel
theorem h_Sp_getElement_31 : decode prog_10_method_16_code 31 = .ok (.iconst 4, 1) := by decide +kernel
theorem h_Sp_getElement_32 : decode prog_10_method_16_code 32 = .ok (.invokevirtual 116, 3) := by decide +kernel
theorem h_Sp_getElement_35 : decode prog_10_method_16_code 35 = .ok (.aload_n 0, 1) := by decide +kernel
theorem h_Sp_getElement_36 : decode prog_10_method_16_code 36 = .ok (.iconst 2, 1) := by decide +kernel
theorem h_Sp_getElement_37 : decode prog_10_method_16_code 37 = .ok (.invokevirtual 108, 3) := by decide +kernel
theorem h_Sp_getElement_40 : decode prog_10_method_16_code 40 = .ok (.goto 28, 3) := by decide +kernel
theorem h_Sp_getElement_43 : decode prog_10_method_16_code 43 = .ok (.aload_n 0, 1) := by decide +kernel
theorem h_Sp_getElement_44 : decode prog_10_method_16_code 44 = .ok (.invokevirtual 139, 3) := by decide +kernel
theorem h_Sp_getElement_47 : decode prog_10_method_16_code 47 = .ok (.istore_n 2, 1) := by decide +kernel
theorem h_Sp_getElement_48 : decode prog_10_method_16_code 48 = .ok (.aload_n 0, 1) := by decide +kernel
theorem h_Sp_getElement_49 : decode prog_10_method_16_code 49 = .ok (.iload_n 2, 1) := by decide +kernel
theorem h_Sp_getElement_50 : decode prog_10_method_16_code 50 = .ok (.iconst 5, 1) := by decide +kernel
theorem h_Sp_getElement_51 : decode prog_10_method_16_code 51 = .ok (.if_icmp .ne 7, 3) := by decide +kernel
theorem h_Sp_getElement_54 : decode prog_10_method_16_code 54 = .ok (.iconst 5, 1) := by decide +kernel
theorem h_Sp_getElement_55 : decode prog_10_method_16_code 55 = .ok (.goto 10, 3) := by decide +kernel
theorem h_Sp_getElement_58 : decode prog_10_method_16_code 58 = .ok (.iload_n 2, 1) := by decide +kernel
theorem h_Sp_getElement_59 : decode prog_10_method_16_code 59 = .ok (.bipush 64, 2) := by decide +kernel
theorem h_Sp_getElement_61 : decode prog_10_method_16_code 61 = .ok (.isub, 1) := by decide +kernel
theorem h_Sp_getElement_62 : decode prog_10_method_16_code 62 = .ok (.bipush 32, 2) := by decide +kernel
theorem h_Sp_getElement_64 : decode prog_10_method_16_code 64 = .ok (.iadd, 1) := by decide +kernel
theorem h_Sp_getElement_65 : decode prog_10_method_16_code 65 = .ok (.invokevirtual 108, 3) := by decide +kernel
theorem h_Sp_getElement_68 : decode prog_10_method_16_code 68 = .ok (.return_, 1) := by decide +kernel
def x_Sp_getElement_65 (a0 : Nat) (P : CST → Prop) (s0 : Int32) (σ : CST) : Prop := σ.1 a0 = some (9, 0) ∧ (x_Sp_push a0 s0 σ (fun σ2 => P σ2))
def x_Sp_getElement (a0 : Nat) (x1 : Int32) (σ0 : CST) (P : CST → Prop) : Prop := σ0.1 a0 = some (9, 0) ∧ (x_Sp_popAs a0 (1 : Int32) σ0 (fun σ5 => ((x1 = 46 → σ5.1 a0 = some (9, 0) ∧ (x_Sp_popAs a0 (3 : Int32) σ5 (fun σ20 => σ20.1 a0 = some (9, 0) ∧ (x_Sp_push a0 (1 : Int32) σ20 (fun σ23 => P σ23))))) ∧ (¬ x1 = 46 → ((x1 = 47 → σ5.1 a0 = some (9, 0) ∧ (x_Sp_popAs a0 (4 : Int32) σ5 (fun σ14 => σ14.1 a0 = some (9, 0) ∧ (x_Sp_push a0 (2 : Int32) σ14 (fun σ17 => P σ17))))) ∧ (¬ x1 = 47 → σ5.1 a0 = some (9, 0) ∧ (x_Sp_popClassArray a0 σ5 (fun r11 σ10 => ((r11 = 5 → x_Sp_getElement_65 a0 P 5 σ10) ∧ (¬ r11 = 5 → x_Sp_getElement_65 a0 P ((r11 - 64) + 32) σ10))))))))))
set_option maxHeartbeats 4000000 in
set_option maxRecDepth 100000 in
theorem X_Sp_getElement (l : Launch) (dC : Nat → ClassId) (dI : Nat → Nat → Nat) (ca : Nat → ClassId) (H0 : Heap) (σ0 : CST) (a0 : Nat) (x1 : Int32) {P : CST → Prop} (hw : x_Sp_getElement a0 x1 σ0 P) : Met l g_Sp_getElement (mW g_Sp_getElement prog_10_method_16_code 3 none) ({ frames := 3, cells := σ0.2.2.2.2.1, slots := σ0.2.2.2.2.2.1, locals := 67 } : Room) (va_Pc [.ref a0, .int x1] (CPre (dC, dI) ca σ0 H0)) (va_Qv P (CB (dC, dI) ca σ0 H0) (cA σ0 H0.size)) σ0.2.2.2.2.1 σ0.2.2.2.2.2.1 (cA σ0 H0.size) := by
  refine C_ofv (by decide +kernel) rfl rfl rfl (Nat.le_of_ble_eq_true rfl) ?_
  intro p e s m below meth cx Q A ls C hnm hend hH0 h hl
  subst hH0
  have C0 := C
  obtain ⟨⟨hx, hb, hml, hown, hts⟩, hsub⟩ := C0
  obtain ⟨cells, e_cells⟩ : ∃ z : Nat, z = 0 := ⟨_, rfl⟩
  obtain ⟨slots, e_slots⟩ : ∃ z : Nat, z = 0 := ⟨_, rfl⟩
  have h : CH (dC, dI) A ca ({ frames := 3, cells := σ0.2.2.2.2.1, slots := σ0.2.2.2.2.2.1, locals := 67 } : Room) σ0.2.2.2.2.2.2 σ0 s s.heap [] cells slots := by rw [e_cells, e_slots]; exact h
  show W p l e ({ frames := 3, cells := σ0.2.2.2.2.1, slots := σ0.2.2.2.2.2.1, locals := 67 } : Room) s m ([.ref a0, .int x1] : List Value).toArray below meth cx s.heap [] 0 0 Q (F0 m 0 ls [])
  rw [show W p l e ({ frames := 3, cells := σ0.2.2.2.2.1, slots := σ0.2.2.2.2.2.1, locals := 67 } : Room) s m ([.ref a0, .int x1] : List Value).toArray below meth cx s.heap [] 0 0 Q (F0 m 0 ls []) = W p l e ({ frames := 3, cells := σ0.2.2.2.2.1, slots := σ0.2.2.2.2.2.1, locals := 67 } : Room) s m ([.ref a0, .int x1] : List Value).toArray below meth cx s.heap [] cells slots Q (F0 m 0 ls []) by rw [e_cells, e_slots]]
  have K_65 : ∀ (u9 : Unit), ∀ (s0 : Int32) (σ : CST) (H : Heap) (locs : List Loc) (cells slots : Nat) (ls : Array Slot), x_Sp_getElement_65 a0 P s0 σ → CH (dC, dI) A ca ({ frames := 3, cells := σ0.2.2.2.2.1, slots := σ0.2.2.2.2.2.1, locals := 67 } : Room) σ0.2.2.2.2.2.2 σ s H locs cells slots → lv_has ls 3 [] → W p l e ({ frames := 3, cells := σ0.2.2.2.2.1, slots := σ0.2.2.2.2.2.1, locals := 67 } : Room) s m ([.ref a0, .int x1] : List Value).toArray below meth cx H locs cells slots Q (F0 m 65 ls [.int s0, .ref a0]) := by
    intro u9 s0 σ H locs cells slots ls hw h hl
    unfold x_Sp_getElement_65 at hw
    obtain ⟨g1, hw⟩ := hw
    refine C_callVv (As := [.int s0]) (rest := []) C h (ci := 9) (Cn := R_Sp) (T := T_Sp) (N := 5) g1 rfl (by decide) (X_Sp_push l dC dI ca H σ a0 s0 hw) (cwV 1 hts (gV hsub u_526 u_527 u_528 u_524 u_529) rfl rfl rfl (by decide +kernel) ⟨(Nat.le_of_ble_eq_true rfl), (Nat.le_of_ble_eq_true rfl)⟩) rfl hl.1 (Nat.le_of_ble_eq_true rfl) h_Sp_getElement_65 (fun σ2 H locs cells slots hw9 h9 => ?_)
    clear hw h; have hw := hw9; have h := h9; clear hw9 h9
    refine W.eq (g2 := F0 m 68 ls []) rfl ?_
    exact hend σ2 _ _ _ _ _ _ hw h h_Sp_getElement_68
  have hl : lv_has ls 3 [(0, .ref a0), (1, .int x1)] := hl
  unfold x_Sp_getElement at hw
  refine lv_aload_n hx hb h_Sp_getElement_0 rfl (lv_at hl 0 rfl) ?_
  refine lv_iconst (v := 1) hx hb h_Sp_getElement_1 (by decide) ?_
  obtain ⟨g4, hw⟩ := hw
  refine C_callVv (As := [.int 1]) (rest := []) C h (ci := 9) (Cn := R_Sp) (T := T_Sp) (N := 5) g4 rfl (by decide) (X_Sp_popAs l dC dI ca s.heap σ0 a0 (1 : Int32) hw) (cwV 1 hts (gV hsub u_536 u_537 u_538 u_524 u_539) rfl rfl rfl (by decide +kernel) ⟨(Nat.le_of_ble_eq_true rfl), (Nat.le_of_ble_eq_true rfl)⟩) rfl hl.1 (Nat.le_of_ble_eq_true rfl) h_Sp_getElement_2 (fun σ5 H locs cells slots hw9 h9 => ?_)
  clear hw h; have hw := hw9; have h := h9; clear hw9 h9
  refine W.eq (g2 := F0 m 5 ls []) rfl ?_
  refine lv_iload_n hx hb h_Sp_getElement_5 rfl (lv_at hl 1 rfl) ?_
  refine lv_bipush (v := 46) hx hb h_Sp_getElement_6 (by decide) ?_
  refine lv_icmp_ne (tgt := 24) hx hb h_Sp_getElement_8 (by decide) (fun c7 => ?_) (fun c7 => ?_)
  · skip
    replace hw := hw.2 c7
    refine lv_iload_n hx hb h_Sp_getElement_24 rfl (lv_at hl 1 rfl) ?_
    refine lv_bipush (v := 47) hx hb h_Sp_getElement_25 (by decide) ?_
    refine lv_icmp_ne (tgt := 43) hx hb h_Sp_getElement_27 (by decide) (fun c8 => ?_) (fun c8 => ?_)
    · skip
      replace hw := hw.2 c8
      refine lv_aload_n hx hb h_Sp_getElement_43 rfl (lv_at hl 0 rfl) ?_
      obtain ⟨g9, hw⟩ := hw
      refine C_callVi (As := []) (rest := []) C h (ci := 9) (Cn := R_Sp) (T := T_Sp) (N := 5) g9 rfl (by decide) (X_Sp_popClassArray l dC dI ca H σ5 a0 hw) (cwV 0 hts (gV hsub u_540 u_541 u_542 u_524 u_543) rfl rfl rfl (by decide +kernel) ⟨(Nat.le_of_ble_eq_true rfl), (Nat.le_of_ble_eq_true rfl)⟩) rfl hl.1 (Nat.le_of_ble_eq_true rfl) h_Sp_getElement_44 (fun r11 σ10 H locs cells slots hw9 h9 => ?_)
      clear hw h; have hw := hw9; have h := h9; clear hw9 h9
      refine W.eq (g2 := F0 m 47 ls [.int r11]) rfl ?_
      refine lv_istore_n (i := 2) (lv' := [(2, .int r11), (0, .ref a0), (1, .int x1)]) hx hb h_Sp_getElement_47 rfl hl (by decide) rfl (fun ls hl => ?_)
      refine lv_aload_n hx hb h_Sp_getElement_48 rfl (lv_at hl 1 rfl) ?_
      refine lv_iload_n hx hb h_Sp_getElement_49 rfl (lv_at hl 0 rfl) ?_
      refine lv_iconst (v := 5) hx hb h_Sp_getElement_50 (by decide) ?_
      refine lv_icmp_ne (tgt := 58) hx hb h_Sp_getElement_51 (by decide) (fun c12 => ?_) (fun c12 => ?_)
      · skip
        replace hw := hw.2 c12
        refine lv_iload_n hx hb h_Sp_getElement_58 rfl (lv_at hl 0 rfl) ?_
        refine lv_bipush (v := 64) hx hb h_Sp_getElement_59 (by decide) ?_
        refine lv_isub hx hb h_Sp_getElement_61 ?_
        refine lv_bipush (v := 32) hx hb h_Sp_getElement_62 (by decide) ?_
        refine lv_iadd hx hb h_Sp_getElement_64 ?_
        exact K_65 () ((r11 - 64) + 32) σ10 _ _ _ _ _ hw h (lv_sub hl [] rfl)
      · skip
        replace hw := hw.1 c12
        refine lv_iconst (v := 5) hx hb h_Sp_getElement_54 (by decide) ?_
        refine lv_goto (tgt := 65) hx hb h_Sp_getElement_55 (by decide) ?_
        exact K_65 () 5 σ10 _ _ _ _ _ hw h (lv_sub hl [] rfl)
    · skip
      replace hw := hw.1 c8
      refine lv_aload_n hx hb h_Sp_getElement_30 rfl (lv_at hl 0 rfl) ?_
      refine lv_iconst (v := 4) hx hb h_Sp_getElement_31 (by decide) ?_
      obtain ⟨g13, hw⟩ := hw
      refine C_callVv (As := [.int 4]) (rest := []) C h (ci := 9) (Cn := R_Sp) (T := T_Sp) (N := 5) g13 rfl (by decide) (X_Sp_popAs l dC dI ca H σ5 a0 (4 : Int32) hw) (cwV 1 hts (gV hsub u_536 u_537 u_538 u_524 u_539) rfl rfl rfl (by decide +kernel) ⟨(Nat.le_of_ble_eq_true rfl), (Nat.le_of_ble_eq_true rfl)⟩) rfl hl.1 (Nat.le_of_ble_eq_true rfl) h_Sp_getElement_32 (fun σ14 H locs cells slots hw9 h9 => ?_)
      clear hw h; have hw := hw9; have h := h9; clear hw9 h9
      refine W.eq (g2 := F0 m 35 ls []) rfl ?_
      refine lv_aload_n hx hb h_Sp_getElement_35 rfl (lv_at hl 0 rfl) ?_
      refine lv_iconst (v := 2) hx hb h_Sp_getElement_36 (by decide) ?_
      obtain ⟨g16, hw⟩ := hw
      refine C_callVv (As := [.int 2]) (rest := []) C h (ci := 9) (Cn := R_Sp) (T := T_Sp) (N := 5) g16 rfl (by decide) (X_Sp_push l dC dI ca H σ14 a0 (2 : Int32) hw) (cwV 1 hts (gV hsub u_526 u_527 u_528 u_524 u_529) rfl rfl rfl (by decide +kernel) ⟨(Nat.le_of_ble_eq_true rfl), (Nat.le_of_ble_eq_true rfl)⟩) rfl hl.1 (Nat.le_of_ble_eq_true rfl) h_Sp_getElement_37 (fun σ17 H locs cells slots hw9 h9 => ?_)
      clear hw h; have hw := hw9; have h := h9; clear hw9 h9
      refine W.eq (g2 := F0 m 40 ls []) rfl ?_
      refine lv_goto (tgt := 68) hx hb h_Sp_getElement_40 (by decide) ?_
      exact hend σ17 _ _ _ _ _ _ hw h h_Sp_getElement_68
  · skip
    replace hw := hw.1 c7
    refine lv_aload_n hx hb h_Sp_getElement_11 rfl (lv_at hl 0 rfl) ?_
    refine lv_iconst (v := 3) hx hb h_Sp_getElement_12 (by decide) ?_
    obtain ⟨g19, hw⟩ := hw
    refine C_callVv (As := [.int 3]) (rest := []) C h (ci := 9) (Cn := R_Sp) (T := T_Sp) (N := 5) g19 rfl (by decide) (X_Sp_popAs l dC dI ca H σ5 a0 (3 : Int32) hw) (cwV 1 hts (gV hsub u_536 u_537 u_538 u_524 u_539) rfl rfl rfl (by decide +kernel) ⟨(Nat.le_of_ble_eq_true rfl), (Nat.le_of_ble_eq_true rfl)⟩) rfl hl.1 (Nat.le_of_ble_eq_true rfl) h_Sp_getElement_13 (fun σ20 H locs cells slots hw9 h9 => ?_)
    clear hw h; have hw := hw9; have h := h9; clear hw9 h9
    refine W.eq (g2 := F0 m 16 ls []) rfl ?_
    refine lv_aload_n hx hb h_Sp_getElement_16 rfl (lv_at hl 0 rfl) ?_
    refine lv_iconst (v := 1) hx hb h_Sp_getElement_17 (by decide) ?_
    obtain ⟨g22, hw⟩ := hw
    refine C_callVv (As := [.int 1]) (rest := []) C h (ci := 9) (Cn := R_Sp) (T := T_Sp) (N := 5) g22 rfl (by decide) (X_Sp_push l dC dI ca H σ20 a0 (1 : Int32) hw) (cwV 1 hts (gV hsub u_526 u_527 u_528 u_524 u_529) rfl rfl rfl (by decide +kernel) ⟨(Nat.le_of_ble_eq_true rfl), (Nat.le_of_ble_eq_true rfl)⟩) rfl hl.1 (Nat.le_of_ble_eq_true rfl) h_Sp_getElement_18 (fun σ23 H locs cells slots hw9 h9 => ?_)
    clear hw h; have hw := hw9; have h := h9; clear hw9 h9
    refine W.eq (g2 := F0 m 21 ls []) rfl ?_
    refine lv_goto (tgt := 68) hx hb h_Sp_getElement_21 (by decide) ?_
    exact hend σ23 _ _ _ _ _ _ hw h h_Sp_getElement_68
abbrev g_Sp_operand : MethodName := ⟨"MapFramer$Stepper", "operand", "()I"⟩
theorem u_544 : (Cond.fieldLink "MapFramer$Stepper" 21 "MapFramer$Stepper" "place" "I" : Cond) ∈ bigW := inB_3 157 (by decide +kernel) rfl
theorem u_545 : (Cond.methodLink "MapFramer$Stepper" 28 ⟨"MapFramer$Method", "byteAt", "(I)I"⟩ : Cond) ∈ bigW := inB_4 122 (by decide +kernel) rfl
theorem h_Sp_operand_0 : decode prog_10_method_4_code 0 = .ok (.aload_n 0, 1) := by decide +kernel
theorem h_Sp_operand_1 : decode prog_10_method_4_code 1 = .ok (.getfield 13, 3) := by decide +kernel
theorem h_Sp_operand_4 : decode prog_10_method_4_code 4 = .ok (.aload_n 0, 1) := by decide +kernel
theorem h_Sp_operand_5 : decode prog_10_method_4_code 5 = .ok (.getfield 21, 3) := by decide +kernel
theorem h_Sp_operand_8 : decode prog_10_method_4_code 8 = .ok (.iconst 1, 1) := by decide +kernel
theorem h_Sp_operand_9 : decode prog_10_method_4_code 9 = .ok (.iadd, 1) := by decide +kernel
theorem h_Sp_operand_10 : decode prog_10_method_4_code 10 = .ok (.invokevirtual 28, 3) := by decide +kernel
theorem h_Sp_operand_13 : decode prog_10_method_4_code 13 = .ok (.ireturn, 1) := by decide +kernel
def x_Sp_operand (a0 : Nat) (σ0 : CST) (P : Int32 → CST → Prop) : Prop := σ0.1 a0 = some (9, 0) ∧ (∀ b2 : Option Nat, b2 = (σ0.2.2.2.1 a0 1) → (∃ r3 : Nat, b2 = some r3 ∧ (σ0.1 r3 = some (5, 0) ∧ (x_E_byteAt r3 ((σ0.2.1 a0 3) + 1) σ0 (fun r6 σ5 => P r6 σ5)))))
set_option maxHeartbeats 4000000 in
set_option maxRecDepth 100000 in
theorem X_Sp_operand (l : Launch) (dC : Nat → ClassId) (dI : Nat → Nat → Nat) (ca : Nat → ClassId) (H0 : Heap) (σ0 : CST) (a0 : Nat) {P : Int32 → CST → Prop} (hw : x_Sp_operand a0 σ0 P) : Met l g_Sp_operand (mW g_Sp_operand prog_10_method_4_code 1 (some .int)) ({ frames := 1, cells := σ0.2.2.2.2.1, slots := σ0.2.2.2.2.2.1, locals := 21 } : Room) (va_Pc [.ref a0] (CPre (dC, dI) ca σ0 H0)) (va_Qi P (CB (dC, dI) ca σ0 H0) (cA σ0 H0.size)) σ0.2.2.2.2.1 σ0.2.2.2.2.2.1 (cA σ0 H0.size) := by
  refine C_ofi (by decide +kernel) rfl rfl rfl (Nat.le_of_ble_eq_true rfl) ?_
  intro p e s m below meth cx Q A ls C hnm hend hH0 h hl
  subst hH0
  have C0 := C
  obtain ⟨⟨hx, hb, hml, hown, hts⟩, hsub⟩ := C0
  obtain ⟨cells, e_cells⟩ : ∃ z : Nat, z = 0 := ⟨_, rfl⟩
  obtain ⟨slots, e_slots⟩ : ∃ z : Nat, z = 0 := ⟨_, rfl⟩
  have h : CH (dC, dI) A ca ({ frames := 1, cells := σ0.2.2.2.2.1, slots := σ0.2.2.2.2.2.1, locals := 21 } : Room) σ0.2.2.2.2.2.2 σ0 s s.heap [] cells slots := by rw [e_cells, e_slots]; exact h
  show W p l e ({ frames := 1, cells := σ0.2.2.2.2.1, slots := σ0.2.2.2.2.2.1, locals := 21 } : Room) s m ([.ref a0] : List Value).toArray below meth cx s.heap [] 0 0 Q (F0 m 0 ls [])
  rw [show W p l e ({ frames := 1, cells := σ0.2.2.2.2.1, slots := σ0.2.2.2.2.2.1, locals := 21 } : Room) s m ([.ref a0] : List Value).toArray below meth cx s.heap [] 0 0 Q (F0 m 0 ls []) = W p l e ({ frames := 1, cells := σ0.2.2.2.2.1, slots := σ0.2.2.2.2.2.1, locals := 21 } : Room) s m ([.ref a0] : List Value).toArray below meth cx s.heap [] cells slots Q (F0 m 0 ls []) by rw [e_cells, e_slots]]
  have hl : lv_has ls 1 [(0, .ref a0)] := hl
  unfold x_Sp_operand at hw
  refine lv_aload_n hx hb h_Sp_operand_0 rfl (lv_at hl 0 rfl) ?_
  obtain ⟨g1, hw⟩ := hw
  refine C_get C h 9 1 (v := va_rf (σ0.2.2.2.1 a0 1)) g1 rfl (Cn := R_Sp) (T := T_Sp) (N := 5) rfl (by decide) rfl uw_Sp (by decide) u_514 (fun _ q => q) h_Sp_operand_1 ?_
  refine lv_topq (fun b2 e_b2 => ?_)
  replace hw := hw b2 e_b2
  refine lv_aload_n hx hb h_Sp_operand_4 rfl (lv_at hl 0 rfl) ?_
  refine C_get C h 9 3 (v := .int (σ0.2.1 a0 3)) g1 rfl (Cn := R_Sp) (T := T_Sp) (N := 5) rfl (by decide) rfl uw_Sp (by decide) u_544 (fun _ q => q) h_Sp_operand_5 ?_
  refine lv_iconst (v := 1) hx hb h_Sp_operand_8 (by decide) ?_
  refine lv_iadd hx hb h_Sp_operand_9 ?_
  obtain ⟨r3, e_r3, hw⟩ := hw
  subst e_r3
  have hl : lv_has ls 1 [(0, .ref a0)] := hl
  refine W.eq (g2 := F0 m 10 ls [.int ((σ0.2.1 a0 3) + 1), .ref r3]) rfl ?_
  obtain ⟨g4, hw⟩ := hw
  refine C_callVi (As := [.int ((σ0.2.1 a0 3) + 1)]) (rest := []) C h (ci := 5) (Cn := R_E) (T := T_E) (N := 13) g4 rfl (by decide) (X_E_byteAt l dC dI ca s.heap σ0 r3 ((σ0.2.1 a0 3) + 1) hw) (cwV 1 hts (gV hsub u_545 u_227 u_228 u_229 u_230) rfl rfl rfl (by decide +kernel) ⟨(Nat.le_of_ble_eq_true rfl), (Nat.le_of_ble_eq_true rfl)⟩) rfl hl.1 (Nat.le_of_ble_eq_true rfl) h_Sp_operand_10 (fun r6 σ5 H locs cells slots hw9 h9 => ?_)
  clear hw h; have hw := hw9; have h := h9; clear hw9 h9
  refine W.eq (g2 := F0 m 13 ls [.int r6]) rfl ?_
  exact hend r6 σ5 _ _ _ _ _ _ hw h h_Sp_operand_13
abbrev g_Sp_wantLocal : MethodName := ⟨"MapFramer$Stepper", "wantLocal", "(I)V"⟩
theorem u_546 : (Cond.methodLink "MapFramer$Stepper" 119 ⟨"MapFramer$Stepper", "operand", "()I"⟩ : Cond) ∈ bigW := inB_4 171 (by decide +kernel) rfl
theorem u_547 : (Cond.instanceMethod ⟨"MapFramer$Stepper", "operand", "()I"⟩ : Cond) ∈ bigW := inB_4 173 (by decide +kernel) rfl
theorem u_548 : (Cond.selects "MapFramer$Stepper" ⟨"MapFramer$Stepper", "operand", "()I"⟩ ⟨"MapFramer$Stepper", "operand", "()I"⟩ : Cond) ∈ bigW := inS (y := ⟨"MapFramer$Stepper", "operand", "()I"⟩) (n := 5) (List.mem_of_getElem? (i := 18) (by decide +kernel))
theorem u_549 : (Cond.code ⟨"MapFramer$Stepper", "operand", "()I"⟩ prog_10_method_4_code 1 (some .int) : Cond) ∈ bigW := inB_4 174 rfl rfl
theorem u_550 : (Cond.methodLink "MapFramer$Stepper" 129 ⟨"MapFramer$State", "localAt", "(I)I"⟩ : Cond) ∈ bigW := inB_4 175 (by decide +kernel) rfl
theorem u_551 : (Cond.instanceMethod ⟨"MapFramer$State", "localAt", "(I)I"⟩ : Cond) ∈ bigW := inB_4 176 (by decide +kernel) rfl
theorem u_552 : (Cond.selects "MapFramer$State" ⟨"MapFramer$State", "localAt", "(I)I"⟩ ⟨"MapFramer$State", "localAt", "(I)I"⟩ : Cond) ∈ bigW := inB_4 177 (by decide +kernel) rfl
theorem u_553 : (Cond.code ⟨"MapFramer$State", "localAt", "(I)I"⟩ prog_9_method_7_code 2 (some .int) : Cond) ∈ bigW := inB_4 178 rfl rfl
theorem h_Sp_wantLocal_0 : decode prog_10_method_12_code 0 = .ok (.aload_n 0, 1) := by decide +kernel
theorem h_Sp_wantLocal_1 : decode prog_10_method_12_code 1 = .ok (.getfield 17, 3) := by decide +kernel
theorem h_Sp_wantLocal_4 : decode prog_10_method_12_code 4 = .ok (.aload_n 0, 1) := by decide +kernel
theorem h_Sp_wantLocal_5 : decode prog_10_method_12_code 5 = .ok (.invokevirtual 119, 3) := by decide +kernel
theorem h_Sp_wantLocal_8 : decode prog_10_method_12_code 8 = .ok (.invokevirtual 129, 3) := by decide +kernel
theorem h_Sp_wantLocal_11 : decode prog_10_method_12_code 11 = .ok (.iload_n 1, 1) := by decide +kernel
theorem h_Sp_wantLocal_12 : decode prog_10_method_12_code 12 = .ok (.if_icmp .eq 9, 3) := by decide +kernel
theorem h_Sp_wantLocal_15 : decode prog_10_method_12_code 15 = .ok (.aload_n 0, 1) := by decide +kernel
theorem h_Sp_wantLocal_16 : decode prog_10_method_12_code 16 = .ok (.bipush 6, 2) := by decide +kernel
theorem h_Sp_wantLocal_18 : decode prog_10_method_12_code 18 = .ok (.invokevirtual 87, 3) := by decide +kernel
theorem h_Sp_wantLocal_21 : decode prog_10_method_12_code 21 = .ok (.return_, 1) := by decide +kernel
def x_Sp_wantLocal (a0 : Nat) (x1 : Int32) (σ0 : CST) (P : CST → Prop) : Prop := σ0.1 a0 = some (9, 0) ∧ (∀ b2 : Option Nat, b2 = (σ0.2.2.2.1 a0 2) → x_Sp_operand a0 σ0 (fun r4 σ3 => (∃ r5 : Nat, b2 = some r5 ∧ (σ3.1 r5 = some (8, 0) ∧ (x_St_localAt r5 r4 σ3 (fun r8 σ7 => ((r8 = x1 → P σ7) ∧ (¬ r8 = x1 → σ7.1 a0 = some (9, 0) ∧ (x_Sp_fail a0 (6 : Int32) σ7 (fun σ11 => P σ11))))))))))
set_option maxHeartbeats 4000000 in
set_option maxRecDepth 100000 in
theorem X_Sp_wantLocal (l : Launch) (dC : Nat → ClassId) (dI : Nat → Nat → Nat) (ca : Nat → ClassId) (H0 : Heap) (σ0 : CST) (a0 : Nat) (x1 : Int32) {P : CST → Prop} (hw : x_Sp_wantLocal a0 x1 σ0 P) : Met l g_Sp_wantLocal (mW g_Sp_wantLocal prog_10_method_12_code 2 none) ({ frames := 2, cells := σ0.2.2.2.2.1, slots := σ0.2.2.2.2.2.1, locals := 41 } : Room) (va_Pc [.ref a0, .int x1] (CPre (dC, dI) ca σ0 H0)) (va_Qv P (CB (dC, dI) ca σ0 H0) (cA σ0 H0.size)) σ0.2.2.2.2.1 σ0.2.2.2.2.2.1 (cA σ0 H0.size) := by
  refine C_ofv (by decide +kernel) rfl rfl rfl (Nat.le_of_ble_eq_true rfl) ?_
  intro p e s m below meth cx Q A ls C hnm hend hH0 h hl
  subst hH0
  have C0 := C
  obtain ⟨⟨hx, hb, hml, hown, hts⟩, hsub⟩ := C0
  obtain ⟨cells, e_cells⟩ : ∃ z : Nat, z = 0 := ⟨_, rfl⟩
  obtain ⟨slots, e_slots⟩ : ∃ z : Nat, z = 0 := ⟨_, rfl⟩
  have h : CH (dC, dI) A ca ({ frames := 2, cells := σ0.2.2.2.2.1, slots := σ0.2.2.2.2.2.1, locals := 41 } : Room) σ0.2.2.2.2.2.2 σ0 s s.heap [] cells slots := by rw [e_cells, e_slots]; exact h
  show W p l e ({ frames := 2, cells := σ0.2.2.2.2.1, slots := σ0.2.2.2.2.2.1, locals := 41 } : Room) s m ([.ref a0, .int x1] : List Value).toArray below meth cx s.heap [] 0 0 Q (F0 m 0 ls [])
  rw [show W p l e ({ frames := 2, cells := σ0.2.2.2.2.1, slots := σ0.2.2.2.2.2.1, locals := 41 } : Room) s m ([.ref a0, .int x1] : List Value).toArray below meth cx s.heap [] 0 0 Q (F0 m 0 ls []) = W p l e ({ frames := 2, cells := σ0.2.2.2.2.1, slots := σ0.2.2.2.2.2.1, locals := 41 } : Room) s m ([.ref a0, .int x1] : List Value).toArray below meth cx s.heap [] cells slots Q (F0 m 0 ls []) by rw [e_cells, e_slots]]
  have hl : lv_has ls 2 [(0, .ref a0), (1, .int x1)] := hl
  unfold x_Sp_wantLocal at hw
  refine lv_aload_n hx hb h_Sp_wantLocal_0 rfl (lv_at hl 0 rfl) ?_
  obtain ⟨g1, hw⟩ := hw
  refine C_get C h 9 2 (v := va_rf (σ0.2.2.2.1 a0 2)) g1 rfl (Cn := R_Sp) (T := T_Sp) (N := 5) rfl (by decide) rfl uw_Sp (by decide) u_516 (fun _ q => q) h_Sp_wantLocal_1 ?_
  refine lv_topq (fun b2 e_b2 => ?_)
  replace hw := hw b2 e_b2
  refine lv_aload_n hx hb h_Sp_wantLocal_4 rfl (lv_at hl 0 rfl) ?_
  refine C_callVi (As := []) (rest := [va_rf b2]) C h (ci := 9) (Cn := R_Sp) (T := T_Sp) (N := 5) g1 rfl (by decide) (X_Sp_operand l dC dI ca s.heap σ0 a0 hw) (cwV 0 hts (gV hsub u_546 u_547 u_548 u_524 u_549) rfl rfl rfl (by decide +kernel) ⟨(Nat.le_of_ble_eq_true rfl), (Nat.le_of_ble_eq_true rfl)⟩) rfl hl.1 (by simp only [List.map_cons, List.map_nil, List.sum_cons, List.sum_nil, cq_cat]; exact Nat.le_of_ble_eq_true rfl) h_Sp_wantLocal_5 (fun r4 σ3 H locs cells slots hw9 h9 => ?_)
  clear hw h; have hw := hw9; have h := h9; clear hw9 h9
  refine W.eq (g2 := F0 m 8 ls [.int r4, va_rf b2]) rfl ?_
  obtain ⟨r5, e_r5, hw⟩ := hw
  subst e_r5
  have hl : lv_has ls 2 [(0, .ref a0), (1, .int x1)] := hl
  refine W.eq (g2 := F0 m 8 ls [.int r4, .ref r5]) rfl ?_
  obtain ⟨g6, hw⟩ := hw
  refine C_callVi (As := [.int r4]) (rest := []) C h (ci := 8) (Cn := R_St) (T := T_St) (N := 4) g6 rfl (by decide) (X_St_localAt l dC dI ca H σ3 r5 r4 hw) (cwV 1 hts (gV hsub u_550 u_551 u_552 u_502 u_553) rfl rfl rfl (by decide +kernel) ⟨(Nat.le_of_ble_eq_true rfl), (Nat.le_of_ble_eq_true rfl)⟩) rfl hl.1 (Nat.le_of_ble_eq_true rfl) h_Sp_wantLocal_8 (fun r8 σ7 H locs cells slots hw9 h9 => ?_)
  clear hw h; have hw := hw9; have h := h9; clear hw9 h9
  refine W.eq (g2 := F0 m 11 ls [.int r8]) rfl ?_
  refine lv_iload_n hx hb h_Sp_wantLocal_11 rfl (lv_at hl 1 rfl) ?_
  refine lv_icmp_eq (tgt := 21) hx hb h_Sp_wantLocal_12 (by decide) (fun c9 => ?_) (fun c9 => ?_)
  · skip
    replace hw := hw.1 c9
    exact hend σ7 _ _ _ _ _ _ hw h h_Sp_wantLocal_21
  · skip
    replace hw := hw.2 c9
    refine lv_aload_n hx hb h_Sp_wantLocal_15 rfl (lv_at hl 0 rfl) ?_
    refine lv_bipush (v := 6) hx hb h_Sp_wantLocal_16 (by decide) ?_
    obtain ⟨g10, hw⟩ := hw
    refine C_callVv (As := [.int 6]) (rest := []) C h (ci := 9) (Cn := R_Sp) (T := T_Sp) (N := 5) g10 rfl (by decide) (X_Sp_fail l dC dI ca H σ7 a0 (6 : Int32) hw) (cwV 1 hts (gV hsub u_521 u_522 u_523 u_524 u_525) rfl rfl rfl (by decide +kernel) ⟨(Nat.le_of_ble_eq_true rfl), (Nat.le_of_ble_eq_true rfl)⟩) rfl hl.1 (Nat.le_of_ble_eq_true rfl) h_Sp_wantLocal_18 (fun σ11 H locs cells slots hw9 h9 => ?_)
    clear hw h; have hw := hw9; have h := h9; clear hw9 h9
    refine W.eq (g2 := F0 m 21 ls []) rfl ?_
    exact hend σ11 _ _ _ _ _ _ hw h h_Sp_wantLocal_21
abbrev g_Sp_wantReferenceOrUninitialized : MethodName := ⟨"MapFramer$Stepper", "wantReferenceOrUninitialized", "(I)V"⟩
theorem u_554 : (Cond.methodLink "MapFramer$Stepper" 101 ⟨"MapFramer$World", "isReference", "(I)Z"⟩ : Cond) ∈ bigW := inB_4 187 (by decide +kernel) rfl
theorem u_555 : (Cond.methodLink "MapFramer$Stepper" 136 ⟨"MapFramer$World", "isUninitialized", "(I)Z"⟩ : Cond) ∈ bigW := inB_4 188 (by decide +kernel) rfl
theorem h_Sp_wantReferenceOrUninitialized_0 : decode prog_10_method_15_code 0 = .ok (.iload_n 1, 1) := by decide +kernel
theorem h_Sp_wantReferenceOrUninitialized_1 : decode prog_10_method_15_code 1 = .ok (.invokestatic 101, 3) := by decide +kernel
theorem h_Sp_wantReferenceOrUninitialized_4 : decode prog_10_method_15_code 4 = .ok (.ifCond .ne 16, 3) := by decide +kernel
theorem h_Sp_wantReferenceOrUninitialized_7 : decode prog_10_method_15_code 7 = .ok (.iload_n 1, 1) := by decide +kernel
theorem h_Sp_wantReferenceOrUninitialized_8 : decode prog_10_method_15_code 8 = .ok (.invokestatic 136, 3) := by decide +kernel
theorem h_Sp_wantReferenceOrUninitialized_11 : decode prog_10_method_15_code 11 = .ok (.ifCond .ne 9, 3) := by decide +kernel
theorem h_Sp_wantReferenceOrUninitialized_14 : decode prog_10_method_15_code 14 = .ok (.aload_n 0, 1) := by decide +kernel
theorem h_Sp_wantReferenceOrUninitialized_15 : decode prog_10_method_15_code 15 = .ok (.bipush 6, 2) := by decide +kernel
theorem h_Sp_wantReferenceOrUninitialized_17 : decode prog_10_method_15_code 17 = .ok (.invokevirtual 87, 3) := by decide +kernel
theorem h_Sp_wantReferenceOrUninitialized_20 : decode prog_10_method_15_code 20 = .ok (.return_, 1) := by decide +kernel
def x_Sp_wantReferenceOrUninitialized (a0 : Nat) (x1 : Int32) (σ0 : CST) (P : CST → Prop) : Prop := x_W_isReference x1 σ0 (fun r2 σ1 => ((r2 = 0 → x_W_isUninitialized x1 σ1 (fun r5 σ4 => ((r5 = 0 → σ4.1 a0 = some (9, 0) ∧ (x_Sp_fail a0 (6 : Int32) σ4 (fun σ8 => P σ8))) ∧ (¬ r5 = 0 → P σ4)))) ∧ (¬ r2 = 0 → P σ1)))
set_option maxHeartbeats 4000000 in
set_option maxRecDepth 100000 in
theorem X_Sp_wantReferenceOrUninitialized (l : Launch) (dC : Nat → ClassId) (dI : Nat → Nat → Nat) (ca : Nat → ClassId) (H0 : Heap) (σ0 : CST) (a0 : Nat) (x1 : Int32) {P : CST → Prop} (hw : x_Sp_wantReferenceOrUninitialized a0 x1 σ0 P) : Met l g_Sp_wantReferenceOrUninitialized (mW g_Sp_wantReferenceOrUninitialized prog_10_method_15_code 2 none) ({ frames := 1, cells := σ0.2.2.2.2.1, slots := σ0.2.2.2.2.2.1, locals := 21 } : Room) (va_Pc [.ref a0, .int x1] (CPre (dC, dI) ca σ0 H0)) (va_Qv P (CB (dC, dI) ca σ0 H0) (cA σ0 H0.size)) σ0.2.2.2.2.1 σ0.2.2.2.2.2.1 (cA σ0 H0.size) := by
  refine C_ofv (by decide +kernel) rfl rfl rfl (Nat.le_of_ble_eq_true rfl) ?_
  intro p e s m below meth cx Q A ls C hnm hend hH0 h hl
  subst hH0
  have C0 := C
  obtain ⟨⟨hx, hb, hml, hown, hts⟩, hsub⟩ := C0
  obtain ⟨cells, e_cells⟩ : ∃ z : Nat, z = 0 := ⟨_, rfl⟩
  obtain ⟨slots, e_slots⟩ : ∃ z : Nat, z = 0 := ⟨_, rfl⟩
  have h : CH (dC, dI) A ca ({ frames := 1, cells := σ0.2.2.2.2.1, slots := σ0.2.2.2.2.2.1, locals := 21 } : Room) σ0.2.2.2.2.2.2 σ0 s s.heap [] cells slots := by rw [e_cells, e_slots]; exact h
  show W p l e ({ frames := 1, cells := σ0.2.2.2.2.1, slots := σ0.2.2.2.2.2.1, locals := 21 } : Room) s m ([.ref a0, .int x1] : List Value).toArray below meth cx s.heap [] 0 0 Q (F0 m 0 ls [])
  rw [show W p l e ({ frames := 1, cells := σ0.2.2.2.2.1, slots := σ0.2.2.2.2.2.1, locals := 21 } : Room) s m ([.ref a0, .int x1] : List Value).toArray below meth cx s.heap [] 0 0 Q (F0 m 0 ls []) = W p l e ({ frames := 1, cells := σ0.2.2.2.2.1, slots := σ0.2.2.2.2.2.1, locals := 21 } : Room) s m ([.ref a0, .int x1] : List Value).toArray below meth cx s.heap [] cells slots Q (F0 m 0 ls []) by rw [e_cells, e_slots]]
  have hl : lv_has ls 2 [(0, .ref a0), (1, .int x1)] := hl
  unfold x_Sp_wantReferenceOrUninitialized at hw
  refine lv_iload_n hx hb h_Sp_wantReferenceOrUninitialized_0 rfl (lv_at hl 1 rfl) ?_
  refine C_callSi (As := [.int x1]) (rest := []) C h (X_W_isReference l dC dI ca s.heap σ0 x1 hw) (va_cwS 1 hts (gS hsub u_554 u_279 u_51 u_280) rfl rfl rfl (by decide +kernel) ⟨(Nat.le_of_ble_eq_true rfl), (Nat.le_of_ble_eq_true rfl)⟩) rfl hl.1 (Nat.le_of_ble_eq_true rfl) h_Sp_wantReferenceOrUninitialized_1 (fun r2 σ1 H locs cells slots hw9 h9 => ?_)
  clear hw h; have hw := hw9; have h := h9; clear hw9 h9
  refine W.eq (g2 := F0 m 4 ls [.int r2]) rfl ?_
  refine lv_if_ne (tgt := 20) hx hb h_Sp_wantReferenceOrUninitialized_4 (by decide) (fun c3 => ?_) (fun c3 => ?_)
  · skip
    replace hw := hw.2 c3
    exact hend σ1 _ _ _ _ _ _ hw h h_Sp_wantReferenceOrUninitialized_20
  · skip
    replace hw := hw.1 c3
    refine lv_iload_n hx hb h_Sp_wantReferenceOrUninitialized_7 rfl (lv_at hl 1 rfl) ?_
    refine C_callSi (As := [.int x1]) (rest := []) C h (X_W_isUninitialized l dC dI ca H σ1 x1 hw) (va_cwS 1 hts (gS hsub u_555 u_64 u_51 u_65) rfl rfl rfl (by decide +kernel) ⟨(Nat.le_of_ble_eq_true rfl), (Nat.le_of_ble_eq_true rfl)⟩) rfl hl.1 (Nat.le_of_ble_eq_true rfl) h_Sp_wantReferenceOrUninitialized_8 (fun r5 σ4 H locs cells slots hw9 h9 => ?_)
    clear hw h; have hw := hw9; have h := h9; clear hw9 h9
    refine W.eq (g2 := F0 m 11 ls [.int r5]) rfl ?_
    refine lv_if_ne (tgt := 20) hx hb h_Sp_wantReferenceOrUninitialized_11 (by decide) (fun c6 => ?_) (fun c6 => ?_)
    · skip
      replace hw := hw.2 c6
      exact hend σ4 _ _ _ _ _ _ hw h h_Sp_wantReferenceOrUninitialized_20
    · skip
      replace hw := hw.1 c6
      refine lv_aload_n hx hb h_Sp_wantReferenceOrUninitialized_14 rfl (lv_at hl 0 rfl) ?_
      refine lv_bipush (v := 6) hx hb h_Sp_wantReferenceOrUninitialized_15 (by decide) ?_
      obtain ⟨g7, hw⟩ := hw
      refine C_callVv (As := [.int 6]) (rest := []) C h (ci := 9) (Cn := R_Sp) (T := T_Sp) (N := 5) g7 rfl (by decide) (X_Sp_fail l dC dI ca H σ4 a0 (6 : Int32) hw) (cwV 1 hts (gV hsub u_521 u_522 u_523 u_524 u_525) rfl rfl rfl (by decide +kernel) ⟨(Nat.le_of_ble_eq_true rfl), (Nat.le_of_ble_eq_true rfl)⟩) rfl hl.1 (Nat.le_of_ble_eq_true rfl) h_Sp_wantReferenceOrUninitialized_17 (fun σ8 H locs cells slots hw9 h9 => ?_)
      clear hw h; have hw := hw9; have h := h9; clear hw9 h9
      refine W.eq (g2 := F0 m 20 ls []) rfl ?_
      exact hend σ8 _ _ _ _ _ _ hw h h_Sp_wantReferenceOrUninitialized_20
abbrev g_Sp_loadReference : MethodName := ⟨"MapFramer$Stepper", "loadReference", "()V"⟩
theorem u_556 : (Cond.methodLink "MapFramer$Stepper" 132 ⟨"MapFramer$Stepper", "wantReferenceOrUninitialized", "(I)V"⟩ : Cond) ∈ bigW := inB_4 183 (by decide +kernel) rfl
theorem u_557 : (Cond.instanceMethod ⟨"MapFramer$Stepper", "wantReferenceOrUninitialized", "(I)V"⟩ : Cond) ∈ bigW := inB_4 185 (by decide +kernel) rfl
theorem u_558 : (Cond.selects "MapFramer$Stepper" ⟨"MapFramer$Stepper", "wantReferenceOrUninitialized", "(I)V"⟩ ⟨"MapFramer$Stepper", "wantReferenceOrUninitialized", "(I)V"⟩ : Cond) ∈ bigW := inS (y := ⟨"MapFramer$Stepper", "wantReferenceOrUninitialized", "(I)V"⟩) (n := 5) (List.mem_of_getElem? (i := 20) (by decide +kernel))
theorem u_559 : (Cond.code ⟨"MapFramer$Stepper", "wantReferenceOrUninitialized", "(I)V"⟩ prog_10_method_15_code 2 none : Cond) ∈ bigW := inB_4 186 rfl rfl
theorem h_Sp_loadReference_0 : decode prog_10_method_13_code 0 = .ok (.aload_n 0, 1) := by decide +kernel
theorem h_Sp_loadReference_1 : decode prog_10_method_13_code 1 = .ok (.getfield 17, 3) := by decide +kernel
theorem h_Sp_loadReference_4 : decode prog_10_method_13_code 4 = .ok (.aload_n 0, 1) := by decide +kernel
theorem h_Sp_loadReference_5 : decode prog_10_method_13_code 5 = .ok (.invokevirtual 119, 3) := by decide +kernel
theorem h_Sp_loadReference_8 : decode prog_10_method_13_code 8 = .ok (.invokevirtual 129, 3) := by decide +kernel
theorem h_Sp_loadReference_11 : decode prog_10_method_13_code 11 = .ok (.istore_n 1, 1) := by decide +kernel
theorem h_Sp_loadReference_12 : decode prog_10_method_13_code 12 = .ok (.aload_n 0, 1) := by decide +kernel
theorem h_Sp_loadReference_13 : decode prog_10_method_13_code 13 = .ok (.iload_n 1, 1) := by decide +kernel
theorem h_Sp_loadReference_14 : decode prog_10_method_13_code 14 = .ok (.invokevirtual 132, 3) := by decide +kernel
theorem h_Sp_loadReference_17 : decode prog_10_method_13_code 17 = .ok (.aload_n 0, 1) := by decide +kernel
theorem h_Sp_loadReference_18 : decode prog_10_method_13_code 18 = .ok (.iload_n 1, 1) := by decide +kernel
theorem h_Sp_loadReference_19 : decode prog_10_method_13_code 19 = .ok (.invokevirtual 108, 3) := by decide +kernel
theorem h_Sp_loadReference_22 : decode prog_10_method_13_code 22 = .ok (.return_, 1) := by decide +kernel
def x_Sp_loadReference (a0 : Nat) (σ0 : CST) (P : CST → Prop) : Prop := σ0.1 a0 = some (9, 0) ∧ (∀ b2 : Option Nat, b2 = (σ0.2.2.2.1 a0 2) → x_Sp_operand a0 σ0 (fun r4 σ3 => (∃ r5 : Nat, b2 = some r5 ∧ (σ3.1 r5 = some (8, 0) ∧ (x_St_localAt r5 r4 σ3 (fun r8 σ7 => σ7.1 a0 = some (9, 0) ∧ (x_Sp_wantReferenceOrUninitialized a0 r8 σ7 (fun σ10 => σ10.1 a0 = some (9, 0) ∧ (x_Sp_push a0 r8 σ10 (fun σ13 => P σ13))))))))))
set_option maxHeartbeats 4000000 in
set_option maxRecDepth 100000 in
theorem X_Sp_loadReference (l : Launch) (dC : Nat → ClassId) (dI : Nat → Nat → Nat) (ca : Nat → ClassId) (H0 : Heap) (σ0 : CST) (a0 : Nat) {P : CST → Prop} (hw : x_Sp_loadReference a0 σ0 P) : Met l g_Sp_loadReference (mW g_Sp_loadReference prog_10_method_13_code 2 none) ({ frames := 2, cells := σ0.2.2.2.2.1, slots := σ0.2.2.2.2.2.1, locals := 43 } : Room) (va_Pc [.ref a0] (CPre (dC, dI) ca σ0 H0)) (va_Qv P (CB (dC, dI) ca σ0 H0) (cA σ0 H0.size)) σ0.2.2.2.2.1 σ0.2.2.2.2.2.1 (cA σ0 H0.size) := by
  refine C_ofv (by decide +kernel) rfl rfl rfl (Nat.le_of_ble_eq_true rfl) ?_
  intro p e s m below meth cx Q A ls C hnm hend hH0 h hl
  subst hH0
  have C0 := C
  obtain ⟨⟨hx, hb, hml, hown, hts⟩, hsub⟩ := C0
  obtain ⟨cells, e_cells⟩ : ∃ z : Nat, z = 0 := ⟨_, rfl⟩
  obtain ⟨slots, e_slots⟩ : ∃ z : Nat, z = 0 := ⟨_, rfl⟩
  have h : CH (dC, dI) A ca ({ frames := 2, cells := σ0.2.2.2.2.1, slots := σ0.2.2.2.2.2.1, locals := 43 } : Room) σ0.2.2.2.2.2.2 σ0 s s.heap [] cells slots := by rw [e_cells, e_slots]; exact h
  show W p l e ({ frames := 2, cells := σ0.2.2.2.2.1, slots := σ0.2.2.2.2.2.1, locals := 43 } : Room) s m ([.ref a0] : List Value).toArray below meth cx s.heap [] 0 0 Q (F0 m 0 ls [])
  rw [show W p l e ({ frames := 2, cells := σ0.2.2.2.2.1, slots := σ0.2.2.2.2.2.1, locals := 43 } : Room) s m ([.ref a0] : List Value).toArray below meth cx s.heap [] 0 0 Q (F0 m 0 ls []) = W p l e ({ frames := 2, cells := σ0.2.2.2.2.1, slots := σ0.2.2.2.2.2.1, locals := 43 } : Room) s m ([.ref a0] : List Value).toArray below meth cx s.heap [] cells slots Q (F0 m 0 ls []) by rw [e_cells, e_slots]]
  have hl : lv_has ls 2 [(0, .ref a0)] := hl
  unfold x_Sp_loadReference at hw
  refine lv_aload_n hx hb h_Sp_loadReference_0 rfl (lv_at hl 0 rfl) ?_
  obtain ⟨g1, hw⟩ := hw
  refine C_get C h 9 2 (v := va_rf (σ0.2.2.2.1 a0 2)) g1 rfl (Cn := R_Sp) (T := T_Sp) (N := 5) rfl (by decide) rfl uw_Sp (by decide) u_516 (fun _ q => q) h_Sp_loadReference_1 ?_
  refine lv_topq (fun b2 e_b2 => ?_)
  replace hw := hw b2 e_b2
  refine lv_aload_n hx hb h_Sp_loadReference_4 rfl (lv_at hl 0 rfl) ?_
  refine C_callVi (As := []) (rest := [va_rf b2]) C h (ci := 9) (Cn := R_Sp) (T := T_Sp) (N := 5) g1 rfl (by decide) (X_Sp_operand l dC dI ca s.heap σ0 a0 hw) (cwV 0 hts (gV hsub u_546 u_547 u_548 u_524 u_549) rfl rfl rfl (by decide +kernel) ⟨(Nat.le_of_ble_eq_true rfl), (Nat.le_of_ble_eq_true rfl)⟩) rfl hl.1 (by simp only [List.map_cons, List.map_nil, List.sum_cons, List.sum_nil, cq_cat]; exact Nat.le_of_ble_eq_true rfl) h_Sp_loadReference_5 (fun r4 σ3 H locs cells slots hw9 h9 => ?_)
  clear hw h; have hw := hw9; have h := h9; clear hw9 h9
  refine W.eq (g2 := F0 m 8 ls [.int r4, va_rf b2]) rfl ?_
  obtain ⟨r5, e_r5, hw⟩ := hw
  subst e_r5
  have hl : lv_has ls 2 [(0, .ref a0)] := hl
  refine W.eq (g2 := F0 m 8 ls [.int r4, .ref r5]) rfl ?_
  obtain ⟨g6, hw⟩ := hw
  refine C_callVi (As := [.int r4]) (rest := []) C h (ci := 8) (Cn := R_St) (T := T_St) (N := 4) g6 rfl (by decide) (X_St_localAt l dC dI ca H σ3 r5 r4 hw) (cwV 1 hts (gV hsub u_550 u_551 u_552 u_502 u_553) rfl rfl rfl (by decide +kernel) ⟨(Nat.le_of_ble_eq_true rfl), (Nat.le_of_ble_eq_true rfl)⟩) rfl hl.1 (Nat.le_of_ble_eq_true rfl) h_Sp_loadReference_8 (fun r8 σ7 H locs cells slots hw9 h9 => ?_)
  clear hw h; have hw := hw9; have h := h9; clear hw9 h9
  refine W.eq (g2 := F0 m 11 ls [.int r8]) rfl ?_
  refine lv_istore_n (i := 1) (lv' := [(1, .int r8), (0, .ref a0)]) hx hb h_Sp_loadReference_11 rfl hl (by decide) rfl (fun ls hl => ?_)
  refine lv_aload_n hx hb h_Sp_loadReference_12 rfl (lv_at hl 1 rfl) ?_
  refine lv_iload_n hx hb h_Sp_loadReference_13 rfl (lv_at hl 0 rfl) ?_
  obtain ⟨g9, hw⟩ := hw
  refine C_callVv (As := [.int r8]) (rest := []) C h (ci := 9) (Cn := R_Sp) (T := T_Sp) (N := 5) g9 rfl (by decide) (X_Sp_wantReferenceOrUninitialized l dC dI ca H σ7 a0 r8 hw) (cwV 1 hts (gV hsub u_556 u_557 u_558 u_524 u_559) rfl rfl rfl (by decide +kernel) ⟨(Nat.le_of_ble_eq_true rfl), (Nat.le_of_ble_eq_true rfl)⟩) rfl hl.1 (Nat.le_of_ble_eq_true rfl) h_Sp_loadReference_14 (fun σ10 H locs cells slots hw9 h9 => ?_)
  clear hw h; have hw := hw9; have h := h9; clear hw9 h9
  refine W.eq (g2 := F0 m 17 ls []) rfl ?_
  refine lv_aload_n hx hb h_Sp_loadReference_17 rfl (lv_at hl 1 rfl) ?_
  refine lv_iload_n hx hb h_Sp_loadReference_18 rfl (lv_at hl 0 rfl) ?_
  obtain ⟨g12, hw⟩ := hw
  refine C_callVv (As := [.int r8]) (rest := []) C h (ci := 9) (Cn := R_Sp) (T := T_Sp) (N := 5) g12 rfl (by decide) (X_Sp_push l dC dI ca H σ10 a0 r8 hw) (cwV 1 hts (gV hsub u_526 u_527 u_528 u_524 u_529) rfl rfl rfl (by decide +kernel) ⟨(Nat.le_of_ble_eq_true rfl), (Nat.le_of_ble_eq_true rfl)⟩) rfl hl.1 (Nat.le_of_ble_eq_true rfl) h_Sp_loadReference_19 (fun σ13 H locs cells slots hw9 h9 => ?_)
  clear hw h; have hw := hw9; have h := h9; clear hw9 h9
  refine W.eq (g2 := F0 m 22 ls []) rfl ?_
  exact hend σ13 _ _ _ _ _ _ hw h h_Sp_loadReference_22
abbrev g_Sp_pop : MethodName := ⟨"MapFramer$Stepper", "pop", "()I"⟩
theorem h_Sp_pop_0 : decode prog_10_method_6_code 0 = .ok (.aload_n 0, 1) := by decide +kernel
theorem h_Sp_pop_1 : decode prog_10_method_6_code 1 = .ok (.getfield 17, 3) := by decide +kernel
theorem h_Sp_pop_4 : decode prog_10_method_6_code 4 = .ok (.invokevirtual 95, 3) := by decide +kernel
theorem h_Sp_pop_7 : decode prog_10_method_6_code 7 = .ok (.istore_n 1, 1) := by decide +kernel
theorem h_Sp_pop_8 : decode prog_10_method_6_code 8 = .ok (.iload_n 1, 1) := by decide +kernel
theorem h_Sp_pop_9 : decode prog_10_method_6_code 9 = .ok (.ifCond .ne 9, 3) := by decide +kernel
theorem h_Sp_pop_12 : decode prog_10_method_6_code 12 = .ok (.aload_n 0, 1) := by decide +kernel
theorem h_Sp_pop_13 : decode prog_10_method_6_code 13 = .ok (.bipush 6, 2) := by decide +kernel
theorem h_Sp_pop_15 : decode prog_10_method_6_code 15 = .ok (.invokevirtual 87, 3) := by decide +kernel
theorem h_Sp_pop_18 : decode prog_10_method_6_code 18 = .ok (.iload_n 1, 1) := by decide +kernel
theorem h_Sp_pop_19 : decode prog_10_method_6_code 19 = .ok (.ireturn, 1) := by decide +kernel
def x_Sp_pop (a0 : Nat) (σ0 : CST) (P : Int32 → CST → Prop) : Prop := σ0.1 a0 = some (9, 0) ∧ (∀ b2 : Option Nat, b2 = (σ0.2.2.2.1 a0 2) → (∃ r3 : Nat, b2 = some r3 ∧ (σ0.1 r3 = some (8, 0) ∧ (x_St_pop r3 σ0 (fun r6 σ5 => ((r6 = 0 → σ5.1 a0 = some (9, 0) ∧ (x_Sp_fail a0 (6 : Int32) σ5 (fun σ9 => P r6 σ9))) ∧ (¬ r6 = 0 → P r6 σ5)))))))
set_option maxHeartbeats 4000000 in
set_option maxRecDepth 100000 in
theorem X_Sp_pop (l : Launch) (dC : Nat → ClassId) (dI : Nat → Nat → Nat) (ca : Nat → ClassId) (H0 : Heap) (σ0 : CST) (a0 : Nat) {P : Int32 → CST → Prop} (hw : x_Sp_pop a0 σ0 P) : Met l g_Sp_pop (mW g_Sp_pop prog_10_method_6_code 2 (some .int)) ({ frames := 1, cells := σ0.2.2.2.2.1, slots := σ0.2.2.2.2.2.1, locals := 21 } : Room) (va_Pc [.ref a0] (CPre (dC, dI) ca σ0 H0)) (va_Qi P (CB (dC, dI) ca σ0 H0) (cA σ0 H0.size)) σ0.2.2.2.2.1 σ0.2.2.2.2.2.1 (cA σ0 H0.size) := by
  refine C_ofi (by decide +kernel) rfl rfl rfl (Nat.le_of_ble_eq_true rfl) ?_
  intro p e s m below meth cx Q A ls C hnm hend hH0 h hl
  subst hH0
  have C0 := C
  obtain ⟨⟨hx, hb, hml, hown, hts⟩, hsub⟩ := C0
  obtain ⟨cells, e_cells⟩ : ∃ z : Nat, z = 0 := ⟨_, rfl⟩
  obtain ⟨slots, e_slots⟩ : ∃ z : Nat, z = 0 := ⟨_, rfl⟩
  have h : CH (dC, dI) A ca ({ frames := 1, cells := σ0.2.2.2.2.1, slots := σ0.2.2.2.2.2.1, locals := 21 } : Room) σ0.2.2.2.2.2.2 σ0 s s.heap [] cells slots := by rw [e_cells, e_slots]; exact h
  show W p l e ({ frames := 1, cells := σ0.2.2.2.2.1, slots := σ0.2.2.2.2.2.1, locals := 21 } : Room) s m ([.ref a0] : List Value).toArray below meth cx s.heap [] 0 0 Q (F0 m 0 ls [])
  rw [show W p l e ({ frames := 1, cells := σ0.2.2.2.2.1, slots := σ0.2.2.2.2.2.1, locals := 21 } : Room) s m ([.ref a0] : List Value).toArray below meth cx s.heap [] 0 0 Q (F0 m 0 ls []) = W p l e ({ frames := 1, cells := σ0.2.2.2.2.1, slots := σ0.2.2.2.2.2.1, locals := 21 } : Room) s m ([.ref a0] : List Value).toArray below meth cx s.heap [] cells slots Q (F0 m 0 ls []) by rw [e_cells, e_slots]]
  have hl : lv_has ls 2 [(0, .ref a0)] := hl
  unfold x_Sp_pop at hw
  refine lv_aload_n hx hb h_Sp_pop_0 rfl (lv_at hl 0 rfl) ?_
  obtain ⟨g1, hw⟩ := hw
  refine C_get C h 9 2 (v := va_rf (σ0.2.2.2.1 a0 2)) g1 rfl (Cn := R_Sp) (T := T_Sp) (N := 5) rfl (by decide) rfl uw_Sp (by decide) u_516 (fun _ q => q) h_Sp_pop_1 ?_
  refine lv_topq (fun b2 e_b2 => ?_)
  replace hw := hw b2 e_b2
  obtain ⟨r3, e_r3, hw⟩ := hw
  subst e_r3
  have hl : lv_has ls 2 [(0, .ref a0)] := hl
  refine W.eq (g2 := F0 m 4 ls [.ref r3]) rfl ?_
  obtain ⟨g4, hw⟩ := hw
  refine C_callVi (As := []) (rest := []) C h (ci := 8) (Cn := R_St) (T := T_St) (N := 4) g4 rfl (by decide) (X_St_pop l dC dI ca s.heap σ0 r3 hw) (cwV 0 hts (gV hsub u_530 u_531 u_532 u_502 u_533) rfl rfl rfl (by decide +kernel) ⟨(Nat.le_of_ble_eq_true rfl), (Nat.le_of_ble_eq_true rfl)⟩) rfl hl.1 (Nat.le_of_ble_eq_true rfl) h_Sp_pop_4 (fun r6 σ5 H locs cells slots hw9 h9 => ?_)
  clear hw h; have hw := hw9; have h := h9; clear hw9 h9
  refine W.eq (g2 := F0 m 7 ls [.int r6]) rfl ?_
  refine lv_istore_n (i := 1) (lv' := [(1, .int r6), (0, .ref a0)]) hx hb h_Sp_pop_7 rfl hl (by decide) rfl (fun ls hl => ?_)
  refine lv_iload_n hx hb h_Sp_pop_8 rfl (lv_at hl 0 rfl) ?_
  refine lv_if_ne (tgt := 18) hx hb h_Sp_pop_9 (by decide) (fun c7 => ?_) (fun c7 => ?_)
  · skip
    replace hw := hw.2 c7
    refine lv_iload_n hx hb h_Sp_pop_18 rfl (lv_at hl 0 rfl) ?_
    exact hend r6 σ5 _ _ _ _ _ _ hw h h_Sp_pop_19
  · skip
    replace hw := hw.1 c7
    refine lv_aload_n hx hb h_Sp_pop_12 rfl (lv_at hl 1 rfl) ?_
    refine lv_bipush (v := 6) hx hb h_Sp_pop_13 (by decide) ?_
    obtain ⟨g8, hw⟩ := hw
    refine C_callVv (As := [.int 6]) (rest := []) C h (ci := 9) (Cn := R_Sp) (T := T_Sp) (N := 5) g8 rfl (by decide) (X_Sp_fail l dC dI ca H σ5 a0 (6 : Int32) hw) (cwV 1 hts (gV hsub u_521 u_522 u_523 u_524 u_525) rfl rfl rfl (by decide +kernel) ⟨(Nat.le_of_ble_eq_true rfl), (Nat.le_of_ble_eq_true rfl)⟩) rfl hl.1 (Nat.le_of_ble_eq_true rfl) h_Sp_pop_15 (fun σ9 H locs cells slots hw9 h9 => ?_)
    clear hw h; have hw := hw9; have h := h9; clear hw9 h9
    refine W.eq (g2 := F0 m 18 ls []) rfl ?_
    refine lv_iload_n hx hb h_Sp_pop_18 rfl (lv_at hl 0 rfl) ?_
    exact hend r6 σ9 _ _ _ _ _ _ hw h h_Sp_pop_19
abbrev g_Sp_storeReference : MethodName := ⟨"MapFramer$Stepper", "storeReference", "()V"⟩
theorem u_560 : (Cond.methodLink "MapFramer$Stepper" 135 ⟨"MapFramer$Stepper", "pop", "()I"⟩ : Cond) ∈ bigW := inB_4 196 (by decide +kernel) rfl
theorem u_561 : (Cond.instanceMethod ⟨"MapFramer$Stepper", "pop", "()I"⟩ : Cond) ∈ bigW := inB_4 198 (by decide +kernel) rfl
theorem u_562 : (Cond.selects "MapFramer$Stepper" ⟨"MapFramer$Stepper", "pop", "()I"⟩ ⟨"MapFramer$Stepper", "pop", "()I"⟩ : Cond) ∈ bigW := inS (y := ⟨"MapFramer$Stepper", "pop", "()I"⟩) (n := 5) (List.mem_of_getElem? (i := 22) (by decide +kernel))
theorem u_563 : (Cond.code ⟨"MapFramer$Stepper", "pop", "()I"⟩ prog_10_method_6_code 2 (some .int) : Cond) ∈ bigW := inB_4 199 rfl rfl
theorem u_564 : (Cond.methodLink "MapFramer$Stepper" 122 ⟨"MapFramer$State", "setLocal", "(II)V"⟩ : Cond) ∈ bigW := inB_4 191 (by decide +kernel) rfl
theorem u_565 : (Cond.instanceMethod ⟨"MapFramer$State", "setLocal", "(II)V"⟩ : Cond) ∈ bigW := inB_4 67 (by decide +kernel) rfl
theorem u_566 : (Cond.selects "MapFramer$State" ⟨"MapFramer$State", "setLocal", "(II)V"⟩ ⟨"MapFramer$State", "setLocal", "(II)V"⟩ : Cond) ∈ bigW := inB_4 68 (by decide +kernel) rfl
theorem u_567 : (Cond.code ⟨"MapFramer$State", "setLocal", "(II)V"⟩ prog_9_method_8_code 3 none : Cond) ∈ bigW := inB_4 69 rfl rfl
theorem h_Sp_storeReference_0 : decode prog_10_method_14_code 0 = .ok (.aload_n 0, 1) := by decide +kernel
theorem h_Sp_storeReference_1 : decode prog_10_method_14_code 1 = .ok (.invokevirtual 135, 3) := by decide +kernel
theorem h_Sp_storeReference_4 : decode prog_10_method_14_code 4 = .ok (.istore_n 1, 1) := by decide +kernel
theorem h_Sp_storeReference_5 : decode prog_10_method_14_code 5 = .ok (.aload_n 0, 1) := by decide +kernel
theorem h_Sp_storeReference_6 : decode prog_10_method_14_code 6 = .ok (.iload_n 1, 1) := by decide +kernel
theorem h_Sp_storeReference_7 : decode prog_10_method_14_code 7 = .ok (.invokevirtual 132, 3) := by decide +kernel
theorem h_Sp_storeReference_10 : decode prog_10_method_14_code 10 = .ok (.aload_n 0, 1) := by decide +kernel
theorem h_Sp_storeReference_11 : decode prog_10_method_14_code 11 = .ok (.getfield 17, 3) := by decide +kernel
theorem h_Sp_storeReference_14 : decode prog_10_method_14_code 14 = .ok (.aload_n 0, 1) := by decide +kernel
theorem h_Sp_storeReference_15 : decode prog_10_method_14_code 15 = .ok (.invokevirtual 119, 3) := by decide +kernel
theorem h_Sp_storeReference_18 : decode prog_10_method_14_code 18 = .ok (.iload_n 1, 1) := by decide +kernel
theorem h_Sp_storeReference_19 : decode prog_10_method_14_code 19 = .ok (.invokevirtual 122, 3) := by decide +kernel
theorem h_Sp_storeReference_22 : decode prog_10_method_14_code 22 = .ok (.return_, 1) := by decide +kernel
def x_Sp_storeReference (a0 : Nat) (σ0 : CST) (P : CST → Prop) : Prop := σ0.1 a0 = some (9, 0) ∧ (x_Sp_pop a0 σ0 (fun r3 σ2 => σ2.1 a0 = some (9, 0) ∧ (x_Sp_wantReferenceOrUninitialized a0 r3 σ2 (fun σ5 => σ5.1 a0 = some (9, 0) ∧ (∀ b8 : Option Nat, b8 = (σ5.2.2.2.1 a0 2) → x_Sp_operand a0 σ5 (fun r10 σ9 => (∃ r11 : Nat, b8 = some r11 ∧ (σ9.1 r11 = some (8, 0) ∧ (x_St_setLocal r11 r10 r3 σ9 (fun σ13 => P σ13))))))))))
set_option maxHeartbeats 4000000 in
set_option maxRecDepth 100000 in
theorem X_Sp_storeReference (l : Launch) (dC : Nat → ClassId) (dI : Nat → Nat → Nat) (ca : Nat → ClassId) (H0 : Heap) (σ0 : CST) (a0 : Nat) {P : CST → Prop} (hw : x_Sp_storeReference a0 σ0 P) : Met l g_Sp_storeReference (mW g_Sp_storeReference prog_10_method_14_code 2 none) ({ frames := 2, cells := σ0.2.2.2.2.1, slots := σ0.2.2.2.2.2.1, locals := 42 } : Room) (va_Pc [.ref a0] (CPre (dC, dI) ca σ0 H0)) (va_Qv P (CB (dC, dI) ca σ0 H0) (cA σ0 H0.size)) σ0.2.2.2.2.1 σ0.2.2.2.2.2.1 (cA σ0 H0.size) := by
  refine C_ofv (by decide +kernel) rfl rfl rfl (Nat.le_of_ble_eq_true rfl) ?_
  intro p e s m below meth cx Q A ls C hnm hend hH0 h hl
  subst hH0
  have C0 := C
  obtain ⟨⟨hx, hb, hml, hown, hts⟩, hsub⟩ := C0
  obtain ⟨cells, e_cells⟩ : ∃ z : Nat, z = 0 := ⟨_, rfl⟩
  obtain ⟨slots, e_slots⟩ : ∃ z : Nat, z = 0 := ⟨_, rfl⟩
  have h : CH (dC, dI) A ca ({ frames := 2, cells := σ0.2.2.2.2.1, slots := σ0.2.2.2.2.2.1, locals := 42 } : Room) σ0.2.2.2.2.2.2 σ0 s s.heap [] cells slots := by rw [e_cells, e_slots]; exact h
  show W p l e ({ frames := 2, cells := σ0.2.2.2.2.1, slots := σ0.2.2.2.2.2.1, locals := 42 } : Room) s m ([.ref a0] : List Value).toArray below meth cx s.heap [] 0 0 Q (F0 m 0 ls [])
  rw [show W p l e ({ frames := 2, cells := σ0.2.2.2.2.1, slots := σ0.2.2.2.2.2.1, locals := 42 } : Room) s m ([.ref a0] : List Value).toArray below meth cx s.heap [] 0 0 Q (F0 m 0 ls []) = W p l e ({ frames := 2, cells := σ0.2.2.2.2.1, slots := σ0.2.2.2.2.2.1, locals := 42 } : Room) s m ([.ref a0] : List Value).toArray below meth cx s.heap [] cells slots Q (F0 m 0 ls []) by rw [e_cells, e_slots]]
  have hl : lv_has ls 2 [(0, .ref a0)] := hl
  unfold x_Sp_storeReference at hw
  refine lv_aload_n hx hb h_Sp_storeReference_0 rfl (lv_at hl 0 rfl) ?_
  obtain ⟨g1, hw⟩ := hw
  refine C_callVi (As := []) (rest := []) C h (ci := 9) (Cn := R_Sp) (T := T_Sp) (N := 5) g1 rfl (by decide) (X_Sp_pop l dC dI ca s.heap σ0 a0 hw) (cwV 0 hts (gV hsub u_560 u_561 u_562 u_524 u_563) rfl rfl rfl (by decide +kernel) ⟨(Nat.le_of_ble_eq_true rfl), (Nat.le_of_ble_eq_true rfl)⟩) rfl hl.1 (Nat.le_of_ble_eq_true rfl) h_Sp_storeReference_1 (fun r3 σ2 H locs cells slots hw9 h9 => ?_)
  clear hw h; have hw := hw9; have h := h9; clear hw9 h9
  refine W.eq (g2 := F0 m 4 ls [.int r3]) rfl ?_
  refine lv_istore_n (i := 1) (lv' := [(1, .int r3), (0, .ref a0)]) hx hb h_Sp_storeReference_4 rfl hl (by decide) rfl (fun ls hl => ?_)
  refine lv_aload_n hx hb h_Sp_storeReference_5 rfl (lv_at hl 1 rfl) ?_
  refine lv_iload_n hx hb h_Sp_storeReference_6 rfl (lv_at hl 0 rfl) ?_
  obtain ⟨g4, hw⟩ := hw
  refine C_callVv (As := [.int r3]) (rest := []) C h (ci := 9) (Cn := R_Sp) (T := T_Sp) (N := 5) g4 rfl (by decide) (X_Sp_wantReferenceOrUninitialized l dC dI ca H σ2 a0 r3 hw) (cwV 1 hts (gV hsub u_556 u_557 u_558 u_524 u_559) rfl rfl rfl (by decide +kernel) ⟨(Nat.le_of_ble_eq_true rfl), (Nat.le_of_ble_eq_true rfl)⟩) rfl hl.1 (Nat.le_of_ble_eq_true rfl) h_Sp_storeReference_7 (fun σ5 H locs cells slots hw9 h9 => ?_)
  clear hw h; have hw := hw9; have h := h9; clear hw9 h9
  refine W.eq (g2 := F0 m 10 ls []) rfl ?_
  refine lv_aload_n hx hb h_Sp_storeReference_10 rfl (lv_at hl 1 rfl) ?_
  obtain ⟨g7, hw⟩ := hw
  refine C_get C h 9 2 (v := va_rf (σ5.2.2.2.1 a0 2)) g7 rfl (Cn := R_Sp) (T := T_Sp) (N := 5) rfl (by decide) rfl uw_Sp (by decide) u_516 (fun _ q => q) h_Sp_storeReference_11 ?_
  refine lv_topq (fun b8 e_b8 => ?_)
  replace hw := hw b8 e_b8
  refine lv_aload_n hx hb h_Sp_storeReference_14 rfl (lv_at hl 1 rfl) ?_
  refine C_callVi (As := []) (rest := [va_rf b8]) C h (ci := 9) (Cn := R_Sp) (T := T_Sp) (N := 5) g7 rfl (by decide) (X_Sp_operand l dC dI ca H σ5 a0 hw) (cwV 0 hts (gV hsub u_546 u_547 u_548 u_524 u_549) rfl rfl rfl (by decide +kernel) ⟨(Nat.le_of_ble_eq_true rfl), (Nat.le_of_ble_eq_true rfl)⟩) rfl hl.1 (by simp only [List.map_cons, List.map_nil, List.sum_cons, List.sum_nil, cq_cat]; exact Nat.le_of_ble_eq_true rfl) h_Sp_storeReference_15 (fun r10 σ9 H locs cells slots hw9 h9 => ?_)
  clear hw h; have hw := hw9; have h := h9; clear hw9 h9
  refine W.eq (g2 := F0 m 18 ls [.int r10, va_rf b8]) rfl ?_
  refine lv_iload_n hx hb h_Sp_storeReference_18 rfl (lv_at hl 0 rfl) ?_
  obtain ⟨r11, e_r11, hw⟩ := hw
  subst e_r11
  have hl : lv_has ls 2 [(1, .int r3), (0, .ref a0)] := hl
  refine W.eq (g2 := F0 m 19 ls [.int r3, .int r10, .ref r11]) rfl ?_
  obtain ⟨g12, hw⟩ := hw
  refine C_callVv (As := [.int r10, .int r3]) (rest := []) C h (ci := 8) (Cn := R_St) (T := T_St) (N := 4) g12 rfl (by decide) (X_St_setLocal l dC dI ca H σ9 r11 r10 r3 hw) (cwV 2 hts (gV hsub u_564 u_565 u_566 u_502 u_567) rfl rfl rfl (by decide +kernel) ⟨(Nat.le_of_ble_eq_true rfl), (Nat.le_of_ble_eq_true rfl)⟩) rfl hl.1 (Nat.le_of_ble_eq_true rfl) h_Sp_storeReference_19 (fun σ13 H locs cells slots hw9 h9 => ?_)
  clear hw h; have hw := hw9; have h := h9; clear hw9 h9
  refine W.eq (g2 := F0 m 22 ls []) rfl ?_
  exact hend σ13 _ _ _ _ _ _ hw h h_Sp_storeReference_22
abbrev g_Sp_useLocal : MethodName := ⟨"MapFramer$Stepper", "useLocal", "(I)V"⟩
theorem u_568 : (Cond.methodLink "MapFramer$Stepper" 110 ⟨"MapFramer$Stepper", "wantLocal", "(I)V"⟩ : Cond) ∈ bigW := inB_4 167 (by decide +kernel) rfl
theorem u_569 : (Cond.instanceMethod ⟨"MapFramer$Stepper", "wantLocal", "(I)V"⟩ : Cond) ∈ bigW := inB_4 169 (by decide +kernel) rfl
theorem u_570 : (Cond.selects "MapFramer$Stepper" ⟨"MapFramer$Stepper", "wantLocal", "(I)V"⟩ ⟨"MapFramer$Stepper", "wantLocal", "(I)V"⟩ : Cond) ∈ bigW := inS (y := ⟨"MapFramer$Stepper", "wantLocal", "(I)V"⟩) (n := 5) (List.mem_of_getElem? (i := 17) (by decide +kernel))
theorem u_571 : (Cond.code ⟨"MapFramer$Stepper", "wantLocal", "(I)V"⟩ prog_10_method_12_code 2 none : Cond) ∈ bigW := inB_4 170 rfl rfl
theorem u_572 : (Cond.methodLink "MapFramer$Stepper" 113 ⟨"MapFramer$Stepper", "loadReference", "()V"⟩ : Cond) ∈ bigW := inB_4 179 (by decide +kernel) rfl
theorem u_573 : (Cond.instanceMethod ⟨"MapFramer$Stepper", "loadReference", "()V"⟩ : Cond) ∈ bigW := inB_4 181 (by decide +kernel) rfl
theorem u_574 : (Cond.selects "MapFramer$Stepper" ⟨"MapFramer$Stepper", "loadReference", "()V"⟩ ⟨"MapFramer$Stepper", "loadReference", "()V"⟩ : Cond) ∈ bigW := inS (y := ⟨"MapFramer$Stepper", "loadReference", "()V"⟩) (n := 5) (List.mem_of_getElem? (i := 19) (by decide +kernel))
theorem u_575 : (Cond.code ⟨"MapFramer$Stepper", "loadReference", "()V"⟩ prog_10_method_13_code 2 none : Cond) ∈ bigW := inB_4 182 rfl rfl
theorem u_576 : (Cond.methodLink "MapFramer$Stepper" 126 ⟨"MapFramer$Stepper", "storeReference", "()V"⟩ : Cond) ∈ bigW := inB_4 192 (by decide +kernel) rfl
theorem u_577 : (Cond.instanceMethod ⟨"MapFramer$Stepper", "storeReference", "()V"⟩ : Cond) ∈ bigW := inB_4 194 (by decide +kernel) rfl
theorem u_578 : (Cond.selects "MapFramer$Stepper" ⟨"MapFramer$Stepper", "storeReference", "()V"⟩ ⟨"MapFramer$Stepper", "storeReference", "()V"⟩ : Cond) ∈ bigW := inS (y := ⟨"MapFramer$Stepper", "storeReference", "()V"⟩) (n := 5) (List.mem_of_getElem? (i := 21) (by decide +kernel))
theorem u_579 : (Cond.code ⟨"MapFramer$Stepper", "storeReference", "()V"⟩ prog_10_method_14_code 2 none : Cond) ∈ bigW := inB_4 195 rfl rfl
theorem h_Sp_useLocal_0 : decode prog_10_method_11_code 0 = .ok (.iload_n 1, 1) := by decide +kernel
theorem h_Sp_useLocal_1 : decode prog_10_method_11_code 1 = .ok (.lookupswitch 124 #[(21, 51), (22, 64), (25, 77), (54, 84), (55, 104)], 51) := by decide +kernel
theorem h_Sp_useLocal_52 : decode prog_10_method_11_code 52 = .ok (.aload_n 0, 1) := by decide +kernel
theorem h_Sp_useLocal_53 : decode prog_10_method_11_code 53 = .ok (.iconst 1, 1) := by decide +kernel
theorem h_Sp_useLocal_54 : decode prog_10_method_11_code 54 = .ok (.invokevirtual 110, 3) := by decide +kernel
theorem h_Sp_useLocal_57 : decode prog_10_method_11_code 57 = .ok (.aload_n 0, 1) := by decide +kernel
theorem h_Sp_useLocal_58 : decode prog_10_method_11_code 58 = .ok (.iconst 1, 1) := by decide +kernel
theorem h_Sp_useLocal_59 : decode prog_10_method_11_code 59 = .ok (.invokevirtual 108, 3) := by decide +kernel
theorem h_Sp_useLocal_62 : decode prog_10_method_11_code 62 = .ok (.goto 67, 3) := by decide +kernel
theorem h_Sp_useLocal_65 : decode prog_10_method_11_code 65 = .ok (.aload_n 0, 1) := by decide +kernel
theorem h_Sp_useLocal_66 : decode prog_10_method_11_code 66 = .ok (.iconst 2, 1) := by decide +kernel
theorem h_Sp_useLocal_67 : decode prog_10_method_11_code 67 = .ok (.invokevirtual 110, 3) := by decide +kernel
theorem h_Sp_useLocal_70 : decode prog_10_method_11_code 70 = .ok (.aload_n 0, 1) := by decide +kernel
theorem h_Sp_useLocal_71 : decode prog_10_method_11_code 71 = .ok (.iconst 2, 1) := by decide +kernel
theorem h_Sp_useLocal_72 : decode prog_10_method_11_code 72 = .ok (.invokevirtual 108, 3) := by decide +kernel
theorem h_Sp_useLocal_75 : decode prog_10_method_11_code 75 = .ok (.goto 54, 3) := by decide +kernel
theorem h_Sp_useLocal_78 : decode prog_10_method_11_code 78 = .ok (.aload_n 0, 1) := by decide +kernel
theorem h_Sp_useLocal_79 : decode prog_10_method_11_code 79 = .ok (.invokevirtual 113, 3) := by decide +kernel
theorem h_Sp_useLocal_82 : decode prog_10_method_11_code 82 = .ok (.goto 47, 3) := by decide +kernel
theorem h_Sp_useLocal_85 : decode prog_10_method_11_code 85 = .ok (.aload_n 0, 1) := by decide +kernel
theorem h_Sp_useLocal_86 : decode prog_10_method_11_code 86 = .ok (.iconst 1, 1) := by decide +kernel
theorem h_Sp_useLocal_87 : decode prog_10_method_11_code 87 = .ok (.invokevirtual 116, 3) := by decide +kernel
theorem h_Sp_useLocal_90 : decode prog_10_method_11_code 90 = .ok (.aload_n 0, 1) := by decide +kernel
theorem h_Sp_useLocal_91 : decode prog_10_method_11_code 91 = .ok (.getfield 17, 3) := by decide +kernel
theorem h_Sp_useLocal_94 : decode prog_10_method_11_code 94 = .ok (.aload_n 0, 1) := by decide +kernel
theorem h_Sp_useLocal_95 : decode prog_10_method_11_code 95 = .ok (.invokevirtual 119, 3) := by decide +kernel
theorem h_Sp_useLocal_98 : decode prog_10_method_11_code 98 = .ok (.iconst 1, 1) := by decide +kernel
theorem h_Sp_useLocal_99 : decode prog_10_method_11_code 99 = .ok (.invokevirtual 122, 3) := by decide +kernel
theorem h_Sp_useLocal_102 : decode prog_10_method_11_code 102 = .ok (.goto 27, 3) := by decide +kernel
theorem h_Sp_useLocal_105 : decode prog_10_method_11_code 105 = .ok (.aload_n 0, 1) := by decide +kernel
theorem h_Sp_useLocal_106 : decode prog_10_method_11_code 106 = .ok (.iconst 2, 1) := by decide +kernel
theorem h_Sp_useLocal_107 : decode prog_10_method_11_code 107 = .ok (.invokevirtual 116, 3) := by decide +kernel
theorem h_Sp_useLocal_110 : decode prog_10_method_11_code 110 = .ok (.aload_n 0, 1) := by decide +kernel
theorem h_Sp_useLocal_111 : decode prog_10_method_11_code 111 = .ok (.getfield 17, 3) := by decide +kernel
theorem h_Sp_useLocal_114 : decode prog_10_method_11_code 114 = .ok (.aload_n 0, 1) := by decide +kernel
theorem h_Sp_useLocal_115 : decode prog_10_method_11_code 115 = .ok (.invokevirtual 119, 3) := by decide +kernel
theorem h_Sp_useLocal_118 : decode prog_10_method_11_code 118 = .ok (.iconst 2, 1) := by decide +kernel
theorem h_Sp_useLocal_119 : decode prog_10_method_11_code 119 = .ok (.invokevirtual 122, 3) := by decide +kernel
theorem h_Sp_useLocal_122 : decode prog_10_method_11_code 122 = .ok (.goto 7, 3) := by decide +kernel
theorem h_Sp_useLocal_125 : decode prog_10_method_11_code 125 = .ok (.aload_n 0, 1) := by decide +kernel
theorem h_Sp_useLocal_126 : decode prog_10_method_11_code 126 = .ok (.invokevirtual 126, 3) := by decide +kernel
theorem h_Sp_useLocal_129 : decode prog_10_method_11_code 129 = .ok (.return_, 1) := by decide +kernel
def x_Sp_useLocal (a0 : Nat) (x1 : Int32) (σ0 : CST) (P : CST → Prop) : Prop := ((x1 = 21 → σ0.1 a0 = some (9, 0) ∧ (x_Sp_wantLocal a0 (1 : Int32) σ0 (fun σ3 => σ3.1 a0 = some (9, 0) ∧ (x_Sp_push a0 (1 : Int32) σ3 (fun σ6 => P σ6))))) ∧ (¬ x1 = 21 → ((x1 = 22 → σ0.1 a0 = some (9, 0) ∧ (x_Sp_wantLocal a0 (2 : Int32) σ0 (fun σ10 => σ10.1 a0 = some (9, 0) ∧ (x_Sp_push a0 (2 : Int32) σ10 (fun σ13 => P σ13))))) ∧ (¬ x1 = 22 → ((x1 = 25 → σ0.1 a0 = some (9, 0) ∧ (x_Sp_loadReference a0 σ0 (fun σ17 => P σ17))) ∧ (¬ x1 = 25 → ((x1 = 54 → σ0.1 a0 = some (9, 0) ∧ (x_Sp_popAs a0 (1 : Int32) σ0 (fun σ21 => σ21.1 a0 = some (9, 0) ∧ (∀ b24 : Option Nat, b24 = (σ21.2.2.2.1 a0 2) → x_Sp_operand a0 σ21 (fun r26 σ25 => (∃ r27 : Nat, b24 = some r27 ∧ (σ25.1 r27 = some (8, 0) ∧ (x_St_setLocal r27 r26 (1 : Int32) σ25 (fun σ29 => P σ29))))))))) ∧ (¬ x1 = 54 → ((x1 = 55 → σ0.1 a0 = some (9, 0) ∧ (x_Sp_popAs a0 (2 : Int32) σ0 (fun σ33 => σ33.1 a0 = some (9, 0) ∧ (∀ b36 : Option Nat, b36 = (σ33.2.2.2.1 a0 2) → x_Sp_operand a0 σ33 (fun r38 σ37 => (∃ r39 : Nat, b36 = some r39 ∧ (σ37.1 r39 = some (8, 0) ∧ (x_St_setLocal r39 r38 (2 : Int32) σ37 (fun σ41 => P σ41))))))))) ∧ (¬ x1 = 55 → σ0.1 a0 = some (9, 0) ∧ (x_Sp_storeReference a0 σ0 (fun σ44 => P σ44))))))))))))
set_option maxHeartbeats 4000000 in
set_option maxRecDepth 100000 in
theorem X_Sp_useLocal (l : Launch) (dC : Nat → ClassId) (dI : Nat → Nat → Nat) (ca : Nat → ClassId) (H0 : Heap) (σ0 : CST) (a0 : Nat) (x1 : Int32) {P : CST → Prop} (hw : x_Sp_useLocal a0 x1 σ0 P) : Met l g_Sp_useLocal (mW g_Sp_useLocal prog_10_method_11_code 2 none) ({ frames := 3, cells := σ0.2.2.2.2.1, slots := σ0.2.2.2.2.2.1, locals := 67 } : Room) (va_Pc [.ref a0, .int x1] (CPre (dC, dI) ca σ0 H0)) (va_Qv P (CB (dC, dI) ca σ0 H0) (cA σ0 H0.size)) σ0.2.2.2.2.1 σ0.2.2.2.2.2.1 (cA σ0 H0.size) := by
  refine C_ofv (by decide +kernel) rfl rfl rfl (Nat.le_of_ble_eq_true rfl) ?_
  intro p e s m below meth cx Q A ls C hnm hend hH0 h hl
  subst hH0
  have C0 := C
  obtain ⟨⟨hx, hb, hml, hown, hts⟩, hsub⟩ := C0
  obtain ⟨cells, e_cells⟩ : ∃ z : Nat, z = 0 := ⟨_, rfl⟩
  obtain ⟨slots, e_slots⟩ : ∃ z : Nat, z = 0 := ⟨_, rfl⟩
  have h : CH (dC, dI) A ca ({ frames := 3, cells := σ0.2.2.2.2.1, slots := σ0.2.2.2.2.2.1, locals := 67 } : Room) σ0.2.2.2.2.2.2 σ0 s s.heap [] cells slots := by rw [e_cells, e_slots]; exact h
  show W p l e ({ frames := 3, cells := σ0.2.2.2.2.1, slots := σ0.2.2.2.2.2.1, locals := 67 } : Room) s m ([.ref a0, .int x1] : List Value).toArray below meth cx s.heap [] 0 0 Q (F0 m 0 ls [])
  rw [show W p l e ({ frames := 3, cells := σ0.2.2.2.2.1, slots := σ0.2.2.2.2.2.1, locals := 67 } : Room) s m ([.ref a0, .int x1] : List Value).toArray below meth cx s.heap [] 0 0 Q (F0 m 0 ls []) = W p l e ({ frames := 3, cells := σ0.2.2.2.2.1, slots := σ0.2.2.2.2.2.1, locals := 67 } : Room) s m ([.ref a0, .int x1] : List Value).toArray below meth cx s.heap [] cells slots Q (F0 m 0 ls []) by rw [e_cells, e_slots]]
  have hl : lv_has ls 2 [(0, .ref a0), (1, .int x1)] := hl
  unfold x_Sp_useLocal at hw
  refine lv_iload_n hx hb h_Sp_useLocal_0 rfl (lv_at hl 1 rfl) ?_
  by_cases c1 : x1 = 21
  · skip
    replace hw := hw.1 c1
    refine tp_i 21 c1 ?_
    refine lv_lookup (off := 51) (tgt := 52) hx hb h_Sp_useLocal_1 (by decide) (by decide) (by decide) ?_
    refine lv_aload_n hx hb h_Sp_useLocal_52 rfl (lv_at hl 0 rfl) ?_
    refine lv_iconst (v := 1) hx hb h_Sp_useLocal_53 (by decide) ?_
    obtain ⟨g2, hw⟩ := hw
    refine C_callVv (As := [.int 1]) (rest := []) C h (ci := 9) (Cn := R_Sp) (T := T_Sp) (N := 5) g2 rfl (by decide) (X_Sp_wantLocal l dC dI ca s.heap σ0 a0 (1 : Int32) hw) (cwV 1 hts (gV hsub u_568 u_569 u_570 u_524 u_571) rfl rfl rfl (by decide +kernel) ⟨(Nat.le_of_ble_eq_true rfl), (Nat.le_of_ble_eq_true rfl)⟩) rfl hl.1 (Nat.le_of_ble_eq_true rfl) h_Sp_useLocal_54 (fun σ3 H locs cells slots hw9 h9 => ?_)
    clear hw h; have hw := hw9; have h := h9; clear hw9 h9
    refine W.eq (g2 := F0 m 57 ls []) rfl ?_
    refine lv_aload_n hx hb h_Sp_useLocal_57 rfl (lv_at hl 0 rfl) ?_
    refine lv_iconst (v := 1) hx hb h_Sp_useLocal_58 (by decide) ?_
    obtain ⟨g5, hw⟩ := hw
    refine C_callVv (As := [.int 1]) (rest := []) C h (ci := 9) (Cn := R_Sp) (T := T_Sp) (N := 5) g5 rfl (by decide) (X_Sp_push l dC dI ca H σ3 a0 (1 : Int32) hw) (cwV 1 hts (gV hsub u_526 u_527 u_528 u_524 u_529) rfl rfl rfl (by decide +kernel) ⟨(Nat.le_of_ble_eq_true rfl), (Nat.le_of_ble_eq_true rfl)⟩) rfl hl.1 (Nat.le_of_ble_eq_true rfl) h_Sp_useLocal_59 (fun σ6 H locs cells slots hw9 h9 => ?_)
    clear hw h; have hw := hw9; have h := h9; clear hw9 h9
    refine W.eq (g2 := F0 m 62 ls []) rfl ?_
    refine lv_goto (tgt := 129) hx hb h_Sp_useLocal_62 (by decide) ?_
    exact hend σ6 _ _ _ _ _ _ hw h h_Sp_useLocal_129
  · skip
    replace hw := hw.2 c1
    by_cases c8 : x1 = 22
    · skip
      replace hw := hw.1 c8
      refine tp_i 22 c8 ?_
      refine lv_lookup (off := 64) (tgt := 65) hx hb h_Sp_useLocal_1 (by decide) (by decide) (by decide) ?_
      refine lv_aload_n hx hb h_Sp_useLocal_65 rfl (lv_at hl 0 rfl) ?_
      refine lv_iconst (v := 2) hx hb h_Sp_useLocal_66 (by decide) ?_
      obtain ⟨g9, hw⟩ := hw
      refine C_callVv (As := [.int 2]) (rest := []) C h (ci := 9) (Cn := R_Sp) (T := T_Sp) (N := 5) g9 rfl (by decide) (X_Sp_wantLocal l dC dI ca s.heap σ0 a0 (2 : Int32) hw) (cwV 1 hts (gV hsub u_568 u_569 u_570 u_524 u_571) rfl rfl rfl (by decide +kernel) ⟨(Nat.le_of_ble_eq_true rfl), (Nat.le_of_ble_eq_true rfl)⟩) rfl hl.1 (Nat.le_of_ble_eq_true rfl) h_Sp_useLocal_67 (fun σ10 H locs cells slots hw9 h9 => ?_)
      clear hw h; have hw := hw9; have h := h9; clear hw9 h9
      refine W.eq (g2 := F0 m 70 ls []) rfl ?_
      refine lv_aload_n hx hb h_Sp_useLocal_70 rfl (lv_at hl 0 rfl) ?_
      refine lv_iconst (v := 2) hx hb h_Sp_useLocal_71 (by decide) ?_
      obtain ⟨g12, hw⟩ := hw
      refine C_callVv (As := [.int 2]) (rest := []) C h (ci := 9) (Cn := R_Sp) (T := T_Sp) (N := 5) g12 rfl (by decide) (X_Sp_push l dC dI ca H σ10 a0 (2 : Int32) hw) (cwV 1 hts (gV hsub u_526 u_527 u_528 u_524 u_529) rfl rfl rfl (by decide +kernel) ⟨(Nat.le_of_ble_eq_true rfl), (Nat.le_of_ble_eq_true rfl)⟩) rfl hl.1 (Nat.le_of_ble_eq_true rfl) h_Sp_useLocal_72 (fun σ13 H locs cells slots hw9 h9 => ?_)
      clear hw h; have hw := hw9; have h := h9; clear hw9 h9
      refine W.eq (g2 := F0 m 75 ls []) rfl ?_
      refine lv_goto (tgt := 129) hx hb h_Sp_useLocal_75 (by decide) ?_
      exact hend σ13 _ _ _ _ _ _ hw h h_Sp_useLocal_129
    · skip
      replace hw := hw.2 c8
      by_cases c15 : x1 = 25
      · skip
        replace hw := hw.1 c15
        refine tp_i 25 c15 ?_
        refine lv_lookup (off := 77) (tgt := 78) hx hb h_Sp_useLocal_1 (by decide) (by decide) (by decide) ?_
        refine lv_aload_n hx hb h_Sp_useLocal_78 rfl (lv_at hl 0 rfl) ?_
        obtain ⟨g16, hw⟩ := hw
        refine C_callVv (As := []) (rest := []) C h (ci := 9) (Cn := R_Sp) (T := T_Sp) (N := 5) g16 rfl (by decide) (X_Sp_loadReference l dC dI ca s.heap σ0 a0 hw) (cwV 0 hts (gV hsub u_572 u_573 u_574 u_524 u_575) rfl rfl rfl (by decide +kernel) ⟨(Nat.le_of_ble_eq_true rfl), (Nat.le_of_ble_eq_true rfl)⟩) rfl hl.1 (Nat.le_of_ble_eq_true rfl) h_Sp_useLocal_79 (fun σ17 H locs cells slots hw9 h9 => ?_)
        clear hw h; have hw := hw9; have h := h9; clear hw9 h9
        refine W.eq (g2 := F0 m 82 ls []) rfl ?_
        refine lv_goto (tgt := 129) hx hb h_Sp_useLocal_82 (by decide) ?_
        exact hend σ17 _ _ _ _ _ _ hw h h_Sp_useLocal_129
      · skip
        replace hw := hw.2 c15
        by_cases c19 : x1 = 54
        · skip
          replace hw := hw.1 c19
          refine tp_i 54 c19 ?_
          refine lv_lookup (off := 84) (tgt := 85) hx hb h_Sp_useLocal_1 (by decide) (by decide) (by decide) ?_
          refine lv_aload_n hx hb h_Sp_useLocal_85 rfl (lv_at hl 0 rfl) ?_
          refine lv_iconst (v := 1) hx hb h_Sp_useLocal_86 (by decide) ?_
          obtain ⟨g20, hw⟩ := hw
          refine C_callVv (As := [.int 1]) (rest := []) C h (ci := 9) (Cn := R_Sp) (T := T_Sp) (N := 5) g20 rfl (by decide) (X_Sp_popAs l dC dI ca s.heap σ0 a0 (1 : Int32) hw) (cwV 1 hts (gV hsub u_536 u_537 u_538 u_524 u_539) rfl rfl rfl (by decide +kernel) ⟨(Nat.le_of_ble_eq_true rfl), (Nat.le_of_ble_eq_true rfl)⟩) rfl hl.1 (Nat.le_of_ble_eq_true rfl) h_Sp_useLocal_87 (fun σ21 H locs cells slots hw9 h9 => ?_)
          clear hw h; have hw := hw9; have h := h9; clear hw9 h9
          refine W.eq (g2 := F0 m 90 ls []) rfl ?_
          refine lv_aload_n hx hb h_Sp_useLocal_90 rfl (lv_at hl 0 rfl) ?_
          obtain ⟨g23, hw⟩ := hw
          refine C_get C h 9 2 (v := va_rf (σ21.2.2.2.1 a0 2)) g23 rfl (Cn := R_Sp) (T := T_Sp) (N := 5) rfl (by decide) rfl uw_Sp (by decide) u_516 (fun _ q => q) h_Sp_useLocal_91 ?_
          refine lv_topq (fun b24 e_b24 => ?_)
          replace hw := hw b24 e_b24
          refine lv_aload_n hx hb h_Sp_useLocal_94 rfl (lv_at hl 0 rfl) ?_
          refine C_callVi (As := []) (rest := [va_rf b24]) C h (ci := 9) (Cn := R_Sp) (T := T_Sp) (N := 5) g23 rfl (by decide) (X_Sp_operand l dC dI ca H σ21 a0 hw) (cwV 0 hts (gV hsub u_546 u_547 u_548 u_524 u_549) rfl rfl rfl (by decide +kernel) ⟨(Nat.le_of_ble_eq_true rfl), (Nat.le_of_ble_eq_true rfl)⟩) rfl hl.1 (by simp only [List.map_cons, List.map_nil, List.sum_cons, List.sum_nil, cq_cat]; exact Nat.le_of_ble_eq_true rfl) h_Sp_useLocal_95 (fun r26 σ25 H locs cells slots hw9 h9 => ?_)
          clear hw h; have hw := hw9; have h := h9; clear hw9 h9
          refine W.eq (g2 := F0 m 98 ls [.int r26, va_rf b24]) rfl ?_
          refine lv_iconst (v := 1) hx hb h_Sp_useLocal_98 (by decide) ?_
          obtain ⟨r27, e_r27, hw⟩ := hw
          subst e_r27
          have hl : lv_has ls 2 [(0, .ref a0), (1, .int x1)] := hl
          refine W.eq (g2 := F0 m 99 ls [.int 1, .int r26, .ref r27]) rfl ?_
          obtain ⟨g28, hw⟩ := hw
          refine C_callVv (As := [.int r26, .int 1]) (rest := []) C h (ci := 8) (Cn := R_St) (T := T_St) (N := 4) g28 rfl (by decide) (X_St_setLocal l dC dI ca H σ25 r27 r26 (1 : Int32) hw) (cwV 2 hts (gV hsub u_564 u_565 u_566 u_502 u_567) rfl rfl rfl (by decide +kernel) ⟨(Nat.le_of_ble_eq_true rfl), (Nat.le_of_ble_eq_true rfl)⟩) rfl hl.1 (Nat.le_of_ble_eq_true rfl) h_Sp_useLocal_99 (fun σ29 H locs cells slots hw9 h9 => ?_)
          clear hw h; have hw := hw9; have h := h9; clear hw9 h9
          refine W.eq (g2 := F0 m 102 ls []) rfl ?_
          refine lv_goto (tgt := 129) hx hb h_Sp_useLocal_102 (by decide) ?_
          exact hend σ29 _ _ _ _ _ _ hw h h_Sp_useLocal_129
        · skip
          replace hw := hw.2 c19
          by_cases c31 : x1 = 55
          · skip
            replace hw := hw.1 c31
            refine tp_i 55 c31 ?_
            refine lv_lookup (off := 104) (tgt := 105) hx hb h_Sp_useLocal_1 (by decide) (by decide) (by decide) ?_
            refine lv_aload_n hx hb h_Sp_useLocal_105 rfl (lv_at hl 0 rfl) ?_
            refine lv_iconst (v := 2) hx hb h_Sp_useLocal_106 (by decide) ?_
            obtain ⟨g32, hw⟩ := hw
            refine C_callVv (As := [.int 2]) (rest := []) C h (ci := 9) (Cn := R_Sp) (T := T_Sp) (N := 5) g32 rfl (by decide) (X_Sp_popAs l dC dI ca s.heap σ0 a0 (2 : Int32) hw) (cwV 1 hts (gV hsub u_536 u_537 u_538 u_524 u_539) rfl rfl rfl (by decide +kernel) ⟨(Nat.le_of_ble_eq_true rfl), (Nat.le_of_ble_eq_true rfl)⟩) rfl hl.1 (Nat.le_of_ble_eq_true rfl) h_Sp_useLocal_107 (fun σ33 H locs cells slots hw9 h9 => ?_)
            clear hw h; have hw := hw9; have h := h9; clear hw9 h9
            refine W.eq (g2 := F0 m 110 ls []) rfl ?_
            refine lv_aload_n hx hb h_Sp_useLocal_110 rfl (lv_at hl 0 rfl) ?_
            obtain ⟨g35, hw⟩ := hw
            refine C_get C h 9 2 (v := va_rf (σ33.2.2.2.1 a0 2)) g35 rfl (Cn := R_Sp) (T := T_Sp) (N := 5) rfl (by decide) rfl uw_Sp (by decide) u_516 (fun _ q => q) h_Sp_useLocal_111 ?_
            refine lv_topq (fun b36 e_b36 => ?_)
            replace hw := hw b36 e_b36
            refine lv_aload_n hx hb h_Sp_useLocal_114 rfl (lv_at hl 0 rfl) ?_
            refine C_callVi (As := []) (rest := [va_rf b36]) C h (ci := 9) (Cn := R_Sp) (T := T_Sp) (N := 5) g35 rfl (by decide) (X_Sp_operand l dC dI ca H σ33 a0 hw) (cwV 0 hts (gV hsub u_546 u_547 u_548 u_524 u_549) rfl rfl rfl (by decide +kernel) ⟨(Nat.le_of_ble_eq_true rfl), (Nat.le_of_ble_eq_true rfl)⟩) rfl hl.1 (by simp only [List.map_cons, List.map_nil, List.sum_cons, List.sum_nil, cq_cat]; exact Nat.le_of_ble_eq_true rfl) h_Sp_useLocal_115 (fun r38 σ37 H locs cells slots hw9 h9 => ?_)
            clear hw h; have hw := hw9; have h := h9; clear hw9 h9
            refine W.eq (g2 := F0 m 118 ls [.int r38, va_rf b36]) rfl ?_
            refine lv_iconst (v := 2) hx hb h_Sp_useLocal_118 (by decide) ?_
            obtain ⟨r39, e_r39, hw⟩ := hw
            subst e_r39
            have hl : lv_has ls 2 [(0, .ref a0), (1, .int x1)] := hl
            refine W.eq (g2 := F0 m 119 ls [.int 2, .int r38, .ref r39]) rfl ?_
            obtain ⟨g40, hw⟩ := hw
            refine C_callVv (As := [.int r38, .int 2]) (rest := []) C h (ci := 8) (Cn := R_St) (T := T_St) (N := 4) g40 rfl (by decide) (X_St_setLocal l dC dI ca H σ37 r39 r38 (2 : Int32) hw) (cwV 2 hts (gV hsub u_564 u_565 u_566 u_502 u_567) rfl rfl rfl (by decide +kernel) ⟨(Nat.le_of_ble_eq_true rfl), (Nat.le_of_ble_eq_true rfl)⟩) rfl hl.1 (Nat.le_of_ble_eq_true rfl) h_Sp_useLocal_119 (fun σ41 H locs cells slots hw9 h9 => ?_)
            clear hw h; have hw := hw9; have h := h9; clear hw9 h9
            refine W.eq (g2 := F0 m 122 ls []) rfl ?_
            refine lv_goto (tgt := 129) hx hb h_Sp_useLocal_122 (by decide) ?_
            exact hend σ41 _ _ _ _ _ _ hw h h_Sp_useLocal_129
          · skip
            replace hw := hw.2 c31
            refine lv_lookup (off := 124) (tgt := 125) hx hb h_Sp_useLocal_1 (by decide) ((lv_osw c1 (by decide)).trans ((lv_osw c8 (by decide)).trans ((lv_osw c15 (by decide)).trans ((lv_osw c19 (by decide)).trans ((lv_osw c31 (by decide)).trans rfl))))) (by decide) ?_
            refine lv_aload_n hx hb h_Sp_useLocal_125 rfl (lv_at hl 0 rfl) ?_
            obtain ⟨g43, hw⟩ := hw
            refine C_callVv (As := []) (rest := []) C h (ci := 9) (Cn := R_Sp) (T := T_Sp) (N := 5) g43 rfl (by decide) (X_Sp_storeReference l dC dI ca s.heap σ0 a0 hw) (cwV 0 hts (gV hsub u_576 u_577 u_578 u_524 u_579) rfl rfl rfl (by decide +kernel) ⟨(Nat.le_of_ble_eq_true rfl), (Nat.le_of_ble_eq_true rfl)⟩) rfl hl.1 (Nat.le_of_ble_eq_true rfl) h_Sp_useLocal_126 (fun σ44 H locs cells slots hw9 h9 => ?_)
            clear hw h; have hw := hw9; have h := h9; clear hw9 h9
            refine W.eq (g2 := F0 m 129 ls []) rfl ?_
            exact hend σ44 _ _ _ _ _ _ hw h h_Sp_useLocal_129
