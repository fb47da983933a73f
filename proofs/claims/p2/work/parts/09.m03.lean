abbrev z_M_call : MethodName := ⟨"MapFramerModel", "call", "(I)V"⟩
theorem e_M_call_0 : decode prog_14_method_50_code 0 = .ok (.aload_n 0, 1) := by decide +kernel
theorem e_M_call_1 : decode prog_14_method_50_code 1 = .ok (.getfield 33, 3) := by decide +kernel
theorem e_M_call_4 : decode prog_14_method_50_code 4 = .ok (.iload_n 1, 1) := by decide +kernel
theorem e_M_call_5 : decode prog_14_method_50_code 5 = .ok (.iaload, 1) := by decide +kernel
theorem e_M_call_6 : decode prog_14_method_50_code 6 = .ok (.iconst 1, 1) := by decide +kernel
theorem e_M_call_7 : decode prog_14_method_50_code 7 = .ok (.isub, 1) := by decide +kernel
theorem e_M_call_8 : decode prog_14_method_50_code 8 = .ok (.istore_n 2, 1) := by decide +kernel
theorem e_M_call_9 : decode prog_14_method_50_code 9 = .ok (.iload_n 2, 1) := by decide +kernel
theorem e_M_call_10 : decode prog_14_method_50_code 10 = .ok (.ifCond .lt 23, 3) := by decide +kernel
theorem e_M_call_13 : decode prog_14_method_50_code 13 = .ok (.aload_n 0, 1) := by decide +kernel
theorem e_M_call_14 : decode prog_14_method_50_code 14 = .ok (.aload_n 0, 1) := by decide +kernel
theorem e_M_call_15 : decode prog_14_method_50_code 15 = .ok (.getfield 30, 3) := by decide +kernel
theorem e_M_call_18 : decode prog_14_method_50_code 18 = .ok (.iconst 4, 1) := by decide +kernel
theorem e_M_call_19 : decode prog_14_method_50_code 19 = .ok (.iload_n 1, 1) := by decide +kernel
theorem e_M_call_20 : decode prog_14_method_50_code 20 = .ok (.imul, 1) := by decide +kernel
theorem e_M_call_21 : decode prog_14_method_50_code 21 = .ok (.iload_n 2, 1) := by decide +kernel
theorem e_M_call_22 : decode prog_14_method_50_code 22 = .ok (.iadd, 1) := by decide +kernel
theorem e_M_call_23 : decode prog_14_method_50_code 23 = .ok (.iaload, 1) := by decide +kernel
theorem e_M_call_24 : decode prog_14_method_50_code 24 = .ok (.invokevirtual 282, 3) := by decide +kernel
theorem e_M_call_27 : decode prog_14_method_50_code 27 = .ok (.iinc 2 (-1), 3) := by decide +kernel
theorem e_M_call_30 : decode prog_14_method_50_code 30 = .ok (.goto (-21), 3) := by decide +kernel
theorem e_M_call_33 : decode prog_14_method_50_code 33 = .ok (.aload_n 0, 1) := by decide +kernel
theorem e_M_call_34 : decode prog_14_method_50_code 34 = .ok (.getfield 36, 3) := by decide +kernel
theorem e_M_call_37 : decode prog_14_method_50_code 37 = .ok (.iload_n 1, 1) := by decide +kernel
theorem e_M_call_38 : decode prog_14_method_50_code 38 = .ok (.iaload, 1) := by decide +kernel
theorem e_M_call_39 : decode prog_14_method_50_code 39 = .ok (.ifCond .eq 13, 3) := by decide +kernel
theorem e_M_call_42 : decode prog_14_method_50_code 42 = .ok (.aload_n 0, 1) := by decide +kernel
theorem e_M_call_43 : decode prog_14_method_50_code 43 = .ok (.aload_n 0, 1) := by decide +kernel
theorem e_M_call_44 : decode prog_14_method_50_code 44 = .ok (.getfield 36, 3) := by decide +kernel
theorem e_M_call_47 : decode prog_14_method_50_code 47 = .ok (.iload_n 1, 1) := by decide +kernel
theorem e_M_call_48 : decode prog_14_method_50_code 48 = .ok (.iaload, 1) := by decide +kernel
theorem e_M_call_49 : decode prog_14_method_50_code 49 = .ok (.invokevirtual 272, 3) := by decide +kernel
theorem e_M_call_52 : decode prog_14_method_50_code 52 = .ok (.return_, 1) := by decide +kernel
def w_M_call_9 (P : MST → Prop) : Nat → Int32 → Int32 → MST → Prop
  | 0, _, _, _ => False
  | n + 1, z1, z2, σ => ((z2 < 0 → vp_in z1 8 ∧ (∀ a2 : Int32, a2 = (σ.2.1 11 (z1 : Int32).toNatClampNeg) → ((a2 = 0 → P σ) ∧ (¬ a2 = 0 → vp_in z1 8 ∧ (∀ a4 : Int32, a4 = (σ.2.1 11 (z1 : Int32).toNatClampNeg) → w_M_push a4 σ (fun σ5 => P σ5)))))) ∧ (¬ z2 < 0 → vp_in (((4 : Int32) * z1) + z2) 32 ∧ (∀ a7 : Int32, a7 = (σ.2.1 9 ((((4 : Int32) * z1) + z2) : Int32).toNatClampNeg) → w_M_want a7 σ (fun σ8 => w_M_call_9 P n z1 (z2 + (-1)) σ8))))
def w_M_call (x1 : Int32) (σ : MST) (P : MST → Prop) : Prop := vp_in x1 8 ∧ (∀ a10 : Int32, a10 = (σ.2.1 10 (x1 : Int32).toNatClampNeg) → (∃ n9 : Nat, w_M_call_9 P n9 x1 (a10 - 1) σ))
set_option maxHeartbeats 4000000 in
set_option maxRecDepth 100000 in
theorem K_M_call (l : Launch) (dC : Nat → ClassId) (dI : Nat → Nat → Nat) (mo : Nat) (rf : Nat → Nat) (ca : Nat → ClassId) (sz : Nat) (σ : MST) (x1 : Int32) {P : MST → Prop} (hw : w_M_call x1 σ P) : Met l z_M_call (mW z_M_call prog_14_method_50_code 3 none) ({ frames := 4, cells := 0, slots := 0, locals := 89 } : Room) (va_Pc [.ref mo, .int x1] (MPre (dC, dI) mo rf ca σ sz)) (va_Qv P (MB (dC, dI) mo rf ca sz) (mA mo rf sz)) 0 0 (mA mo rf sz) := by
  refine M_ofv (by decide) rfl (Nat.le_of_ble_eq_true rfl) ?_
  intro p e s m below meth cx Q A ls C hA hend h hl
  have C0 := C
  obtain ⟨⟨hx, hb, hml, hown, hts⟩, hsub⟩ := C0
  have K_9 : ∀ (n : Nat), ∀ (z1 : Int32) (z2 : Int32) (σ : MST) (H : Heap) (locs : List Loc) (ls : Array Slot), w_M_call_9 P n z1 z2 σ → MH (dC, dI) A mo rf ca σ s H locs → lv_has ls 3 [(0, .ref mo), (1, .int z1), (2, .int z2)] → W p l e ({ frames := 4, cells := 0, slots := 0, locals := 89 } : Room) s m ([.ref mo, .int x1] : List Value).toArray below meth cx H locs 0 0 Q (F0 m 9 ls []) := by
    intro  n
    induction n with
    | zero => intro z1 z2 σ H locs ls hw h hl; unfold w_M_call_9 at hw; exact hw.elim
    | succ n ih =>
      intro z1 z2 σ H locs ls hw h hl
      unfold w_M_call_9 at hw
      refine lv_iload_n hx hb e_M_call_9 rfl (lv_at hl 2 rfl) ?_
      refine lv_if_lt (tgt := 33) hx hb e_M_call_10 (by decide) (fun c1 => ?_) (fun c1 => ?_)
      · skip
        replace hw := hw.1 c1
        refine lv_aload_n hx hb e_M_call_33 rfl (lv_at hl 0 rfl) ?_
        refine M_get C h 11 (v := .ref (rf 11)) rfl (by decide) v_44 e_M_call_34 ?_
        refine lv_iload_n hx hb e_M_call_37 rfl (lv_at hl 1 rfl) ?_
        refine M_ald C h 11 (by decide) rfl hw.1 e_M_call_38 ?_
        replace hw := hw.2
        refine lv_topi (fun a2 e_a2 => ?_)
        replace hw := hw a2 e_a2
        refine lv_if_eq (tgt := 52) hx hb e_M_call_39 (by decide) (fun c3 => ?_) (fun c3 => ?_)
        · skip
          replace hw := hw.1 c3
          exact hend σ _ _ _ _ hw h e_M_call_52
        · skip
          replace hw := hw.2 c3
          refine lv_aload_n hx hb e_M_call_42 rfl (lv_at hl 0 rfl) ?_
          refine lv_aload_n hx hb e_M_call_43 rfl (lv_at hl 0 rfl) ?_
          refine M_get C h 11 (v := .ref (rf 11)) rfl (by decide) v_44 e_M_call_44 ?_
          refine lv_iload_n hx hb e_M_call_47 rfl (lv_at hl 1 rfl) ?_
          refine M_ald C h 11 (by decide) rfl hw.1 e_M_call_48 ?_
          replace hw := hw.2
          refine lv_topi (fun a4 e_a4 => ?_)
          replace hw := hw a4 e_a4
          refine M_callv (As := [.int a4]) (rest := []) C h hA (K_M_push l dC dI mo rf ca H.size σ a4 hw) (cwV 1 hts (gV hsub v_121 v_122 v_123 v_7 v_124) rfl rfl rfl (by decide +kernel) ⟨(Nat.le_of_ble_eq_true rfl), (Nat.le_of_ble_eq_true rfl)⟩) rfl hl.1 (Nat.le_of_ble_eq_true rfl) e_M_call_49 ⟨(Nat.le_of_ble_eq_true rfl), (Nat.le_of_ble_eq_true rfl)⟩ (fun σ5 H locs hw h => ?_)
          refine W.eq (g2 := F0 m 52 ls []) rfl ?_
          exact hend σ5 _ _ _ _ hw h e_M_call_52
      · skip
        replace hw := hw.2 c1
        refine lv_aload_n hx hb e_M_call_13 rfl (lv_at hl 0 rfl) ?_
        refine lv_aload_n hx hb e_M_call_14 rfl (lv_at hl 0 rfl) ?_
        refine M_get C h 9 (v := .ref (rf 9)) rfl (by decide) v_45 e_M_call_15 ?_
        refine lv_iconst (v := 4) hx hb e_M_call_18 (by decide) ?_
        refine lv_iload_n hx hb e_M_call_19 rfl (lv_at hl 1 rfl) ?_
        refine lv_imul hx hb e_M_call_20 ?_
        refine lv_iload_n hx hb e_M_call_21 rfl (lv_at hl 2 rfl) ?_
        refine lv_iadd hx hb e_M_call_22 ?_
        refine M_ald C h 9 (by decide) rfl hw.1 e_M_call_23 ?_
        replace hw := hw.2
        refine lv_topi (fun a7 e_a7 => ?_)
        replace hw := hw a7 e_a7
        refine M_callv (As := [.int a7]) (rest := []) C h hA (K_M_want l dC dI mo rf ca H.size σ a7 hw) (cwV 1 hts (gV hsub v_129 v_130 v_131 v_7 v_132) rfl rfl rfl (by decide +kernel) ⟨(Nat.le_of_ble_eq_true rfl), (Nat.le_of_ble_eq_true rfl)⟩) rfl hl.1 (Nat.le_of_ble_eq_true rfl) e_M_call_24 ⟨(Nat.le_of_ble_eq_true rfl), (Nat.le_of_ble_eq_true rfl)⟩ (fun σ8 H locs hw h => ?_)
        refine W.eq (g2 := F0 m 27 ls []) rfl ?_
        refine lv_iinc (v := (z2 + (-1))) (lv' := [(2, .int (z2 + (-1))), (0, .ref mo), (1, .int z1)]) hx hb e_M_call_27 hl (k := 2) rfl (rfl) (by decide) rfl (fun ls hl => ?_)
        refine lv_goto (tgt := 9) hx hb e_M_call_30 (by decide) ?_
        exact ih z1 (z2 + (-1)) σ8 _ _ _ hw h (lv_sub hl [1, 2, 0] rfl)
  have hl : lv_has ls 3 [(0, .ref mo), (1, .int x1)] := hl
  unfold w_M_call at hw
  refine lv_aload_n hx hb e_M_call_0 rfl (lv_at hl 0 rfl) ?_
  refine M_get C h 10 (v := .ref (rf 10)) rfl (by decide) v_42 e_M_call_1 ?_
  refine lv_iload_n hx hb e_M_call_4 rfl (lv_at hl 1 rfl) ?_
  refine M_ald C h 10 (by decide) rfl hw.1 e_M_call_5 ?_
  replace hw := hw.2
  refine lv_topi (fun a10 e_a10 => ?_)
  replace hw := hw a10 e_a10
  refine lv_iconst (v := 1) hx hb e_M_call_6 (by decide) ?_
  refine lv_isub hx hb e_M_call_7 ?_
  refine lv_istore_n (lv' := [(2, .int (a10 - 1)), (0, .ref mo), (1, .int x1)]) hx hb e_M_call_8 rfl hl (by decide) rfl (fun ls hl => ?_)
  obtain ⟨n9, hw⟩ := hw
  exact K_9 n9 x1 (a10 - 1) σ _ _ _ hw h (lv_sub hl [1, 2, 0] rfl)
abbrev z_M_turn : MethodName := ⟨"MapFramerModel", "turn", "(II)Z"⟩
theorem e_M_turn_0 : decode prog_14_method_51_code 0 = .ok (.iconst 0, 1) := by decide +kernel
theorem e_M_turn_1 : decode prog_14_method_51_code 1 = .ok (.istore_n 3, 1) := by decide +kernel
theorem e_M_turn_2 : decode prog_14_method_51_code 2 = .ok (.iconst 0, 1) := by decide +kernel
theorem e_M_turn_3 : decode prog_14_method_51_code 3 = .ok (.istore 4, 2) := by decide +kernel
theorem e_M_turn_5 : decode prog_14_method_51_code 5 = .ok (.iload 4, 2) := by decide +kernel
theorem e_M_turn_7 : decode prog_14_method_51_code 7 = .ok (.aload_n 0, 1) := by decide +kernel
theorem e_M_turn_8 : decode prog_14_method_51_code 8 = .ok (.getfield 48, 3) := by decide +kernel
theorem e_M_turn_11 : decode prog_14_method_51_code 11 = .ok (.aload_n 0, 1) := by decide +kernel
theorem e_M_turn_12 : decode prog_14_method_51_code 12 = .ok (.getfield 266, 3) := by decide +kernel
theorem e_M_turn_15 : decode prog_14_method_51_code 15 = .ok (.iaload, 1) := by decide +kernel
theorem e_M_turn_16 : decode prog_14_method_51_code 16 = .ok (.if_icmp .ge 38, 3) := by decide +kernel
theorem e_M_turn_19 : decode prog_14_method_51_code 19 = .ok (.aload_n 0, 1) := by decide +kernel
theorem e_M_turn_20 : decode prog_14_method_51_code 20 = .ok (.getfield 99, 3) := by decide +kernel
theorem e_M_turn_23 : decode prog_14_method_51_code 23 = .ok (.iload 4, 2) := by decide +kernel
theorem e_M_turn_25 : decode prog_14_method_51_code 25 = .ok (.aload_n 0, 1) := by decide +kernel
theorem e_M_turn_26 : decode prog_14_method_51_code 26 = .ok (.getfield 99, 3) := by decide +kernel
theorem e_M_turn_29 : decode prog_14_method_51_code 29 = .ok (.iload 4, 2) := by decide +kernel
theorem e_M_turn_31 : decode prog_14_method_51_code 31 = .ok (.iaload, 1) := by decide +kernel
theorem e_M_turn_32 : decode prog_14_method_51_code 32 = .ok (.iload_n 1, 1) := by decide +kernel
theorem e_M_turn_33 : decode prog_14_method_51_code 33 = .ok (.if_icmp .ne 7, 3) := by decide +kernel
theorem e_M_turn_36 : decode prog_14_method_51_code 36 = .ok (.iload_n 2, 1) := by decide +kernel
theorem e_M_turn_37 : decode prog_14_method_51_code 37 = .ok (.goto 10, 3) := by decide +kernel
theorem e_M_turn_40 : decode prog_14_method_51_code 40 = .ok (.aload_n 0, 1) := by decide +kernel
theorem e_M_turn_41 : decode prog_14_method_51_code 41 = .ok (.getfield 99, 3) := by decide +kernel
theorem e_M_turn_44 : decode prog_14_method_51_code 44 = .ok (.iload 4, 2) := by decide +kernel
theorem e_M_turn_46 : decode prog_14_method_51_code 46 = .ok (.iaload, 1) := by decide +kernel
theorem e_M_turn_47 : decode prog_14_method_51_code 47 = .ok (.iastore, 1) := by decide +kernel
theorem e_M_turn_48 : decode prog_14_method_51_code 48 = .ok (.iinc 4 1, 3) := by decide +kernel
theorem e_M_turn_51 : decode prog_14_method_51_code 51 = .ok (.goto (-46), 3) := by decide +kernel
theorem e_M_turn_54 : decode prog_14_method_51_code 54 = .ok (.iconst 0, 1) := by decide +kernel
theorem e_M_turn_55 : decode prog_14_method_51_code 55 = .ok (.istore 4, 2) := by decide +kernel
theorem e_M_turn_57 : decode prog_14_method_51_code 57 = .ok (.iload 4, 2) := by decide +kernel
theorem e_M_turn_59 : decode prog_14_method_51_code 59 = .ok (.aload_n 0, 1) := by decide +kernel
theorem e_M_turn_60 : decode prog_14_method_51_code 60 = .ok (.getfield 249, 3) := by decide +kernel
theorem e_M_turn_63 : decode prog_14_method_51_code 63 = .ok (.if_icmp .ge 59, 3) := by decide +kernel
theorem e_M_turn_66 : decode prog_14_method_51_code 66 = .ok (.iload_n 3, 1) := by decide +kernel
theorem e_M_turn_67 : decode prog_14_method_51_code 67 = .ok (.ifCond .ne 14, 3) := by decide +kernel
theorem e_M_turn_70 : decode prog_14_method_51_code 70 = .ok (.aload_n 0, 1) := by decide +kernel
theorem e_M_turn_71 : decode prog_14_method_51_code 71 = .ok (.getfield 105, 3) := by decide +kernel
theorem e_M_turn_74 : decode prog_14_method_51_code 74 = .ok (.iload 4, 2) := by decide +kernel
theorem e_M_turn_76 : decode prog_14_method_51_code 76 = .ok (.iaload, 1) := by decide +kernel
theorem e_M_turn_77 : decode prog_14_method_51_code 77 = .ok (.iload_n 1, 1) := by decide +kernel
theorem e_M_turn_78 : decode prog_14_method_51_code 78 = .ok (.if_icmp .ne 7, 3) := by decide +kernel
theorem e_M_turn_81 : decode prog_14_method_51_code 81 = .ok (.iconst 1, 1) := by decide +kernel
theorem e_M_turn_82 : decode prog_14_method_51_code 82 = .ok (.goto 4, 3) := by decide +kernel
theorem e_M_turn_85 : decode prog_14_method_51_code 85 = .ok (.iconst 0, 1) := by decide +kernel
theorem e_M_turn_86 : decode prog_14_method_51_code 86 = .ok (.istore_n 3, 1) := by decide +kernel
theorem e_M_turn_87 : decode prog_14_method_51_code 87 = .ok (.aload_n 0, 1) := by decide +kernel
theorem e_M_turn_88 : decode prog_14_method_51_code 88 = .ok (.getfield 105, 3) := by decide +kernel
theorem e_M_turn_91 : decode prog_14_method_51_code 91 = .ok (.iload 4, 2) := by decide +kernel
theorem e_M_turn_93 : decode prog_14_method_51_code 93 = .ok (.aload_n 0, 1) := by decide +kernel
theorem e_M_turn_94 : decode prog_14_method_51_code 94 = .ok (.getfield 105, 3) := by decide +kernel
theorem e_M_turn_97 : decode prog_14_method_51_code 97 = .ok (.iload 4, 2) := by decide +kernel
theorem e_M_turn_99 : decode prog_14_method_51_code 99 = .ok (.iaload, 1) := by decide +kernel
theorem e_M_turn_100 : decode prog_14_method_51_code 100 = .ok (.iload_n 1, 1) := by decide +kernel
theorem e_M_turn_101 : decode prog_14_method_51_code 101 = .ok (.if_icmp .ne 7, 3) := by decide +kernel
theorem e_M_turn_104 : decode prog_14_method_51_code 104 = .ok (.iload_n 2, 1) := by decide +kernel
theorem e_M_turn_105 : decode prog_14_method_51_code 105 = .ok (.goto 10, 3) := by decide +kernel
theorem e_M_turn_108 : decode prog_14_method_51_code 108 = .ok (.aload_n 0, 1) := by decide +kernel
theorem e_M_turn_109 : decode prog_14_method_51_code 109 = .ok (.getfield 105, 3) := by decide +kernel
theorem e_M_turn_112 : decode prog_14_method_51_code 112 = .ok (.iload 4, 2) := by decide +kernel
theorem e_M_turn_114 : decode prog_14_method_51_code 114 = .ok (.iaload, 1) := by decide +kernel
theorem e_M_turn_115 : decode prog_14_method_51_code 115 = .ok (.iastore, 1) := by decide +kernel
theorem e_M_turn_116 : decode prog_14_method_51_code 116 = .ok (.iinc 4 1, 3) := by decide +kernel
theorem e_M_turn_119 : decode prog_14_method_51_code 119 = .ok (.goto (-62), 3) := by decide +kernel
theorem e_M_turn_122 : decode prog_14_method_51_code 122 = .ok (.iload_n 3, 1) := by decide +kernel
theorem e_M_turn_123 : decode prog_14_method_51_code 123 = .ok (.ireturn, 1) := by decide +kernel
def w_M_turn_47 (K5 : Int32 → Int32 → Int32 → Int32 → MST → Prop) (P : Int32 → MST → Prop) (z1 : Int32) (z2 : Int32) (z3 : Int32) (z4 : Int32) (s0 : Int32) (s1 : Int32) (σ : MST) : Prop := vp_in s1 13 ∧ (∀ σ1 : MST, σ1 = setA σ 37 (upd (σ.2.1 37) (s1 : Int32).toNatClampNeg s0) → K5 z1 z2 z3 (z4 + 1) σ1)
def w_M_turn_115 (K57 : Int32 → Int32 → Int32 → Int32 → MST → Prop) (P : Int32 → MST → Prop) (z1 : Int32) (z2 : Int32) (z3 : Int32) (z4 : Int32) (s0 : Int32) (s1 : Int32) (σ : MST) : Prop := vp_in s1 20 ∧ (∀ σ2 : MST, σ2 = setA σ 39 (upd (σ.2.1 39) (s1 : Int32).toNatClampNeg s0) → K57 z1 z2 z3 (z4 + 1) σ2)
def w_M_turn_86 (K57 : Int32 → Int32 → Int32 → Int32 → MST → Prop) (P : Int32 → MST → Prop) (z1 : Int32) (z2 : Int32) (z4 : Int32) (s0 : Int32) (σ : MST) : Prop := vp_in z4 20 ∧ (∀ a3 : Int32, a3 = (σ.2.1 39 (z4 : Int32).toNatClampNeg) → ((a3 = z1 → w_M_turn_115 K57 P z1 z2 s0 z4 z2 z4 σ) ∧ (¬ a3 = z1 → vp_in z4 20 ∧ (∀ a5 : Int32, a5 = (σ.2.1 39 (z4 : Int32).toNatClampNeg) → w_M_turn_115 K57 P z1 z2 s0 z4 a5 z4 σ))))
def w_M_turn_81 (K57 : Int32 → Int32 → Int32 → Int32 → MST → Prop) (P : Int32 → MST → Prop) (z1 : Int32) (z2 : Int32) (z4 : Int32) (σ : MST) : Prop := w_M_turn_86 K57 P z1 z2 z4 1 σ
def w_M_turn_57 (P : Int32 → MST → Prop) : Nat → Int32 → Int32 → Int32 → Int32 → MST → Prop
  | 0, _, _, _, _, _ => False
  | n + 1, z1, z2, z3, z4, σ => (((σ.1 40) ≤ z4 → (narrow .boolean (.int z3) = .int z3 ∧ P z3 σ)) ∧ (¬ (σ.1 40) ≤ z4 → ((z3 = 0 → vp_in z4 20 ∧ (∀ a8 : Int32, a8 = (σ.2.1 39 (z4 : Int32).toNatClampNeg) → ((a8 = z1 → w_M_turn_81 (w_M_turn_57 P n) P z1 z2 z4 σ) ∧ (¬ a8 = z1 → w_M_turn_86 (w_M_turn_57 P n) P z1 z2 z4 0 σ)))) ∧ (¬ z3 = 0 → w_M_turn_81 (w_M_turn_57 P n) P z1 z2 z4 σ))))
def w_M_turn_5 (P : Int32 → MST → Prop) : Nat → Int32 → Int32 → Int32 → Int32 → MST → Prop
  | 0, _, _, _, _, _ => False
  | n + 1, z1, z2, z3, z4, σ => vp_in (σ.1 33) 8 ∧ (∀ a10 : Int32, a10 = (σ.2.1 15 ((σ.1 33) : Int32).toNatClampNeg) → ((a10 ≤ z4 → (∃ n9 : Nat, w_M_turn_57 P n9 z1 z2 z3 0 σ)) ∧ (¬ a10 ≤ z4 → vp_in z4 13 ∧ (∀ a12 : Int32, a12 = (σ.2.1 37 (z4 : Int32).toNatClampNeg) → ((a12 = z1 → w_M_turn_47 (w_M_turn_5 P n) P z1 z2 z3 z4 z2 z4 σ) ∧ (¬ a12 = z1 → vp_in z4 13 ∧ (∀ a14 : Int32, a14 = (σ.2.1 37 (z4 : Int32).toNatClampNeg) → w_M_turn_47 (w_M_turn_5 P n) P z1 z2 z3 z4 a14 z4 σ)))))))
def w_M_turn (x1 : Int32) (x2 : Int32) (σ : MST) (P : Int32 → MST → Prop) : Prop := (∃ n9 : Nat, w_M_turn_5 P n9 x1 x2 0 0 σ)
set_option maxHeartbeats 4000000 in
set_option maxRecDepth 100000 in
theorem K_M_turn (l : Launch) (dC : Nat → ClassId) (dI : Nat → Nat → Nat) (mo : Nat) (rf : Nat → Nat) (ca : Nat → ClassId) (sz : Nat) (σ : MST) (x1 : Int32) (x2 : Int32) {P : Int32 → MST → Prop} (hw : w_M_turn x1 x2 σ P) : Met l z_M_turn (mW z_M_turn prog_14_method_51_code 5 (some .boolean)) ({ frames := 0, cells := 0, slots := 0, locals := 0 } : Room) (va_Pc [.ref mo, .int x1, .int x2] (MPre (dC, dI) mo rf ca σ sz)) (va_Qi P (MB (dC, dI) mo rf ca sz) (mA mo rf sz)) 0 0 (mA mo rf sz) := by
  refine M_ofz (by decide) rfl (Nat.le_of_ble_eq_true rfl) ?_
  intro p e s m below meth cx Q A ls C hA hend h hl
  have C0 := C
  obtain ⟨⟨hx, hb, hml, hown, hts⟩, hsub⟩ := C0
  have K_47 : ∀ (K5 : Int32 → Int32 → Int32 → Int32 → MST → Prop) (hK5 : ∀ (z1 : Int32) (z2 : Int32) (z3 : Int32) (z4 : Int32) (σ : MST) (H : Heap) (locs : List Loc) (ls : Array Slot), K5 z1 z2 z3 z4 σ → MH (dC, dI) A mo rf ca σ s H locs → lv_has ls 5 [(0, .ref mo), (1, .int z1), (2, .int z2), (3, .int z3), (4, .int z4)] → W p l e ({ frames := 0, cells := 0, slots := 0, locals := 0 } : Room) s m ([.ref mo, .int x1, .int x2] : List Value).toArray below meth cx H locs 0 0 Q (F0 m 5 ls [])), ∀ (z1 : Int32) (z2 : Int32) (z3 : Int32) (z4 : Int32) (s0 : Int32) (s1 : Int32) (σ : MST) (H : Heap) (locs : List Loc) (ls : Array Slot), w_M_turn_47 K5 P z1 z2 z3 z4 s0 s1 σ → MH (dC, dI) A mo rf ca σ s H locs → lv_has ls 5 [(0, .ref mo), (1, .int z1), (2, .int z2), (3, .int z3), (4, .int z4)] → W p l e ({ frames := 0, cells := 0, slots := 0, locals := 0 } : Room) s m ([.ref mo, .int x1, .int x2] : List Value).toArray below meth cx H locs 0 0 Q (F0 m 47 ls [.int s0, .int s1, .ref (rf 37)]) := by
    intro K5 hK5 z1 z2 z3 z4 s0 s1 σ H locs ls hw h hl
    unfold w_M_turn_47 at hw
    refine M_ast C h 37 (by decide) rfl hw.1 e_M_turn_47 (fun H locs h => ?_)
    replace hw := hw.2
    obtain ⟨σ1, e_σ1⟩ : ∃ z : MST, z = setA σ 37 (upd (σ.2.1 37) (s1 : Int32).toNatClampNeg s0) := ⟨_, rfl⟩
    rw [← e_σ1] at h
    replace hw := hw σ1 e_σ1
    refine lv_iinc (v := (z4 + 1)) (lv' := [(4, .int (z4 + 1)), (0, .ref mo), (1, .int z1), (2, .int z2), (3, .int z3)]) hx hb e_M_turn_48 hl (k := 4) rfl (rfl) (by decide) rfl (fun ls hl => ?_)
    refine lv_goto (tgt := 5) hx hb e_M_turn_51 (by decide) ?_
    exact hK5 z1 z2 z3 (z4 + 1) σ1 _ _ _ hw h (lv_sub hl [1, 2, 3, 4, 0] rfl)
  have K_115 : ∀ (K57 : Int32 → Int32 → Int32 → Int32 → MST → Prop) (hK57 : ∀ (z1 : Int32) (z2 : Int32) (z3 : Int32) (z4 : Int32) (σ : MST) (H : Heap) (locs : List Loc) (ls : Array Slot), K57 z1 z2 z3 z4 σ → MH (dC, dI) A mo rf ca σ s H locs → lv_has ls 5 [(0, .ref mo), (1, .int z1), (2, .int z2), (3, .int z3), (4, .int z4)] → W p l e ({ frames := 0, cells := 0, slots := 0, locals := 0 } : Room) s m ([.ref mo, .int x1, .int x2] : List Value).toArray below meth cx H locs 0 0 Q (F0 m 57 ls [])), ∀ (z1 : Int32) (z2 : Int32) (z3 : Int32) (z4 : Int32) (s0 : Int32) (s1 : Int32) (σ : MST) (H : Heap) (locs : List Loc) (ls : Array Slot), w_M_turn_115 K57 P z1 z2 z3 z4 s0 s1 σ → MH (dC, dI) A mo rf ca σ s H locs → lv_has ls 5 [(0, .ref mo), (1, .int z1), (2, .int z2), (3, .int z3), (4, .int z4)] → W p l e ({ frames := 0, cells := 0, slots := 0, locals := 0 } : Room) s m ([.ref mo, .int x1, .int x2] : List Value).toArray below meth cx H locs 0 0 Q (F0 m 115 ls [.int s0, .int s1, .ref (rf 39)]) := by
    intro K57 hK57 z1 z2 z3 z4 s0 s1 σ H locs ls hw h hl
    unfold w_M_turn_115 at hw
    refine M_ast C h 39 (by decide) rfl hw.1 e_M_turn_115 (fun H locs h => ?_)
    replace hw := hw.2
    obtain ⟨σ2, e_σ2⟩ : ∃ z : MST, z = setA σ 39 (upd (σ.2.1 39) (s1 : Int32).toNatClampNeg s0) := ⟨_, rfl⟩
    rw [← e_σ2] at h
    replace hw := hw σ2 e_σ2
    refine lv_iinc (v := (z4 + 1)) (lv' := [(4, .int (z4 + 1)), (0, .ref mo), (1, .int z1), (2, .int z2), (3, .int z3)]) hx hb e_M_turn_116 hl (k := 4) rfl (rfl) (by decide) rfl (fun ls hl => ?_)
    refine lv_goto (tgt := 57) hx hb e_M_turn_119 (by decide) ?_
    exact hK57 z1 z2 z3 (z4 + 1) σ2 _ _ _ hw h (lv_sub hl [1, 2, 3, 4, 0] rfl)
  have K_86 : ∀ (K57 : Int32 → Int32 → Int32 → Int32 → MST → Prop) (hK57 : ∀ (z1 : Int32) (z2 : Int32) (z3 : Int32) (z4 : Int32) (σ : MST) (H : Heap) (locs : List Loc) (ls : Array Slot), K57 z1 z2 z3 z4 σ → MH (dC, dI) A mo rf ca σ s H locs → lv_has ls 5 [(0, .ref mo), (1, .int z1), (2, .int z2), (3, .int z3), (4, .int z4)] → W p l e ({ frames := 0, cells := 0, slots := 0, locals := 0 } : Room) s m ([.ref mo, .int x1, .int x2] : List Value).toArray below meth cx H locs 0 0 Q (F0 m 57 ls [])), ∀ (z1 : Int32) (z2 : Int32) (z4 : Int32) (s0 : Int32) (σ : MST) (H : Heap) (locs : List Loc) (ls : Array Slot), w_M_turn_86 K57 P z1 z2 z4 s0 σ → MH (dC, dI) A mo rf ca σ s H locs → lv_has ls 5 [(0, .ref mo), (1, .int z1), (2, .int z2), (4, .int z4)] → W p l e ({ frames := 0, cells := 0, slots := 0, locals := 0 } : Room) s m ([.ref mo, .int x1, .int x2] : List Value).toArray below meth cx H locs 0 0 Q (F0 m 86 ls [.int s0]) := by
    intro K57 hK57 z1 z2 z4 s0 σ H locs ls hw h hl
    unfold w_M_turn_86 at hw
    refine lv_istore_n (lv' := [(3, .int s0), (0, .ref mo), (1, .int z1), (2, .int z2), (4, .int z4)]) hx hb e_M_turn_86 rfl hl (by decide) rfl (fun ls hl => ?_)
    refine lv_aload_n hx hb e_M_turn_87 rfl (lv_at hl 1 rfl) ?_
    refine M_get C h 39 (v := .ref (rf 39)) rfl (by decide) v_99 e_M_turn_88 ?_
    refine lv_iload hx hb e_M_turn_91 (lv_at hl 4 rfl) ?_
    refine lv_aload_n hx hb e_M_turn_93 rfl (lv_at hl 1 rfl) ?_
    refine M_get C h 39 (v := .ref (rf 39)) rfl (by decide) v_99 e_M_turn_94 ?_
    refine lv_iload hx hb e_M_turn_97 (lv_at hl 4 rfl) ?_
    refine M_ald C h 39 (by decide) rfl hw.1 e_M_turn_99 ?_
    replace hw := hw.2
    refine lv_topi (fun a3 e_a3 => ?_)
    replace hw := hw a3 e_a3
    refine lv_iload_n hx hb e_M_turn_100 rfl (lv_at hl 2 rfl) ?_
    refine lv_icmp_ne (tgt := 108) hx hb e_M_turn_101 (by decide) (fun c4 => ?_) (fun c4 => ?_)
    · skip
      replace hw := hw.2 c4
      refine lv_aload_n hx hb e_M_turn_108 rfl (lv_at hl 1 rfl) ?_
      refine M_get C h 39 (v := .ref (rf 39)) rfl (by decide) v_99 e_M_turn_109 ?_
      refine lv_iload hx hb e_M_turn_112 (lv_at hl 4 rfl) ?_
      refine M_ald C h 39 (by decide) rfl hw.1 e_M_turn_114 ?_
      replace hw := hw.2
      refine lv_topi (fun a5 e_a5 => ?_)
      replace hw := hw a5 e_a5
      exact K_115 _ hK57 z1 z2 s0 z4 a5 z4 σ _ _ _ hw h (lv_sub hl [1, 2, 3, 0, 4] rfl)
    · skip
      replace hw := hw.1 c4
      refine lv_iload_n hx hb e_M_turn_104 rfl (lv_at hl 3 rfl) ?_
      refine lv_goto (tgt := 115) hx hb e_M_turn_105 (by decide) ?_
      exact K_115 _ hK57 z1 z2 s0 z4 z2 z4 σ _ _ _ hw h (lv_sub hl [1, 2, 3, 0, 4] rfl)
  have K_81 : ∀ (K57 : Int32 → Int32 → Int32 → Int32 → MST → Prop) (hK57 : ∀ (z1 : Int32) (z2 : Int32) (z3 : Int32) (z4 : Int32) (σ : MST) (H : Heap) (locs : List Loc) (ls : Array Slot), K57 z1 z2 z3 z4 σ → MH (dC, dI) A mo rf ca σ s H locs → lv_has ls 5 [(0, .ref mo), (1, .int z1), (2, .int z2), (3, .int z3), (4, .int z4)] → W p l e ({ frames := 0, cells := 0, slots := 0, locals := 0 } : Room) s m ([.ref mo, .int x1, .int x2] : List Value).toArray below meth cx H locs 0 0 Q (F0 m 57 ls [])), ∀ (z1 : Int32) (z2 : Int32) (z4 : Int32) (σ : MST) (H : Heap) (locs : List Loc) (ls : Array Slot), w_M_turn_81 K57 P z1 z2 z4 σ → MH (dC, dI) A mo rf ca σ s H locs → lv_has ls 5 [(0, .ref mo), (1, .int z1), (2, .int z2), (4, .int z4)] → W p l e ({ frames := 0, cells := 0, slots := 0, locals := 0 } : Room) s m ([.ref mo, .int x1, .int x2] : List Value).toArray below meth cx H locs 0 0 Q (F0 m 81 ls []) := by
    intro K57 hK57 z1 z2 z4 σ H locs ls hw h hl
    unfold w_M_turn_81 at hw
    refine lv_iconst (v := 1) hx hb e_M_turn_81 (by decide) ?_
    refine lv_goto (tgt := 86) hx hb e_M_turn_82 (by decide) ?_
    exact K_86 _ hK57 z1 z2 z4 1 σ _ _ _ hw h (lv_sub hl [0, 1, 2, 3] rfl)
  have K_57 : ∀ (n : Nat), ∀ (z1 : Int32) (z2 : Int32) (z3 : Int32) (z4 : Int32) (σ : MST) (H : Heap) (locs : List Loc) (ls : Array Slot), w_M_turn_57 P n z1 z2 z3 z4 σ → MH (dC, dI) A mo rf ca σ s H locs → lv_has ls 5 [(0, .ref mo), (1, .int z1), (2, .int z2), (3, .int z3), (4, .int z4)] → W p l e ({ frames := 0, cells := 0, slots := 0, locals := 0 } : Room) s m ([.ref mo, .int x1, .int x2] : List Value).toArray below meth cx H locs 0 0 Q (F0 m 57 ls []) := by
    intro  n
    induction n with
    | zero => intro z1 z2 z3 z4 σ H locs ls hw h hl; unfold w_M_turn_57 at hw; exact hw.elim
    | succ n ih =>
      intro z1 z2 z3 z4 σ H locs ls hw h hl
      unfold w_M_turn_57 at hw
      refine lv_iload hx hb e_M_turn_57 (lv_at hl 4 rfl) ?_
      refine lv_aload_n hx hb e_M_turn_59 rfl (lv_at hl 0 rfl) ?_
      refine M_get C h 40 (v := .int (σ.1 40)) rfl (by decide) v_98 e_M_turn_60 ?_
      refine lv_icmp_ge (tgt := 122) hx hb e_M_turn_63 (by decide) (fun c6 => ?_) (fun c6 => ?_)
      · skip
        replace hw := hw.1 c6
        refine lv_iload_n hx hb e_M_turn_122 rfl (lv_at hl 3 rfl) ?_
        exact hend z3 σ _ _ _ _ hw.1 hw.2 h e_M_turn_123
      · skip
        replace hw := hw.2 c6
        refine lv_iload_n hx hb e_M_turn_66 rfl (lv_at hl 3 rfl) ?_
        refine lv_if_ne (tgt := 81) hx hb e_M_turn_67 (by decide) (fun c7 => ?_) (fun c7 => ?_)
        · skip
          replace hw := hw.2 c7
          exact K_81 _ ih z1 z2 z4 σ _ _ _ hw h (lv_sub hl [0, 1, 2, 4] rfl)
        · skip
          replace hw := hw.1 c7
          refine lv_aload_n hx hb e_M_turn_70 rfl (lv_at hl 0 rfl) ?_
          refine M_get C h 39 (v := .ref (rf 39)) rfl (by decide) v_99 e_M_turn_71 ?_
          refine lv_iload hx hb e_M_turn_74 (lv_at hl 4 rfl) ?_
          refine M_ald C h 39 (by decide) rfl hw.1 e_M_turn_76 ?_
          replace hw := hw.2
          refine lv_topi (fun a8 e_a8 => ?_)
          replace hw := hw a8 e_a8
          refine lv_iload_n hx hb e_M_turn_77 rfl (lv_at hl 1 rfl) ?_
          refine lv_icmp_ne (tgt := 85) hx hb e_M_turn_78 (by decide) (fun c9 => ?_) (fun c9 => ?_)
          · skip
            replace hw := hw.2 c9
            refine lv_iconst (v := 0) hx hb e_M_turn_85 (by decide) ?_
            exact K_86 _ ih z1 z2 z4 0 σ _ _ _ hw h (lv_sub hl [0, 1, 2, 4] rfl)
          · skip
            replace hw := hw.1 c9
            exact K_81 _ ih z1 z2 z4 σ _ _ _ hw h (lv_sub hl [0, 1, 2, 4] rfl)
  have K_5 : ∀ (n : Nat), ∀ (z1 : Int32) (z2 : Int32) (z3 : Int32) (z4 : Int32) (σ : MST) (H : Heap) (locs : List Loc) (ls : Array Slot), w_M_turn_5 P n z1 z2 z3 z4 σ → MH (dC, dI) A mo rf ca σ s H locs → lv_has ls 5 [(0, .ref mo), (1, .int z1), (2, .int z2), (3, .int z3), (4, .int z4)] → W p l e ({ frames := 0, cells := 0, slots := 0, locals := 0 } : Room) s m ([.ref mo, .int x1, .int x2] : List Value).toArray below meth cx H locs 0 0 Q (F0 m 5 ls []) := by
    intro  n
    induction n with
    | zero => intro z1 z2 z3 z4 σ H locs ls hw h hl; unfold w_M_turn_5 at hw; exact hw.elim
    | succ n ih =>
      intro z1 z2 z3 z4 σ H locs ls hw h hl
      unfold w_M_turn_5 at hw
      refine lv_iload hx hb e_M_turn_5 (lv_at hl 4 rfl) ?_
      refine lv_aload_n hx hb e_M_turn_7 rfl (lv_at hl 0 rfl) ?_
      refine M_get C h 15 (v := .ref (rf 15)) rfl (by decide) v_49 e_M_turn_8 ?_
      refine lv_aload_n hx hb e_M_turn_11 rfl (lv_at hl 0 rfl) ?_
      refine M_get C h 33 (v := .int (σ.1 33)) rfl (by decide) v_116 e_M_turn_12 ?_
      refine M_ald C h 15 (by decide) rfl hw.1 e_M_turn_15 ?_
      replace hw := hw.2
      refine lv_topi (fun a10 e_a10 => ?_)
      replace hw := hw a10 e_a10
      refine lv_icmp_ge (tgt := 54) hx hb e_M_turn_16 (by decide) (fun c11 => ?_) (fun c11 => ?_)
      · skip
        replace hw := hw.1 c11
        refine lv_iconst (v := 0) hx hb e_M_turn_54 (by decide) ?_
        refine lv_istore (lv' := [(4, .int 0), (0, .ref mo), (1, .int z1), (2, .int z2), (3, .int z3)]) hx hb e_M_turn_55 hl (by decide) rfl (fun ls hl => ?_)
        obtain ⟨n9, hw⟩ := hw
        exact K_57 n9 z1 z2 z3 0 σ _ _ _ hw h (lv_sub hl [1, 2, 3, 4, 0] rfl)
      · skip
        replace hw := hw.2 c11
        refine lv_aload_n hx hb e_M_turn_19 rfl (lv_at hl 0 rfl) ?_
        refine M_get C h 37 (v := .ref (rf 37)) rfl (by decide) v_120 e_M_turn_20 ?_
        refine lv_iload hx hb e_M_turn_23 (lv_at hl 4 rfl) ?_
        refine lv_aload_n hx hb e_M_turn_25 rfl (lv_at hl 0 rfl) ?_
        refine M_get C h 37 (v := .ref (rf 37)) rfl (by decide) v_120 e_M_turn_26 ?_
        refine lv_iload hx hb e_M_turn_29 (lv_at hl 4 rfl) ?_
        refine M_ald C h 37 (by decide) rfl hw.1 e_M_turn_31 ?_
        replace hw := hw.2
        refine lv_topi (fun a12 e_a12 => ?_)
        replace hw := hw a12 e_a12
        refine lv_iload_n hx hb e_M_turn_32 rfl (lv_at hl 1 rfl) ?_
        refine lv_icmp_ne (tgt := 40) hx hb e_M_turn_33 (by decide) (fun c13 => ?_) (fun c13 => ?_)
        · skip
          replace hw := hw.2 c13
          refine lv_aload_n hx hb e_M_turn_40 rfl (lv_at hl 0 rfl) ?_
          refine M_get C h 37 (v := .ref (rf 37)) rfl (by decide) v_120 e_M_turn_41 ?_
          refine lv_iload hx hb e_M_turn_44 (lv_at hl 4 rfl) ?_
          refine M_ald C h 37 (by decide) rfl hw.1 e_M_turn_46 ?_
          replace hw := hw.2
          refine lv_topi (fun a14 e_a14 => ?_)
          replace hw := hw a14 e_a14
          exact K_47 _ ih z1 z2 z3 z4 a14 z4 σ _ _ _ hw h (lv_sub hl [0, 1, 2, 3, 4] rfl)
        · skip
          replace hw := hw.1 c13
          refine lv_iload_n hx hb e_M_turn_36 rfl (lv_at hl 2 rfl) ?_
          refine lv_goto (tgt := 47) hx hb e_M_turn_37 (by decide) ?_
          exact K_47 _ ih z1 z2 z3 z4 z2 z4 σ _ _ _ hw h (lv_sub hl [0, 1, 2, 3, 4] rfl)
  have hl : lv_has ls 5 [(0, .ref mo), (1, .int x1), (2, .int x2)] := hl
  unfold w_M_turn at hw
  refine lv_iconst (v := 0) hx hb e_M_turn_0 (by decide) ?_
  refine lv_istore_n (lv' := [(3, .int 0), (0, .ref mo), (1, .int x1), (2, .int x2)]) hx hb e_M_turn_1 rfl hl (by decide) rfl (fun ls hl => ?_)
  refine lv_iconst (v := 0) hx hb e_M_turn_2 (by decide) ?_
  refine lv_istore (lv' := [(4, .int 0), (3, .int 0), (0, .ref mo), (1, .int x1), (2, .int x2)]) hx hb e_M_turn_3 hl (by decide) rfl (fun ls hl => ?_)
  obtain ⟨n9, hw⟩ := hw
  exact K_5 n9 x1 x2 0 0 σ _ _ _ hw h (lv_sub hl [2, 3, 4, 1, 0] rfl)
abbrev z_M_objects : MethodName := ⟨"MapFramerModel", "objects", "(II)V"⟩
theorem v_146 : (Cond.methodLink "MapFramerModel" 294 ⟨"MapFramerModel", "turn", "(II)Z"⟩ : Cond) ∈ bigW := inB_10 3 (by decide +kernel) rfl
theorem v_147 : (Cond.instanceMethod ⟨"MapFramerModel", "turn", "(II)Z"⟩ : Cond) ∈ bigW := inB_10 5 (by decide +kernel) rfl
theorem v_148 : (Cond.selects "MapFramerModel" ⟨"MapFramerModel", "turn", "(II)Z"⟩ ⟨"MapFramerModel", "turn", "(II)Z"⟩ : Cond) ∈ bigW := inS (y := ⟨"MapFramerModel", "turn", "(II)Z"⟩) (n := 71) (List.mem_of_getElem? (i := 117) (by decide +kernel))
theorem v_149 : (Cond.code ⟨"MapFramerModel", "turn", "(II)Z"⟩ prog_14_method_51_code 5 (some .boolean) : Cond) ∈ bigW := inB_10 6 rfl rfl
theorem e_M_objects_0 : decode prog_14_method_52_code 0 = .ok (.iload_n 1, 1) := by decide +kernel
theorem e_M_objects_1 : decode prog_14_method_52_code 1 = .ok (.sipush 187, 3) := by decide +kernel
theorem e_M_objects_4 : decode prog_14_method_52_code 4 = .ok (.if_icmp .ne 40, 3) := by decide +kernel
theorem e_M_objects_7 : decode prog_14_method_52_code 7 = .ok (.aload_n 0, 1) := by decide +kernel
theorem e_M_objects_8 : decode prog_14_method_52_code 8 = .ok (.sipush 1000, 3) := by decide +kernel
theorem e_M_objects_11 : decode prog_14_method_52_code 11 = .ok (.aload_n 0, 1) := by decide +kernel
theorem e_M_objects_12 : decode prog_14_method_52_code 12 = .ok (.getfield 291, 3) := by decide +kernel
theorem e_M_objects_15 : decode prog_14_method_52_code 15 = .ok (.iadd, 1) := by decide +kernel
theorem e_M_objects_16 : decode prog_14_method_52_code 16 = .ok (.iconst 0, 1) := by decide +kernel
theorem e_M_objects_17 : decode prog_14_method_52_code 17 = .ok (.invokevirtual 294, 3) := by decide +kernel
theorem e_M_objects_20 : decode prog_14_method_52_code 20 = .ok (.ifCond .eq 9, 3) := by decide +kernel
theorem e_M_objects_23 : decode prog_14_method_52_code 23 = .ok (.aload_n 0, 1) := by decide +kernel
theorem e_M_objects_24 : decode prog_14_method_52_code 24 = .ok (.bipush 6, 2) := by decide +kernel
theorem e_M_objects_26 : decode prog_14_method_52_code 26 = .ok (.invokevirtual 252, 3) := by decide +kernel
theorem e_M_objects_29 : decode prog_14_method_52_code 29 = .ok (.aload_n 0, 1) := by decide +kernel
theorem e_M_objects_30 : decode prog_14_method_52_code 30 = .ok (.sipush 1000, 3) := by decide +kernel
theorem e_M_objects_33 : decode prog_14_method_52_code 33 = .ok (.aload_n 0, 1) := by decide +kernel
theorem e_M_objects_34 : decode prog_14_method_52_code 34 = .ok (.getfield 291, 3) := by decide +kernel
theorem e_M_objects_37 : decode prog_14_method_52_code 37 = .ok (.iadd, 1) := by decide +kernel
theorem e_M_objects_38 : decode prog_14_method_52_code 38 = .ok (.invokevirtual 272, 3) := by decide +kernel
theorem e_M_objects_41 : decode prog_14_method_52_code 41 = .ok (.goto 278, 3) := by decide +kernel
theorem e_M_objects_44 : decode prog_14_method_52_code 44 = .ok (.iload_n 1, 1) := by decide +kernel
theorem e_M_objects_45 : decode prog_14_method_52_code 45 = .ok (.sipush 183, 3) := by decide +kernel
theorem e_M_objects_48 : decode prog_14_method_52_code 48 = .ok (.if_icmp .ne 89, 3) := by decide +kernel
theorem e_M_objects_51 : decode prog_14_method_52_code 51 = .ok (.aload_n 0, 1) := by decide +kernel
theorem e_M_objects_52 : decode prog_14_method_52_code 52 = .ok (.invokevirtual 256, 3) := by decide +kernel
theorem e_M_objects_55 : decode prog_14_method_52_code 55 = .ok (.istore_n 3, 1) := by decide +kernel
theorem e_M_objects_56 : decode prog_14_method_52_code 56 = .ok (.aload_n 0, 1) := by decide +kernel
theorem e_M_objects_57 : decode prog_14_method_52_code 57 = .ok (.getfield 225, 3) := by decide +kernel
theorem e_M_objects_60 : decode prog_14_method_52_code 60 = .ok (.ifCond .ne 48, 3) := by decide +kernel
theorem e_M_objects_63 : decode prog_14_method_52_code 63 = .ok (.iload_n 3, 1) := by decide +kernel
theorem e_M_objects_64 : decode prog_14_method_52_code 64 = .ok (.sipush 1000, 3) := by decide +kernel
theorem e_M_objects_67 : decode prog_14_method_52_code 67 = .ok (.if_icmp .lt 35, 3) := by decide +kernel
theorem e_M_objects_70 : decode prog_14_method_52_code 70 = .ok (.aload_n 0, 1) := by decide +kernel
theorem e_M_objects_71 : decode prog_14_method_52_code 71 = .ok (.aload_n 0, 1) := by decide +kernel
theorem e_M_objects_72 : decode prog_14_method_52_code 72 = .ok (.getfield 266, 3) := by decide +kernel
theorem e_M_objects_75 : decode prog_14_method_52_code 75 = .ok (.iload_n 3, 1) := by decide +kernel
theorem e_M_objects_76 : decode prog_14_method_52_code 76 = .ok (.sipush 1000, 3) := by decide +kernel
theorem e_M_objects_79 : decode prog_14_method_52_code 79 = .ok (.if_icmp .ge 9, 3) := by decide +kernel
theorem e_M_objects_82 : decode prog_14_method_52_code 82 = .ok (.sipush 1000, 3) := by decide +kernel
theorem e_M_objects_85 : decode prog_14_method_52_code 85 = .ok (.goto 4, 3) := by decide +kernel
theorem e_M_objects_88 : decode prog_14_method_52_code 88 = .ok (.iload_n 3, 1) := by decide +kernel
theorem e_M_objects_89 : decode prog_14_method_52_code 89 = .ok (.sipush 1000, 3) := by decide +kernel
theorem e_M_objects_92 : decode prog_14_method_52_code 92 = .ok (.isub, 1) := by decide +kernel
theorem e_M_objects_93 : decode prog_14_method_52_code 93 = .ok (.iconst 1, 1) := by decide +kernel
theorem e_M_objects_94 : decode prog_14_method_52_code 94 = .ok (.iadd, 1) := by decide +kernel
theorem e_M_objects_95 : decode prog_14_method_52_code 95 = .ok (.invokevirtual 222, 3) := by decide +kernel
theorem e_M_objects_98 : decode prog_14_method_52_code 98 = .ok (.iload_n 2, 1) := by decide +kernel
theorem e_M_objects_99 : decode prog_14_method_52_code 99 = .ok (.if_icmp .eq 9, 3) := by decide +kernel
theorem e_M_objects_102 : decode prog_14_method_52_code 102 = .ok (.aload_n 0, 1) := by decide +kernel
theorem e_M_objects_103 : decode prog_14_method_52_code 103 = .ok (.bipush 6, 2) := by decide +kernel
theorem e_M_objects_105 : decode prog_14_method_52_code 105 = .ok (.invokevirtual 252, 3) := by decide +kernel
theorem e_M_objects_108 : decode prog_14_method_52_code 108 = .ok (.aload_n 0, 1) := by decide +kernel
theorem e_M_objects_109 : decode prog_14_method_52_code 109 = .ok (.getfield 225, 3) := by decide +kernel
theorem e_M_objects_112 : decode prog_14_method_52_code 112 = .ok (.ifCond .ne 19, 3) := by decide +kernel
theorem e_M_objects_115 : decode prog_14_method_52_code 115 = .ok (.aload_n 0, 1) := by decide +kernel
theorem e_M_objects_116 : decode prog_14_method_52_code 116 = .ok (.iload_n 3, 1) := by decide +kernel
theorem e_M_objects_117 : decode prog_14_method_52_code 117 = .ok (.bipush 32, 2) := by decide +kernel
theorem e_M_objects_119 : decode prog_14_method_52_code 119 = .ok (.iload_n 2, 1) := by decide +kernel
theorem e_M_objects_120 : decode prog_14_method_52_code 120 = .ok (.iadd, 1) := by decide +kernel
theorem e_M_objects_121 : decode prog_14_method_52_code 121 = .ok (.invokevirtual 294, 3) := by decide +kernel
theorem e_M_objects_124 : decode prog_14_method_52_code 124 = .ok (.ifCond .eq 7, 3) := by decide +kernel
theorem e_M_objects_127 : decode prog_14_method_52_code 127 = .ok (.iconst 1, 1) := by decide +kernel
theorem e_M_objects_128 : decode prog_14_method_52_code 128 = .ok (.goto 4, 3) := by decide +kernel
theorem e_M_objects_131 : decode prog_14_method_52_code 131 = .ok (.iconst 0, 1) := by decide +kernel
theorem e_M_objects_132 : decode prog_14_method_52_code 132 = .ok (.istore 4, 2) := by decide +kernel
theorem e_M_objects_134 : decode prog_14_method_52_code 134 = .ok (.goto 185, 3) := by decide +kernel
theorem e_M_objects_137 : decode prog_14_method_52_code 137 = .ok (.iload_n 1, 1) := by decide +kernel
theorem e_M_objects_138 : decode prog_14_method_52_code 138 = .ok (.sipush 188, 3) := by decide +kernel
theorem e_M_objects_141 : decode prog_14_method_52_code 141 = .ok (.if_icmp .eq 10, 3) := by decide +kernel
theorem e_M_objects_144 : decode prog_14_method_52_code 144 = .ok (.iload_n 1, 1) := by decide +kernel
theorem e_M_objects_145 : decode prog_14_method_52_code 145 = .ok (.sipush 189, 3) := by decide +kernel
theorem e_M_objects_148 : decode prog_14_method_52_code 148 = .ok (.if_icmp .ne 40, 3) := by decide +kernel
theorem e_M_objects_151 : decode prog_14_method_52_code 151 = .ok (.aload_n 0, 1) := by decide +kernel
theorem e_M_objects_152 : decode prog_14_method_52_code 152 = .ok (.iconst 1, 1) := by decide +kernel
theorem e_M_objects_153 : decode prog_14_method_52_code 153 = .ok (.invokevirtual 282, 3) := by decide +kernel
theorem e_M_objects_156 : decode prog_14_method_52_code 156 = .ok (.aload_n 0, 1) := by decide +kernel
theorem e_M_objects_157 : decode prog_14_method_52_code 157 = .ok (.iload_n 1, 1) := by decide +kernel
theorem e_M_objects_158 : decode prog_14_method_52_code 158 = .ok (.sipush 189, 3) := by decide +kernel
theorem e_M_objects_161 : decode prog_14_method_52_code 161 = .ok (.if_icmp .ne 10, 3) := by decide +kernel
theorem e_M_objects_164 : decode prog_14_method_52_code 164 = .ok (.bipush 64, 2) := by decide +kernel
theorem e_M_objects_166 : decode prog_14_method_52_code 166 = .ok (.iload_n 2, 1) := by decide +kernel
theorem e_M_objects_167 : decode prog_14_method_52_code 167 = .ok (.iadd, 1) := by decide +kernel
theorem e_M_objects_168 : decode prog_14_method_52_code 168 = .ok (.goto 14, 3) := by decide +kernel
theorem e_M_objects_171 : decode prog_14_method_52_code 171 = .ok (.iload_n 2, 1) := by decide +kernel
theorem e_M_objects_172 : decode prog_14_method_52_code 172 = .ok (.bipush 10, 2) := by decide +kernel
theorem e_M_objects_174 : decode prog_14_method_52_code 174 = .ok (.if_icmp .ne 7, 3) := by decide +kernel
theorem e_M_objects_177 : decode prog_14_method_52_code 177 = .ok (.iconst 3, 1) := by decide +kernel
theorem e_M_objects_178 : decode prog_14_method_52_code 178 = .ok (.goto 4, 3) := by decide +kernel
theorem e_M_objects_181 : decode prog_14_method_52_code 181 = .ok (.iconst 4, 1) := by decide +kernel
theorem e_M_objects_182 : decode prog_14_method_52_code 182 = .ok (.invokevirtual 272, 3) := by decide +kernel
theorem e_M_objects_185 : decode prog_14_method_52_code 185 = .ok (.goto 134, 3) := by decide +kernel
theorem e_M_objects_188 : decode prog_14_method_52_code 188 = .ok (.iload_n 1, 1) := by decide +kernel
theorem e_M_objects_189 : decode prog_14_method_52_code 189 = .ok (.sipush 190, 3) := by decide +kernel
theorem e_M_objects_192 : decode prog_14_method_52_code 192 = .ok (.if_icmp .ne 51, 3) := by decide +kernel
theorem e_M_objects_195 : decode prog_14_method_52_code 195 = .ok (.aload_n 0, 1) := by decide +kernel
theorem e_M_objects_196 : decode prog_14_method_52_code 196 = .ok (.invokevirtual 256, 3) := by decide +kernel
theorem e_M_objects_199 : decode prog_14_method_52_code 199 = .ok (.istore_n 3, 1) := by decide +kernel
theorem e_M_objects_200 : decode prog_14_method_52_code 200 = .ok (.aload_n 0, 1) := by decide +kernel
theorem e_M_objects_201 : decode prog_14_method_52_code 201 = .ok (.getfield 225, 3) := by decide +kernel
theorem e_M_objects_204 : decode prog_14_method_52_code 204 = .ok (.ifCond .ne 31, 3) := by decide +kernel
theorem e_M_objects_207 : decode prog_14_method_52_code 207 = .ok (.iload_n 3, 1) := by decide +kernel
theorem e_M_objects_208 : decode prog_14_method_52_code 208 = .ok (.iconst 5, 1) := by decide +kernel
theorem e_M_objects_209 : decode prog_14_method_52_code 209 = .ok (.if_icmp .eq 26, 3) := by decide +kernel
theorem e_M_objects_212 : decode prog_14_method_52_code 212 = .ok (.iload_n 3, 1) := by decide +kernel
theorem e_M_objects_213 : decode prog_14_method_52_code 213 = .ok (.iconst 3, 1) := by decide +kernel
theorem e_M_objects_214 : decode prog_14_method_52_code 214 = .ok (.if_icmp .eq 21, 3) := by decide +kernel
theorem e_M_objects_217 : decode prog_14_method_52_code 217 = .ok (.iload_n 3, 1) := by decide +kernel
theorem e_M_objects_218 : decode prog_14_method_52_code 218 = .ok (.iconst 4, 1) := by decide +kernel
theorem e_M_objects_219 : decode prog_14_method_52_code 219 = .ok (.if_icmp .eq 16, 3) := by decide +kernel
theorem e_M_objects_222 : decode prog_14_method_52_code 222 = .ok (.iload_n 3, 1) := by decide +kernel
theorem e_M_objects_223 : decode prog_14_method_52_code 223 = .ok (.invokestatic 183, 3) := by decide +kernel
theorem e_M_objects_226 : decode prog_14_method_52_code 226 = .ok (.ifCond .ne 9, 3) := by decide +kernel
theorem e_M_objects_229 : decode prog_14_method_52_code 229 = .ok (.aload_n 0, 1) := by decide +kernel
theorem e_M_objects_230 : decode prog_14_method_52_code 230 = .ok (.bipush 6, 2) := by decide +kernel
theorem e_M_objects_232 : decode prog_14_method_52_code 232 = .ok (.invokevirtual 252, 3) := by decide +kernel
theorem e_M_objects_235 : decode prog_14_method_52_code 235 = .ok (.aload_n 0, 1) := by decide +kernel
theorem e_M_objects_236 : decode prog_14_method_52_code 236 = .ok (.iconst 1, 1) := by decide +kernel
theorem e_M_objects_237 : decode prog_14_method_52_code 237 = .ok (.invokevirtual 272, 3) := by decide +kernel
theorem e_M_objects_240 : decode prog_14_method_52_code 240 = .ok (.goto 79, 3) := by decide +kernel
theorem e_M_objects_243 : decode prog_14_method_52_code 243 = .ok (.iload_n 1, 1) := by decide +kernel
theorem e_M_objects_244 : decode prog_14_method_52_code 244 = .ok (.sipush 191, 3) := by decide +kernel
theorem e_M_objects_247 : decode prog_14_method_52_code 247 = .ok (.if_icmp .ne 48, 3) := by decide +kernel
theorem e_M_objects_250 : decode prog_14_method_52_code 250 = .ok (.aload_n 0, 1) := by decide +kernel
theorem e_M_objects_251 : decode prog_14_method_52_code 251 = .ok (.invokevirtual 256, 3) := by decide +kernel
theorem e_M_objects_254 : decode prog_14_method_52_code 254 = .ok (.istore_n 3, 1) := by decide +kernel
theorem e_M_objects_255 : decode prog_14_method_52_code 255 = .ok (.aload_n 0, 1) := by decide +kernel
theorem e_M_objects_256 : decode prog_14_method_52_code 256 = .ok (.getfield 225, 3) := by decide +kernel
theorem e_M_objects_259 : decode prog_14_method_52_code 259 = .ok (.ifCond .ne 33, 3) := by decide +kernel
theorem e_M_objects_262 : decode prog_14_method_52_code 262 = .ok (.iload_n 3, 1) := by decide +kernel
theorem e_M_objects_263 : decode prog_14_method_52_code 263 = .ok (.iconst 5, 1) := by decide +kernel
theorem e_M_objects_264 : decode prog_14_method_52_code 264 = .ok (.if_icmp .eq 28, 3) := by decide +kernel
theorem e_M_objects_267 : decode prog_14_method_52_code 267 = .ok (.iload_n 3, 1) := by decide +kernel
theorem e_M_objects_268 : decode prog_14_method_52_code 268 = .ok (.invokestatic 176, 3) := by decide +kernel
theorem e_M_objects_271 : decode prog_14_method_52_code 271 = .ok (.ifCond .eq 15, 3) := by decide +kernel
theorem e_M_objects_274 : decode prog_14_method_52_code 274 = .ok (.aload_n 0, 1) := by decide +kernel
theorem e_M_objects_275 : decode prog_14_method_52_code 275 = .ok (.iload_n 3, 1) := by decide +kernel
theorem e_M_objects_276 : decode prog_14_method_52_code 276 = .ok (.bipush 32, 2) := by decide +kernel
theorem e_M_objects_278 : decode prog_14_method_52_code 278 = .ok (.isub, 1) := by decide +kernel
theorem e_M_objects_279 : decode prog_14_method_52_code 279 = .ok (.iconst 1, 1) := by decide +kernel
theorem e_M_objects_280 : decode prog_14_method_52_code 280 = .ok (.invokevirtual 179, 3) := by decide +kernel
theorem e_M_objects_283 : decode prog_14_method_52_code 283 = .ok (.ifCond .ne 9, 3) := by decide +kernel
theorem e_M_objects_286 : decode prog_14_method_52_code 286 = .ok (.aload_n 0, 1) := by decide +kernel
theorem e_M_objects_287 : decode prog_14_method_52_code 287 = .ok (.bipush 6, 2) := by decide +kernel
theorem e_M_objects_289 : decode prog_14_method_52_code 289 = .ok (.invokevirtual 252, 3) := by decide +kernel
theorem e_M_objects_292 : decode prog_14_method_52_code 292 = .ok (.goto 27, 3) := by decide +kernel
theorem e_M_objects_295 : decode prog_14_method_52_code 295 = .ok (.aload_n 0, 1) := by decide +kernel
theorem e_M_objects_296 : decode prog_14_method_52_code 296 = .ok (.invokevirtual 279, 3) := by decide +kernel
theorem e_M_objects_299 : decode prog_14_method_52_code 299 = .ok (.istore_n 3, 1) := by decide +kernel
theorem e_M_objects_300 : decode prog_14_method_52_code 300 = .ok (.aload_n 0, 1) := by decide +kernel
theorem e_M_objects_301 : decode prog_14_method_52_code 301 = .ok (.iload_n 1, 1) := by decide +kernel
theorem e_M_objects_302 : decode prog_14_method_52_code 302 = .ok (.sipush 192, 3) := by decide +kernel
theorem e_M_objects_305 : decode prog_14_method_52_code 305 = .ok (.if_icmp .ne 10, 3) := by decide +kernel
theorem e_M_objects_308 : decode prog_14_method_52_code 308 = .ok (.bipush 32, 2) := by decide +kernel
theorem e_M_objects_310 : decode prog_14_method_52_code 310 = .ok (.iload_n 2, 1) := by decide +kernel
theorem e_M_objects_311 : decode prog_14_method_52_code 311 = .ok (.iadd, 1) := by decide +kernel
theorem e_M_objects_312 : decode prog_14_method_52_code 312 = .ok (.goto 4, 3) := by decide +kernel
theorem e_M_objects_315 : decode prog_14_method_52_code 315 = .ok (.iconst 1, 1) := by decide +kernel
theorem e_M_objects_316 : decode prog_14_method_52_code 316 = .ok (.invokevirtual 272, 3) := by decide +kernel
theorem e_M_objects_319 : decode prog_14_method_52_code 319 = .ok (.return_, 1) := by decide +kernel
def w_M_objects_29 (P : MST → Prop) (σ : MST) : Prop := w_M_push ((1000 : Int32) + (σ.1 34)) σ (fun σ1 => P σ1)
def w_M_objects_132 (P : MST → Prop) (s0 : Int32) (σ : MST) : Prop := P σ
def w_M_objects_131 (P : MST → Prop) (σ : MST) : Prop := w_M_objects_132 P 0 σ
def w_M_objects_108 (P : MST → Prop) (z2 : Int32) (z3 : Int32) (σ : MST) : Prop := (((σ.1 35) = 0 → w_M_turn z3 ((32 : Int32) + z2) σ (fun r5 σ4 => ((r5 = 0 → w_M_objects_131 P σ4) ∧ (¬ r5 = 0 → w_M_objects_132 P 1 σ4)))) ∧ (¬ (σ.1 35) = 0 → w_M_objects_131 P σ))
def w_M_objects_102 (P : MST → Prop) (z2 : Int32) (z3 : Int32) (σ : MST) : Prop := w_M_miss (6 : Int32) σ (fun σ7 => w_M_objects_108 P z2 z3 σ7)
def w_M_objects_89 (P : MST → Prop) (z2 : Int32) (z3 : Int32) (s0 : Int32) (s1 : Int32) (σ : MST) : Prop := w_M_at s1 ((s0 - 1000) + 1) σ (fun r10 σ9 => ((r10 = z2 → w_M_objects_108 P z2 z3 σ9) ∧ (¬ r10 = z2 → w_M_objects_102 P z2 z3 σ9)))
def w_M_objects_182 (P : MST → Prop) (s0 : Int32) (σ : MST) : Prop := w_M_push s0 σ (fun σ12 => P σ12)
def w_M_objects_151 (P : MST → Prop) (z1 : Int32) (z2 : Int32) (σ : MST) : Prop := w_M_want (1 : Int32) σ (fun σ14 => ((z1 = 189 → w_M_objects_182 P ((64 : Int32) + z2) σ14) ∧ (¬ z1 = 189 → ((z2 = 10 → w_M_objects_182 P 3 σ14) ∧ (¬ z2 = 10 → w_M_objects_182 P 4 σ14)))))
def w_M_objects_235 (P : MST → Prop) (σ : MST) : Prop := w_M_push (1 : Int32) σ (fun σ18 => P σ18)
def w_M_objects_286 (P : MST → Prop) (σ : MST) : Prop := w_M_miss (6 : Int32) σ (fun σ20 => P σ20)
def w_M_objects_316 (P : MST → Prop) (s0 : Int32) (σ : MST) : Prop := w_M_push s0 σ (fun σ22 => P σ22)
def w_M_objects (x1 : Int32) (x2 : Int32) (σ : MST) (P : MST → Prop) : Prop := ((x1 = 187 → w_M_turn ((1000 : Int32) + (σ.1 34)) (0 : Int32) σ (fun r60 σ59 => ((r60 = 0 → w_M_objects_29 P σ59) ∧ (¬ r60 = 0 → w_M_miss (6 : Int32) σ59 (fun σ62 => w_M_objects_29 P σ62))))) ∧ (¬ x1 = 187 → ((x1 = 183 → w_M_pop σ (fun r55 σ54 => (((σ54.1 35) = 0 → ((r55 < 1000 → w_M_objects_102 P x2 r55 σ54) ∧ (¬ r55 < 1000 → ((1000 ≤ r55 → w_M_objects_89 P x2 r55 r55 (σ54.1 33) σ54) ∧ (¬ 1000 ≤ r55 → w_M_objects_89 P x2 r55 1000 (σ54.1 33) σ54))))) ∧ (¬ (σ54.1 35) = 0 → w_M_objects_108 P x2 r55 σ54)))) ∧ (¬ x1 = 183 → ((x1 = 188 → w_M_objects_151 P x1 x2 σ) ∧ (¬ x1 = 188 → ((x1 = 189 → w_M_objects_151 P x1 x2 σ) ∧ (¬ x1 = 189 → ((x1 = 190 → w_M_pop σ (fun r44 σ43 => (((σ43.1 35) = 0 → ((r44 = 5 → w_M_objects_235 P σ43) ∧ (¬ r44 = 5 → ((r44 = 3 → w_M_objects_235 P σ43) ∧ (¬ r44 = 3 → ((r44 = 4 → w_M_objects_235 P σ43) ∧ (¬ r44 = 4 → w_M_isRow r44 σ43 (fun r50 σ49 => ((r50 = 0 → w_M_miss (6 : Int32) σ49 (fun σ52 => w_M_objects_235 P σ52)) ∧ (¬ r50 = 0 → w_M_objects_235 P σ49)))))))))) ∧ (¬ (σ43.1 35) = 0 → w_M_objects_235 P σ43)))) ∧ (¬ x1 = 190 → ((x1 = 191 → w_M_pop σ (fun r34 σ33 => (((σ33.1 35) = 0 → ((r34 = 5 → P σ33) ∧ (¬ r34 = 5 → w_M_isObject r34 σ33 (fun r38 σ37 => ((r38 = 0 → w_M_objects_286 P σ37) ∧ (¬ r38 = 0 → w_M_subs (r34 - 32) (1 : Int32) σ37 (fun r41 σ40 => ((r41 = 0 → w_M_objects_286 P σ40) ∧ (¬ r41 = 0 → P σ40))))))))) ∧ (¬ (σ33.1 35) = 0 → P σ33)))) ∧ (¬ x1 = 191 → w_M_popReference σ (fun r31 σ30 => ((x1 = 192 → w_M_objects_316 P ((32 : Int32) + x2) σ30) ∧ (¬ x1 = 192 → w_M_objects_316 P 1 σ30)))))))))))))))
set_option maxHeartbeats 4000000 in
set_option maxRecDepth 100000 in
theorem K_M_objects (l : Launch) (dC : Nat → ClassId) (dI : Nat → Nat → Nat) (mo : Nat) (rf : Nat → Nat) (ca : Nat → ClassId) (sz : Nat) (σ : MST) (x1 : Int32) (x2 : Int32) {P : MST → Prop} (hw : w_M_objects x1 x2 σ P) : Met l z_M_objects (mW z_M_objects prog_14_method_52_code 5 none) ({ frames := 4, cells := 0, slots := 0, locals := 89 } : Room) (va_Pc [.ref mo, .int x1, .int x2] (MPre (dC, dI) mo rf ca σ sz)) (va_Qv P (MB (dC, dI) mo rf ca sz) (mA mo rf sz)) 0 0 (mA mo rf sz) := by
  refine M_ofv (by decide) rfl (Nat.le_of_ble_eq_true rfl) ?_
  intro p e s m below meth cx Q A ls C hA hend h hl
  have C0 := C
  obtain ⟨⟨hx, hb, hml, hown, hts⟩, hsub⟩ := C0
  have K_29 : ∀ (u9 : Unit), ∀ (σ : MST) (H : Heap) (locs : List Loc) (ls : Array Slot), w_M_objects_29 P σ → MH (dC, dI) A mo rf ca σ s H locs → lv_has ls 5 [(0, .ref mo)] → W p l e ({ frames := 4, cells := 0, slots := 0, locals := 89 } : Room) s m ([.ref mo, .int x1, .int x2] : List Value).toArray below meth cx H locs 0 0 Q (F0 m 29 ls []) := by
    intro u9  σ H locs ls hw h hl
    unfold w_M_objects_29 at hw
    refine lv_aload_n hx hb e_M_objects_29 rfl (lv_at hl 0 rfl) ?_
    refine lv_sipush (v := 1000) hx hb e_M_objects_30 (by decide) ?_
    refine lv_aload_n hx hb e_M_objects_33 rfl (lv_at hl 0 rfl) ?_
    refine M_get C h 34 (v := .int (σ.1 34)) rfl (by decide) v_145 e_M_objects_34 ?_
    refine lv_iadd hx hb e_M_objects_37 ?_
    refine M_callv (As := [.int ((1000 : Int32) + (σ.1 34))]) (rest := []) C h hA (K_M_push l dC dI mo rf ca H.size σ ((1000 : Int32) + (σ.1 34)) hw) (cwV 1 hts (gV hsub v_121 v_122 v_123 v_7 v_124) rfl rfl rfl (by decide +kernel) ⟨(Nat.le_of_ble_eq_true rfl), (Nat.le_of_ble_eq_true rfl)⟩) rfl hl.1 (Nat.le_of_ble_eq_true rfl) e_M_objects_38 ⟨(Nat.le_of_ble_eq_true rfl), (Nat.le_of_ble_eq_true rfl)⟩ (fun σ1 H locs hw h => ?_)
    refine W.eq (g2 := F0 m 41 ls []) rfl ?_
    refine lv_goto (tgt := 319) hx hb e_M_objects_41 (by decide) ?_
    exact hend σ1 _ _ _ _ hw h e_M_objects_319
  have K_132 : ∀ (u9 : Unit), ∀ (s0 : Int32) (σ : MST) (H : Heap) (locs : List Loc) (ls : Array Slot), w_M_objects_132 P s0 σ → MH (dC, dI) A mo rf ca σ s H locs → lv_has ls 5 [] → W p l e ({ frames := 4, cells := 0, slots := 0, locals := 89 } : Room) s m ([.ref mo, .int x1, .int x2] : List Value).toArray below meth cx H locs 0 0 Q (F0 m 132 ls [.int s0]) := by
    intro u9 s0 σ H locs ls hw h hl
    unfold w_M_objects_132 at hw
    refine lv_istore (lv' := [(4, .int s0)]) hx hb e_M_objects_132 hl (by decide) rfl (fun ls hl => ?_)
    refine lv_goto (tgt := 319) hx hb e_M_objects_134 (by decide) ?_
    exact hend σ _ _ _ _ hw h e_M_objects_319
  have K_131 : ∀ (u9 : Unit), ∀ (σ : MST) (H : Heap) (locs : List Loc) (ls : Array Slot), w_M_objects_131 P σ → MH (dC, dI) A mo rf ca σ s H locs → lv_has ls 5 [] → W p l e ({ frames := 4, cells := 0, slots := 0, locals := 89 } : Room) s m ([.ref mo, .int x1, .int x2] : List Value).toArray below meth cx H locs 0 0 Q (F0 m 131 ls []) := by
    intro u9  σ H locs ls hw h hl
    unfold w_M_objects_131 at hw
    refine lv_iconst (v := 0) hx hb e_M_objects_131 (by decide) ?_
    exact K_132 () 0 σ _ _ _ hw h (lv_sub hl [] rfl)
  have K_108 : ∀ (u9 : Unit), ∀ (z2 : Int32) (z3 : Int32) (σ : MST) (H : Heap) (locs : List Loc) (ls : Array Slot), w_M_objects_108 P z2 z3 σ → MH (dC, dI) A mo rf ca σ s H locs → lv_has ls 5 [(0, .ref mo), (2, .int z2), (3, .int z3)] → W p l e ({ frames := 4, cells := 0, slots := 0, locals := 89 } : Room) s m ([.ref mo, .int x1, .int x2] : List Value).toArray below meth cx H locs 0 0 Q (F0 m 108 ls []) := by
    intro u9 z2 z3 σ H locs ls hw h hl
    unfold w_M_objects_108 at hw
    refine lv_aload_n hx hb e_M_objects_108 rfl (lv_at hl 0 rfl) ?_
    refine M_get C h 35 (v := .int (σ.1 35)) rfl (by decide) v_73 e_M_objects_109 ?_
    refine lv_if_ne (tgt := 131) hx hb e_M_objects_112 (by decide) (fun c3 => ?_) (fun c3 => ?_)
    · skip
      replace hw := hw.2 c3
      exact K_131 () σ _ _ _ hw h (lv_sub hl [] rfl)
    · skip
      replace hw := hw.1 c3
      refine lv_aload_n hx hb e_M_objects_115 rfl (lv_at hl 0 rfl) ?_
      refine lv_iload_n hx hb e_M_objects_116 rfl (lv_at hl 2 rfl) ?_
      refine lv_bipush (v := 32) hx hb e_M_objects_117 (by decide) ?_
      refine lv_iload_n hx hb e_M_objects_119 rfl (lv_at hl 1 rfl) ?_
      refine lv_iadd hx hb e_M_objects_120 ?_
      refine M_calli (As := [.int z3, .int ((32 : Int32) + z2)]) (rest := []) C h hA (K_M_turn l dC dI mo rf ca H.size σ z3 ((32 : Int32) + z2) hw) (cwV 2 hts (gV hsub v_146 v_147 v_148 v_7 v_149) rfl rfl rfl (by decide +kernel) ⟨(Nat.le_of_ble_eq_true rfl), (Nat.le_of_ble_eq_true rfl)⟩) rfl hl.1 (Nat.le_of_ble_eq_true rfl) e_M_objects_121 ⟨(Nat.le_of_ble_eq_true rfl), (Nat.le_of_ble_eq_true rfl)⟩ (fun r5 σ4 H locs hw h => ?_)
      refine W.eq (g2 := F0 m 124 ls [.int r5]) rfl ?_
      refine lv_if_eq (tgt := 131) hx hb e_M_objects_124 (by decide) (fun c6 => ?_) (fun c6 => ?_)
      · skip
        replace hw := hw.1 c6
        exact K_131 () σ4 _ _ _ hw h (lv_sub hl [] rfl)
      · skip
        replace hw := hw.2 c6
        refine lv_iconst (v := 1) hx hb e_M_objects_127 (by decide) ?_
        refine lv_goto (tgt := 132) hx hb e_M_objects_128 (by decide) ?_
        exact K_132 () 1 σ4 _ _ _ hw h (lv_sub hl [] rfl)
  have K_102 : ∀ (u9 : Unit), ∀ (z2 : Int32) (z3 : Int32) (σ : MST) (H : Heap) (locs : List Loc) (ls : Array Slot), w_M_objects_102 P z2 z3 σ → MH (dC, dI) A mo rf ca σ s H locs → lv_has ls 5 [(0, .ref mo), (2, .int z2), (3, .int z3)] → W p l e ({ frames := 4, cells := 0, slots := 0, locals := 89 } : Room) s m ([.ref mo, .int x1, .int x2] : List Value).toArray below meth cx H locs 0 0 Q (F0 m 102 ls []) := by
    intro u9 z2 z3 σ H locs ls hw h hl
    unfold w_M_objects_102 at hw
    refine lv_aload_n hx hb e_M_objects_102 rfl (lv_at hl 0 rfl) ?_
    refine lv_bipush (v := 6) hx hb e_M_objects_103 (by decide) ?_
    refine M_callv (As := [.int 6]) (rest := []) C h hA (K_M_miss l dC dI mo rf ca H.size σ (6 : Int32) hw) (cwV 1 hts (gV hsub v_100 v_101 v_102 v_7 v_103) rfl rfl rfl (by decide +kernel) ⟨(Nat.le_of_ble_eq_true rfl), (Nat.le_of_ble_eq_true rfl)⟩) rfl hl.1 (Nat.le_of_ble_eq_true rfl) e_M_objects_105 ⟨(Nat.le_of_ble_eq_true rfl), (Nat.le_of_ble_eq_true rfl)⟩ (fun σ7 H locs hw h => ?_)
    refine W.eq (g2 := F0 m 108 ls []) rfl ?_
    exact K_108 () z2 z3 σ7 _ _ _ hw h (lv_sub hl [0, 1, 2] rfl)
  have K_89 : ∀ (u9 : Unit), ∀ (z2 : Int32) (z3 : Int32) (s0 : Int32) (s1 : Int32) (σ : MST) (H : Heap) (locs : List Loc) (ls : Array Slot), w_M_objects_89 P z2 z3 s0 s1 σ → MH (dC, dI) A mo rf ca σ s H locs → lv_has ls 5 [(0, .ref mo), (2, .int z2), (3, .int z3)] → W p l e ({ frames := 4, cells := 0, slots := 0, locals := 89 } : Room) s m ([.ref mo, .int x1, .int x2] : List Value).toArray below meth cx H locs 0 0 Q (F0 m 89 ls [.int s0, .int s1, .ref mo]) := by
    intro u9 z2 z3 s0 s1 σ H locs ls hw h hl
    unfold w_M_objects_89 at hw
    refine lv_sipush (v := 1000) hx hb e_M_objects_89 (by decide) ?_
    refine lv_isub hx hb e_M_objects_92 ?_
    refine lv_iconst (v := 1) hx hb e_M_objects_93 (by decide) ?_
    refine lv_iadd hx hb e_M_objects_94 ?_
    refine M_calli (As := [.int s1, .int ((s0 - 1000) + 1)]) (rest := []) C h hA (K_M_at l dC dI mo rf ca H.size σ s1 ((s0 - 1000) + 1) hw) (cwV 2 hts (gV hsub v_69 v_70 v_71 v_7 v_72) rfl rfl rfl (by decide +kernel) ⟨(Nat.le_of_ble_eq_true rfl), (Nat.le_of_ble_eq_true rfl)⟩) rfl hl.1 (Nat.le_of_ble_eq_true rfl) e_M_objects_95 ⟨(Nat.le_of_ble_eq_true rfl), (Nat.le_of_ble_eq_true rfl)⟩ (fun r10 σ9 H locs hw h => ?_)
    refine W.eq (g2 := F0 m 98 ls [.int r10]) rfl ?_
    refine lv_iload_n hx hb e_M_objects_98 rfl (lv_at hl 1 rfl) ?_
    refine lv_icmp_eq (tgt := 108) hx hb e_M_objects_99 (by decide) (fun c11 => ?_) (fun c11 => ?_)
    · skip
      replace hw := hw.1 c11
      exact K_108 () z2 z3 σ9 _ _ _ hw h (lv_sub hl [0, 1, 2] rfl)
    · skip
      replace hw := hw.2 c11
      exact K_102 () z2 z3 σ9 _ _ _ hw h (lv_sub hl [0, 1, 2] rfl)
  have K_182 : ∀ (u9 : Unit), ∀ (s0 : Int32) (σ : MST) (H : Heap) (locs : List Loc) (ls : Array Slot), w_M_objects_182 P s0 σ → MH (dC, dI) A mo rf ca σ s H locs → lv_has ls 5 [] → W p l e ({ frames := 4, cells := 0, slots := 0, locals := 89 } : Room) s m ([.ref mo, .int x1, .int x2] : List Value).toArray below meth cx H locs 0 0 Q (F0 m 182 ls [.int s0, .ref mo]) := by
    intro u9 s0 σ H locs ls hw h hl
    unfold w_M_objects_182 at hw
    refine M_callv (As := [.int s0]) (rest := []) C h hA (K_M_push l dC dI mo rf ca H.size σ s0 hw) (cwV 1 hts (gV hsub v_121 v_122 v_123 v_7 v_124) rfl rfl rfl (by decide +kernel) ⟨(Nat.le_of_ble_eq_true rfl), (Nat.le_of_ble_eq_true rfl)⟩) rfl hl.1 (Nat.le_of_ble_eq_true rfl) e_M_objects_182 ⟨(Nat.le_of_ble_eq_true rfl), (Nat.le_of_ble_eq_true rfl)⟩ (fun σ12 H locs hw h => ?_)
    refine W.eq (g2 := F0 m 185 ls []) rfl ?_
    refine lv_goto (tgt := 319) hx hb e_M_objects_185 (by decide) ?_
    exact hend σ12 _ _ _ _ hw h e_M_objects_319
  have K_151 : ∀ (u9 : Unit), ∀ (z1 : Int32) (z2 : Int32) (σ : MST) (H : Heap) (locs : List Loc) (ls : Array Slot), w_M_objects_151 P z1 z2 σ → MH (dC, dI) A mo rf ca σ s H locs → lv_has ls 5 [(0, .ref mo), (1, .int z1), (2, .int z2)] → W p l e ({ frames := 4, cells := 0, slots := 0, locals := 89 } : Room) s m ([.ref mo, .int x1, .int x2] : List Value).toArray below meth cx H locs 0 0 Q (F0 m 151 ls []) := by
    intro u9 z1 z2 σ H locs ls hw h hl
    unfold w_M_objects_151 at hw
    refine lv_aload_n hx hb e_M_objects_151 rfl (lv_at hl 0 rfl) ?_
    refine lv_iconst (v := 1) hx hb e_M_objects_152 (by decide) ?_
    refine M_callv (As := [.int 1]) (rest := []) C h hA (K_M_want l dC dI mo rf ca H.size σ (1 : Int32) hw) (cwV 1 hts (gV hsub v_129 v_130 v_131 v_7 v_132) rfl rfl rfl (by decide +kernel) ⟨(Nat.le_of_ble_eq_true rfl), (Nat.le_of_ble_eq_true rfl)⟩) rfl hl.1 (Nat.le_of_ble_eq_true rfl) e_M_objects_153 ⟨(Nat.le_of_ble_eq_true rfl), (Nat.le_of_ble_eq_true rfl)⟩ (fun σ14 H locs hw h => ?_)
    refine W.eq (g2 := F0 m 156 ls []) rfl ?_
    refine lv_aload_n hx hb e_M_objects_156 rfl (lv_at hl 0 rfl) ?_
    refine lv_iload_n hx hb e_M_objects_157 rfl (lv_at hl 1 rfl) ?_
    refine lv_sipush (v := 189) hx hb e_M_objects_158 (by decide) ?_
    refine lv_icmp_ne (tgt := 171) hx hb e_M_objects_161 (by decide) (fun c16 => ?_) (fun c16 => ?_)
    · skip
      replace hw := hw.2 c16
      refine lv_iload_n hx hb e_M_objects_171 rfl (lv_at hl 2 rfl) ?_
      refine lv_bipush (v := 10) hx hb e_M_objects_172 (by decide) ?_
      refine lv_icmp_ne (tgt := 181) hx hb e_M_objects_174 (by decide) (fun c17 => ?_) (fun c17 => ?_)
      · skip
        replace hw := hw.2 c17
        refine lv_iconst (v := 4) hx hb e_M_objects_181 (by decide) ?_
        exact K_182 () 4 σ14 _ _ _ hw h (lv_sub hl [] rfl)
      · skip
        replace hw := hw.1 c17
        refine lv_iconst (v := 3) hx hb e_M_objects_177 (by decide) ?_
        refine lv_goto (tgt := 182) hx hb e_M_objects_178 (by decide) ?_
        exact K_182 () 3 σ14 _ _ _ hw h (lv_sub hl [] rfl)
    · skip
      replace hw := hw.1 c16
      refine lv_bipush (v := 64) hx hb e_M_objects_164 (by decide) ?_
      refine lv_iload_n hx hb e_M_objects_166 rfl (lv_at hl 2 rfl) ?_
      refine lv_iadd hx hb e_M_objects_167 ?_
      refine lv_goto (tgt := 182) hx hb e_M_objects_168 (by decide) ?_
      exact K_182 () ((64 : Int32) + z2) σ14 _ _ _ hw h (lv_sub hl [] rfl)
  have K_235 : ∀ (u9 : Unit), ∀ (σ : MST) (H : Heap) (locs : List Loc) (ls : Array Slot), w_M_objects_235 P σ → MH (dC, dI) A mo rf ca σ s H locs → lv_has ls 5 [(0, .ref mo)] → W p l e ({ frames := 4, cells := 0, slots := 0, locals := 89 } : Room) s m ([.ref mo, .int x1, .int x2] : List Value).toArray below meth cx H locs 0 0 Q (F0 m 235 ls []) := by
    intro u9  σ H locs ls hw h hl
    unfold w_M_objects_235 at hw
    refine lv_aload_n hx hb e_M_objects_235 rfl (lv_at hl 0 rfl) ?_
    refine lv_iconst (v := 1) hx hb e_M_objects_236 (by decide) ?_
    refine M_callv (As := [.int 1]) (rest := []) C h hA (K_M_push l dC dI mo rf ca H.size σ (1 : Int32) hw) (cwV 1 hts (gV hsub v_121 v_122 v_123 v_7 v_124) rfl rfl rfl (by decide +kernel) ⟨(Nat.le_of_ble_eq_true rfl), (Nat.le_of_ble_eq_true rfl)⟩) rfl hl.1 (Nat.le_of_ble_eq_true rfl) e_M_objects_237 ⟨(Nat.le_of_ble_eq_true rfl), (Nat.le_of_ble_eq_true rfl)⟩ (fun σ18 H locs hw h => ?_)
    refine W.eq (g2 := F0 m 240 ls []) rfl ?_
    refine lv_goto (tgt := 319) hx hb e_M_objects_240 (by decide) ?_
    exact hend σ18 _ _ _ _ hw h e_M_objects_319
  have K_286 : ∀ (u9 : Unit), ∀ (σ : MST) (H : Heap) (locs : List Loc) (ls : Array Slot), w_M_objects_286 P σ → MH (dC, dI) A mo rf ca σ s H locs → lv_has ls 5 [(0, .ref mo)] → W p l e ({ frames := 4, cells := 0, slots := 0, locals := 89 } : Room) s m ([.ref mo, .int x1, .int x2] : List Value).toArray below meth cx H locs 0 0 Q (F0 m 286 ls []) := by
    intro u9  σ H locs ls hw h hl
    unfold w_M_objects_286 at hw
    refine lv_aload_n hx hb e_M_objects_286 rfl (lv_at hl 0 rfl) ?_
    refine lv_bipush (v := 6) hx hb e_M_objects_287 (by decide) ?_
    refine M_callv (As := [.int 6]) (rest := []) C h hA (K_M_miss l dC dI mo rf ca H.size σ (6 : Int32) hw) (cwV 1 hts (gV hsub v_100 v_101 v_102 v_7 v_103) rfl rfl rfl (by decide +kernel) ⟨(Nat.le_of_ble_eq_true rfl), (Nat.le_of_ble_eq_true rfl)⟩) rfl hl.1 (Nat.le_of_ble_eq_true rfl) e_M_objects_289 ⟨(Nat.le_of_ble_eq_true rfl), (Nat.le_of_ble_eq_true rfl)⟩ (fun σ20 H locs hw h => ?_)
    refine W.eq (g2 := F0 m 292 ls []) rfl ?_
    refine lv_goto (tgt := 319) hx hb e_M_objects_292 (by decide) ?_
    exact hend σ20 _ _ _ _ hw h e_M_objects_319
  have K_316 : ∀ (u9 : Unit), ∀ (s0 : Int32) (σ : MST) (H : Heap) (locs : List Loc) (ls : Array Slot), w_M_objects_316 P s0 σ → MH (dC, dI) A mo rf ca σ s H locs → lv_has ls 5 [] → W p l e ({ frames := 4, cells := 0, slots := 0, locals := 89 } : Room) s m ([.ref mo, .int x1, .int x2] : List Value).toArray below meth cx H locs 0 0 Q (F0 m 316 ls [.int s0, .ref mo]) := by
    intro u9 s0 σ H locs ls hw h hl
    unfold w_M_objects_316 at hw
    refine M_callv (As := [.int s0]) (rest := []) C h hA (K_M_push l dC dI mo rf ca H.size σ s0 hw) (cwV 1 hts (gV hsub v_121 v_122 v_123 v_7 v_124) rfl rfl rfl (by decide +kernel) ⟨(Nat.le_of_ble_eq_true rfl), (Nat.le_of_ble_eq_true rfl)⟩) rfl hl.1 (Nat.le_of_ble_eq_true rfl) e_M_objects_316 ⟨(Nat.le_of_ble_eq_true rfl), (Nat.le_of_ble_eq_true rfl)⟩ (fun σ22 H locs hw h => ?_)
    refine W.eq (g2 := F0 m 319 ls []) rfl ?_
    exact hend σ22 _ _ _ _ hw h e_M_objects_319
  have hl : lv_has ls 5 [(0, .ref mo), (1, .int x1), (2, .int x2)] := hl
  unfold w_M_objects at hw
  refine lv_iload_n hx hb e_M_objects_0 rfl (lv_at hl 1 rfl) ?_
  refine lv_sipush (v := 187) hx hb e_M_objects_1 (by decide) ?_
  refine lv_icmp_ne (tgt := 44) hx hb e_M_objects_4 (by decide) (fun c24 => ?_) (fun c24 => ?_)
  · skip
    replace hw := hw.2 c24
    refine lv_iload_n hx hb e_M_objects_44 rfl (lv_at hl 1 rfl) ?_
    refine lv_sipush (v := 183) hx hb e_M_objects_45 (by decide) ?_
    refine lv_icmp_ne (tgt := 137) hx hb e_M_objects_48 (by decide) (fun c25 => ?_) (fun c25 => ?_)
    · skip
      replace hw := hw.2 c25
      refine lv_iload_n hx hb e_M_objects_137 rfl (lv_at hl 1 rfl) ?_
      refine lv_sipush (v := 188) hx hb e_M_objects_138 (by decide) ?_
      refine lv_icmp_eq (tgt := 151) hx hb e_M_objects_141 (by decide) (fun c26 => ?_) (fun c26 => ?_)
      · skip
        replace hw := hw.1 c26
        exact K_151 () x1 x2 σ _ _ _ hw h (lv_sub hl [0, 1, 2] rfl)
      · skip
        replace hw := hw.2 c26
        refine lv_iload_n hx hb e_M_objects_144 rfl (lv_at hl 1 rfl) ?_
        refine lv_sipush (v := 189) hx hb e_M_objects_145 (by decide) ?_
        refine lv_icmp_ne (tgt := 188) hx hb e_M_objects_148 (by decide) (fun c27 => ?_) (fun c27 => ?_)
        · skip
          replace hw := hw.2 c27
          refine lv_iload_n hx hb e_M_objects_188 rfl (lv_at hl 1 rfl) ?_
          refine lv_sipush (v := 190) hx hb e_M_objects_189 (by decide) ?_
          refine lv_icmp_ne (tgt := 243) hx hb e_M_objects_192 (by decide) (fun c28 => ?_) (fun c28 => ?_)
          · skip
            replace hw := hw.2 c28
            refine lv_iload_n hx hb e_M_objects_243 rfl (lv_at hl 1 rfl) ?_
            refine lv_sipush (v := 191) hx hb e_M_objects_244 (by decide) ?_
            refine lv_icmp_ne (tgt := 295) hx hb e_M_objects_247 (by decide) (fun c29 => ?_) (fun c29 => ?_)
            · skip
              replace hw := hw.2 c29
              refine lv_aload_n hx hb e_M_objects_295 rfl (lv_at hl 0 rfl) ?_
              refine M_calli (As := []) (rest := []) C h hA (K_M_popReference l dC dI mo rf ca s.heap.size σ hw) (cwV 0 hts (gV hsub v_137 v_138 v_139 v_7 v_140) rfl rfl rfl (by decide +kernel) ⟨(Nat.le_of_ble_eq_true rfl), (Nat.le_of_ble_eq_true rfl)⟩) rfl hl.1 (Nat.le_of_ble_eq_true rfl) e_M_objects_296 ⟨(Nat.le_of_ble_eq_true rfl), (Nat.le_of_ble_eq_true rfl)⟩ (fun r31 σ30 H locs hw h => ?_)
              refine W.eq (g2 := F0 m 299 ls [.int r31]) rfl ?_
              refine lv_istore_n (lv' := [(3, .int r31), (0, .ref mo), (1, .int x1), (2, .int x2)]) hx hb e_M_objects_299 rfl hl (by decide) rfl (fun ls hl => ?_)
              refine lv_aload_n hx hb e_M_objects_300 rfl (lv_at hl 1 rfl) ?_
              refine lv_iload_n hx hb e_M_objects_301 rfl (lv_at hl 2 rfl) ?_
              refine lv_sipush (v := 192) hx hb e_M_objects_302 (by decide) ?_
              refine lv_icmp_ne (tgt := 315) hx hb e_M_objects_305 (by decide) (fun c32 => ?_) (fun c32 => ?_)
              · skip
                replace hw := hw.2 c32
                refine lv_iconst (v := 1) hx hb e_M_objects_315 (by decide) ?_
                exact K_316 () 1 σ30 _ _ _ hw h (lv_sub hl [] rfl)
              · skip
                replace hw := hw.1 c32
                refine lv_bipush (v := 32) hx hb e_M_objects_308 (by decide) ?_
                refine lv_iload_n hx hb e_M_objects_310 rfl (lv_at hl 3 rfl) ?_
                refine lv_iadd hx hb e_M_objects_311 ?_
                refine lv_goto (tgt := 316) hx hb e_M_objects_312 (by decide) ?_
                exact K_316 () ((32 : Int32) + x2) σ30 _ _ _ hw h (lv_sub hl [] rfl)
            · skip
              replace hw := hw.1 c29
              refine lv_aload_n hx hb e_M_objects_250 rfl (lv_at hl 0 rfl) ?_
              refine M_calli (As := []) (rest := []) C h hA (K_M_pop l dC dI mo rf ca s.heap.size σ hw) (cwV 0 hts (gV hsub v_104 v_105 v_106 v_7 v_107) rfl rfl rfl (by decide +kernel) ⟨(Nat.le_of_ble_eq_true rfl), (Nat.le_of_ble_eq_true rfl)⟩) rfl hl.1 (Nat.le_of_ble_eq_true rfl) e_M_objects_251 ⟨(Nat.le_of_ble_eq_true rfl), (Nat.le_of_ble_eq_true rfl)⟩ (fun r34 σ33 H locs hw h => ?_)
              refine W.eq (g2 := F0 m 254 ls [.int r34]) rfl ?_
              refine lv_istore_n (lv' := [(3, .int r34), (0, .ref mo), (1, .int x1), (2, .int x2)]) hx hb e_M_objects_254 rfl hl (by decide) rfl (fun ls hl => ?_)
              refine lv_aload_n hx hb e_M_objects_255 rfl (lv_at hl 1 rfl) ?_
              refine M_get C h 35 (v := .int (σ33.1 35)) rfl (by decide) v_73 e_M_objects_256 ?_
              refine lv_if_ne (tgt := 292) hx hb e_M_objects_259 (by decide) (fun c35 => ?_) (fun c35 => ?_)
              · skip
                replace hw := hw.2 c35
                refine lv_goto (tgt := 319) hx hb e_M_objects_292 (by decide) ?_
                exact hend σ33 _ _ _ _ hw h e_M_objects_319
              · skip
                replace hw := hw.1 c35
                refine lv_iload_n hx hb e_M_objects_262 rfl (lv_at hl 0 rfl) ?_
                refine lv_iconst (v := 5) hx hb e_M_objects_263 (by decide) ?_
                refine lv_icmp_eq (tgt := 292) hx hb e_M_objects_264 (by decide) (fun c36 => ?_) (fun c36 => ?_)
                · skip
                  replace hw := hw.1 c36
                  refine lv_goto (tgt := 319) hx hb e_M_objects_292 (by decide) ?_
                  exact hend σ33 _ _ _ _ hw h e_M_objects_319
                · skip
                  replace hw := hw.2 c36
                  refine lv_iload_n hx hb e_M_objects_267 rfl (lv_at hl 0 rfl) ?_
                  refine M_scalli (As := [.int r34]) (rest := []) C h hA (K_M_isObject l dC dI mo rf ca H.size σ33 r34 hw) (va_cwS 1 hts (gS hsub v_16 v_17 v_7 v_18) rfl rfl rfl (by decide +kernel) ⟨(Nat.le_of_ble_eq_true rfl), (Nat.le_of_ble_eq_true rfl)⟩) rfl hl.1 (Nat.le_of_ble_eq_true rfl) e_M_objects_268 ⟨(Nat.le_of_ble_eq_true rfl), (Nat.le_of_ble_eq_true rfl)⟩ (fun r38 σ37 H locs hw h => ?_)
                  refine W.eq (g2 := F0 m 271 ls [.int r38]) rfl ?_
                  refine lv_if_eq (tgt := 286) hx hb e_M_objects_271 (by decide) (fun c39 => ?_) (fun c39 => ?_)
                  · skip
                    replace hw := hw.1 c39
                    exact K_286 () σ37 _ _ _ hw h (lv_sub hl [1] rfl)
                  · skip
                    replace hw := hw.2 c39
                    refine lv_aload_n hx hb e_M_objects_274 rfl (lv_at hl 1 rfl) ?_
                    refine lv_iload_n hx hb e_M_objects_275 rfl (lv_at hl 0 rfl) ?_
                    refine lv_bipush (v := 32) hx hb e_M_objects_276 (by decide) ?_
                    refine lv_isub hx hb e_M_objects_278 ?_
                    refine lv_iconst (v := 1) hx hb e_M_objects_279 (by decide) ?_
                    refine M_calli (As := [.int (r34 - 32), .int 1]) (rest := []) C h hA (K_M_subs l dC dI mo rf ca H.size σ37 (r34 - 32) (1 : Int32) hw) (cwV 2 hts (gV hsub v_4 v_5 v_6 v_7 v_8) rfl rfl rfl (by decide +kernel) ⟨(Nat.le_of_ble_eq_true rfl), (Nat.le_of_ble_eq_true rfl)⟩) rfl hl.1 (Nat.le_of_ble_eq_true rfl) e_M_objects_280 ⟨(Nat.le_of_ble_eq_true rfl), (Nat.le_of_ble_eq_true rfl)⟩ (fun r41 σ40 H locs hw h => ?_)
                    refine W.eq (g2 := F0 m 283 ls [.int r41]) rfl ?_
                    refine lv_if_ne (tgt := 292) hx hb e_M_objects_283 (by decide) (fun c42 => ?_) (fun c42 => ?_)
                    · skip
                      replace hw := hw.2 c42
                      refine lv_goto (tgt := 319) hx hb e_M_objects_292 (by decide) ?_
                      exact hend σ40 _ _ _ _ hw h e_M_objects_319
                    · skip
                      replace hw := hw.1 c42
                      exact K_286 () σ40 _ _ _ hw h (lv_sub hl [1] rfl)
          · skip
            replace hw := hw.1 c28
            refine lv_aload_n hx hb e_M_objects_195 rfl (lv_at hl 0 rfl) ?_
            refine M_calli (As := []) (rest := []) C h hA (K_M_pop l dC dI mo rf ca s.heap.size σ hw) (cwV 0 hts (gV hsub v_104 v_105 v_106 v_7 v_107) rfl rfl rfl (by decide +kernel) ⟨(Nat.le_of_ble_eq_true rfl), (Nat.le_of_ble_eq_true rfl)⟩) rfl hl.1 (Nat.le_of_ble_eq_true rfl) e_M_objects_196 ⟨(Nat.le_of_ble_eq_true rfl), (Nat.le_of_ble_eq_true rfl)⟩ (fun r44 σ43 H locs hw h => ?_)
            refine W.eq (g2 := F0 m 199 ls [.int r44]) rfl ?_
            refine lv_istore_n (lv' := [(3, .int r44), (0, .ref mo), (1, .int x1), (2, .int x2)]) hx hb e_M_objects_199 rfl hl (by decide) rfl (fun ls hl => ?_)
            refine lv_aload_n hx hb e_M_objects_200 rfl (lv_at hl 1 rfl) ?_
            refine M_get C h 35 (v := .int (σ43.1 35)) rfl (by decide) v_73 e_M_objects_201 ?_
            refine lv_if_ne (tgt := 235) hx hb e_M_objects_204 (by decide) (fun c45 => ?_) (fun c45 => ?_)
            · skip
              replace hw := hw.2 c45
              exact K_235 () σ43 _ _ _ hw h (lv_sub hl [1] rfl)
            · skip
              replace hw := hw.1 c45
              refine lv_iload_n hx hb e_M_objects_207 rfl (lv_at hl 0 rfl) ?_
              refine lv_iconst (v := 5) hx hb e_M_objects_208 (by decide) ?_
              refine lv_icmp_eq (tgt := 235) hx hb e_M_objects_209 (by decide) (fun c46 => ?_) (fun c46 => ?_)
              · skip
                replace hw := hw.1 c46
                exact K_235 () σ43 _ _ _ hw h (lv_sub hl [1] rfl)
              · skip
                replace hw := hw.2 c46
                refine lv_iload_n hx hb e_M_objects_212 rfl (lv_at hl 0 rfl) ?_
                refine lv_iconst (v := 3) hx hb e_M_objects_213 (by decide) ?_
                refine lv_icmp_eq (tgt := 235) hx hb e_M_objects_214 (by decide) (fun c47 => ?_) (fun c47 => ?_)
                · skip
                  replace hw := hw.1 c47
                  exact K_235 () σ43 _ _ _ hw h (lv_sub hl [1] rfl)
                · skip
                  replace hw := hw.2 c47
                  refine lv_iload_n hx hb e_M_objects_217 rfl (lv_at hl 0 rfl) ?_
                  refine lv_iconst (v := 4) hx hb e_M_objects_218 (by decide) ?_
                  refine lv_icmp_eq (tgt := 235) hx hb e_M_objects_219 (by decide) (fun c48 => ?_) (fun c48 => ?_)
                  · skip
                    replace hw := hw.1 c48
                    exact K_235 () σ43 _ _ _ hw h (lv_sub hl [1] rfl)
                  · skip
                    replace hw := hw.2 c48
                    refine lv_iload_n hx hb e_M_objects_222 rfl (lv_at hl 0 rfl) ?_
                    refine M_scalli (As := [.int r44]) (rest := []) C h hA (K_M_isRow l dC dI mo rf ca H.size σ43 r44 hw) (va_cwS 1 hts (gS hsub v_9 v_10 v_7 v_11) rfl rfl rfl (by decide +kernel) ⟨(Nat.le_of_ble_eq_true rfl), (Nat.le_of_ble_eq_true rfl)⟩) rfl hl.1 (Nat.le_of_ble_eq_true rfl) e_M_objects_223 ⟨(Nat.le_of_ble_eq_true rfl), (Nat.le_of_ble_eq_true rfl)⟩ (fun r50 σ49 H locs hw h => ?_)
                    refine W.eq (g2 := F0 m 226 ls [.int r50]) rfl ?_
                    refine lv_if_ne (tgt := 235) hx hb e_M_objects_226 (by decide) (fun c51 => ?_) (fun c51 => ?_)
                    · skip
                      replace hw := hw.2 c51
                      exact K_235 () σ49 _ _ _ hw h (lv_sub hl [1] rfl)
                    · skip
                      replace hw := hw.1 c51
                      refine lv_aload_n hx hb e_M_objects_229 rfl (lv_at hl 1 rfl) ?_
                      refine lv_bipush (v := 6) hx hb e_M_objects_230 (by decide) ?_
                      refine M_callv (As := [.int 6]) (rest := []) C h hA (K_M_miss l dC dI mo rf ca H.size σ49 (6 : Int32) hw) (cwV 1 hts (gV hsub v_100 v_101 v_102 v_7 v_103) rfl rfl rfl (by decide +kernel) ⟨(Nat.le_of_ble_eq_true rfl), (Nat.le_of_ble_eq_true rfl)⟩) rfl hl.1 (Nat.le_of_ble_eq_true rfl) e_M_objects_232 ⟨(Nat.le_of_ble_eq_true rfl), (Nat.le_of_ble_eq_true rfl)⟩ (fun σ52 H locs hw h => ?_)
                      refine W.eq (g2 := F0 m 235 ls []) rfl ?_
                      exact K_235 () σ52 _ _ _ hw h (lv_sub hl [1] rfl)
        · skip
          replace hw := hw.1 c27
          exact K_151 () x1 x2 σ _ _ _ hw h (lv_sub hl [0, 1, 2] rfl)
    · skip
      replace hw := hw.1 c25
      refine lv_aload_n hx hb e_M_objects_51 rfl (lv_at hl 0 rfl) ?_
      refine M_calli (As := []) (rest := []) C h hA (K_M_pop l dC dI mo rf ca s.heap.size σ hw) (cwV 0 hts (gV hsub v_104 v_105 v_106 v_7 v_107) rfl rfl rfl (by decide +kernel) ⟨(Nat.le_of_ble_eq_true rfl), (Nat.le_of_ble_eq_true rfl)⟩) rfl hl.1 (Nat.le_of_ble_eq_true rfl) e_M_objects_52 ⟨(Nat.le_of_ble_eq_true rfl), (Nat.le_of_ble_eq_true rfl)⟩ (fun r55 σ54 H locs hw h => ?_)
      refine W.eq (g2 := F0 m 55 ls [.int r55]) rfl ?_
      refine lv_istore_n (lv' := [(3, .int r55), (0, .ref mo), (1, .int x1), (2, .int x2)]) hx hb e_M_objects_55 rfl hl (by decide) rfl (fun ls hl => ?_)
      refine lv_aload_n hx hb e_M_objects_56 rfl (lv_at hl 1 rfl) ?_
      refine M_get C h 35 (v := .int (σ54.1 35)) rfl (by decide) v_73 e_M_objects_57 ?_
      refine lv_if_ne (tgt := 108) hx hb e_M_objects_60 (by decide) (fun c56 => ?_) (fun c56 => ?_)
      · skip
        replace hw := hw.2 c56
        exact K_108 () x2 r55 σ54 _ _ _ hw h (lv_sub hl [1, 3, 0] rfl)
      · skip
        replace hw := hw.1 c56
        refine lv_iload_n hx hb e_M_objects_63 rfl (lv_at hl 0 rfl) ?_
        refine lv_sipush (v := 1000) hx hb e_M_objects_64 (by decide) ?_
        refine lv_icmp_lt (tgt := 102) hx hb e_M_objects_67 (by decide) (fun c57 => ?_) (fun c57 => ?_)
        · skip
          replace hw := hw.1 c57
          exact K_102 () x2 r55 σ54 _ _ _ hw h (lv_sub hl [1, 3, 0] rfl)
        · skip
          replace hw := hw.2 c57
          refine lv_aload_n hx hb e_M_objects_70 rfl (lv_at hl 1 rfl) ?_
          refine lv_aload_n hx hb e_M_objects_71 rfl (lv_at hl 1 rfl) ?_
          refine M_get C h 33 (v := .int (σ54.1 33)) rfl (by decide) v_116 e_M_objects_72 ?_
          refine lv_iload_n hx hb e_M_objects_75 rfl (lv_at hl 0 rfl) ?_
          refine lv_sipush (v := 1000) hx hb e_M_objects_76 (by decide) ?_
          refine lv_icmp_ge (tgt := 88) hx hb e_M_objects_79 (by decide) (fun c58 => ?_) (fun c58 => ?_)
          · skip
            replace hw := hw.1 c58
            refine lv_iload_n hx hb e_M_objects_88 rfl (lv_at hl 0 rfl) ?_
            exact K_89 () x2 r55 r55 (σ54.1 33) σ54 _ _ _ hw h (lv_sub hl [1, 3, 0] rfl)
          · skip
            replace hw := hw.2 c58
            refine lv_sipush (v := 1000) hx hb e_M_objects_82 (by decide) ?_
            refine lv_goto (tgt := 89) hx hb e_M_objects_85 (by decide) ?_
            exact K_89 () x2 r55 1000 (σ54.1 33) σ54 _ _ _ hw h (lv_sub hl [1, 3, 0] rfl)
  · skip
    replace hw := hw.1 c24
    refine lv_aload_n hx hb e_M_objects_7 rfl (lv_at hl 0 rfl) ?_
    refine lv_sipush (v := 1000) hx hb e_M_objects_8 (by decide) ?_
    refine lv_aload_n hx hb e_M_objects_11 rfl (lv_at hl 0 rfl) ?_
    refine M_get C h 34 (v := .int (σ.1 34)) rfl (by decide) v_145 e_M_objects_12 ?_
    refine lv_iadd hx hb e_M_objects_15 ?_
    refine lv_iconst (v := 0) hx hb e_M_objects_16 (by decide) ?_
    refine M_calli (As := [.int ((1000 : Int32) + (σ.1 34)), .int 0]) (rest := []) C h hA (K_M_turn l dC dI mo rf ca s.heap.size σ ((1000 : Int32) + (σ.1 34)) (0 : Int32) hw) (cwV 2 hts (gV hsub v_146 v_147 v_148 v_7 v_149) rfl rfl rfl (by decide +kernel) ⟨(Nat.le_of_ble_eq_true rfl), (Nat.le_of_ble_eq_true rfl)⟩) rfl hl.1 (Nat.le_of_ble_eq_true rfl) e_M_objects_17 ⟨(Nat.le_of_ble_eq_true rfl), (Nat.le_of_ble_eq_true rfl)⟩ (fun r60 σ59 H locs hw h => ?_)
    refine W.eq (g2 := F0 m 20 ls [.int r60]) rfl ?_
    refine lv_if_eq (tgt := 29) hx hb e_M_objects_20 (by decide) (fun c61 => ?_) (fun c61 => ?_)
    · skip
      replace hw := hw.1 c61
      exact K_29 () σ59 _ _ _ hw h (lv_sub hl [0] rfl)
    · skip
      replace hw := hw.2 c61
      refine lv_aload_n hx hb e_M_objects_23 rfl (lv_at hl 0 rfl) ?_
      refine lv_bipush (v := 6) hx hb e_M_objects_24 (by decide) ?_
      refine M_callv (As := [.int 6]) (rest := []) C h hA (K_M_miss l dC dI mo rf ca H.size σ59 (6 : Int32) hw) (cwV 1 hts (gV hsub v_100 v_101 v_102 v_7 v_103) rfl rfl rfl (by decide +kernel) ⟨(Nat.le_of_ble_eq_true rfl), (Nat.le_of_ble_eq_true rfl)⟩) rfl hl.1 (Nat.le_of_ble_eq_true rfl) e_M_objects_26 ⟨(Nat.le_of_ble_eq_true rfl), (Nat.le_of_ble_eq_true rfl)⟩ (fun σ62 H locs hw h => ?_)
      refine W.eq (g2 := F0 m 29 ls []) rfl ?_
      exact K_29 () σ62 _ _ _ hw h (lv_sub hl [0] rfl)
abbrev z_M_simulate : MethodName := ⟨"MapFramerModel", "simulate", "(II)V"⟩
theorem v_150 : (Cond.methodLink "MapFramerModel" 303 ⟨"MapFramerModel", "arrays", "(I)V"⟩ : Cond) ∈ bigW := inB_9 187 (by decide +kernel) rfl
theorem v_151 : (Cond.instanceMethod ⟨"MapFramerModel", "arrays", "(I)V"⟩ : Cond) ∈ bigW := inB_9 189 (by decide +kernel) rfl
theorem v_152 : (Cond.selects "MapFramerModel" ⟨"MapFramerModel", "arrays", "(I)V"⟩ ⟨"MapFramerModel", "arrays", "(I)V"⟩ : Cond) ∈ bigW := inS (y := ⟨"MapFramerModel", "arrays", "(I)V"⟩) (n := 71) (List.mem_of_getElem? (i := 103) (by decide +kernel))
theorem v_153 : (Cond.code ⟨"MapFramerModel", "arrays", "(I)V"⟩ prog_14_method_44_code 4 none : Cond) ∈ bigW := inB_9 190 rfl rfl
theorem v_154 : (Cond.methodLink "MapFramerModel" 324 ⟨"MapFramerModel", "objects", "(II)V"⟩ : Cond) ∈ bigW := inB_9 239 (by decide +kernel) rfl
theorem v_155 : (Cond.instanceMethod ⟨"MapFramerModel", "objects", "(II)V"⟩ : Cond) ∈ bigW := inB_10 1 (by decide +kernel) rfl
theorem v_156 : (Cond.selects "MapFramerModel" ⟨"MapFramerModel", "objects", "(II)V"⟩ ⟨"MapFramerModel", "objects", "(II)V"⟩ : Cond) ∈ bigW := inS (y := ⟨"MapFramerModel", "objects", "(II)V"⟩) (n := 71) (List.mem_of_getElem? (i := 116) (by decide +kernel))
theorem v_157 : (Cond.code ⟨"MapFramerModel", "objects", "(II)V"⟩ prog_14_method_52_code 5 none : Cond) ∈ bigW := inB_10 2 rfl rfl
theorem v_158 : (Cond.methodLink "MapFramerModel" 321 ⟨"MapFramerModel", "call", "(I)V"⟩ : Cond) ∈ bigW := inB_9 235 (by decide +kernel) rfl
theorem v_159 : (Cond.instanceMethod ⟨"MapFramerModel", "call", "(I)V"⟩ : Cond) ∈ bigW := inB_9 237 (by decide +kernel) rfl
theorem v_160 : (Cond.selects "MapFramerModel" ⟨"MapFramerModel", "call", "(I)V"⟩ ⟨"MapFramerModel", "call", "(I)V"⟩ : Cond) ∈ bigW := inS (y := ⟨"MapFramerModel", "call", "(I)V"⟩) (n := 71) (List.mem_of_getElem? (i := 115) (by decide +kernel))
theorem v_161 : (Cond.code ⟨"MapFramerModel", "call", "(I)V"⟩ prog_14_method_50_code 3 none : Cond) ∈ bigW := inB_9 238 rfl rfl
theorem v_162 : (Cond.methodLink "MapFramerModel" 318 ⟨"MapFramerModel", "fieldOf", "(II)V"⟩ : Cond) ∈ bigW := inB_9 231 (by decide +kernel) rfl
theorem v_163 : (Cond.instanceMethod ⟨"MapFramerModel", "fieldOf", "(II)V"⟩ : Cond) ∈ bigW := inB_9 233 (by decide +kernel) rfl
theorem v_164 : (Cond.selects "MapFramerModel" ⟨"MapFramerModel", "fieldOf", "(II)V"⟩ ⟨"MapFramerModel", "fieldOf", "(II)V"⟩ : Cond) ∈ bigW := inS (y := ⟨"MapFramerModel", "fieldOf", "(II)V"⟩) (n := 71) (List.mem_of_getElem? (i := 114) (by decide +kernel))
theorem v_165 : (Cond.code ⟨"MapFramerModel", "fieldOf", "(II)V"⟩ prog_14_method_49_code 3 none : Cond) ∈ bigW := inB_9 234 rfl rfl
theorem v_166 : (Cond.methodLink "MapFramerModel" 315 ⟨"MapFramerModel", "leave", "(I)V"⟩ : Cond) ∈ bigW := inB_9 227 (by decide +kernel) rfl
theorem v_167 : (Cond.instanceMethod ⟨"MapFramerModel", "leave", "(I)V"⟩ : Cond) ∈ bigW := inB_9 229 (by decide +kernel) rfl
theorem v_168 : (Cond.selects "MapFramerModel" ⟨"MapFramerModel", "leave", "(I)V"⟩ ⟨"MapFramerModel", "leave", "(I)V"⟩ : Cond) ∈ bigW := inS (y := ⟨"MapFramerModel", "leave", "(I)V"⟩) (n := 71) (List.mem_of_getElem? (i := 113) (by decide +kernel))
theorem v_169 : (Cond.code ⟨"MapFramerModel", "leave", "(I)V"⟩ prog_14_method_48_code 4 none : Cond) ∈ bigW := inB_9 230 rfl rfl
theorem v_170 : (Cond.methodLink "MapFramerModel" 312 ⟨"MapFramerModel", "test", "(I)V"⟩ : Cond) ∈ bigW := inB_9 223 (by decide +kernel) rfl
theorem v_171 : (Cond.instanceMethod ⟨"MapFramerModel", "test", "(I)V"⟩ : Cond) ∈ bigW := inB_9 225 (by decide +kernel) rfl
theorem v_172 : (Cond.selects "MapFramerModel" ⟨"MapFramerModel", "test", "(I)V"⟩ ⟨"MapFramerModel", "test", "(I)V"⟩ : Cond) ∈ bigW := inS (y := ⟨"MapFramerModel", "test", "(I)V"⟩) (n := 71) (List.mem_of_getElem? (i := 112) (by decide +kernel))
theorem v_173 : (Cond.code ⟨"MapFramerModel", "test", "(I)V"⟩ prog_14_method_47_code 5 none : Cond) ∈ bigW := inB_9 226 rfl rfl
theorem v_174 : (Cond.methodLink "MapFramerModel" 309 ⟨"MapFramerModel", "reckon", "(I)V"⟩ : Cond) ∈ bigW := inB_9 219 (by decide +kernel) rfl
theorem v_175 : (Cond.instanceMethod ⟨"MapFramerModel", "reckon", "(I)V"⟩ : Cond) ∈ bigW := inB_9 221 (by decide +kernel) rfl
theorem v_176 : (Cond.selects "MapFramerModel" ⟨"MapFramerModel", "reckon", "(I)V"⟩ ⟨"MapFramerModel", "reckon", "(I)V"⟩ : Cond) ∈ bigW := inS (y := ⟨"MapFramerModel", "reckon", "(I)V"⟩) (n := 71) (List.mem_of_getElem? (i := 111) (by decide +kernel))
theorem v_177 : (Cond.code ⟨"MapFramerModel", "reckon", "(I)V"⟩ prog_14_method_46_code 3 none : Cond) ∈ bigW := inB_9 222 rfl rfl
theorem v_178 : (Cond.methodLink "MapFramerModel" 306 ⟨"MapFramerModel", "shuffle", "(I)V"⟩ : Cond) ∈ bigW := inB_9 211 (by decide +kernel) rfl
theorem v_179 : (Cond.instanceMethod ⟨"MapFramerModel", "shuffle", "(I)V"⟩ : Cond) ∈ bigW := inB_9 213 (by decide +kernel) rfl
theorem v_180 : (Cond.selects "MapFramerModel" ⟨"MapFramerModel", "shuffle", "(I)V"⟩ ⟨"MapFramerModel", "shuffle", "(I)V"⟩ : Cond) ∈ bigW := inS (y := ⟨"MapFramerModel", "shuffle", "(I)V"⟩) (n := 71) (List.mem_of_getElem? (i := 109) (by decide +kernel))
theorem v_181 : (Cond.code ⟨"MapFramerModel", "shuffle", "(I)V"⟩ prog_14_method_45_code 4 none : Cond) ∈ bigW := inB_9 214 rfl rfl
theorem v_182 : (Cond.methodLink "MapFramerModel" 300 ⟨"MapFramerModel", "store", "(II)V"⟩ : Cond) ∈ bigW := inB_9 175 (by decide +kernel) rfl
theorem v_183 : (Cond.instanceMethod ⟨"MapFramerModel", "store", "(II)V"⟩ : Cond) ∈ bigW := inB_9 177 (by decide +kernel) rfl
theorem v_184 : (Cond.selects "MapFramerModel" ⟨"MapFramerModel", "store", "(II)V"⟩ ⟨"MapFramerModel", "store", "(II)V"⟩ : Cond) ∈ bigW := inS (y := ⟨"MapFramerModel", "store", "(II)V"⟩) (n := 71) (List.mem_of_getElem? (i := 100) (by decide +kernel))
theorem v_185 : (Cond.code ⟨"MapFramerModel", "store", "(II)V"⟩ prog_14_method_42_code 5 none : Cond) ∈ bigW := inB_9 178 rfl rfl
theorem v_186 : (Cond.methodLink "MapFramerModel" 297 ⟨"MapFramerModel", "load", "(II)V"⟩ : Cond) ∈ bigW := inB_9 168 (by decide +kernel) rfl
theorem v_187 : (Cond.instanceMethod ⟨"MapFramerModel", "load", "(II)V"⟩ : Cond) ∈ bigW := inB_9 170 (by decide +kernel) rfl
theorem v_188 : (Cond.selects "MapFramerModel" ⟨"MapFramerModel", "load", "(II)V"⟩ ⟨"MapFramerModel", "load", "(II)V"⟩ : Cond) ∈ bigW := inS (y := ⟨"MapFramerModel", "load", "(II)V"⟩) (n := 71) (List.mem_of_getElem? (i := 99) (by decide +kernel))
theorem v_189 : (Cond.code ⟨"MapFramerModel", "load", "(II)V"⟩ prog_14_method_41_code 5 none : Cond) ∈ bigW := inB_9 171 rfl rfl
theorem e_M_simulate_0 : decode prog_14_method_53_code 0 = .ok (.iload_n 1, 1) := by decide +kernel
theorem e_M_simulate_1 : decode prog_14_method_53_code 1 = .ok (.iconst 1, 1) := by decide +kernel
theorem e_M_simulate_2 : decode prog_14_method_53_code 2 = .ok (.if_icmp .ne 11, 3) := by decide +kernel
theorem e_M_simulate_5 : decode prog_14_method_53_code 5 = .ok (.aload_n 0, 1) := by decide +kernel
theorem e_M_simulate_6 : decode prog_14_method_53_code 6 = .ok (.iconst 5, 1) := by decide +kernel
theorem e_M_simulate_7 : decode prog_14_method_53_code 7 = .ok (.invokevirtual 272, 3) := by decide +kernel
theorem e_M_simulate_10 : decode prog_14_method_53_code 10 = .ok (.goto 245, 3) := by decide +kernel
theorem e_M_simulate_13 : decode prog_14_method_53_code 13 = .ok (.iload_n 1, 1) := by decide +kernel
theorem e_M_simulate_14 : decode prog_14_method_53_code 14 = .ok (.iconst 2, 1) := by decide +kernel
theorem e_M_simulate_15 : decode prog_14_method_53_code 15 = .ok (.bipush 8, 2) := by decide +kernel
theorem e_M_simulate_17 : decode prog_14_method_53_code 17 = .ok (.invokestatic 218, 3) := by decide +kernel
theorem e_M_simulate_20 : decode prog_14_method_53_code 20 = .ok (.ifCond .ne 15, 3) := by decide +kernel
theorem e_M_simulate_23 : decode prog_14_method_53_code 23 = .ok (.iload_n 1, 1) := by decide +kernel
theorem e_M_simulate_24 : decode prog_14_method_53_code 24 = .ok (.bipush 16, 2) := by decide +kernel
theorem e_M_simulate_26 : decode prog_14_method_53_code 26 = .ok (.if_icmp .eq 9, 3) := by decide +kernel
theorem e_M_simulate_29 : decode prog_14_method_53_code 29 = .ok (.iload_n 1, 1) := by decide +kernel
theorem e_M_simulate_30 : decode prog_14_method_53_code 30 = .ok (.bipush 17, 2) := by decide +kernel
theorem e_M_simulate_32 : decode prog_14_method_53_code 32 = .ok (.if_icmp .ne 11, 3) := by decide +kernel
theorem e_M_simulate_35 : decode prog_14_method_53_code 35 = .ok (.aload_n 0, 1) := by decide +kernel
theorem e_M_simulate_36 : decode prog_14_method_53_code 36 = .ok (.iconst 1, 1) := by decide +kernel
theorem e_M_simulate_37 : decode prog_14_method_53_code 37 = .ok (.invokevirtual 272, 3) := by decide +kernel
theorem e_M_simulate_40 : decode prog_14_method_53_code 40 = .ok (.goto 215, 3) := by decide +kernel
theorem e_M_simulate_43 : decode prog_14_method_53_code 43 = .ok (.iload_n 1, 1) := by decide +kernel
theorem e_M_simulate_44 : decode prog_14_method_53_code 44 = .ok (.bipush 9, 2) := by decide +kernel
theorem e_M_simulate_46 : decode prog_14_method_53_code 46 = .ok (.if_icmp .eq 9, 3) := by decide +kernel
theorem e_M_simulate_49 : decode prog_14_method_53_code 49 = .ok (.iload_n 1, 1) := by decide +kernel
theorem e_M_simulate_50 : decode prog_14_method_53_code 50 = .ok (.bipush 10, 2) := by decide +kernel
theorem e_M_simulate_52 : decode prog_14_method_53_code 52 = .ok (.if_icmp .ne 11, 3) := by decide +kernel
theorem e_M_simulate_55 : decode prog_14_method_53_code 55 = .ok (.aload_n 0, 1) := by decide +kernel
theorem e_M_simulate_56 : decode prog_14_method_53_code 56 = .ok (.iconst 2, 1) := by decide +kernel
theorem e_M_simulate_57 : decode prog_14_method_53_code 57 = .ok (.invokevirtual 272, 3) := by decide +kernel
theorem e_M_simulate_60 : decode prog_14_method_53_code 60 = .ok (.goto 195, 3) := by decide +kernel
theorem e_M_simulate_63 : decode prog_14_method_53_code 63 = .ok (.iload_n 1, 1) := by decide +kernel
theorem e_M_simulate_64 : decode prog_14_method_53_code 64 = .ok (.bipush 21, 2) := by decide +kernel
theorem e_M_simulate_66 : decode prog_14_method_53_code 66 = .ok (.bipush 25, 2) := by decide +kernel
theorem e_M_simulate_68 : decode prog_14_method_53_code 68 = .ok (.invokestatic 218, 3) := by decide +kernel
theorem e_M_simulate_71 : decode prog_14_method_53_code 71 = .ok (.ifCond .eq 12, 3) := by decide +kernel
theorem e_M_simulate_74 : decode prog_14_method_53_code 74 = .ok (.aload_n 0, 1) := by decide +kernel
theorem e_M_simulate_75 : decode prog_14_method_53_code 75 = .ok (.iload_n 1, 1) := by decide +kernel
theorem e_M_simulate_76 : decode prog_14_method_53_code 76 = .ok (.iload_n 2, 1) := by decide +kernel
theorem e_M_simulate_77 : decode prog_14_method_53_code 77 = .ok (.invokevirtual 297, 3) := by decide +kernel
theorem e_M_simulate_80 : decode prog_14_method_53_code 80 = .ok (.goto 175, 3) := by decide +kernel
theorem e_M_simulate_83 : decode prog_14_method_53_code 83 = .ok (.iload_n 1, 1) := by decide +kernel
theorem e_M_simulate_84 : decode prog_14_method_53_code 84 = .ok (.bipush 54, 2) := by decide +kernel
theorem e_M_simulate_86 : decode prog_14_method_53_code 86 = .ok (.bipush 58, 2) := by decide +kernel
theorem e_M_simulate_88 : decode prog_14_method_53_code 88 = .ok (.invokestatic 218, 3) := by decide +kernel
theorem e_M_simulate_91 : decode prog_14_method_53_code 91 = .ok (.ifCond .eq 12, 3) := by decide +kernel
theorem e_M_simulate_94 : decode prog_14_method_53_code 94 = .ok (.aload_n 0, 1) := by decide +kernel
theorem e_M_simulate_95 : decode prog_14_method_53_code 95 = .ok (.iload_n 1, 1) := by decide +kernel
theorem e_M_simulate_96 : decode prog_14_method_53_code 96 = .ok (.iload_n 2, 1) := by decide +kernel
theorem e_M_simulate_97 : decode prog_14_method_53_code 97 = .ok (.invokevirtual 300, 3) := by decide +kernel
theorem e_M_simulate_100 : decode prog_14_method_53_code 100 = .ok (.goto 155, 3) := by decide +kernel
theorem e_M_simulate_103 : decode prog_14_method_53_code 103 = .ok (.iload_n 1, 1) := by decide +kernel
theorem e_M_simulate_104 : decode prog_14_method_53_code 104 = .ok (.bipush 46, 2) := by decide +kernel
theorem e_M_simulate_106 : decode prog_14_method_53_code 106 = .ok (.bipush 50, 2) := by decide +kernel
theorem e_M_simulate_108 : decode prog_14_method_53_code 108 = .ok (.invokestatic 218, 3) := by decide +kernel
theorem e_M_simulate_111 : decode prog_14_method_53_code 111 = .ok (.ifCond .ne 14, 3) := by decide +kernel
theorem e_M_simulate_114 : decode prog_14_method_53_code 114 = .ok (.iload_n 1, 1) := by decide +kernel
theorem e_M_simulate_115 : decode prog_14_method_53_code 115 = .ok (.bipush 79, 2) := by decide +kernel
theorem e_M_simulate_117 : decode prog_14_method_53_code 117 = .ok (.bipush 83, 2) := by decide +kernel
theorem e_M_simulate_119 : decode prog_14_method_53_code 119 = .ok (.invokestatic 218, 3) := by decide +kernel
theorem e_M_simulate_122 : decode prog_14_method_53_code 122 = .ok (.ifCond .eq 11, 3) := by decide +kernel
theorem e_M_simulate_125 : decode prog_14_method_53_code 125 = .ok (.aload_n 0, 1) := by decide +kernel
theorem e_M_simulate_126 : decode prog_14_method_53_code 126 = .ok (.iload_n 1, 1) := by decide +kernel
theorem e_M_simulate_127 : decode prog_14_method_53_code 127 = .ok (.invokevirtual 303, 3) := by decide +kernel
theorem e_M_simulate_130 : decode prog_14_method_53_code 130 = .ok (.goto 125, 3) := by decide +kernel
theorem e_M_simulate_133 : decode prog_14_method_53_code 133 = .ok (.iload_n 1, 1) := by decide +kernel
theorem e_M_simulate_134 : decode prog_14_method_53_code 134 = .ok (.bipush 87, 2) := by decide +kernel
theorem e_M_simulate_136 : decode prog_14_method_53_code 136 = .ok (.bipush 95, 2) := by decide +kernel
theorem e_M_simulate_138 : decode prog_14_method_53_code 138 = .ok (.invokestatic 218, 3) := by decide +kernel
theorem e_M_simulate_141 : decode prog_14_method_53_code 141 = .ok (.ifCond .eq 11, 3) := by decide +kernel
theorem e_M_simulate_144 : decode prog_14_method_53_code 144 = .ok (.aload_n 0, 1) := by decide +kernel
theorem e_M_simulate_145 : decode prog_14_method_53_code 145 = .ok (.iload_n 1, 1) := by decide +kernel
theorem e_M_simulate_146 : decode prog_14_method_53_code 146 = .ok (.invokevirtual 306, 3) := by decide +kernel
theorem e_M_simulate_149 : decode prog_14_method_53_code 149 = .ok (.goto 106, 3) := by decide +kernel
theorem e_M_simulate_152 : decode prog_14_method_53_code 152 = .ok (.iload_n 1, 1) := by decide +kernel
theorem e_M_simulate_153 : decode prog_14_method_53_code 153 = .ok (.bipush 96, 2) := by decide +kernel
theorem e_M_simulate_155 : decode prog_14_method_53_code 155 = .ok (.sipush 148, 3) := by decide +kernel
theorem e_M_simulate_158 : decode prog_14_method_53_code 158 = .ok (.invokestatic 218, 3) := by decide +kernel
theorem e_M_simulate_161 : decode prog_14_method_53_code 161 = .ok (.ifCond .eq 11, 3) := by decide +kernel
theorem e_M_simulate_164 : decode prog_14_method_53_code 164 = .ok (.aload_n 0, 1) := by decide +kernel
theorem e_M_simulate_165 : decode prog_14_method_53_code 165 = .ok (.iload_n 1, 1) := by decide +kernel
theorem e_M_simulate_166 : decode prog_14_method_53_code 166 = .ok (.invokevirtual 309, 3) := by decide +kernel
theorem e_M_simulate_169 : decode prog_14_method_53_code 169 = .ok (.goto 86, 3) := by decide +kernel
theorem e_M_simulate_172 : decode prog_14_method_53_code 172 = .ok (.iload_n 1, 1) := by decide +kernel
theorem e_M_simulate_173 : decode prog_14_method_53_code 173 = .ok (.invokestatic 240, 3) := by decide +kernel
theorem e_M_simulate_176 : decode prog_14_method_53_code 176 = .ok (.ifCond .eq 11, 3) := by decide +kernel
theorem e_M_simulate_179 : decode prog_14_method_53_code 179 = .ok (.aload_n 0, 1) := by decide +kernel
theorem e_M_simulate_180 : decode prog_14_method_53_code 180 = .ok (.iload_n 1, 1) := by decide +kernel
theorem e_M_simulate_181 : decode prog_14_method_53_code 181 = .ok (.invokevirtual 312, 3) := by decide +kernel
theorem e_M_simulate_184 : decode prog_14_method_53_code 184 = .ok (.goto 71, 3) := by decide +kernel
theorem e_M_simulate_187 : decode prog_14_method_53_code 187 = .ok (.iload_n 1, 1) := by decide +kernel
theorem e_M_simulate_188 : decode prog_14_method_53_code 188 = .ok (.sipush 172, 3) := by decide +kernel
theorem e_M_simulate_191 : decode prog_14_method_53_code 191 = .ok (.sipush 177, 3) := by decide +kernel
theorem e_M_simulate_194 : decode prog_14_method_53_code 194 = .ok (.invokestatic 218, 3) := by decide +kernel
theorem e_M_simulate_197 : decode prog_14_method_53_code 197 = .ok (.ifCond .eq 11, 3) := by decide +kernel
theorem e_M_simulate_200 : decode prog_14_method_53_code 200 = .ok (.aload_n 0, 1) := by decide +kernel
theorem e_M_simulate_201 : decode prog_14_method_53_code 201 = .ok (.iload_n 1, 1) := by decide +kernel
theorem e_M_simulate_202 : decode prog_14_method_53_code 202 = .ok (.invokevirtual 315, 3) := by decide +kernel
theorem e_M_simulate_205 : decode prog_14_method_53_code 205 = .ok (.goto 50, 3) := by decide +kernel
theorem e_M_simulate_208 : decode prog_14_method_53_code 208 = .ok (.iload_n 1, 1) := by decide +kernel
theorem e_M_simulate_209 : decode prog_14_method_53_code 209 = .ok (.sipush 178, 3) := by decide +kernel
theorem e_M_simulate_212 : decode prog_14_method_53_code 212 = .ok (.sipush 181, 3) := by decide +kernel
theorem e_M_simulate_215 : decode prog_14_method_53_code 215 = .ok (.invokestatic 218, 3) := by decide +kernel
theorem e_M_simulate_218 : decode prog_14_method_53_code 218 = .ok (.ifCond .eq 12, 3) := by decide +kernel
theorem e_M_simulate_221 : decode prog_14_method_53_code 221 = .ok (.aload_n 0, 1) := by decide +kernel
theorem e_M_simulate_222 : decode prog_14_method_53_code 222 = .ok (.iload_n 1, 1) := by decide +kernel
theorem e_M_simulate_223 : decode prog_14_method_53_code 223 = .ok (.iload_n 2, 1) := by decide +kernel
theorem e_M_simulate_224 : decode prog_14_method_53_code 224 = .ok (.invokevirtual 318, 3) := by decide +kernel
theorem e_M_simulate_227 : decode prog_14_method_53_code 227 = .ok (.goto 28, 3) := by decide +kernel
theorem e_M_simulate_230 : decode prog_14_method_53_code 230 = .ok (.iload_n 1, 1) := by decide +kernel
theorem e_M_simulate_231 : decode prog_14_method_53_code 231 = .ok (.sipush 184, 3) := by decide +kernel
theorem e_M_simulate_234 : decode prog_14_method_53_code 234 = .ok (.if_icmp .ne 11, 3) := by decide +kernel
theorem e_M_simulate_237 : decode prog_14_method_53_code 237 = .ok (.aload_n 0, 1) := by decide +kernel
theorem e_M_simulate_238 : decode prog_14_method_53_code 238 = .ok (.iload_n 2, 1) := by decide +kernel
theorem e_M_simulate_239 : decode prog_14_method_53_code 239 = .ok (.invokevirtual 321, 3) := by decide +kernel
theorem e_M_simulate_242 : decode prog_14_method_53_code 242 = .ok (.goto 13, 3) := by decide +kernel
theorem e_M_simulate_245 : decode prog_14_method_53_code 245 = .ok (.iload_n 1, 1) := by decide +kernel
theorem e_M_simulate_246 : decode prog_14_method_53_code 246 = .ok (.ifCond .le 9, 3) := by decide +kernel
theorem e_M_simulate_249 : decode prog_14_method_53_code 249 = .ok (.aload_n 0, 1) := by decide +kernel
theorem e_M_simulate_250 : decode prog_14_method_53_code 250 = .ok (.iload_n 1, 1) := by decide +kernel
theorem e_M_simulate_251 : decode prog_14_method_53_code 251 = .ok (.iload_n 2, 1) := by decide +kernel
theorem e_M_simulate_252 : decode prog_14_method_53_code 252 = .ok (.invokevirtual 324, 3) := by decide +kernel
theorem e_M_simulate_255 : decode prog_14_method_53_code 255 = .ok (.return_, 1) := by decide +kernel
def w_M_simulate_35 (P : MST → Prop) (σ : MST) : Prop := w_M_push (1 : Int32) σ (fun σ1 => P σ1)
def w_M_simulate_55 (P : MST → Prop) (σ : MST) : Prop := w_M_push (2 : Int32) σ (fun σ3 => P σ3)
def w_M_simulate_125 (P : MST → Prop) (z1 : Int32) (σ : MST) : Prop := w_M_arrays z1 σ (fun σ5 => P σ5)
def w_M_simulate (x1 : Int32) (x2 : Int32) (σ : MST) (P : MST → Prop) : Prop := ((x1 = 1 → w_M_push (5 : Int32) σ (fun σ62 => P σ62)) ∧ (¬ x1 = 1 → w_M_in x1 (2 : Int32) (8 : Int32) σ (fun r9 σ8 => ((r9 = 0 → ((x1 = 16 → w_M_simulate_35 P σ8) ∧ (¬ x1 = 16 → ((x1 = 17 → w_M_simulate_35 P σ8) ∧ (¬ x1 = 17 → ((x1 = 9 → w_M_simulate_55 P σ8) ∧ (¬ x1 = 9 → ((x1 = 10 → w_M_simulate_55 P σ8) ∧ (¬ x1 = 10 → w_M_in x1 (21 : Int32) (25 : Int32) σ8 (fun r16 σ15 => ((r16 = 0 → w_M_in x1 (54 : Int32) (58 : Int32) σ15 (fun r19 σ18 => ((r19 = 0 → w_M_in x1 (46 : Int32) (50 : Int32) σ18 (fun r22 σ21 => ((r22 = 0 → w_M_in x1 (79 : Int32) (83 : Int32) σ21 (fun r25 σ24 => ((r25 = 0 → w_M_in x1 (87 : Int32) (95 : Int32) σ24 (fun r28 σ27 => ((r28 = 0 → w_M_in x1 (96 : Int32) (148 : Int32) σ27 (fun r31 σ30 => ((r31 = 0 → w_M_branches x1 σ30 (fun r34 σ33 => ((r34 = 0 → w_M_in x1 (172 : Int32) (177 : Int32) σ33 (fun r37 σ36 => ((r37 = 0 → w_M_in x1 (178 : Int32) (181 : Int32) σ36 (fun r40 σ39 => ((r40 = 0 → ((x1 = 184 → w_M_call x2 σ39 (fun σ46 => P σ46)) ∧ (¬ x1 = 184 → ((x1 ≤ 0 → P σ39) ∧ (¬ x1 ≤ 0 → w_M_objects x1 x2 σ39 (fun σ44 => P σ44)))))) ∧ (¬ r40 = 0 → w_M_fieldOf x1 x2 σ39 (fun σ48 => P σ48))))) ∧ (¬ r37 = 0 → w_M_leave x1 σ36 (fun σ50 => P σ50))))) ∧ (¬ r34 = 0 → w_M_test x1 σ33 (fun σ52 => P σ52))))) ∧ (¬ r31 = 0 → w_M_reckon x1 σ30 (fun σ54 => P σ54))))) ∧ (¬ r28 = 0 → w_M_shuffle x1 σ27 (fun σ56 => P σ56))))) ∧ (¬ r25 = 0 → w_M_simulate_125 P x1 σ24)))) ∧ (¬ r22 = 0 → w_M_simulate_125 P x1 σ21)))) ∧ (¬ r19 = 0 → w_M_store x1 x2 σ18 (fun σ58 => P σ58))))) ∧ (¬ r16 = 0 → w_M_load x1 x2 σ15 (fun σ60 => P σ60))))))))))))) ∧ (¬ r9 = 0 → w_M_simulate_35 P σ8)))))
set_option maxHeartbeats 4000000 in
set_option maxRecDepth 100000 in
theorem K_M_simulate (l : Launch) (dC : Nat → ClassId) (dI : Nat → Nat → Nat) (mo : Nat) (rf : Nat → Nat) (ca : Nat → ClassId) (sz : Nat) (σ : MST) (x1 : Int32) (x2 : Int32) {P : MST → Prop} (hw : w_M_simulate x1 x2 σ P) : Met l z_M_simulate (mW z_M_simulate prog_14_method_53_code 3 none) ({ frames := 5, cells := 0, slots := 0, locals := 113 } : Room) (va_Pc [.ref mo, .int x1, .int x2] (MPre (dC, dI) mo rf ca σ sz)) (va_Qv P (MB (dC, dI) mo rf ca sz) (mA mo rf sz)) 0 0 (mA mo rf sz) := by
  refine M_ofv (by decide) rfl (Nat.le_of_ble_eq_true rfl) ?_
  intro p e s m below meth cx Q A ls C hA hend h hl
  have C0 := C
  obtain ⟨⟨hx, hb, hml, hown, hts⟩, hsub⟩ := C0
  have K_35 : ∀ (u9 : Unit), ∀ (σ : MST) (H : Heap) (locs : List Loc) (ls : Array Slot), w_M_simulate_35 P σ → MH (dC, dI) A mo rf ca σ s H locs → lv_has ls 3 [(0, .ref mo)] → W p l e ({ frames := 5, cells := 0, slots := 0, locals := 113 } : Room) s m ([.ref mo, .int x1, .int x2] : List Value).toArray below meth cx H locs 0 0 Q (F0 m 35 ls []) := by
    intro u9  σ H locs ls hw h hl
    unfold w_M_simulate_35 at hw
    refine lv_aload_n hx hb e_M_simulate_35 rfl (lv_at hl 0 rfl) ?_
    refine lv_iconst (v := 1) hx hb e_M_simulate_36 (by decide) ?_
    refine M_callv (As := [.int 1]) (rest := []) C h hA (K_M_push l dC dI mo rf ca H.size σ (1 : Int32) hw) (cwV 1 hts (gV hsub v_121 v_122 v_123 v_7 v_124) rfl rfl rfl (by decide +kernel) ⟨(Nat.le_of_ble_eq_true rfl), (Nat.le_of_ble_eq_true rfl)⟩) rfl hl.1 (Nat.le_of_ble_eq_true rfl) e_M_simulate_37 ⟨(Nat.le_of_ble_eq_true rfl), (Nat.le_of_ble_eq_true rfl)⟩ (fun σ1 H locs hw h => ?_)
    refine W.eq (g2 := F0 m 40 ls []) rfl ?_
    refine lv_goto (tgt := 255) hx hb e_M_simulate_40 (by decide) ?_
    exact hend σ1 _ _ _ _ hw h e_M_simulate_255
  have K_55 : ∀ (u9 : Unit), ∀ (σ : MST) (H : Heap) (locs : List Loc) (ls : Array Slot), w_M_simulate_55 P σ → MH (dC, dI) A mo rf ca σ s H locs → lv_has ls 3 [(0, .ref mo)] → W p l e ({ frames := 5, cells := 0, slots := 0, locals := 113 } : Room) s m ([.ref mo, .int x1, .int x2] : List Value).toArray below meth cx H locs 0 0 Q (F0 m 55 ls []) := by
    intro u9  σ H locs ls hw h hl
    unfold w_M_simulate_55 at hw
    refine lv_aload_n hx hb e_M_simulate_55 rfl (lv_at hl 0 rfl) ?_
    refine lv_iconst (v := 2) hx hb e_M_simulate_56 (by decide) ?_
    refine M_callv (As := [.int 2]) (rest := []) C h hA (K_M_push l dC dI mo rf ca H.size σ (2 : Int32) hw) (cwV 1 hts (gV hsub v_121 v_122 v_123 v_7 v_124) rfl rfl rfl (by decide +kernel) ⟨(Nat.le_of_ble_eq_true rfl), (Nat.le_of_ble_eq_true rfl)⟩) rfl hl.1 (Nat.le_of_ble_eq_true rfl) e_M_simulate_57 ⟨(Nat.le_of_ble_eq_true rfl), (Nat.le_of_ble_eq_true rfl)⟩ (fun σ3 H locs hw h => ?_)
    refine W.eq (g2 := F0 m 60 ls []) rfl ?_
    refine lv_goto (tgt := 255) hx hb e_M_simulate_60 (by decide) ?_
    exact hend σ3 _ _ _ _ hw h e_M_simulate_255
  have K_125 : ∀ (u9 : Unit), ∀ (z1 : Int32) (σ : MST) (H : Heap) (locs : List Loc) (ls : Array Slot), w_M_simulate_125 P z1 σ → MH (dC, dI) A mo rf ca σ s H locs → lv_has ls 3 [(0, .ref mo), (1, .int z1)] → W p l e ({ frames := 5, cells := 0, slots := 0, locals := 113 } : Room) s m ([.ref mo, .int x1, .int x2] : List Value).toArray below meth cx H locs 0 0 Q (F0 m 125 ls []) := by
    intro u9 z1 σ H locs ls hw h hl
    unfold w_M_simulate_125 at hw
    refine lv_aload_n hx hb e_M_simulate_125 rfl (lv_at hl 0 rfl) ?_
    refine lv_iload_n hx hb e_M_simulate_126 rfl (lv_at hl 1 rfl) ?_
    refine M_callv (As := [.int z1]) (rest := []) C h hA (K_M_arrays l dC dI mo rf ca H.size σ z1 hw) (cwV 1 hts (gV hsub v_150 v_151 v_152 v_7 v_153) rfl rfl rfl (by decide +kernel) ⟨(Nat.le_of_ble_eq_true rfl), (Nat.le_of_ble_eq_true rfl)⟩) rfl hl.1 (Nat.le_of_ble_eq_true rfl) e_M_simulate_127 ⟨(Nat.le_of_ble_eq_true rfl), (Nat.le_of_ble_eq_true rfl)⟩ (fun σ5 H locs hw h => ?_)
    refine W.eq (g2 := F0 m 130 ls []) rfl ?_
    refine lv_goto (tgt := 255) hx hb e_M_simulate_130 (by decide) ?_
    exact hend σ5 _ _ _ _ hw h e_M_simulate_255
  have hl : lv_has ls 3 [(0, .ref mo), (1, .int x1), (2, .int x2)] := hl
  unfold w_M_simulate at hw
  refine lv_iload_n hx hb e_M_simulate_0 rfl (lv_at hl 1 rfl) ?_
  refine lv_iconst (v := 1) hx hb e_M_simulate_1 (by decide) ?_
  refine lv_icmp_ne (tgt := 13) hx hb e_M_simulate_2 (by decide) (fun c7 => ?_) (fun c7 => ?_)
  · skip
    replace hw := hw.2 c7
    refine lv_iload_n hx hb e_M_simulate_13 rfl (lv_at hl 1 rfl) ?_
    refine lv_iconst (v := 2) hx hb e_M_simulate_14 (by decide) ?_
    refine lv_bipush (v := 8) hx hb e_M_simulate_15 (by decide) ?_
    refine M_scalli (As := [.int x1, .int 2, .int 8]) (rest := []) C h hA (K_M_in l dC dI mo rf ca s.heap.size σ x1 (2 : Int32) (8 : Int32) hw) (va_cwS 3 hts (gS hsub v_66 v_67 v_7 v_68) rfl rfl rfl (by decide +kernel) ⟨(Nat.le_of_ble_eq_true rfl), (Nat.le_of_ble_eq_true rfl)⟩) rfl hl.1 (Nat.le_of_ble_eq_true rfl) e_M_simulate_17 ⟨(Nat.le_of_ble_eq_true rfl), (Nat.le_of_ble_eq_true rfl)⟩ (fun r9 σ8 H locs hw h => ?_)
    refine W.eq (g2 := F0 m 20 ls [.int r9]) rfl ?_
    refine lv_if_ne (tgt := 35) hx hb e_M_simulate_20 (by decide) (fun c10 => ?_) (fun c10 => ?_)
    · skip
      replace hw := hw.2 c10
      exact K_35 () σ8 _ _ _ hw h (lv_sub hl [0] rfl)
    · skip
      replace hw := hw.1 c10
      refine lv_iload_n hx hb e_M_simulate_23 rfl (lv_at hl 1 rfl) ?_
      refine lv_bipush (v := 16) hx hb e_M_simulate_24 (by decide) ?_
      refine lv_icmp_eq (tgt := 35) hx hb e_M_simulate_26 (by decide) (fun c11 => ?_) (fun c11 => ?_)
      · skip
        replace hw := hw.1 c11
        exact K_35 () σ8 _ _ _ hw h (lv_sub hl [0] rfl)
      · skip
        replace hw := hw.2 c11
        refine lv_iload_n hx hb e_M_simulate_29 rfl (lv_at hl 1 rfl) ?_
        refine lv_bipush (v := 17) hx hb e_M_simulate_30 (by decide) ?_
        refine lv_icmp_ne (tgt := 43) hx hb e_M_simulate_32 (by decide) (fun c12 => ?_) (fun c12 => ?_)
        · skip
          replace hw := hw.2 c12
          refine lv_iload_n hx hb e_M_simulate_43 rfl (lv_at hl 1 rfl) ?_
          refine lv_bipush (v := 9) hx hb e_M_simulate_44 (by decide) ?_
          refine lv_icmp_eq (tgt := 55) hx hb e_M_simulate_46 (by decide) (fun c13 => ?_) (fun c13 => ?_)
          · skip
            replace hw := hw.1 c13
            exact K_55 () σ8 _ _ _ hw h (lv_sub hl [0] rfl)
          · skip
            replace hw := hw.2 c13
            refine lv_iload_n hx hb e_M_simulate_49 rfl (lv_at hl 1 rfl) ?_
            refine lv_bipush (v := 10) hx hb e_M_simulate_50 (by decide) ?_
            refine lv_icmp_ne (tgt := 63) hx hb e_M_simulate_52 (by decide) (fun c14 => ?_) (fun c14 => ?_)
            · skip
              replace hw := hw.2 c14
              refine lv_iload_n hx hb e_M_simulate_63 rfl (lv_at hl 1 rfl) ?_
              refine lv_bipush (v := 21) hx hb e_M_simulate_64 (by decide) ?_
              refine lv_bipush (v := 25) hx hb e_M_simulate_66 (by decide) ?_
              refine M_scalli (As := [.int x1, .int 21, .int 25]) (rest := []) C h hA (K_M_in l dC dI mo rf ca H.size σ8 x1 (21 : Int32) (25 : Int32) hw) (va_cwS 3 hts (gS hsub v_66 v_67 v_7 v_68) rfl rfl rfl (by decide +kernel) ⟨(Nat.le_of_ble_eq_true rfl), (Nat.le_of_ble_eq_true rfl)⟩) rfl hl.1 (Nat.le_of_ble_eq_true rfl) e_M_simulate_68 ⟨(Nat.le_of_ble_eq_true rfl), (Nat.le_of_ble_eq_true rfl)⟩ (fun r16 σ15 H locs hw h => ?_)
              refine W.eq (g2 := F0 m 71 ls [.int r16]) rfl ?_
              refine lv_if_eq (tgt := 83) hx hb e_M_simulate_71 (by decide) (fun c17 => ?_) (fun c17 => ?_)
              · skip
                replace hw := hw.1 c17
                refine lv_iload_n hx hb e_M_simulate_83 rfl (lv_at hl 1 rfl) ?_
                refine lv_bipush (v := 54) hx hb e_M_simulate_84 (by decide) ?_
                refine lv_bipush (v := 58) hx hb e_M_simulate_86 (by decide) ?_
                refine M_scalli (As := [.int x1, .int 54, .int 58]) (rest := []) C h hA (K_M_in l dC dI mo rf ca H.size σ15 x1 (54 : Int32) (58 : Int32) hw) (va_cwS 3 hts (gS hsub v_66 v_67 v_7 v_68) rfl rfl rfl (by decide +kernel) ⟨(Nat.le_of_ble_eq_true rfl), (Nat.le_of_ble_eq_true rfl)⟩) rfl hl.1 (Nat.le_of_ble_eq_true rfl) e_M_simulate_88 ⟨(Nat.le_of_ble_eq_true rfl), (Nat.le_of_ble_eq_true rfl)⟩ (fun r19 σ18 H locs hw h => ?_)
                refine W.eq (g2 := F0 m 91 ls [.int r19]) rfl ?_
                refine lv_if_eq (tgt := 103) hx hb e_M_simulate_91 (by decide) (fun c20 => ?_) (fun c20 => ?_)
                · skip
                  replace hw := hw.1 c20
                  refine lv_iload_n hx hb e_M_simulate_103 rfl (lv_at hl 1 rfl) ?_
                  refine lv_bipush (v := 46) hx hb e_M_simulate_104 (by decide) ?_
                  refine lv_bipush (v := 50) hx hb e_M_simulate_106 (by decide) ?_
                  refine M_scalli (As := [.int x1, .int 46, .int 50]) (rest := []) C h hA (K_M_in l dC dI mo rf ca H.size σ18 x1 (46 : Int32) (50 : Int32) hw) (va_cwS 3 hts (gS hsub v_66 v_67 v_7 v_68) rfl rfl rfl (by decide +kernel) ⟨(Nat.le_of_ble_eq_true rfl), (Nat.le_of_ble_eq_true rfl)⟩) rfl hl.1 (Nat.le_of_ble_eq_true rfl) e_M_simulate_108 ⟨(Nat.le_of_ble_eq_true rfl), (Nat.le_of_ble_eq_true rfl)⟩ (fun r22 σ21 H locs hw h => ?_)
                  refine W.eq (g2 := F0 m 111 ls [.int r22]) rfl ?_
                  refine lv_if_ne (tgt := 125) hx hb e_M_simulate_111 (by decide) (fun c23 => ?_) (fun c23 => ?_)
                  · skip
                    replace hw := hw.2 c23
                    exact K_125 () x1 σ21 _ _ _ hw h (lv_sub hl [0, 1] rfl)
                  · skip
                    replace hw := hw.1 c23
                    refine lv_iload_n hx hb e_M_simulate_114 rfl (lv_at hl 1 rfl) ?_
                    refine lv_bipush (v := 79) hx hb e_M_simulate_115 (by decide) ?_
                    refine lv_bipush (v := 83) hx hb e_M_simulate_117 (by decide) ?_
                    refine M_scalli (As := [.int x1, .int 79, .int 83]) (rest := []) C h hA (K_M_in l dC dI mo rf ca H.size σ21 x1 (79 : Int32) (83 : Int32) hw) (va_cwS 3 hts (gS hsub v_66 v_67 v_7 v_68) rfl rfl rfl (by decide +kernel) ⟨(Nat.le_of_ble_eq_true rfl), (Nat.le_of_ble_eq_true rfl)⟩) rfl hl.1 (Nat.le_of_ble_eq_true rfl) e_M_simulate_119 ⟨(Nat.le_of_ble_eq_true rfl), (Nat.le_of_ble_eq_true rfl)⟩ (fun r25 σ24 H locs hw h => ?_)
                    refine W.eq (g2 := F0 m 122 ls [.int r25]) rfl ?_
                    refine lv_if_eq (tgt := 133) hx hb e_M_simulate_122 (by decide) (fun c26 => ?_) (fun c26 => ?_)
                    · skip
                      replace hw := hw.1 c26
                      refine lv_iload_n hx hb e_M_simulate_133 rfl (lv_at hl 1 rfl) ?_
                      refine lv_bipush (v := 87) hx hb e_M_simulate_134 (by decide) ?_
                      refine lv_bipush (v := 95) hx hb e_M_simulate_136 (by decide) ?_
                      refine M_scalli (As := [.int x1, .int 87, .int 95]) (rest := []) C h hA (K_M_in l dC dI mo rf ca H.size σ24 x1 (87 : Int32) (95 : Int32) hw) (va_cwS 3 hts (gS hsub v_66 v_67 v_7 v_68) rfl rfl rfl (by decide +kernel) ⟨(Nat.le_of_ble_eq_true rfl), (Nat.le_of_ble_eq_true rfl)⟩) rfl hl.1 (Nat.le_of_ble_eq_true rfl) e_M_simulate_138 ⟨(Nat.le_of_ble_eq_true rfl), (Nat.le_of_ble_eq_true rfl)⟩ (fun r28 σ27 H locs hw h => ?_)
                      refine W.eq (g2 := F0 m 141 ls [.int r28]) rfl ?_
                      refine lv_if_eq (tgt := 152) hx hb e_M_simulate_141 (by decide) (fun c29 => ?_) (fun c29 => ?_)
                      · skip
                        replace hw := hw.1 c29
                        refine lv_iload_n hx hb e_M_simulate_152 rfl (lv_at hl 1 rfl) ?_
                        refine lv_bipush (v := 96) hx hb e_M_simulate_153 (by decide) ?_
                        refine lv_sipush (v := 148) hx hb e_M_simulate_155 (by decide) ?_
                        refine M_scalli (As := [.int x1, .int 96, .int 148]) (rest := []) C h hA (K_M_in l dC dI mo rf ca H.size σ27 x1 (96 : Int32) (148 : Int32) hw) (va_cwS 3 hts (gS hsub v_66 v_67 v_7 v_68) rfl rfl rfl (by decide +kernel) ⟨(Nat.le_of_ble_eq_true rfl), (Nat.le_of_ble_eq_true rfl)⟩) rfl hl.1 (Nat.le_of_ble_eq_true rfl) e_M_simulate_158 ⟨(Nat.le_of_ble_eq_true rfl), (Nat.le_of_ble_eq_true rfl)⟩ (fun r31 σ30 H locs hw h => ?_)
                        refine W.eq (g2 := F0 m 161 ls [.int r31]) rfl ?_
                        refine lv_if_eq (tgt := 172) hx hb e_M_simulate_161 (by decide) (fun c32 => ?_) (fun c32 => ?_)
                        · skip
                          replace hw := hw.1 c32
                          refine lv_iload_n hx hb e_M_simulate_172 rfl (lv_at hl 1 rfl) ?_
                          refine M_scalli (As := [.int x1]) (rest := []) C h hA (K_M_branches l dC dI mo rf ca H.size σ30 x1 hw) (va_cwS 1 hts (gS hsub v_87 v_88 v_7 v_89) rfl rfl rfl (by decide +kernel) ⟨(Nat.le_of_ble_eq_true rfl), (Nat.le_of_ble_eq_true rfl)⟩) rfl hl.1 (Nat.le_of_ble_eq_true rfl) e_M_simulate_173 ⟨(Nat.le_of_ble_eq_true rfl), (Nat.le_of_ble_eq_true rfl)⟩ (fun r34 σ33 H locs hw h => ?_)
                          refine W.eq (g2 := F0 m 176 ls [.int r34]) rfl ?_
                          refine lv_if_eq (tgt := 187) hx hb e_M_simulate_176 (by decide) (fun c35 => ?_) (fun c35 => ?_)
                          · skip
                            replace hw := hw.1 c35
                            refine lv_iload_n hx hb e_M_simulate_187 rfl (lv_at hl 1 rfl) ?_
                            refine lv_sipush (v := 172) hx hb e_M_simulate_188 (by decide) ?_
                            refine lv_sipush (v := 177) hx hb e_M_simulate_191 (by decide) ?_
                            refine M_scalli (As := [.int x1, .int 172, .int 177]) (rest := []) C h hA (K_M_in l dC dI mo rf ca H.size σ33 x1 (172 : Int32) (177 : Int32) hw) (va_cwS 3 hts (gS hsub v_66 v_67 v_7 v_68) rfl rfl rfl (by decide +kernel) ⟨(Nat.le_of_ble_eq_true rfl), (Nat.le_of_ble_eq_true rfl)⟩) rfl hl.1 (Nat.le_of_ble_eq_true rfl) e_M_simulate_194 ⟨(Nat.le_of_ble_eq_true rfl), (Nat.le_of_ble_eq_true rfl)⟩ (fun r37 σ36 H locs hw h => ?_)
                            refine W.eq (g2 := F0 m 197 ls [.int r37]) rfl ?_
                            refine lv_if_eq (tgt := 208) hx hb e_M_simulate_197 (by decide) (fun c38 => ?_) (fun c38 => ?_)
                            · skip
                              replace hw := hw.1 c38
                              refine lv_iload_n hx hb e_M_simulate_208 rfl (lv_at hl 1 rfl) ?_
                              refine lv_sipush (v := 178) hx hb e_M_simulate_209 (by decide) ?_
                              refine lv_sipush (v := 181) hx hb e_M_simulate_212 (by decide) ?_
                              refine M_scalli (As := [.int x1, .int 178, .int 181]) (rest := []) C h hA (K_M_in l dC dI mo rf ca H.size σ36 x1 (178 : Int32) (181 : Int32) hw) (va_cwS 3 hts (gS hsub v_66 v_67 v_7 v_68) rfl rfl rfl (by decide +kernel) ⟨(Nat.le_of_ble_eq_true rfl), (Nat.le_of_ble_eq_true rfl)⟩) rfl hl.1 (Nat.le_of_ble_eq_true rfl) e_M_simulate_215 ⟨(Nat.le_of_ble_eq_true rfl), (Nat.le_of_ble_eq_true rfl)⟩ (fun r40 σ39 H locs hw h => ?_)
                              refine W.eq (g2 := F0 m 218 ls [.int r40]) rfl ?_
                              refine lv_if_eq (tgt := 230) hx hb e_M_simulate_218 (by decide) (fun c41 => ?_) (fun c41 => ?_)
                              · skip
                                replace hw := hw.1 c41
                                refine lv_iload_n hx hb e_M_simulate_230 rfl (lv_at hl 1 rfl) ?_
                                refine lv_sipush (v := 184) hx hb e_M_simulate_231 (by decide) ?_
                                refine lv_icmp_ne (tgt := 245) hx hb e_M_simulate_234 (by decide) (fun c42 => ?_) (fun c42 => ?_)
                                · skip
                                  replace hw := hw.2 c42
                                  refine lv_iload_n hx hb e_M_simulate_245 rfl (lv_at hl 1 rfl) ?_
                                  refine lv_if_le (tgt := 255) hx hb e_M_simulate_246 (by decide) (fun c43 => ?_) (fun c43 => ?_)
                                  · skip
                                    replace hw := hw.1 c43
                                    exact hend σ39 _ _ _ _ hw h e_M_simulate_255
                                  · skip
                                    replace hw := hw.2 c43
                                    refine lv_aload_n hx hb e_M_simulate_249 rfl (lv_at hl 0 rfl) ?_
                                    refine lv_iload_n hx hb e_M_simulate_250 rfl (lv_at hl 1 rfl) ?_
                                    refine lv_iload_n hx hb e_M_simulate_251 rfl (lv_at hl 2 rfl) ?_
                                    refine M_callv (As := [.int x1, .int x2]) (rest := []) C h hA (K_M_objects l dC dI mo rf ca H.size σ39 x1 x2 hw) (cwV 2 hts (gV hsub v_154 v_155 v_156 v_7 v_157) rfl rfl rfl (by decide +kernel) ⟨(Nat.le_of_ble_eq_true rfl), (Nat.le_of_ble_eq_true rfl)⟩) rfl hl.1 (Nat.le_of_ble_eq_true rfl) e_M_simulate_252 ⟨(Nat.le_of_ble_eq_true rfl), (Nat.le_of_ble_eq_true rfl)⟩ (fun σ44 H locs hw h => ?_)
                                    refine W.eq (g2 := F0 m 255 ls []) rfl ?_
                                    exact hend σ44 _ _ _ _ hw h e_M_simulate_255
                                · skip
                                  replace hw := hw.1 c42
                                  refine lv_aload_n hx hb e_M_simulate_237 rfl (lv_at hl 0 rfl) ?_
                                  refine lv_iload_n hx hb e_M_simulate_238 rfl (lv_at hl 2 rfl) ?_
                                  refine M_callv (As := [.int x2]) (rest := []) C h hA (K_M_call l dC dI mo rf ca H.size σ39 x2 hw) (cwV 1 hts (gV hsub v_158 v_159 v_160 v_7 v_161) rfl rfl rfl (by decide +kernel) ⟨(Nat.le_of_ble_eq_true rfl), (Nat.le_of_ble_eq_true rfl)⟩) rfl hl.1 (Nat.le_of_ble_eq_true rfl) e_M_simulate_239 ⟨(Nat.le_of_ble_eq_true rfl), (Nat.le_of_ble_eq_true rfl)⟩ (fun σ46 H locs hw h => ?_)
                                  refine W.eq (g2 := F0 m 242 ls []) rfl ?_
                                  refine lv_goto (tgt := 255) hx hb e_M_simulate_242 (by decide) ?_
                                  exact hend σ46 _ _ _ _ hw h e_M_simulate_255
                              · skip
                                replace hw := hw.2 c41
                                refine lv_aload_n hx hb e_M_simulate_221 rfl (lv_at hl 0 rfl) ?_
                                refine lv_iload_n hx hb e_M_simulate_222 rfl (lv_at hl 1 rfl) ?_
                                refine lv_iload_n hx hb e_M_simulate_223 rfl (lv_at hl 2 rfl) ?_
                                refine M_callv (As := [.int x1, .int x2]) (rest := []) C h hA (K_M_fieldOf l dC dI mo rf ca H.size σ39 x1 x2 hw) (cwV 2 hts (gV hsub v_162 v_163 v_164 v_7 v_165) rfl rfl rfl (by decide +kernel) ⟨(Nat.le_of_ble_eq_true rfl), (Nat.le_of_ble_eq_true rfl)⟩) rfl hl.1 (Nat.le_of_ble_eq_true rfl) e_M_simulate_224 ⟨(Nat.le_of_ble_eq_true rfl), (Nat.le_of_ble_eq_true rfl)⟩ (fun σ48 H locs hw h => ?_)
                                refine W.eq (g2 := F0 m 227 ls []) rfl ?_
                                refine lv_goto (tgt := 255) hx hb e_M_simulate_227 (by decide) ?_
                                exact hend σ48 _ _ _ _ hw h e_M_simulate_255
                            · skip
                              replace hw := hw.2 c38
                              refine lv_aload_n hx hb e_M_simulate_200 rfl (lv_at hl 0 rfl) ?_
                              refine lv_iload_n hx hb e_M_simulate_201 rfl (lv_at hl 1 rfl) ?_
                              refine M_callv (As := [.int x1]) (rest := []) C h hA (K_M_leave l dC dI mo rf ca H.size σ36 x1 hw) (cwV 1 hts (gV hsub v_166 v_167 v_168 v_7 v_169) rfl rfl rfl (by decide +kernel) ⟨(Nat.le_of_ble_eq_true rfl), (Nat.le_of_ble_eq_true rfl)⟩) rfl hl.1 (Nat.le_of_ble_eq_true rfl) e_M_simulate_202 ⟨(Nat.le_of_ble_eq_true rfl), (Nat.le_of_ble_eq_true rfl)⟩ (fun σ50 H locs hw h => ?_)
                              refine W.eq (g2 := F0 m 205 ls []) rfl ?_
                              refine lv_goto (tgt := 255) hx hb e_M_simulate_205 (by decide) ?_
                              exact hend σ50 _ _ _ _ hw h e_M_simulate_255
                          · skip
                            replace hw := hw.2 c35
                            refine lv_aload_n hx hb e_M_simulate_179 rfl (lv_at hl 0 rfl) ?_
                            refine lv_iload_n hx hb e_M_simulate_180 rfl (lv_at hl 1 rfl) ?_
                            refine M_callv (As := [.int x1]) (rest := []) C h hA (K_M_test l dC dI mo rf ca H.size σ33 x1 hw) (cwV 1 hts (gV hsub v_170 v_171 v_172 v_7 v_173) rfl rfl rfl (by decide +kernel) ⟨(Nat.le_of_ble_eq_true rfl), (Nat.le_of_ble_eq_true rfl)⟩) rfl hl.1 (Nat.le_of_ble_eq_true rfl) e_M_simulate_181 ⟨(Nat.le_of_ble_eq_true rfl), (Nat.le_of_ble_eq_true rfl)⟩ (fun σ52 H locs hw h => ?_)
                            refine W.eq (g2 := F0 m 184 ls []) rfl ?_
                            refine lv_goto (tgt := 255) hx hb e_M_simulate_184 (by decide) ?_
                            exact hend σ52 _ _ _ _ hw h e_M_simulate_255
                        · skip
                          replace hw := hw.2 c32
                          refine lv_aload_n hx hb e_M_simulate_164 rfl (lv_at hl 0 rfl) ?_
                          refine lv_iload_n hx hb e_M_simulate_165 rfl (lv_at hl 1 rfl) ?_
                          refine M_callv (As := [.int x1]) (rest := []) C h hA (K_M_reckon l dC dI mo rf ca H.size σ30 x1 hw) (cwV 1 hts (gV hsub v_174 v_175 v_176 v_7 v_177) rfl rfl rfl (by decide +kernel) ⟨(Nat.le_of_ble_eq_true rfl), (Nat.le_of_ble_eq_true rfl)⟩) rfl hl.1 (Nat.le_of_ble_eq_true rfl) e_M_simulate_166 ⟨(Nat.le_of_ble_eq_true rfl), (Nat.le_of_ble_eq_true rfl)⟩ (fun σ54 H locs hw h => ?_)
                          refine W.eq (g2 := F0 m 169 ls []) rfl ?_
                          refine lv_goto (tgt := 255) hx hb e_M_simulate_169 (by decide) ?_
                          exact hend σ54 _ _ _ _ hw h e_M_simulate_255
                      · skip
                        replace hw := hw.2 c29
                        refine lv_aload_n hx hb e_M_simulate_144 rfl (lv_at hl 0 rfl) ?_
                        refine lv_iload_n hx hb e_M_simulate_145 rfl (lv_at hl 1 rfl) ?_
                        refine M_callv (As := [.int x1]) (rest := []) C h hA (K_M_shuffle l dC dI mo rf ca H.size σ27 x1 hw) (cwV 1 hts (gV hsub v_178 v_179 v_180 v_7 v_181) rfl rfl rfl (by decide +kernel) ⟨(Nat.le_of_ble_eq_true rfl), (Nat.le_of_ble_eq_true rfl)⟩) rfl hl.1 (Nat.le_of_ble_eq_true rfl) e_M_simulate_146 ⟨(Nat.le_of_ble_eq_true rfl), (Nat.le_of_ble_eq_true rfl)⟩ (fun σ56 H locs hw h => ?_)
                        refine W.eq (g2 := F0 m 149 ls []) rfl ?_
                        refine lv_goto (tgt := 255) hx hb e_M_simulate_149 (by decide) ?_
                        exact hend σ56 _ _ _ _ hw h e_M_simulate_255
                    · skip
                      replace hw := hw.2 c26
                      exact K_125 () x1 σ24 _ _ _ hw h (lv_sub hl [0, 1] rfl)
                · skip
                  replace hw := hw.2 c20
                  refine lv_aload_n hx hb e_M_simulate_94 rfl (lv_at hl 0 rfl) ?_
                  refine lv_iload_n hx hb e_M_simulate_95 rfl (lv_at hl 1 rfl) ?_
                  refine lv_iload_n hx hb e_M_simulate_96 rfl (lv_at hl 2 rfl) ?_
                  refine M_callv (As := [.int x1, .int x2]) (rest := []) C h hA (K_M_store l dC dI mo rf ca H.size σ18 x1 x2 hw) (cwV 2 hts (gV hsub v_182 v_183 v_184 v_7 v_185) rfl rfl rfl (by decide +kernel) ⟨(Nat.le_of_ble_eq_true rfl), (Nat.le_of_ble_eq_true rfl)⟩) rfl hl.1 (Nat.le_of_ble_eq_true rfl) e_M_simulate_97 ⟨(Nat.le_of_ble_eq_true rfl), (Nat.le_of_ble_eq_true rfl)⟩ (fun σ58 H locs hw h => ?_)
                  refine W.eq (g2 := F0 m 100 ls []) rfl ?_
                  refine lv_goto (tgt := 255) hx hb e_M_simulate_100 (by decide) ?_
                  exact hend σ58 _ _ _ _ hw h e_M_simulate_255
              · skip
                replace hw := hw.2 c17
                refine lv_aload_n hx hb e_M_simulate_74 rfl (lv_at hl 0 rfl) ?_
                refine lv_iload_n hx hb e_M_simulate_75 rfl (lv_at hl 1 rfl) ?_
                refine lv_iload_n hx hb e_M_simulate_76 rfl (lv_at hl 2 rfl) ?_
                refine M_callv (As := [.int x1, .int x2]) (rest := []) C h hA (K_M_load l dC dI mo rf ca H.size σ15 x1 x2 hw) (cwV 2 hts (gV hsub v_186 v_187 v_188 v_7 v_189) rfl rfl rfl (by decide +kernel) ⟨(Nat.le_of_ble_eq_true rfl), (Nat.le_of_ble_eq_true rfl)⟩) rfl hl.1 (Nat.le_of_ble_eq_true rfl) e_M_simulate_77 ⟨(Nat.le_of_ble_eq_true rfl), (Nat.le_of_ble_eq_true rfl)⟩ (fun σ60 H locs hw h => ?_)
                refine W.eq (g2 := F0 m 80 ls []) rfl ?_
                refine lv_goto (tgt := 255) hx hb e_M_simulate_80 (by decide) ?_
                exact hend σ60 _ _ _ _ hw h e_M_simulate_255
            · skip
              replace hw := hw.1 c14
              exact K_55 () σ8 _ _ _ hw h (lv_sub hl [0] rfl)
        · skip
          replace hw := hw.1 c12
          exact K_35 () σ8 _ _ _ hw h (lv_sub hl [0] rfl)
  · skip
    replace hw := hw.1 c7
    refine lv_aload_n hx hb e_M_simulate_5 rfl (lv_at hl 0 rfl) ?_
    refine lv_iconst (v := 5) hx hb e_M_simulate_6 (by decide) ?_
    refine M_callv (As := [.int 5]) (rest := []) C h hA (K_M_push l dC dI mo rf ca s.heap.size σ (5 : Int32) hw) (cwV 1 hts (gV hsub v_121 v_122 v_123 v_7 v_124) rfl rfl rfl (by decide +kernel) ⟨(Nat.le_of_ble_eq_true rfl), (Nat.le_of_ble_eq_true rfl)⟩) rfl hl.1 (Nat.le_of_ble_eq_true rfl) e_M_simulate_7 ⟨(Nat.le_of_ble_eq_true rfl), (Nat.le_of_ble_eq_true rfl)⟩ (fun σ62 H locs hw h => ?_)
    refine W.eq (g2 := F0 m 10 ls []) rfl ?_
    refine lv_goto (tgt := 255) hx hb e_M_simulate_10 (by decide) ?_
    exact hend σ62 _ _ _ _ hw h e_M_simulate_255
abbrev z_M_give : MethodName := ⟨"MapFramerModel", "give", "(I)Z"⟩
theorem v_190 : (Cond.fieldLink "MapFramerModel" 327 "MapFramerModel" "givenMany" "I" : Cond) ∈ bigW := inB_8 104 (by decide +kernel) rfl
theorem v_191 : (Cond.fieldLink "MapFramerModel" 90 "MapFramerModel" "due" "[Z" : Cond) ∈ bigW := inB_8 91 (by decide +kernel) rfl
theorem v_192 : (Cond.fieldLink "MapFramerModel" 87 "MapFramerModel" "stacks" "[I" : Cond) ∈ bigW := inB_8 90 (by decide +kernel) rfl
theorem v_193 : (Cond.fieldLink "MapFramerModel" 111 "MapFramerModel" "givenStack" "[I" : Cond) ∈ bigW := inB_8 103 (by decide +kernel) rfl
theorem v_194 : (Cond.fieldLink "MapFramerModel" 84 "MapFramerModel" "locals" "[I" : Cond) ∈ bigW := inB_8 89 (by decide +kernel) rfl
theorem v_195 : (Cond.fieldLink "MapFramerModel" 108 "MapFramerModel" "given" "[I" : Cond) ∈ bigW := inB_8 102 (by decide +kernel) rfl
theorem v_196 : (Cond.methodLink "MapFramerModel" 330 ⟨"MapFramerModel", "merge", "(II)I"⟩ : Cond) ∈ bigW := inB_9 131 (by decide +kernel) rfl
theorem v_197 : (Cond.instanceMethod ⟨"MapFramerModel", "merge", "(II)I"⟩ : Cond) ∈ bigW := inB_9 133 (by decide +kernel) rfl
theorem v_198 : (Cond.selects "MapFramerModel" ⟨"MapFramerModel", "merge", "(II)I"⟩ ⟨"MapFramerModel", "merge", "(II)I"⟩ : Cond) ∈ bigW := inS (y := ⟨"MapFramerModel", "merge", "(II)I"⟩) (n := 71) (List.mem_of_getElem? (i := 92) (by decide +kernel))
theorem v_199 : (Cond.code ⟨"MapFramerModel", "merge", "(II)I"⟩ prog_14_method_13_code 3 (some .int) : Cond) ∈ bigW := inB_9 134 rfl rfl
theorem v_200 : (Cond.fieldLink "MapFramerModel" 81 "MapFramerModel" "high" "[I" : Cond) ∈ bigW := inB_8 88 (by decide +kernel) rfl
theorem e_M_give_0 : decode prog_14_method_54_code 0 = .ok (.bipush 120, 2) := by decide +kernel
theorem e_M_give_2 : decode prog_14_method_54_code 2 = .ok (.aload_n 0, 1) := by decide +kernel
theorem e_M_give_3 : decode prog_14_method_54_code 3 = .ok (.getfield 266, 3) := by decide +kernel
theorem e_M_give_6 : decode prog_14_method_54_code 6 = .ok (.imul, 1) := by decide +kernel
theorem e_M_give_7 : decode prog_14_method_54_code 7 = .ok (.iload_n 1, 1) := by decide +kernel
theorem e_M_give_8 : decode prog_14_method_54_code 8 = .ok (.iadd, 1) := by decide +kernel
theorem e_M_give_9 : decode prog_14_method_54_code 9 = .ok (.istore_n 2, 1) := by decide +kernel
theorem e_M_give_10 : decode prog_14_method_54_code 10 = .ok (.aload_n 0, 1) := by decide +kernel
theorem e_M_give_11 : decode prog_14_method_54_code 11 = .ok (.getfield 48, 3) := by decide +kernel
theorem e_M_give_14 : decode prog_14_method_54_code 14 = .ok (.aload_n 0, 1) := by decide +kernel
theorem e_M_give_15 : decode prog_14_method_54_code 15 = .ok (.getfield 266, 3) := by decide +kernel
theorem e_M_give_18 : decode prog_14_method_54_code 18 = .ok (.iaload, 1) := by decide +kernel
theorem e_M_give_19 : decode prog_14_method_54_code 19 = .ok (.istore_n 3, 1) := by decide +kernel
theorem e_M_give_20 : decode prog_14_method_54_code 20 = .ok (.aload_n 0, 1) := by decide +kernel
theorem e_M_give_21 : decode prog_14_method_54_code 21 = .ok (.getfield 81, 3) := by decide +kernel
theorem e_M_give_24 : decode prog_14_method_54_code 24 = .ok (.iload_n 2, 1) := by decide +kernel
theorem e_M_give_25 : decode prog_14_method_54_code 25 = .ok (.iaload, 1) := by decide +kernel
theorem e_M_give_26 : decode prog_14_method_54_code 26 = .ok (.ifCond .ge 93, 3) := by decide +kernel
theorem e_M_give_29 : decode prog_14_method_54_code 29 = .ok (.aload_n 0, 1) := by decide +kernel
theorem e_M_give_30 : decode prog_14_method_54_code 30 = .ok (.getfield 81, 3) := by decide +kernel
theorem e_M_give_33 : decode prog_14_method_54_code 33 = .ok (.iload_n 2, 1) := by decide +kernel
theorem e_M_give_34 : decode prog_14_method_54_code 34 = .ok (.aload_n 0, 1) := by decide +kernel
theorem e_M_give_35 : decode prog_14_method_54_code 35 = .ok (.getfield 327, 3) := by decide +kernel
theorem e_M_give_38 : decode prog_14_method_54_code 38 = .ok (.iastore, 1) := by decide +kernel
theorem e_M_give_39 : decode prog_14_method_54_code 39 = .ok (.iconst 0, 1) := by decide +kernel
theorem e_M_give_40 : decode prog_14_method_54_code 40 = .ok (.istore 4, 2) := by decide +kernel
theorem e_M_give_42 : decode prog_14_method_54_code 42 = .ok (.iload 4, 2) := by decide +kernel
theorem e_M_give_44 : decode prog_14_method_54_code 44 = .ok (.iload_n 3, 1) := by decide +kernel
theorem e_M_give_45 : decode prog_14_method_54_code 45 = .ok (.if_icmp .ge 28, 3) := by decide +kernel
theorem e_M_give_48 : decode prog_14_method_54_code 48 = .ok (.aload_n 0, 1) := by decide +kernel
theorem e_M_give_49 : decode prog_14_method_54_code 49 = .ok (.getfield 84, 3) := by decide +kernel
theorem e_M_give_52 : decode prog_14_method_54_code 52 = .ok (.bipush 12, 2) := by decide +kernel
theorem e_M_give_54 : decode prog_14_method_54_code 54 = .ok (.iload_n 2, 1) := by decide +kernel
theorem e_M_give_55 : decode prog_14_method_54_code 55 = .ok (.imul, 1) := by decide +kernel
theorem e_M_give_56 : decode prog_14_method_54_code 56 = .ok (.iload 4, 2) := by decide +kernel
theorem e_M_give_58 : decode prog_14_method_54_code 58 = .ok (.iadd, 1) := by decide +kernel
theorem e_M_give_59 : decode prog_14_method_54_code 59 = .ok (.aload_n 0, 1) := by decide +kernel
theorem e_M_give_60 : decode prog_14_method_54_code 60 = .ok (.getfield 108, 3) := by decide +kernel
theorem e_M_give_63 : decode prog_14_method_54_code 63 = .ok (.iload 4, 2) := by decide +kernel
theorem e_M_give_65 : decode prog_14_method_54_code 65 = .ok (.iaload, 1) := by decide +kernel
theorem e_M_give_66 : decode prog_14_method_54_code 66 = .ok (.iastore, 1) := by decide +kernel
theorem e_M_give_67 : decode prog_14_method_54_code 67 = .ok (.iinc 4 1, 3) := by decide +kernel
theorem e_M_give_70 : decode prog_14_method_54_code 70 = .ok (.goto (-28), 3) := by decide +kernel
theorem e_M_give_73 : decode prog_14_method_54_code 73 = .ok (.iconst 0, 1) := by decide +kernel
theorem e_M_give_74 : decode prog_14_method_54_code 74 = .ok (.istore 4, 2) := by decide +kernel
theorem e_M_give_76 : decode prog_14_method_54_code 76 = .ok (.iload 4, 2) := by decide +kernel
theorem e_M_give_78 : decode prog_14_method_54_code 78 = .ok (.aload_n 0, 1) := by decide +kernel
theorem e_M_give_79 : decode prog_14_method_54_code 79 = .ok (.getfield 327, 3) := by decide +kernel
theorem e_M_give_82 : decode prog_14_method_54_code 82 = .ok (.if_icmp .ge 28, 3) := by decide +kernel
theorem e_M_give_85 : decode prog_14_method_54_code 85 = .ok (.aload_n 0, 1) := by decide +kernel
theorem e_M_give_86 : decode prog_14_method_54_code 86 = .ok (.getfield 87, 3) := by decide +kernel
theorem e_M_give_89 : decode prog_14_method_54_code 89 = .ok (.bipush 12, 2) := by decide +kernel
theorem e_M_give_91 : decode prog_14_method_54_code 91 = .ok (.iload_n 2, 1) := by decide +kernel
theorem e_M_give_92 : decode prog_14_method_54_code 92 = .ok (.imul, 1) := by decide +kernel
theorem e_M_give_93 : decode prog_14_method_54_code 93 = .ok (.iload 4, 2) := by decide +kernel
theorem e_M_give_95 : decode prog_14_method_54_code 95 = .ok (.iadd, 1) := by decide +kernel
theorem e_M_give_96 : decode prog_14_method_54_code 96 = .ok (.aload_n 0, 1) := by decide +kernel
theorem e_M_give_97 : decode prog_14_method_54_code 97 = .ok (.getfield 111, 3) := by decide +kernel
theorem e_M_give_100 : decode prog_14_method_54_code 100 = .ok (.iload 4, 2) := by decide +kernel
theorem e_M_give_102 : decode prog_14_method_54_code 102 = .ok (.iaload, 1) := by decide +kernel
theorem e_M_give_103 : decode prog_14_method_54_code 103 = .ok (.iastore, 1) := by decide +kernel
theorem e_M_give_104 : decode prog_14_method_54_code 104 = .ok (.iinc 4 1, 3) := by decide +kernel
theorem e_M_give_107 : decode prog_14_method_54_code 107 = .ok (.goto (-31), 3) := by decide +kernel
theorem e_M_give_110 : decode prog_14_method_54_code 110 = .ok (.aload_n 0, 1) := by decide +kernel
theorem e_M_give_111 : decode prog_14_method_54_code 111 = .ok (.getfield 90, 3) := by decide +kernel
theorem e_M_give_114 : decode prog_14_method_54_code 114 = .ok (.iload_n 1, 1) := by decide +kernel
theorem e_M_give_115 : decode prog_14_method_54_code 115 = .ok (.iconst 1, 1) := by decide +kernel
theorem e_M_give_116 : decode prog_14_method_54_code 116 = .ok (.bastore, 1) := by decide +kernel
theorem e_M_give_117 : decode prog_14_method_54_code 117 = .ok (.iconst 1, 1) := by decide +kernel
theorem e_M_give_118 : decode prog_14_method_54_code 118 = .ok (.ireturn, 1) := by decide +kernel
theorem e_M_give_119 : decode prog_14_method_54_code 119 = .ok (.aload_n 0, 1) := by decide +kernel
theorem e_M_give_120 : decode prog_14_method_54_code 120 = .ok (.getfield 81, 3) := by decide +kernel
theorem e_M_give_123 : decode prog_14_method_54_code 123 = .ok (.iload_n 2, 1) := by decide +kernel
theorem e_M_give_124 : decode prog_14_method_54_code 124 = .ok (.iaload, 1) := by decide +kernel
theorem e_M_give_125 : decode prog_14_method_54_code 125 = .ok (.aload_n 0, 1) := by decide +kernel
theorem e_M_give_126 : decode prog_14_method_54_code 126 = .ok (.getfield 327, 3) := by decide +kernel
theorem e_M_give_129 : decode prog_14_method_54_code 129 = .ok (.if_icmp .eq 11, 3) := by decide +kernel
theorem e_M_give_132 : decode prog_14_method_54_code 132 = .ok (.aload_n 0, 1) := by decide +kernel
theorem e_M_give_133 : decode prog_14_method_54_code 133 = .ok (.bipush 9, 2) := by decide +kernel
theorem e_M_give_135 : decode prog_14_method_54_code 135 = .ok (.iload_n 1, 1) := by decide +kernel
theorem e_M_give_136 : decode prog_14_method_54_code 136 = .ok (.invokevirtual 237, 3) := by decide +kernel
theorem e_M_give_139 : decode prog_14_method_54_code 139 = .ok (.ireturn, 1) := by decide +kernel
theorem e_M_give_140 : decode prog_14_method_54_code 140 = .ok (.iconst 0, 1) := by decide +kernel
theorem e_M_give_141 : decode prog_14_method_54_code 141 = .ok (.istore 4, 2) := by decide +kernel
theorem e_M_give_143 : decode prog_14_method_54_code 143 = .ok (.iconst 0, 1) := by decide +kernel
theorem e_M_give_144 : decode prog_14_method_54_code 144 = .ok (.istore 5, 2) := by decide +kernel
theorem e_M_give_146 : decode prog_14_method_54_code 146 = .ok (.iload 5, 2) := by decide +kernel
theorem e_M_give_148 : decode prog_14_method_54_code 148 = .ok (.aload_n 0, 1) := by decide +kernel
theorem e_M_give_149 : decode prog_14_method_54_code 149 = .ok (.getfield 327, 3) := by decide +kernel
theorem e_M_give_152 : decode prog_14_method_54_code 152 = .ok (.if_icmp .ge 90, 3) := by decide +kernel
theorem e_M_give_155 : decode prog_14_method_54_code 155 = .ok (.aload_n 0, 1) := by decide +kernel
theorem e_M_give_156 : decode prog_14_method_54_code 156 = .ok (.aload_n 0, 1) := by decide +kernel
theorem e_M_give_157 : decode prog_14_method_54_code 157 = .ok (.getfield 87, 3) := by decide +kernel
theorem e_M_give_160 : decode prog_14_method_54_code 160 = .ok (.bipush 12, 2) := by decide +kernel
theorem e_M_give_162 : decode prog_14_method_54_code 162 = .ok (.iload_n 2, 1) := by decide +kernel
theorem e_M_give_163 : decode prog_14_method_54_code 163 = .ok (.imul, 1) := by decide +kernel
theorem e_M_give_164 : decode prog_14_method_54_code 164 = .ok (.iload 5, 2) := by decide +kernel
theorem e_M_give_166 : decode prog_14_method_54_code 166 = .ok (.iadd, 1) := by decide +kernel
theorem e_M_give_167 : decode prog_14_method_54_code 167 = .ok (.iaload, 1) := by decide +kernel
theorem e_M_give_168 : decode prog_14_method_54_code 168 = .ok (.aload_n 0, 1) := by decide +kernel
theorem e_M_give_169 : decode prog_14_method_54_code 169 = .ok (.getfield 111, 3) := by decide +kernel
theorem e_M_give_172 : decode prog_14_method_54_code 172 = .ok (.iload 5, 2) := by decide +kernel
theorem e_M_give_174 : decode prog_14_method_54_code 174 = .ok (.iaload, 1) := by decide +kernel
theorem e_M_give_175 : decode prog_14_method_54_code 175 = .ok (.invokevirtual 330, 3) := by decide +kernel
theorem e_M_give_178 : decode prog_14_method_54_code 178 = .ok (.istore 6, 2) := by decide +kernel
theorem e_M_give_180 : decode prog_14_method_54_code 180 = .ok (.iload 6, 2) := by decide +kernel
theorem e_M_give_182 : decode prog_14_method_54_code 182 = .ok (.ifCond .ne 11, 3) := by decide +kernel
theorem e_M_give_185 : decode prog_14_method_54_code 185 = .ok (.aload_n 0, 1) := by decide +kernel
theorem e_M_give_186 : decode prog_14_method_54_code 186 = .ok (.bipush 9, 2) := by decide +kernel
theorem e_M_give_188 : decode prog_14_method_54_code 188 = .ok (.iload_n 1, 1) := by decide +kernel
theorem e_M_give_189 : decode prog_14_method_54_code 189 = .ok (.invokevirtual 237, 3) := by decide +kernel
theorem e_M_give_192 : decode prog_14_method_54_code 192 = .ok (.ireturn, 1) := by decide +kernel
theorem e_M_give_193 : decode prog_14_method_54_code 193 = .ok (.iload 4, 2) := by decide +kernel
theorem e_M_give_195 : decode prog_14_method_54_code 195 = .ok (.ifCond .ne 20, 3) := by decide +kernel
theorem e_M_give_198 : decode prog_14_method_54_code 198 = .ok (.iload 6, 2) := by decide +kernel
theorem e_M_give_200 : decode prog_14_method_54_code 200 = .ok (.aload_n 0, 1) := by decide +kernel
theorem e_M_give_201 : decode prog_14_method_54_code 201 = .ok (.getfield 87, 3) := by decide +kernel
theorem e_M_give_204 : decode prog_14_method_54_code 204 = .ok (.bipush 12, 2) := by decide +kernel
theorem e_M_give_206 : decode prog_14_method_54_code 206 = .ok (.iload_n 2, 1) := by decide +kernel
theorem e_M_give_207 : decode prog_14_method_54_code 207 = .ok (.imul, 1) := by decide +kernel
theorem e_M_give_208 : decode prog_14_method_54_code 208 = .ok (.iload 5, 2) := by decide +kernel
theorem e_M_give_210 : decode prog_14_method_54_code 210 = .ok (.iadd, 1) := by decide +kernel
theorem e_M_give_211 : decode prog_14_method_54_code 211 = .ok (.iaload, 1) := by decide +kernel
theorem e_M_give_212 : decode prog_14_method_54_code 212 = .ok (.if_icmp .eq 7, 3) := by decide +kernel
theorem e_M_give_215 : decode prog_14_method_54_code 215 = .ok (.iconst 1, 1) := by decide +kernel
theorem e_M_give_216 : decode prog_14_method_54_code 216 = .ok (.goto 4, 3) := by decide +kernel
theorem e_M_give_219 : decode prog_14_method_54_code 219 = .ok (.iconst 0, 1) := by decide +kernel
theorem e_M_give_220 : decode prog_14_method_54_code 220 = .ok (.istore 4, 2) := by decide +kernel
theorem e_M_give_222 : decode prog_14_method_54_code 222 = .ok (.aload_n 0, 1) := by decide +kernel
theorem e_M_give_223 : decode prog_14_method_54_code 223 = .ok (.getfield 87, 3) := by decide +kernel
theorem e_M_give_226 : decode prog_14_method_54_code 226 = .ok (.bipush 12, 2) := by decide +kernel
theorem e_M_give_228 : decode prog_14_method_54_code 228 = .ok (.iload_n 2, 1) := by decide +kernel
theorem e_M_give_229 : decode prog_14_method_54_code 229 = .ok (.imul, 1) := by decide +kernel
theorem e_M_give_230 : decode prog_14_method_54_code 230 = .ok (.iload 5, 2) := by decide +kernel
theorem e_M_give_232 : decode prog_14_method_54_code 232 = .ok (.iadd, 1) := by decide +kernel
theorem e_M_give_233 : decode prog_14_method_54_code 233 = .ok (.iload 6, 2) := by decide +kernel
theorem e_M_give_235 : decode prog_14_method_54_code 235 = .ok (.iastore, 1) := by decide +kernel
theorem e_M_give_236 : decode prog_14_method_54_code 236 = .ok (.iinc 5 1, 3) := by decide +kernel
theorem e_M_give_239 : decode prog_14_method_54_code 239 = .ok (.goto (-93), 3) := by decide +kernel
theorem e_M_give_242 : decode prog_14_method_54_code 242 = .ok (.iconst 0, 1) := by decide +kernel
theorem e_M_give_243 : decode prog_14_method_54_code 243 = .ok (.istore 5, 2) := by decide +kernel
theorem e_M_give_245 : decode prog_14_method_54_code 245 = .ok (.iload 5, 2) := by decide +kernel
theorem e_M_give_247 : decode prog_14_method_54_code 247 = .ok (.iload_n 3, 1) := by decide +kernel
theorem e_M_give_248 : decode prog_14_method_54_code 248 = .ok (.if_icmp .ge 77, 3) := by decide +kernel
theorem e_M_give_251 : decode prog_14_method_54_code 251 = .ok (.aload_n 0, 1) := by decide +kernel
theorem e_M_give_252 : decode prog_14_method_54_code 252 = .ok (.aload_n 0, 1) := by decide +kernel
theorem e_M_give_253 : decode prog_14_method_54_code 253 = .ok (.getfield 84, 3) := by decide +kernel
theorem e_M_give_256 : decode prog_14_method_54_code 256 = .ok (.bipush 12, 2) := by decide +kernel
theorem e_M_give_258 : decode prog_14_method_54_code 258 = .ok (.iload_n 2, 1) := by decide +kernel
theorem e_M_give_259 : decode prog_14_method_54_code 259 = .ok (.imul, 1) := by decide +kernel
theorem e_M_give_260 : decode prog_14_method_54_code 260 = .ok (.iload 5, 2) := by decide +kernel
theorem e_M_give_262 : decode prog_14_method_54_code 262 = .ok (.iadd, 1) := by decide +kernel
theorem e_M_give_263 : decode prog_14_method_54_code 263 = .ok (.iaload, 1) := by decide +kernel
theorem e_M_give_264 : decode prog_14_method_54_code 264 = .ok (.aload_n 0, 1) := by decide +kernel
theorem e_M_give_265 : decode prog_14_method_54_code 265 = .ok (.getfield 108, 3) := by decide +kernel
theorem e_M_give_268 : decode prog_14_method_54_code 268 = .ok (.iload 5, 2) := by decide +kernel
theorem e_M_give_270 : decode prog_14_method_54_code 270 = .ok (.iaload, 1) := by decide +kernel
theorem e_M_give_271 : decode prog_14_method_54_code 271 = .ok (.invokevirtual 330, 3) := by decide +kernel
theorem e_M_give_274 : decode prog_14_method_54_code 274 = .ok (.istore 6, 2) := by decide +kernel
theorem e_M_give_276 : decode prog_14_method_54_code 276 = .ok (.iload 4, 2) := by decide +kernel
theorem e_M_give_278 : decode prog_14_method_54_code 278 = .ok (.ifCond .ne 20, 3) := by decide +kernel
theorem e_M_give_281 : decode prog_14_method_54_code 281 = .ok (.iload 6, 2) := by decide +kernel
theorem e_M_give_283 : decode prog_14_method_54_code 283 = .ok (.aload_n 0, 1) := by decide +kernel
theorem e_M_give_284 : decode prog_14_method_54_code 284 = .ok (.getfield 84, 3) := by decide +kernel
theorem e_M_give_287 : decode prog_14_method_54_code 287 = .ok (.bipush 12, 2) := by decide +kernel
theorem e_M_give_289 : decode prog_14_method_54_code 289 = .ok (.iload_n 2, 1) := by decide +kernel
theorem e_M_give_290 : decode prog_14_method_54_code 290 = .ok (.imul, 1) := by decide +kernel
theorem e_M_give_291 : decode prog_14_method_54_code 291 = .ok (.iload 5, 2) := by decide +kernel
theorem e_M_give_293 : decode prog_14_method_54_code 293 = .ok (.iadd, 1) := by decide +kernel
theorem e_M_give_294 : decode prog_14_method_54_code 294 = .ok (.iaload, 1) := by decide +kernel
theorem e_M_give_295 : decode prog_14_method_54_code 295 = .ok (.if_icmp .eq 7, 3) := by decide +kernel
theorem e_M_give_298 : decode prog_14_method_54_code 298 = .ok (.iconst 1, 1) := by decide +kernel
theorem e_M_give_299 : decode prog_14_method_54_code 299 = .ok (.goto 4, 3) := by decide +kernel
theorem e_M_give_302 : decode prog_14_method_54_code 302 = .ok (.iconst 0, 1) := by decide +kernel
theorem e_M_give_303 : decode prog_14_method_54_code 303 = .ok (.istore 4, 2) := by decide +kernel
theorem e_M_give_305 : decode prog_14_method_54_code 305 = .ok (.aload_n 0, 1) := by decide +kernel
theorem e_M_give_306 : decode prog_14_method_54_code 306 = .ok (.getfield 84, 3) := by decide +kernel
theorem e_M_give_309 : decode prog_14_method_54_code 309 = .ok (.bipush 12, 2) := by decide +kernel
theorem e_M_give_311 : decode prog_14_method_54_code 311 = .ok (.iload_n 2, 1) := by decide +kernel
theorem e_M_give_312 : decode prog_14_method_54_code 312 = .ok (.imul, 1) := by decide +kernel
theorem e_M_give_313 : decode prog_14_method_54_code 313 = .ok (.iload 5, 2) := by decide +kernel
theorem e_M_give_315 : decode prog_14_method_54_code 315 = .ok (.iadd, 1) := by decide +kernel
theorem e_M_give_316 : decode prog_14_method_54_code 316 = .ok (.iload 6, 2) := by decide +kernel
theorem e_M_give_318 : decode prog_14_method_54_code 318 = .ok (.iastore, 1) := by decide +kernel
theorem e_M_give_319 : decode prog_14_method_54_code 319 = .ok (.iinc 5 1, 3) := by decide +kernel
theorem e_M_give_322 : decode prog_14_method_54_code 322 = .ok (.goto (-77), 3) := by decide +kernel
theorem e_M_give_325 : decode prog_14_method_54_code 325 = .ok (.aload_n 0, 1) := by decide +kernel
theorem e_M_give_326 : decode prog_14_method_54_code 326 = .ok (.getfield 90, 3) := by decide +kernel
theorem e_M_give_329 : decode prog_14_method_54_code 329 = .ok (.iload_n 1, 1) := by decide +kernel
theorem e_M_give_330 : decode prog_14_method_54_code 330 = .ok (.aload_n 0, 1) := by decide +kernel
theorem e_M_give_331 : decode prog_14_method_54_code 331 = .ok (.getfield 90, 3) := by decide +kernel
theorem e_M_give_334 : decode prog_14_method_54_code 334 = .ok (.iload_n 1, 1) := by decide +kernel
theorem e_M_give_335 : decode prog_14_method_54_code 335 = .ok (.baload, 1) := by decide +kernel
theorem e_M_give_336 : decode prog_14_method_54_code 336 = .ok (.ifCond .ne 8, 3) := by decide +kernel
theorem e_M_give_339 : decode prog_14_method_54_code 339 = .ok (.iload 4, 2) := by decide +kernel
theorem e_M_give_341 : decode prog_14_method_54_code 341 = .ok (.ifCond .eq 7, 3) := by decide +kernel
theorem e_M_give_344 : decode prog_14_method_54_code 344 = .ok (.iconst 1, 1) := by decide +kernel
theorem e_M_give_345 : decode prog_14_method_54_code 345 = .ok (.goto 4, 3) := by decide +kernel
theorem e_M_give_348 : decode prog_14_method_54_code 348 = .ok (.iconst 0, 1) := by decide +kernel
theorem e_M_give_349 : decode prog_14_method_54_code 349 = .ok (.bastore, 1) := by decide +kernel
theorem e_M_give_350 : decode prog_14_method_54_code 350 = .ok (.iconst 1, 1) := by decide +kernel
theorem e_M_give_351 : decode prog_14_method_54_code 351 = .ok (.ireturn, 1) := by decide +kernel
def w_M_give_76 (P : Int32 → MST → Prop) : Nat → Int32 → Int32 → Int32 → MST → Prop
  | 0, _, _, _, _ => False
  | n + 1, z1, z2, z4, σ => (((σ.1 43) ≤ z4 → vp_in z1 120 ∧ (∀ σ2 : MST, σ2 = setA σ 30 (upd (σ.2.1 30) (z1 : Int32).toNatClampNeg (vp_nar .boolean 1)) → P (1 : Int32) σ2)) ∧ (¬ (σ.1 43) ≤ z4 → vp_in z4 20 ∧ (∀ a3 : Int32, a3 = (σ.2.1 42 (z4 : Int32).toNatClampNeg) → vp_in (((12 : Int32) * z2) + z4) 11520 ∧ (∀ σ4 : MST, σ4 = setA σ 29 (upd (σ.2.1 29) ((((12 : Int32) * z2) + z4) : Int32).toNatClampNeg a3) → w_M_give_76 P n z1 z2 (z4 + 1) σ4))))
def w_M_give_42 (P : Int32 → MST → Prop) : Nat → Int32 → Int32 → Int32 → Int32 → MST → Prop
  | 0, _, _, _, _, _ => False
  | n + 1, z1, z2, z3, z4, σ => ((z3 ≤ z4 → (∃ n9 : Nat, w_M_give_76 P n9 z1 z2 0 σ)) ∧ (¬ z3 ≤ z4 → vp_in z4 12 ∧ (∀ a6 : Int32, a6 = (σ.2.1 41 (z4 : Int32).toNatClampNeg) → vp_in (((12 : Int32) * z2) + z4) 11520 ∧ (∀ σ7 : MST, σ7 = setA σ 28 (upd (σ.2.1 28) ((((12 : Int32) * z2) + z4) : Int32).toNatClampNeg a6) → w_M_give_42 P n z1 z2 z3 (z4 + 1) σ7))))
def w_M_give_220 (K146 : Int32 → Int32 → Int32 → Int32 → Int32 → MST → Prop) (P : Int32 → MST → Prop) (z1 : Int32) (z2 : Int32) (z3 : Int32) (z5 : Int32) (z6 : Int32) (s0 : Int32) (σ : MST) : Prop := vp_in (((12 : Int32) * z2) + z5) 11520 ∧ (∀ σ8 : MST, σ8 = setA σ 29 (upd (σ.2.1 29) ((((12 : Int32) * z2) + z5) : Int32).toNatClampNeg z6) → K146 z1 z2 z3 s0 (z5 + 1) σ8)
def w_M_give_215 (K146 : Int32 → Int32 → Int32 → Int32 → Int32 → MST → Prop) (P : Int32 → MST → Prop) (z1 : Int32) (z2 : Int32) (z3 : Int32) (z5 : Int32) (z6 : Int32) (σ : MST) : Prop := w_M_give_220 K146 P z1 z2 z3 z5 z6 1 σ
def w_M_give_303 (K245 : Int32 → Int32 → Int32 → Int32 → Int32 → MST → Prop) (P : Int32 → MST → Prop) (z1 : Int32) (z2 : Int32) (z3 : Int32) (z5 : Int32) (z6 : Int32) (s0 : Int32) (σ : MST) : Prop := vp_in (((12 : Int32) * z2) + z5) 11520 ∧ (∀ σ9 : MST, σ9 = setA σ 28 (upd (σ.2.1 28) ((((12 : Int32) * z2) + z5) : Int32).toNatClampNeg z6) → K245 z1 z2 z3 s0 (z5 + 1) σ9)
def w_M_give_298 (K245 : Int32 → Int32 → Int32 → Int32 → Int32 → MST → Prop) (P : Int32 → MST → Prop) (z1 : Int32) (z2 : Int32) (z3 : Int32) (z5 : Int32) (z6 : Int32) (σ : MST) : Prop := w_M_give_303 K245 P z1 z2 z3 z5 z6 1 σ
def w_M_give_349 (P : Int32 → MST → Prop) (s0 : Int32) (s1 : Int32) (σ : MST) : Prop := vp_in s1 120 ∧ (∀ σ10 : MST, σ10 = setA σ 30 (upd (σ.2.1 30) (s1 : Int32).toNatClampNeg (vp_nar .boolean s0)) → P (1 : Int32) σ10)
def w_M_give_344 (P : Int32 → MST → Prop) (s0 : Int32) (σ : MST) : Prop := w_M_give_349 P 1 s0 σ
def w_M_give_245 (P : Int32 → MST → Prop) : Nat → Int32 → Int32 → Int32 → Int32 → Int32 → MST → Prop
  | 0, _, _, _, _, _, _ => False
  | n + 1, z1, z2, z3, z4, z5, σ => ((z3 ≤ z5 → vp_in z1 120 ∧ (∀ a12 : Int32, a12 = (σ.2.1 30 (z1 : Int32).toNatClampNeg) → ((a12 = 0 → ((z4 = 0 → w_M_give_349 P 0 z1 σ) ∧ (¬ z4 = 0 → w_M_give_344 P z1 σ))) ∧ (¬ a12 = 0 → w_M_give_344 P z1 σ)))) ∧ (¬ z3 ≤ z5 → vp_in (((12 : Int32) * z2) + z5) 11520 ∧ (∀ a15 : Int32, a15 = (σ.2.1 28 ((((12 : Int32) * z2) + z5) : Int32).toNatClampNeg) → vp_in z5 12 ∧ (∀ a16 : Int32, a16 = (σ.2.1 41 (z5 : Int32).toNatClampNeg) → w_M_merge a15 a16 σ (fun r18 σ17 => ((z4 = 0 → vp_in (((12 : Int32) * z2) + z5) 11520 ∧ (∀ a20 : Int32, a20 = (σ17.2.1 28 ((((12 : Int32) * z2) + z5) : Int32).toNatClampNeg) → ((r18 = a20 → w_M_give_303 (w_M_give_245 P n) P z1 z2 z3 z5 r18 0 σ17) ∧ (¬ r18 = a20 → w_M_give_298 (w_M_give_245 P n) P z1 z2 z3 z5 r18 σ17)))) ∧ (¬ z4 = 0 → w_M_give_298 (w_M_give_245 P n) P z1 z2 z3 z5 r18 σ17)))))))
def w_M_give_146 (P : Int32 → MST → Prop) : Nat → Int32 → Int32 → Int32 → Int32 → Int32 → MST → Prop
  | 0, _, _, _, _, _, _ => False
  | n + 1, z1, z2, z3, z4, z5, σ => (((σ.1 43) ≤ z5 → (∃ n9 : Nat, w_M_give_245 P n9 z1 z2 z3 z4 0 σ)) ∧ (¬ (σ.1 43) ≤ z5 → vp_in (((12 : Int32) * z2) + z5) 11520 ∧ (∀ a23 : Int32, a23 = (σ.2.1 29 ((((12 : Int32) * z2) + z5) : Int32).toNatClampNeg) → vp_in z5 20 ∧ (∀ a24 : Int32, a24 = (σ.2.1 42 (z5 : Int32).toNatClampNeg) → w_M_merge a23 a24 σ (fun r26 σ25 => ((r26 = 0 → w_M_faulty (9 : Int32) z1 σ25 (fun r32 σ31 => (narrow .boolean (.int r32) = .int r32 ∧ P r32 σ31))) ∧ (¬ r26 = 0 → ((z4 = 0 → vp_in (((12 : Int32) * z2) + z5) 11520 ∧ (∀ a29 : Int32, a29 = (σ25.2.1 29 ((((12 : Int32) * z2) + z5) : Int32).toNatClampNeg) → ((r26 = a29 → w_M_give_220 (w_M_give_146 P n) P z1 z2 z3 z5 r26 0 σ25) ∧ (¬ r26 = a29 → w_M_give_215 (w_M_give_146 P n) P z1 z2 z3 z5 r26 σ25)))) ∧ (¬ z4 = 0 → w_M_give_215 (w_M_give_146 P n) P z1 z2 z3 z5 r26 σ25)))))))))
def w_M_give (x1 : Int32) (σ : MST) (P : Int32 → MST → Prop) : Prop := vp_in (σ.1 33) 8 ∧ (∀ a33 : Int32, a33 = (σ.2.1 15 ((σ.1 33) : Int32).toNatClampNeg) → vp_in (((120 : Int32) * (σ.1 33)) + x1) 960 ∧ (∀ a34 : Int32, a34 = (σ.2.1 27 ((((120 : Int32) * (σ.1 33)) + x1) : Int32).toNatClampNeg) → ((0 ≤ a34 → vp_in (((120 : Int32) * (σ.1 33)) + x1) 960 ∧ (∀ a36 : Int32, a36 = (σ.2.1 27 ((((120 : Int32) * (σ.1 33)) + x1) : Int32).toNatClampNeg) → ((a36 = (σ.1 43) → (∃ n9 : Nat, w_M_give_146 P n9 x1 (((120 : Int32) * (σ.1 33)) + x1) a33 0 0 σ)) ∧ (¬ a36 = (σ.1 43) → w_M_faulty (9 : Int32) x1 σ (fun r39 σ38 => (narrow .boolean (.int r39) = .int r39 ∧ P r39 σ38)))))) ∧ (¬ 0 ≤ a34 → vp_in (((120 : Int32) * (σ.1 33)) + x1) 960 ∧ (∀ σ40 : MST, σ40 = setA σ 27 (upd (σ.2.1 27) ((((120 : Int32) * (σ.1 33)) + x1) : Int32).toNatClampNeg (σ.1 43)) → (∃ n9 : Nat, w_M_give_42 P n9 x1 (((120 : Int32) * (σ.1 33)) + x1) a33 0 σ40))))))
set_option maxHeartbeats 4000000 in
set_option maxRecDepth 100000 in
theorem K_M_give (l : Launch) (dC : Nat → ClassId) (dI : Nat → Nat → Nat) (mo : Nat) (rf : Nat → Nat) (ca : Nat → ClassId) (sz : Nat) (σ : MST) (x1 : Int32) {P : Int32 → MST → Prop} (hw : w_M_give x1 σ P) : Met l z_M_give (mW z_M_give prog_14_method_54_code 7 (some .boolean)) ({ frames := 3, cells := 0, slots := 0, locals := 68 } : Room) (va_Pc [.ref mo, .int x1] (MPre (dC, dI) mo rf ca σ sz)) (va_Qi P (MB (dC, dI) mo rf ca sz) (mA mo rf sz)) 0 0 (mA mo rf sz) := by
  refine M_ofz (by decide) rfl (Nat.le_of_ble_eq_true rfl) ?_
  intro p e s m below meth cx Q A ls C hA hend h hl
  have C0 := C
  obtain ⟨⟨hx, hb, hml, hown, hts⟩, hsub⟩ := C0
  have K_76 : ∀ (n : Nat), ∀ (z1 : Int32) (z2 : Int32) (z4 : Int32) (σ : MST) (H : Heap) (locs : List Loc) (ls : Array Slot), w_M_give_76 P n z1 z2 z4 σ → MH (dC, dI) A mo rf ca σ s H locs → lv_has ls 7 [(0, .ref mo), (1, .int z1), (2, .int z2), (4, .int z4)] → W p l e ({ frames := 3, cells := 0, slots := 0, locals := 68 } : Room) s m ([.ref mo, .int x1] : List Value).toArray below meth cx H locs 0 0 Q (F0 m 76 ls []) := by
    intro  n
    induction n with
    | zero => intro z1 z2 z4 σ H locs ls hw h hl; unfold w_M_give_76 at hw; exact hw.elim
    | succ n ih =>
      intro z1 z2 z4 σ H locs ls hw h hl
      unfold w_M_give_76 at hw
      refine lv_iload hx hb e_M_give_76 (lv_at hl 3 rfl) ?_
      refine lv_aload_n hx hb e_M_give_78 rfl (lv_at hl 0 rfl) ?_
      refine M_get C h 43 (v := .int (σ.1 43)) rfl (by decide) v_190 e_M_give_79 ?_
      refine lv_icmp_ge (tgt := 110) hx hb e_M_give_82 (by decide) (fun c1 => ?_) (fun c1 => ?_)
      · skip
        replace hw := hw.1 c1
        refine lv_aload_n hx hb e_M_give_110 rfl (lv_at hl 0 rfl) ?_
        refine M_get C h 30 (v := .ref (rf 30)) rfl (by decide) v_191 e_M_give_111 ?_
        refine lv_iload_n hx hb e_M_give_114 rfl (lv_at hl 1 rfl) ?_
        refine lv_iconst (v := 1) hx hb e_M_give_115 (by decide) ?_
        refine M_zast C h 30 (by decide) rfl hw.1 e_M_give_116 (fun H locs h => ?_)
        replace hw := hw.2
        obtain ⟨σ2, e_σ2⟩ : ∃ z : MST, z = setA σ 30 (upd (σ.2.1 30) (z1 : Int32).toNatClampNeg (vp_nar .boolean 1)) := ⟨_, rfl⟩
        rw [← e_σ2] at h
        replace hw := hw σ2 e_σ2
        refine lv_iconst (v := 1) hx hb e_M_give_117 (by decide) ?_
        exact hend (1 : Int32) σ2 _ _ _ _ rfl hw h e_M_give_118
      · skip
        replace hw := hw.2 c1
        refine lv_aload_n hx hb e_M_give_85 rfl (lv_at hl 0 rfl) ?_
        refine M_get C h 29 (v := .ref (rf 29)) rfl (by decide) v_192 e_M_give_86 ?_
        refine lv_bipush (v := 12) hx hb e_M_give_89 (by decide) ?_
        refine lv_iload_n hx hb e_M_give_91 rfl (lv_at hl 2 rfl) ?_
        refine lv_imul hx hb e_M_give_92 ?_
        refine lv_iload hx hb e_M_give_93 (lv_at hl 3 rfl) ?_
        refine lv_iadd hx hb e_M_give_95 ?_
        refine lv_aload_n hx hb e_M_give_96 rfl (lv_at hl 0 rfl) ?_
        refine M_get C h 42 (v := .ref (rf 42)) rfl (by decide) v_193 e_M_give_97 ?_
        refine lv_iload hx hb e_M_give_100 (lv_at hl 3 rfl) ?_
        refine M_ald C h 42 (by decide) rfl hw.1 e_M_give_102 ?_
        replace hw := hw.2
        refine lv_topi (fun a3 e_a3 => ?_)
        replace hw := hw a3 e_a3
        refine M_ast C h 29 (by decide) rfl hw.1 e_M_give_103 (fun H locs h => ?_)
        replace hw := hw.2
        obtain ⟨σ4, e_σ4⟩ : ∃ z : MST, z = setA σ 29 (upd (σ.2.1 29) ((((12 : Int32) * z2) + z4) : Int32).toNatClampNeg a3) := ⟨_, rfl⟩
        rw [← e_σ4] at h
        replace hw := hw σ4 e_σ4
        refine lv_iinc (v := (z4 + 1)) (lv' := [(4, .int (z4 + 1)), (0, .ref mo), (1, .int z1), (2, .int z2)]) hx hb e_M_give_104 hl (k := 3) rfl (rfl) (by decide) rfl (fun ls hl => ?_)
        refine lv_goto (tgt := 76) hx hb e_M_give_107 (by decide) ?_
        exact ih z1 z2 (z4 + 1) σ4 _ _ _ hw h (lv_sub hl [1, 2, 3, 0] rfl)
  have K_42 : ∀ (n : Nat), ∀ (z1 : Int32) (z2 : Int32) (z3 : Int32) (z4 : Int32) (σ : MST) (H : Heap) (locs : List Loc) (ls : Array Slot), w_M_give_42 P n z1 z2 z3 z4 σ → MH (dC, dI) A mo rf ca σ s H locs → lv_has ls 7 [(0, .ref mo), (1, .int z1), (2, .int z2), (3, .int z3), (4, .int z4)] → W p l e ({ frames := 3, cells := 0, slots := 0, locals := 68 } : Room) s m ([.ref mo, .int x1] : List Value).toArray below meth cx H locs 0 0 Q (F0 m 42 ls []) := by
    intro  n
    induction n with
    | zero => intro z1 z2 z3 z4 σ H locs ls hw h hl; unfold w_M_give_42 at hw; exact hw.elim
    | succ n ih =>
      intro z1 z2 z3 z4 σ H locs ls hw h hl
      unfold w_M_give_42 at hw
      refine lv_iload hx hb e_M_give_42 (lv_at hl 4 rfl) ?_
      refine lv_iload_n hx hb e_M_give_44 rfl (lv_at hl 3 rfl) ?_
      refine lv_icmp_ge (tgt := 73) hx hb e_M_give_45 (by decide) (fun c5 => ?_) (fun c5 => ?_)
      · skip
        replace hw := hw.1 c5
        refine lv_iconst (v := 0) hx hb e_M_give_73 (by decide) ?_
        refine lv_istore (lv' := [(4, .int 0), (0, .ref mo), (1, .int z1), (2, .int z2), (3, .int z3)]) hx hb e_M_give_74 hl (by decide) rfl (fun ls hl => ?_)
        obtain ⟨n9, hw⟩ := hw
        exact K_76 n9 z1 z2 0 σ _ _ _ hw h (lv_sub hl [1, 2, 3, 0] rfl)
      · skip
        replace hw := hw.2 c5
        refine lv_aload_n hx hb e_M_give_48 rfl (lv_at hl 0 rfl) ?_
        refine M_get C h 28 (v := .ref (rf 28)) rfl (by decide) v_194 e_M_give_49 ?_
        refine lv_bipush (v := 12) hx hb e_M_give_52 (by decide) ?_
        refine lv_iload_n hx hb e_M_give_54 rfl (lv_at hl 2 rfl) ?_
        refine lv_imul hx hb e_M_give_55 ?_
        refine lv_iload hx hb e_M_give_56 (lv_at hl 4 rfl) ?_
        refine lv_iadd hx hb e_M_give_58 ?_
        refine lv_aload_n hx hb e_M_give_59 rfl (lv_at hl 0 rfl) ?_
        refine M_get C h 41 (v := .ref (rf 41)) rfl (by decide) v_195 e_M_give_60 ?_
        refine lv_iload hx hb e_M_give_63 (lv_at hl 4 rfl) ?_
        refine M_ald C h 41 (by decide) rfl hw.1 e_M_give_65 ?_
        replace hw := hw.2
        refine lv_topi (fun a6 e_a6 => ?_)
        replace hw := hw a6 e_a6
        refine M_ast C h 28 (by decide) rfl hw.1 e_M_give_66 (fun H locs h => ?_)
        replace hw := hw.2
        obtain ⟨σ7, e_σ7⟩ : ∃ z : MST, z = setA σ 28 (upd (σ.2.1 28) ((((12 : Int32) * z2) + z4) : Int32).toNatClampNeg a6) := ⟨_, rfl⟩
        rw [← e_σ7] at h
        replace hw := hw σ7 e_σ7
        refine lv_iinc (v := (z4 + 1)) (lv' := [(4, .int (z4 + 1)), (0, .ref mo), (1, .int z1), (2, .int z2), (3, .int z3)]) hx hb e_M_give_67 hl (k := 4) rfl (rfl) (by decide) rfl (fun ls hl => ?_)
        refine lv_goto (tgt := 42) hx hb e_M_give_70 (by decide) ?_
        exact ih z1 z2 z3 (z4 + 1) σ7 _ _ _ hw h (lv_sub hl [1, 2, 3, 4, 0] rfl)
  have K_220 : ∀ (K146 : Int32 → Int32 → Int32 → Int32 → Int32 → MST → Prop) (hK146 : ∀ (z1 : Int32) (z2 : Int32) (z3 : Int32) (z4 : Int32) (z5 : Int32) (σ : MST) (H : Heap) (locs : List Loc) (ls : Array Slot), K146 z1 z2 z3 z4 z5 σ → MH (dC, dI) A mo rf ca σ s H locs → lv_has ls 7 [(0, .ref mo), (1, .int z1), (2, .int z2), (3, .int z3), (4, .int z4), (5, .int z5)] → W p l e ({ frames := 3, cells := 0, slots := 0, locals := 68 } : Room) s m ([.ref mo, .int x1] : List Value).toArray below meth cx H locs 0 0 Q (F0 m 146 ls [])), ∀ (z1 : Int32) (z2 : Int32) (z3 : Int32) (z5 : Int32) (z6 : Int32) (s0 : Int32) (σ : MST) (H : Heap) (locs : List Loc) (ls : Array Slot), w_M_give_220 K146 P z1 z2 z3 z5 z6 s0 σ → MH (dC, dI) A mo rf ca σ s H locs → lv_has ls 7 [(0, .ref mo), (1, .int z1), (2, .int z2), (3, .int z3), (5, .int z5), (6, .int z6)] → W p l e ({ frames := 3, cells := 0, slots := 0, locals := 68 } : Room) s m ([.ref mo, .int x1] : List Value).toArray below meth cx H locs 0 0 Q (F0 m 220 ls [.int s0]) := by
    intro K146 hK146 z1 z2 z3 z5 z6 s0 σ H locs ls hw h hl
    unfold w_M_give_220 at hw
    refine lv_istore (lv' := [(4, .int s0), (0, .ref mo), (1, .int z1), (2, .int z2), (3, .int z3), (5, .int z5), (6, .int z6)]) hx hb e_M_give_220 hl (by decide) rfl (fun ls hl => ?_)
    refine lv_aload_n hx hb e_M_give_222 rfl (lv_at hl 1 rfl) ?_
    refine M_get C h 29 (v := .ref (rf 29)) rfl (by decide) v_192 e_M_give_223 ?_
    refine lv_bipush (v := 12) hx hb e_M_give_226 (by decide) ?_
    refine lv_iload_n hx hb e_M_give_228 rfl (lv_at hl 3 rfl) ?_
    refine lv_imul hx hb e_M_give_229 ?_
    refine lv_iload hx hb e_M_give_230 (lv_at hl 5 rfl) ?_
    refine lv_iadd hx hb e_M_give_232 ?_
    refine lv_iload hx hb e_M_give_233 (lv_at hl 6 rfl) ?_
    refine M_ast C h 29 (by decide) rfl hw.1 e_M_give_235 (fun H locs h => ?_)
    replace hw := hw.2
    obtain ⟨σ8, e_σ8⟩ : ∃ z : MST, z = setA σ 29 (upd (σ.2.1 29) ((((12 : Int32) * z2) + z5) : Int32).toNatClampNeg z6) := ⟨_, rfl⟩
    rw [← e_σ8] at h
    replace hw := hw σ8 e_σ8
    refine lv_iinc (v := (z5 + 1)) (lv' := [(5, .int (z5 + 1)), (4, .int s0), (0, .ref mo), (1, .int z1), (2, .int z2), (3, .int z3), (6, .int z6)]) hx hb e_M_give_236 hl (k := 5) rfl (rfl) (by decide) rfl (fun ls hl => ?_)
    refine lv_goto (tgt := 146) hx hb e_M_give_239 (by decide) ?_
    exact hK146 z1 z2 z3 s0 (z5 + 1) σ8 _ _ _ hw h (lv_sub hl [2, 3, 4, 5, 1, 0] rfl)
  have K_215 : ∀ (K146 : Int32 → Int32 → Int32 → Int32 → Int32 → MST → Prop) (hK146 : ∀ (z1 : Int32) (z2 : Int32) (z3 : Int32) (z4 : Int32) (z5 : Int32) (σ : MST) (H : Heap) (locs : List Loc) (ls : Array Slot), K146 z1 z2 z3 z4 z5 σ → MH (dC, dI) A mo rf ca σ s H locs → lv_has ls 7 [(0, .ref mo), (1, .int z1), (2, .int z2), (3, .int z3), (4, .int z4), (5, .int z5)] → W p l e ({ frames := 3, cells := 0, slots := 0, locals := 68 } : Room) s m ([.ref mo, .int x1] : List Value).toArray below meth cx H locs 0 0 Q (F0 m 146 ls [])), ∀ (z1 : Int32) (z2 : Int32) (z3 : Int32) (z5 : Int32) (z6 : Int32) (σ : MST) (H : Heap) (locs : List Loc) (ls : Array Slot), w_M_give_215 K146 P z1 z2 z3 z5 z6 σ → MH (dC, dI) A mo rf ca σ s H locs → lv_has ls 7 [(0, .ref mo), (1, .int z1), (2, .int z2), (3, .int z3), (5, .int z5), (6, .int z6)] → W p l e ({ frames := 3, cells := 0, slots := 0, locals := 68 } : Room) s m ([.ref mo, .int x1] : List Value).toArray below meth cx H locs 0 0 Q (F0 m 215 ls []) := by
    intro K146 hK146 z1 z2 z3 z5 z6 σ H locs ls hw h hl
    unfold w_M_give_215 at hw
    refine lv_iconst (v := 1) hx hb e_M_give_215 (by decide) ?_
    refine lv_goto (tgt := 220) hx hb e_M_give_216 (by decide) ?_
    exact K_220 _ hK146 z1 z2 z3 z5 z6 1 σ _ _ _ hw h (lv_sub hl [0, 1, 2, 3, 4, 5] rfl)
  have K_303 : ∀ (K245 : Int32 → Int32 → Int32 → Int32 → Int32 → MST → Prop) (hK245 : ∀ (z1 : Int32) (z2 : Int32) (z3 : Int32) (z4 : Int32) (z5 : Int32) (σ : MST) (H : Heap) (locs : List Loc) (ls : Array Slot), K245 z1 z2 z3 z4 z5 σ → MH (dC, dI) A mo rf ca σ s H locs → lv_has ls 7 [(0, .ref mo), (1, .int z1), (2, .int z2), (3, .int z3), (4, .int z4), (5, .int z5)] → W p l e ({ frames := 3, cells := 0, slots := 0, locals := 68 } : Room) s m ([.ref mo, .int x1] : List Value).toArray below meth cx H locs 0 0 Q (F0 m 245 ls [])), ∀ (z1 : Int32) (z2 : Int32) (z3 : Int32) (z5 : Int32) (z6 : Int32) (s0 : Int32) (σ : MST) (H : Heap) (locs : List Loc) (ls : Array Slot), w_M_give_303 K245 P z1 z2 z3 z5 z6 s0 σ → MH (dC, dI) A mo rf ca σ s H locs → lv_has ls 7 [(0, .ref mo), (1, .int z1), (2, .int z2), (3, .int z3), (5, .int z5), (6, .int z6)] → W p l e ({ frames := 3, cells := 0, slots := 0, locals := 68 } : Room) s m ([.ref mo, .int x1] : List Value).toArray below meth cx H locs 0 0 Q (F0 m 303 ls [.int s0]) := by
    intro K245 hK245 z1 z2 z3 z5 z6 s0 σ H locs ls hw h hl
    unfold w_M_give_303 at hw
    refine lv_istore (lv' := [(4, .int s0), (0, .ref mo), (1, .int z1), (2, .int z2), (3, .int z3), (5, .int z5), (6, .int z6)]) hx hb e_M_give_303 hl (by decide) rfl (fun ls hl => ?_)
    refine lv_aload_n hx hb e_M_give_305 rfl (lv_at hl 1 rfl) ?_
    refine M_get C h 28 (v := .ref (rf 28)) rfl (by decide) v_194 e_M_give_306 ?_
    refine lv_bipush (v := 12) hx hb e_M_give_309 (by decide) ?_
    refine lv_iload_n hx hb e_M_give_311 rfl (lv_at hl 3 rfl) ?_
    refine lv_imul hx hb e_M_give_312 ?_
    refine lv_iload hx hb e_M_give_313 (lv_at hl 5 rfl) ?_
    refine lv_iadd hx hb e_M_give_315 ?_
    refine lv_iload hx hb e_M_give_316 (lv_at hl 6 rfl) ?_
    refine M_ast C h 28 (by decide) rfl hw.1 e_M_give_318 (fun H locs h => ?_)
    replace hw := hw.2
    obtain ⟨σ9, e_σ9⟩ : ∃ z : MST, z = setA σ 28 (upd (σ.2.1 28) ((((12 : Int32) * z2) + z5) : Int32).toNatClampNeg z6) := ⟨_, rfl⟩
    rw [← e_σ9] at h
    replace hw := hw σ9 e_σ9
    refine lv_iinc (v := (z5 + 1)) (lv' := [(5, .int (z5 + 1)), (4, .int s0), (0, .ref mo), (1, .int z1), (2, .int z2), (3, .int z3), (6, .int z6)]) hx hb e_M_give_319 hl (k := 5) rfl (rfl) (by decide) rfl (fun ls hl => ?_)
    refine lv_goto (tgt := 245) hx hb e_M_give_322 (by decide) ?_
    exact hK245 z1 z2 z3 s0 (z5 + 1) σ9 _ _ _ hw h (lv_sub hl [2, 3, 4, 5, 1, 0] rfl)
  have K_298 : ∀ (K245 : Int32 → Int32 → Int32 → Int32 → Int32 → MST → Prop) (hK245 : ∀ (z1 : Int32) (z2 : Int32) (z3 : Int32) (z4 : Int32) (z5 : Int32) (σ : MST) (H : Heap) (locs : List Loc) (ls : Array Slot), K245 z1 z2 z3 z4 z5 σ → MH (dC, dI) A mo rf ca σ s H locs → lv_has ls 7 [(0, .ref mo), (1, .int z1), (2, .int z2), (3, .int z3), (4, .int z4), (5, .int z5)] → W p l e ({ frames := 3, cells := 0, slots := 0, locals := 68 } : Room) s m ([.ref mo, .int x1] : List Value).toArray below meth cx H locs 0 0 Q (F0 m 245 ls [])), ∀ (z1 : Int32) (z2 : Int32) (z3 : Int32) (z5 : Int32) (z6 : Int32) (σ : MST) (H : Heap) (locs : List Loc) (ls : Array Slot), w_M_give_298 K245 P z1 z2 z3 z5 z6 σ → MH (dC, dI) A mo rf ca σ s H locs → lv_has ls 7 [(0, .ref mo), (1, .int z1), (2, .int z2), (3, .int z3), (5, .int z5), (6, .int z6)] → W p l e ({ frames := 3, cells := 0, slots := 0, locals := 68 } : Room) s m ([.ref mo, .int x1] : List Value).toArray below meth cx H locs 0 0 Q (F0 m 298 ls []) := by
    intro K245 hK245 z1 z2 z3 z5 z6 σ H locs ls hw h hl
    unfold w_M_give_298 at hw
    refine lv_iconst (v := 1) hx hb e_M_give_298 (by decide) ?_
    refine lv_goto (tgt := 303) hx hb e_M_give_299 (by decide) ?_
    exact K_303 _ hK245 z1 z2 z3 z5 z6 1 σ _ _ _ hw h (lv_sub hl [0, 1, 2, 3, 4, 5] rfl)
  have K_349 : ∀ (u9 : Unit), ∀ (s0 : Int32) (s1 : Int32) (σ : MST) (H : Heap) (locs : List Loc) (ls : Array Slot), w_M_give_349 P s0 s1 σ → MH (dC, dI) A mo rf ca σ s H locs → lv_has ls 7 [] → W p l e ({ frames := 3, cells := 0, slots := 0, locals := 68 } : Room) s m ([.ref mo, .int x1] : List Value).toArray below meth cx H locs 0 0 Q (F0 m 349 ls [.int s0, .int s1, .ref (rf 30)]) := by
    intro u9 s0 s1 σ H locs ls hw h hl
    unfold w_M_give_349 at hw
    refine M_zast C h 30 (by decide) rfl hw.1 e_M_give_349 (fun H locs h => ?_)
    replace hw := hw.2
    obtain ⟨σ10, e_σ10⟩ : ∃ z : MST, z = setA σ 30 (upd (σ.2.1 30) (s1 : Int32).toNatClampNeg (vp_nar .boolean s0)) := ⟨_, rfl⟩
    rw [← e_σ10] at h
    replace hw := hw σ10 e_σ10
    refine lv_iconst (v := 1) hx hb e_M_give_350 (by decide) ?_
    exact hend (1 : Int32) σ10 _ _ _ _ rfl hw h e_M_give_351
  have K_344 : ∀ (u9 : Unit), ∀ (s0 : Int32) (σ : MST) (H : Heap) (locs : List Loc) (ls : Array Slot), w_M_give_344 P s0 σ → MH (dC, dI) A mo rf ca σ s H locs → lv_has ls 7 [] → W p l e ({ frames := 3, cells := 0, slots := 0, locals := 68 } : Room) s m ([.ref mo, .int x1] : List Value).toArray below meth cx H locs 0 0 Q (F0 m 344 ls [.int s0, .ref (rf 30)]) := by
    intro u9 s0 σ H locs ls hw h hl
    unfold w_M_give_344 at hw
    refine lv_iconst (v := 1) hx hb e_M_give_344 (by decide) ?_
    refine lv_goto (tgt := 349) hx hb e_M_give_345 (by decide) ?_
    exact K_349 () 1 s0 σ _ _ _ hw h (lv_sub hl [] rfl)
  have K_245 : ∀ (n : Nat), ∀ (z1 : Int32) (z2 : Int32) (z3 : Int32) (z4 : Int32) (z5 : Int32) (σ : MST) (H : Heap) (locs : List Loc) (ls : Array Slot), w_M_give_245 P n z1 z2 z3 z4 z5 σ → MH (dC, dI) A mo rf ca σ s H locs → lv_has ls 7 [(0, .ref mo), (1, .int z1), (2, .int z2), (3, .int z3), (4, .int z4), (5, .int z5)] → W p l e ({ frames := 3, cells := 0, slots := 0, locals := 68 } : Room) s m ([.ref mo, .int x1] : List Value).toArray below meth cx H locs 0 0 Q (F0 m 245 ls []) := by
    intro  n
    induction n with
    | zero => intro z1 z2 z3 z4 z5 σ H locs ls hw h hl; unfold w_M_give_245 at hw; exact hw.elim
    | succ n ih =>
      intro z1 z2 z3 z4 z5 σ H locs ls hw h hl
      unfold w_M_give_245 at hw
      refine lv_iload hx hb e_M_give_245 (lv_at hl 5 rfl) ?_
      refine lv_iload_n hx hb e_M_give_247 rfl (lv_at hl 3 rfl) ?_
      refine lv_icmp_ge (tgt := 325) hx hb e_M_give_248 (by decide) (fun c11 => ?_) (fun c11 => ?_)
      · skip
        replace hw := hw.1 c11
        refine lv_aload_n hx hb e_M_give_325 rfl (lv_at hl 0 rfl) ?_
        refine M_get C h 30 (v := .ref (rf 30)) rfl (by decide) v_191 e_M_give_326 ?_
        refine lv_iload_n hx hb e_M_give_329 rfl (lv_at hl 1 rfl) ?_
        refine lv_aload_n hx hb e_M_give_330 rfl (lv_at hl 0 rfl) ?_
        refine M_get C h 30 (v := .ref (rf 30)) rfl (by decide) v_191 e_M_give_331 ?_
        refine lv_iload_n hx hb e_M_give_334 rfl (lv_at hl 1 rfl) ?_
        refine M_zald C h 30 (by decide) rfl hw.1 e_M_give_335 ?_
        replace hw := hw.2
        refine lv_topi (fun a12 e_a12 => ?_)
        replace hw := hw a12 e_a12
        refine lv_if_ne (tgt := 344) hx hb e_M_give_336 (by decide) (fun c13 => ?_) (fun c13 => ?_)
        · skip
          replace hw := hw.2 c13
          exact K_344 () z1 σ _ _ _ hw h (lv_sub hl [] rfl)
        · skip
          replace hw := hw.1 c13
          refine lv_iload hx hb e_M_give_339 (lv_at hl 4 rfl) ?_
          refine lv_if_eq (tgt := 348) hx hb e_M_give_341 (by decide) (fun c14 => ?_) (fun c14 => ?_)
          · skip
            replace hw := hw.1 c14
            refine lv_iconst (v := 0) hx hb e_M_give_348 (by decide) ?_
            exact K_349 () 0 z1 σ _ _ _ hw h (lv_sub hl [] rfl)
          · skip
            replace hw := hw.2 c14
            exact K_344 () z1 σ _ _ _ hw h (lv_sub hl [] rfl)
      · skip
        replace hw := hw.2 c11
        refine lv_aload_n hx hb e_M_give_251 rfl (lv_at hl 0 rfl) ?_
        refine lv_aload_n hx hb e_M_give_252 rfl (lv_at hl 0 rfl) ?_
        refine M_get C h 28 (v := .ref (rf 28)) rfl (by decide) v_194 e_M_give_253 ?_
        refine lv_bipush (v := 12) hx hb e_M_give_256 (by decide) ?_
        refine lv_iload_n hx hb e_M_give_258 rfl (lv_at hl 2 rfl) ?_
        refine lv_imul hx hb e_M_give_259 ?_
        refine lv_iload hx hb e_M_give_260 (lv_at hl 5 rfl) ?_
        refine lv_iadd hx hb e_M_give_262 ?_
        refine M_ald C h 28 (by decide) rfl hw.1 e_M_give_263 ?_
        replace hw := hw.2
        refine lv_topi (fun a15 e_a15 => ?_)
        replace hw := hw a15 e_a15
        refine lv_aload_n hx hb e_M_give_264 rfl (lv_at hl 0 rfl) ?_
        refine M_get C h 41 (v := .ref (rf 41)) rfl (by decide) v_195 e_M_give_265 ?_
        refine lv_iload hx hb e_M_give_268 (lv_at hl 5 rfl) ?_
        refine M_ald C h 41 (by decide) rfl hw.1 e_M_give_270 ?_
        replace hw := hw.2
        refine lv_topi (fun a16 e_a16 => ?_)
        replace hw := hw a16 e_a16
        refine M_calli (As := [.int a15, .int a16]) (rest := []) C h hA (K_M_merge l dC dI mo rf ca H.size σ a15 a16 hw) (cwV 2 hts (gV hsub v_196 v_197 v_198 v_7 v_199) rfl rfl rfl (by decide +kernel) ⟨(Nat.le_of_ble_eq_true rfl), (Nat.le_of_ble_eq_true rfl)⟩) rfl hl.1 (Nat.le_of_ble_eq_true rfl) e_M_give_271 ⟨(Nat.le_of_ble_eq_true rfl), (Nat.le_of_ble_eq_true rfl)⟩ (fun r18 σ17 H locs hw h => ?_)
        refine W.eq (g2 := F0 m 274 ls [.int r18]) rfl ?_
        refine lv_istore (lv' := [(6, .int r18), (0, .ref mo), (1, .int z1), (2, .int z2), (3, .int z3), (4, .int z4), (5, .int z5)]) hx hb e_M_give_274 hl (by decide) rfl (fun ls hl => ?_)
        refine lv_iload hx hb e_M_give_276 (lv_at hl 5 rfl) ?_
        refine lv_if_ne (tgt := 298) hx hb e_M_give_278 (by decide) (fun c19 => ?_) (fun c19 => ?_)
        · skip
          replace hw := hw.2 c19
          exact K_298 _ ih z1 z2 z3 z5 r18 σ17 _ _ _ hw h (lv_sub hl [1, 2, 3, 4, 6, 0] rfl)
        · skip
          replace hw := hw.1 c19
          refine lv_iload hx hb e_M_give_281 (lv_at hl 0 rfl) ?_
          refine lv_aload_n hx hb e_M_give_283 rfl (lv_at hl 1 rfl) ?_
          refine M_get C h 28 (v := .ref (rf 28)) rfl (by decide) v_194 e_M_give_284 ?_
          refine lv_bipush (v := 12) hx hb e_M_give_287 (by decide) ?_
          refine lv_iload_n hx hb e_M_give_289 rfl (lv_at hl 3 rfl) ?_
          refine lv_imul hx hb e_M_give_290 ?_
          refine lv_iload hx hb e_M_give_291 (lv_at hl 6 rfl) ?_
          refine lv_iadd hx hb e_M_give_293 ?_
          refine M_ald C h 28 (by decide) rfl hw.1 e_M_give_294 ?_
          replace hw := hw.2
          refine lv_topi (fun a20 e_a20 => ?_)
          replace hw := hw a20 e_a20
          refine lv_icmp_eq (tgt := 302) hx hb e_M_give_295 (by decide) (fun c21 => ?_) (fun c21 => ?_)
          · skip
            replace hw := hw.1 c21
            refine lv_iconst (v := 0) hx hb e_M_give_302 (by decide) ?_
            exact K_303 _ ih z1 z2 z3 z5 r18 0 σ17 _ _ _ hw h (lv_sub hl [1, 2, 3, 4, 6, 0] rfl)
          · skip
            replace hw := hw.2 c21
            exact K_298 _ ih z1 z2 z3 z5 r18 σ17 _ _ _ hw h (lv_sub hl [1, 2, 3, 4, 6, 0] rfl)
  have K_146 : ∀ (n : Nat), ∀ (z1 : Int32) (z2 : Int32) (z3 : Int32) (z4 : Int32) (z5 : Int32) (σ : MST) (H : Heap) (locs : List Loc) (ls : Array Slot), w_M_give_146 P n z1 z2 z3 z4 z5 σ → MH (dC, dI) A mo rf ca σ s H locs → lv_has ls 7 [(0, .ref mo), (1, .int z1), (2, .int z2), (3, .int z3), (4, .int z4), (5, .int z5)] → W p l e ({ frames := 3, cells := 0, slots := 0, locals := 68 } : Room) s m ([.ref mo, .int x1] : List Value).toArray below meth cx H locs 0 0 Q (F0 m 146 ls []) := by
    intro  n
    induction n with
    | zero => intro z1 z2 z3 z4 z5 σ H locs ls hw h hl; unfold w_M_give_146 at hw; exact hw.elim
    | succ n ih =>
      intro z1 z2 z3 z4 z5 σ H locs ls hw h hl
      unfold w_M_give_146 at hw
      refine lv_iload hx hb e_M_give_146 (lv_at hl 5 rfl) ?_
      refine lv_aload_n hx hb e_M_give_148 rfl (lv_at hl 0 rfl) ?_
      refine M_get C h 43 (v := .int (σ.1 43)) rfl (by decide) v_190 e_M_give_149 ?_
      refine lv_icmp_ge (tgt := 242) hx hb e_M_give_152 (by decide) (fun c22 => ?_) (fun c22 => ?_)
      · skip
        replace hw := hw.1 c22
        refine lv_iconst (v := 0) hx hb e_M_give_242 (by decide) ?_
        refine lv_istore (lv' := [(5, .int 0), (0, .ref mo), (1, .int z1), (2, .int z2), (3, .int z3), (4, .int z4)]) hx hb e_M_give_243 hl (by decide) rfl (fun ls hl => ?_)
        obtain ⟨n9, hw⟩ := hw
        exact K_245 n9 z1 z2 z3 z4 0 σ _ _ _ hw h (lv_sub hl [1, 2, 3, 4, 5, 0] rfl)
      · skip
        replace hw := hw.2 c22
        refine lv_aload_n hx hb e_M_give_155 rfl (lv_at hl 0 rfl) ?_
        refine lv_aload_n hx hb e_M_give_156 rfl (lv_at hl 0 rfl) ?_
        refine M_get C h 29 (v := .ref (rf 29)) rfl (by decide) v_192 e_M_give_157 ?_
        refine lv_bipush (v := 12) hx hb e_M_give_160 (by decide) ?_
        refine lv_iload_n hx hb e_M_give_162 rfl (lv_at hl 2 rfl) ?_
        refine lv_imul hx hb e_M_give_163 ?_
        refine lv_iload hx hb e_M_give_164 (lv_at hl 5 rfl) ?_
        refine lv_iadd hx hb e_M_give_166 ?_
        refine M_ald C h 29 (by decide) rfl hw.1 e_M_give_167 ?_
        replace hw := hw.2
        refine lv_topi (fun a23 e_a23 => ?_)
        replace hw := hw a23 e_a23
        refine lv_aload_n hx hb e_M_give_168 rfl (lv_at hl 0 rfl) ?_
        refine M_get C h 42 (v := .ref (rf 42)) rfl (by decide) v_193 e_M_give_169 ?_
        refine lv_iload hx hb e_M_give_172 (lv_at hl 5 rfl) ?_
        refine M_ald C h 42 (by decide) rfl hw.1 e_M_give_174 ?_
        replace hw := hw.2
        refine lv_topi (fun a24 e_a24 => ?_)
        replace hw := hw a24 e_a24
        refine M_calli (As := [.int a23, .int a24]) (rest := []) C h hA (K_M_merge l dC dI mo rf ca H.size σ a23 a24 hw) (cwV 2 hts (gV hsub v_196 v_197 v_198 v_7 v_199) rfl rfl rfl (by decide +kernel) ⟨(Nat.le_of_ble_eq_true rfl), (Nat.le_of_ble_eq_true rfl)⟩) rfl hl.1 (Nat.le_of_ble_eq_true rfl) e_M_give_175 ⟨(Nat.le_of_ble_eq_true rfl), (Nat.le_of_ble_eq_true rfl)⟩ (fun r26 σ25 H locs hw h => ?_)
        refine W.eq (g2 := F0 m 178 ls [.int r26]) rfl ?_
        refine lv_istore (lv' := [(6, .int r26), (0, .ref mo), (1, .int z1), (2, .int z2), (3, .int z3), (4, .int z4), (5, .int z5)]) hx hb e_M_give_178 hl (by decide) rfl (fun ls hl => ?_)
        refine lv_iload hx hb e_M_give_180 (lv_at hl 0 rfl) ?_
        refine lv_if_ne (tgt := 193) hx hb e_M_give_182 (by decide) (fun c27 => ?_) (fun c27 => ?_)
        · skip
          replace hw := hw.2 c27
          refine lv_iload hx hb e_M_give_193 (lv_at hl 5 rfl) ?_
          refine lv_if_ne (tgt := 215) hx hb e_M_give_195 (by decide) (fun c28 => ?_) (fun c28 => ?_)
          · skip
            replace hw := hw.2 c28
            exact K_215 _ ih z1 z2 z3 z5 r26 σ25 _ _ _ hw h (lv_sub hl [1, 2, 3, 4, 6, 0] rfl)
          · skip
            replace hw := hw.1 c28
            refine lv_iload hx hb e_M_give_198 (lv_at hl 0 rfl) ?_
            refine lv_aload_n hx hb e_M_give_200 rfl (lv_at hl 1 rfl) ?_
            refine M_get C h 29 (v := .ref (rf 29)) rfl (by decide) v_192 e_M_give_201 ?_
            refine lv_bipush (v := 12) hx hb e_M_give_204 (by decide) ?_
            refine lv_iload_n hx hb e_M_give_206 rfl (lv_at hl 3 rfl) ?_
            refine lv_imul hx hb e_M_give_207 ?_
            refine lv_iload hx hb e_M_give_208 (lv_at hl 6 rfl) ?_
            refine lv_iadd hx hb e_M_give_210 ?_
            refine M_ald C h 29 (by decide) rfl hw.1 e_M_give_211 ?_
            replace hw := hw.2
            refine lv_topi (fun a29 e_a29 => ?_)
            replace hw := hw a29 e_a29
            refine lv_icmp_eq (tgt := 219) hx hb e_M_give_212 (by decide) (fun c30 => ?_) (fun c30 => ?_)
            · skip
              replace hw := hw.1 c30
              refine lv_iconst (v := 0) hx hb e_M_give_219 (by decide) ?_
              exact K_220 _ ih z1 z2 z3 z5 r26 0 σ25 _ _ _ hw h (lv_sub hl [1, 2, 3, 4, 6, 0] rfl)
            · skip
              replace hw := hw.2 c30
              exact K_215 _ ih z1 z2 z3 z5 r26 σ25 _ _ _ hw h (lv_sub hl [1, 2, 3, 4, 6, 0] rfl)
        · skip
          replace hw := hw.1 c27
          refine lv_aload_n hx hb e_M_give_185 rfl (lv_at hl 1 rfl) ?_
          refine lv_bipush (v := 9) hx hb e_M_give_186 (by decide) ?_
          refine lv_iload_n hx hb e_M_give_188 rfl (lv_at hl 2 rfl) ?_
          refine M_calli (As := [.int 9, .int z1]) (rest := []) C h hA (K_M_faulty l dC dI mo rf ca H.size σ25 (9 : Int32) z1 hw) (cwV 2 hts (gV hsub v_79 v_80 v_81 v_7 v_82) rfl rfl rfl (by decide +kernel) ⟨(Nat.le_of_ble_eq_true rfl), (Nat.le_of_ble_eq_true rfl)⟩) rfl hl.1 (Nat.le_of_ble_eq_true rfl) e_M_give_189 ⟨(Nat.le_of_ble_eq_true rfl), (Nat.le_of_ble_eq_true rfl)⟩ (fun r32 σ31 H locs hw h => ?_)
          refine W.eq (g2 := F0 m 192 ls [.int r32]) rfl ?_
          exact hend r32 σ31 _ _ _ _ hw.1 hw.2 h e_M_give_192
  have hl : lv_has ls 7 [(0, .ref mo), (1, .int x1)] := hl
  unfold w_M_give at hw
  refine lv_bipush (v := 120) hx hb e_M_give_0 (by decide) ?_
  refine lv_aload_n hx hb e_M_give_2 rfl (lv_at hl 0 rfl) ?_
  refine M_get C h 33 (v := .int (σ.1 33)) rfl (by decide) v_116 e_M_give_3 ?_
  refine lv_imul hx hb e_M_give_6 ?_
  refine lv_iload_n hx hb e_M_give_7 rfl (lv_at hl 1 rfl) ?_
  refine lv_iadd hx hb e_M_give_8 ?_
  refine lv_istore_n (lv' := [(2, .int (((120 : Int32) * (σ.1 33)) + x1)), (0, .ref mo), (1, .int x1)]) hx hb e_M_give_9 rfl hl (by decide) rfl (fun ls hl => ?_)
  refine lv_aload_n hx hb e_M_give_10 rfl (lv_at hl 1 rfl) ?_
  refine M_get C h 15 (v := .ref (rf 15)) rfl (by decide) v_49 e_M_give_11 ?_
  refine lv_aload_n hx hb e_M_give_14 rfl (lv_at hl 1 rfl) ?_
  refine M_get C h 33 (v := .int (σ.1 33)) rfl (by decide) v_116 e_M_give_15 ?_
  refine M_ald C h 15 (by decide) rfl hw.1 e_M_give_18 ?_
  replace hw := hw.2
  refine lv_topi (fun a33 e_a33 => ?_)
  replace hw := hw a33 e_a33
  refine lv_istore_n (lv' := [(3, .int a33), (2, .int (((120 : Int32) * (σ.1 33)) + x1)), (0, .ref mo), (1, .int x1)]) hx hb e_M_give_19 rfl hl (by decide) rfl (fun ls hl => ?_)
  refine lv_aload_n hx hb e_M_give_20 rfl (lv_at hl 2 rfl) ?_
  refine M_get C h 27 (v := .ref (rf 27)) rfl (by decide) v_200 e_M_give_21 ?_
  refine lv_iload_n hx hb e_M_give_24 rfl (lv_at hl 1 rfl) ?_
  refine M_ald C h 27 (by decide) rfl hw.1 e_M_give_25 ?_
  replace hw := hw.2
  refine lv_topi (fun a34 e_a34 => ?_)
  replace hw := hw a34 e_a34
  refine lv_if_ge (tgt := 119) hx hb e_M_give_26 (by decide) (fun c35 => ?_) (fun c35 => ?_)
  · skip
    replace hw := hw.1 c35
    refine lv_aload_n hx hb e_M_give_119 rfl (lv_at hl 2 rfl) ?_
    refine M_get C h 27 (v := .ref (rf 27)) rfl (by decide) v_200 e_M_give_120 ?_
    refine lv_iload_n hx hb e_M_give_123 rfl (lv_at hl 1 rfl) ?_
    refine M_ald C h 27 (by decide) rfl hw.1 e_M_give_124 ?_
    replace hw := hw.2
    refine lv_topi (fun a36 e_a36 => ?_)
    replace hw := hw a36 e_a36
    refine lv_aload_n hx hb e_M_give_125 rfl (lv_at hl 2 rfl) ?_
    refine M_get C h 43 (v := .int (σ.1 43)) rfl (by decide) v_190 e_M_give_126 ?_
    refine lv_icmp_eq (tgt := 140) hx hb e_M_give_129 (by decide) (fun c37 => ?_) (fun c37 => ?_)
    · skip
      replace hw := hw.1 c37
      refine lv_iconst (v := 0) hx hb e_M_give_140 (by decide) ?_
      refine lv_istore (lv' := [(4, .int 0), (3, .int a33), (2, .int (((120 : Int32) * (σ.1 33)) + x1)), (0, .ref mo), (1, .int x1)]) hx hb e_M_give_141 hl (by decide) rfl (fun ls hl => ?_)
      refine lv_iconst (v := 0) hx hb e_M_give_143 (by decide) ?_
      refine lv_istore (lv' := [(5, .int 0), (4, .int 0), (3, .int a33), (2, .int (((120 : Int32) * (σ.1 33)) + x1)), (0, .ref mo), (1, .int x1)]) hx hb e_M_give_144 hl (by decide) rfl (fun ls hl => ?_)
      obtain ⟨n9, hw⟩ := hw
      exact K_146 n9 x1 (((120 : Int32) * (σ.1 33)) + x1) a33 0 0 σ _ _ _ hw h (lv_sub hl [4, 5, 3, 2, 1, 0] rfl)
    · skip
      replace hw := hw.2 c37
      refine lv_aload_n hx hb e_M_give_132 rfl (lv_at hl 2 rfl) ?_
      refine lv_bipush (v := 9) hx hb e_M_give_133 (by decide) ?_
      refine lv_iload_n hx hb e_M_give_135 rfl (lv_at hl 3 rfl) ?_
      refine M_calli (As := [.int 9, .int x1]) (rest := []) C h hA (K_M_faulty l dC dI mo rf ca s.heap.size σ (9 : Int32) x1 hw) (cwV 2 hts (gV hsub v_79 v_80 v_81 v_7 v_82) rfl rfl rfl (by decide +kernel) ⟨(Nat.le_of_ble_eq_true rfl), (Nat.le_of_ble_eq_true rfl)⟩) rfl hl.1 (Nat.le_of_ble_eq_true rfl) e_M_give_136 ⟨(Nat.le_of_ble_eq_true rfl), (Nat.le_of_ble_eq_true rfl)⟩ (fun r39 σ38 H locs hw h => ?_)
      refine W.eq (g2 := F0 m 139 ls [.int r39]) rfl ?_
      exact hend r39 σ38 _ _ _ _ hw.1 hw.2 h e_M_give_139
  · skip
    replace hw := hw.2 c35
    refine lv_aload_n hx hb e_M_give_29 rfl (lv_at hl 2 rfl) ?_
    refine M_get C h 27 (v := .ref (rf 27)) rfl (by decide) v_200 e_M_give_30 ?_
    refine lv_iload_n hx hb e_M_give_33 rfl (lv_at hl 1 rfl) ?_
    refine lv_aload_n hx hb e_M_give_34 rfl (lv_at hl 2 rfl) ?_
    refine M_get C h 43 (v := .int (σ.1 43)) rfl (by decide) v_190 e_M_give_35 ?_
    refine M_ast C h 27 (by decide) rfl hw.1 e_M_give_38 (fun H locs h => ?_)
    replace hw := hw.2
    obtain ⟨σ40, e_σ40⟩ : ∃ z : MST, z = setA σ 27 (upd (σ.2.1 27) ((((120 : Int32) * (σ.1 33)) + x1) : Int32).toNatClampNeg (σ.1 43)) := ⟨_, rfl⟩
    rw [← e_σ40] at h
    replace hw := hw σ40 e_σ40
    refine lv_iconst (v := 0) hx hb e_M_give_39 (by decide) ?_
    refine lv_istore (lv' := [(4, .int 0), (3, .int a33), (2, .int (((120 : Int32) * (σ.1 33)) + x1)), (0, .ref mo), (1, .int x1)]) hx hb e_M_give_40 hl (by decide) rfl (fun ls hl => ?_)
    obtain ⟨n9, hw⟩ := hw
    exact K_42 n9 x1 (((120 : Int32) * (σ.1 33)) + x1) a33 0 σ40 _ _ _ hw h (lv_sub hl [3, 4, 2, 1, 0] rfl)
abbrev z_M_giveLocals : MethodName := ⟨"MapFramerModel", "giveLocals", "([I)V"⟩
theorem e_M_giveLocals_0 : decode prog_14_method_55_code 0 = .ok (.iconst 0, 1) := by decide +kernel
theorem e_M_giveLocals_1 : decode prog_14_method_55_code 1 = .ok (.istore_n 2, 1) := by decide +kernel
theorem e_M_giveLocals_2 : decode prog_14_method_55_code 2 = .ok (.iload_n 2, 1) := by decide +kernel
theorem e_M_giveLocals_3 : decode prog_14_method_55_code 3 = .ok (.aload_n 0, 1) := by decide +kernel
theorem e_M_giveLocals_4 : decode prog_14_method_55_code 4 = .ok (.getfield 48, 3) := by decide +kernel
theorem e_M_giveLocals_7 : decode prog_14_method_55_code 7 = .ok (.aload_n 0, 1) := by decide +kernel
theorem e_M_giveLocals_8 : decode prog_14_method_55_code 8 = .ok (.getfield 266, 3) := by decide +kernel
theorem e_M_giveLocals_11 : decode prog_14_method_55_code 11 = .ok (.iaload, 1) := by decide +kernel
theorem e_M_giveLocals_12 : decode prog_14_method_55_code 12 = .ok (.if_icmp .ge 18, 3) := by decide +kernel
theorem e_M_giveLocals_15 : decode prog_14_method_55_code 15 = .ok (.aload_n 0, 1) := by decide +kernel
theorem e_M_giveLocals_16 : decode prog_14_method_55_code 16 = .ok (.getfield 108, 3) := by decide +kernel
theorem e_M_giveLocals_19 : decode prog_14_method_55_code 19 = .ok (.iload_n 2, 1) := by decide +kernel
theorem e_M_giveLocals_20 : decode prog_14_method_55_code 20 = .ok (.aload_n 1, 1) := by decide +kernel
theorem e_M_giveLocals_21 : decode prog_14_method_55_code 21 = .ok (.iload_n 2, 1) := by decide +kernel
theorem e_M_giveLocals_22 : decode prog_14_method_55_code 22 = .ok (.iaload, 1) := by decide +kernel
theorem e_M_giveLocals_23 : decode prog_14_method_55_code 23 = .ok (.iastore, 1) := by decide +kernel
theorem e_M_giveLocals_24 : decode prog_14_method_55_code 24 = .ok (.iinc 2 1, 3) := by decide +kernel
theorem e_M_giveLocals_27 : decode prog_14_method_55_code 27 = .ok (.goto (-25), 3) := by decide +kernel
theorem e_M_giveLocals_30 : decode prog_14_method_55_code 30 = .ok (.return_, 1) := by decide +kernel
def w_M_giveLocals_37_2 (P : MST → Prop) : Nat → Int32 → MST → Prop
  | 0, _, _ => False
  | n + 1, z2, σ => vp_in (σ.1 33) 8 ∧ (∀ a1 : Int32, a1 = (σ.2.1 15 ((σ.1 33) : Int32).toNatClampNeg) → ((a1 ≤ z2 → P σ) ∧ (¬ a1 ≤ z2 → vp_in z2 13 ∧ (∀ a3 : Int32, a3 = (σ.2.1 37 (z2 : Int32).toNatClampNeg) → vp_in z2 12 ∧ (∀ σ4 : MST, σ4 = setA σ 41 (upd (σ.2.1 41) (z2 : Int32).toNatClampNeg a3) → w_M_giveLocals_37_2 P n (z2 + 1) σ4)))))
def w_M_giveLocals_37 (σ : MST) (P : MST → Prop) : Prop := (∃ n9 : Nat, w_M_giveLocals_37_2 P n9 0 σ)
set_option maxHeartbeats 4000000 in
set_option maxRecDepth 100000 in
theorem K_M_giveLocals_37 (l : Launch) (dC : Nat → ClassId) (dI : Nat → Nat → Nat) (mo : Nat) (rf : Nat → Nat) (ca : Nat → ClassId) (sz : Nat) (σ : MST) {P : MST → Prop} (hw : w_M_giveLocals_37 σ P) : Met l z_M_giveLocals (mW z_M_giveLocals prog_14_method_55_code 3 none) ({ frames := 0, cells := 0, slots := 0, locals := 0 } : Room) (va_Pc [.ref mo, .ref (rf 37)] (MPre (dC, dI) mo rf ca σ sz)) (va_Qv P (MB (dC, dI) mo rf ca sz) (mA mo rf sz)) 0 0 (mA mo rf sz) := by
  refine M_ofv (by decide) rfl (Nat.le_of_ble_eq_true rfl) ?_
  intro p e s m below meth cx Q A ls C hA hend h hl
  have C0 := C
  obtain ⟨⟨hx, hb, hml, hown, hts⟩, hsub⟩ := C0
  have K_2 : ∀ (n : Nat), ∀ (z2 : Int32) (σ : MST) (H : Heap) (locs : List Loc) (ls : Array Slot), w_M_giveLocals_37_2 P n z2 σ → MH (dC, dI) A mo rf ca σ s H locs → lv_has ls 3 [(0, .ref mo), (1, .ref (rf 37)), (2, .int z2)] → W p l e ({ frames := 0, cells := 0, slots := 0, locals := 0 } : Room) s m ([.ref mo, .ref (rf 37)] : List Value).toArray below meth cx H locs 0 0 Q (F0 m 2 ls []) := by
    intro  n
    induction n with
    | zero => intro z2 σ H locs ls hw h hl; unfold w_M_giveLocals_37_2 at hw; exact hw.elim
    | succ n ih =>
      intro z2 σ H locs ls hw h hl
      unfold w_M_giveLocals_37_2 at hw
      refine lv_iload_n hx hb e_M_giveLocals_2 rfl (lv_at hl 2 rfl) ?_
      refine lv_aload_n hx hb e_M_giveLocals_3 rfl (lv_at hl 0 rfl) ?_
      refine M_get C h 15 (v := .ref (rf 15)) rfl (by decide) v_49 e_M_giveLocals_4 ?_
      refine lv_aload_n hx hb e_M_giveLocals_7 rfl (lv_at hl 0 rfl) ?_
      refine M_get C h 33 (v := .int (σ.1 33)) rfl (by decide) v_116 e_M_giveLocals_8 ?_
      refine M_ald C h 15 (by decide) rfl hw.1 e_M_giveLocals_11 ?_
      replace hw := hw.2
      refine lv_topi (fun a1 e_a1 => ?_)
      replace hw := hw a1 e_a1
      refine lv_icmp_ge (tgt := 30) hx hb e_M_giveLocals_12 (by decide) (fun c2 => ?_) (fun c2 => ?_)
      · skip
        replace hw := hw.1 c2
        exact hend σ _ _ _ _ hw h e_M_giveLocals_30
      · skip
        replace hw := hw.2 c2
        refine lv_aload_n hx hb e_M_giveLocals_15 rfl (lv_at hl 0 rfl) ?_
        refine M_get C h 41 (v := .ref (rf 41)) rfl (by decide) v_195 e_M_giveLocals_16 ?_
        refine lv_iload_n hx hb e_M_giveLocals_19 rfl (lv_at hl 2 rfl) ?_
        refine lv_aload_n hx hb e_M_giveLocals_20 rfl (lv_at hl 1 rfl) ?_
        refine lv_iload_n hx hb e_M_giveLocals_21 rfl (lv_at hl 2 rfl) ?_
        refine M_ald C h 37 (by decide) rfl hw.1 e_M_giveLocals_22 ?_
        replace hw := hw.2
        refine lv_topi (fun a3 e_a3 => ?_)
        replace hw := hw a3 e_a3
        refine M_ast C h 41 (by decide) rfl hw.1 e_M_giveLocals_23 (fun H locs h => ?_)
        replace hw := hw.2
        obtain ⟨σ4, e_σ4⟩ : ∃ z : MST, z = setA σ 41 (upd (σ.2.1 41) (z2 : Int32).toNatClampNeg a3) := ⟨_, rfl⟩
        rw [← e_σ4] at h
        replace hw := hw σ4 e_σ4
        refine lv_iinc (v := (z2 + 1)) (lv' := [(2, .int (z2 + 1)), (0, .ref mo), (1, .ref (rf 37))]) hx hb e_M_giveLocals_24 hl (k := 2) rfl (rfl) (by decide) rfl (fun ls hl => ?_)
        refine lv_goto (tgt := 2) hx hb e_M_giveLocals_27 (by decide) ?_
        exact ih (z2 + 1) σ4 _ _ _ hw h (lv_sub hl [1, 2, 0] rfl)
  have hl : lv_has ls 3 [(0, .ref mo), (1, .ref (rf 37))] := hl
  unfold w_M_giveLocals_37 at hw
  refine lv_iconst (v := 0) hx hb e_M_giveLocals_0 (by decide) ?_
  refine lv_istore_n (lv' := [(2, .int 0), (0, .ref mo), (1, .ref (rf 37))]) hx hb e_M_giveLocals_1 rfl hl (by decide) rfl (fun ls hl => ?_)
  obtain ⟨n9, hw⟩ := hw
  exact K_2 n9 0 σ _ _ _ hw h (lv_sub hl [1, 2, 0] rfl)
def w_M_giveLocals_38_2 (P : MST → Prop) : Nat → Int32 → MST → Prop
  | 0, _, _ => False
  | n + 1, z2, σ => vp_in (σ.1 33) 8 ∧ (∀ a1 : Int32, a1 = (σ.2.1 15 ((σ.1 33) : Int32).toNatClampNeg) → ((a1 ≤ z2 → P σ) ∧ (¬ a1 ≤ z2 → vp_in z2 12 ∧ (∀ a3 : Int32, a3 = (σ.2.1 38 (z2 : Int32).toNatClampNeg) → vp_in z2 12 ∧ (∀ σ4 : MST, σ4 = setA σ 41 (upd (σ.2.1 41) (z2 : Int32).toNatClampNeg a3) → w_M_giveLocals_38_2 P n (z2 + 1) σ4)))))
def w_M_giveLocals_38 (σ : MST) (P : MST → Prop) : Prop := (∃ n9 : Nat, w_M_giveLocals_38_2 P n9 0 σ)
set_option maxHeartbeats 4000000 in
set_option maxRecDepth 100000 in
theorem K_M_giveLocals_38 (l : Launch) (dC : Nat → ClassId) (dI : Nat → Nat → Nat) (mo : Nat) (rf : Nat → Nat) (ca : Nat → ClassId) (sz : Nat) (σ : MST) {P : MST → Prop} (hw : w_M_giveLocals_38 σ P) : Met l z_M_giveLocals (mW z_M_giveLocals prog_14_method_55_code 3 none) ({ frames := 0, cells := 0, slots := 0, locals := 0 } : Room) (va_Pc [.ref mo, .ref (rf 38)] (MPre (dC, dI) mo rf ca σ sz)) (va_Qv P (MB (dC, dI) mo rf ca sz) (mA mo rf sz)) 0 0 (mA mo rf sz) := by
  refine M_ofv (by decide) rfl (Nat.le_of_ble_eq_true rfl) ?_
  intro p e s m below meth cx Q A ls C hA hend h hl
  have C0 := C
  obtain ⟨⟨hx, hb, hml, hown, hts⟩, hsub⟩ := C0
  have K_2 : ∀ (n : Nat), ∀ (z2 : Int32) (σ : MST) (H : Heap) (locs : List Loc) (ls : Array Slot), w_M_giveLocals_38_2 P n z2 σ → MH (dC, dI) A mo rf ca σ s H locs → lv_has ls 3 [(0, .ref mo), (1, .ref (rf 38)), (2, .int z2)] → W p l e ({ frames := 0, cells := 0, slots := 0, locals := 0 } : Room) s m ([.ref mo, .ref (rf 38)] : List Value).toArray below meth cx H locs 0 0 Q (F0 m 2 ls []) := by
    intro  n
    induction n with
    | zero => intro z2 σ H locs ls hw h hl; unfold w_M_giveLocals_38_2 at hw; exact hw.elim
    | succ n ih =>
      intro z2 σ H locs ls hw h hl
      unfold w_M_giveLocals_38_2 at hw
      refine lv_iload_n hx hb e_M_giveLocals_2 rfl (lv_at hl 2 rfl) ?_
      refine lv_aload_n hx hb e_M_giveLocals_3 rfl (lv_at hl 0 rfl) ?_
      refine M_get C h 15 (v := .ref (rf 15)) rfl (by decide) v_49 e_M_giveLocals_4 ?_
      refine lv_aload_n hx hb e_M_giveLocals_7 rfl (lv_at hl 0 rfl) ?_
      refine M_get C h 33 (v := .int (σ.1 33)) rfl (by decide) v_116 e_M_giveLocals_8 ?_
      refine M_ald C h 15 (by decide) rfl hw.1 e_M_giveLocals_11 ?_
      replace hw := hw.2
      refine lv_topi (fun a1 e_a1 => ?_)
      replace hw := hw a1 e_a1
      refine lv_icmp_ge (tgt := 30) hx hb e_M_giveLocals_12 (by decide) (fun c2 => ?_) (fun c2 => ?_)
      · skip
        replace hw := hw.1 c2
        exact hend σ _ _ _ _ hw h e_M_giveLocals_30
      · skip
        replace hw := hw.2 c2
        refine lv_aload_n hx hb e_M_giveLocals_15 rfl (lv_at hl 0 rfl) ?_
        refine M_get C h 41 (v := .ref (rf 41)) rfl (by decide) v_195 e_M_giveLocals_16 ?_
        refine lv_iload_n hx hb e_M_giveLocals_19 rfl (lv_at hl 2 rfl) ?_
        refine lv_aload_n hx hb e_M_giveLocals_20 rfl (lv_at hl 1 rfl) ?_
        refine lv_iload_n hx hb e_M_giveLocals_21 rfl (lv_at hl 2 rfl) ?_
        refine M_ald C h 38 (by decide) rfl hw.1 e_M_giveLocals_22 ?_
        replace hw := hw.2
        refine lv_topi (fun a3 e_a3 => ?_)
        replace hw := hw a3 e_a3
        refine M_ast C h 41 (by decide) rfl hw.1 e_M_giveLocals_23 (fun H locs h => ?_)
        replace hw := hw.2
        obtain ⟨σ4, e_σ4⟩ : ∃ z : MST, z = setA σ 41 (upd (σ.2.1 41) (z2 : Int32).toNatClampNeg a3) := ⟨_, rfl⟩
        rw [← e_σ4] at h
        replace hw := hw σ4 e_σ4
        refine lv_iinc (v := (z2 + 1)) (lv' := [(2, .int (z2 + 1)), (0, .ref mo), (1, .ref (rf 38))]) hx hb e_M_giveLocals_24 hl (k := 2) rfl (rfl) (by decide) rfl (fun ls hl => ?_)
        refine lv_goto (tgt := 2) hx hb e_M_giveLocals_27 (by decide) ?_
        exact ih (z2 + 1) σ4 _ _ _ hw h (lv_sub hl [1, 2, 0] rfl)
  have hl : lv_has ls 3 [(0, .ref mo), (1, .ref (rf 38))] := hl
  unfold w_M_giveLocals_38 at hw
  refine lv_iconst (v := 0) hx hb e_M_giveLocals_0 (by decide) ?_
  refine lv_istore_n (lv' := [(2, .int 0), (0, .ref mo), (1, .ref (rf 38))]) hx hb e_M_giveLocals_1 rfl hl (by decide) rfl (fun ls hl => ?_)
  obtain ⟨n9, hw⟩ := hw
  exact K_2 n9 0 σ _ _ _ hw h (lv_sub hl [1, 2, 0] rfl)
