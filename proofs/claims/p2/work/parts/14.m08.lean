abbrev z_M_runCall : MethodName := ⟨"MapFramerModel", "runCall", "(I)V"⟩
theorem v_369 : (Cond.methodLink "MapFramerModel" 478 ⟨"MapFramerModel", "enter", "(I)V"⟩ : Cond) ∈ bigW := inB_10 110 (by decide +kernel) rfl
theorem v_370 : (Cond.instanceMethod ⟨"MapFramerModel", "enter", "(I)V"⟩ : Cond) ∈ bigW := inB_10 112 (by decide +kernel) rfl
theorem v_371 : (Cond.selects "MapFramerModel" ⟨"MapFramerModel", "enter", "(I)V"⟩ ⟨"MapFramerModel", "enter", "(I)V"⟩ : Cond) ∈ bigW := inS (y := ⟨"MapFramerModel", "enter", "(I)V"⟩) (n := 71) (List.mem_of_getElem? (i := 136) (by decide +kernel))
theorem v_372 : (Cond.code ⟨"MapFramerModel", "enter", "(I)V"⟩ prog_14_method_98_code 3 none : Cond) ∈ bigW := inB_10 113 rfl rfl
theorem e_M_runCall_0 : decode prog_14_method_99_code 0 = .ok (.aload_n 0, 1) := by decide +kernel
theorem e_M_runCall_1 : decode prog_14_method_99_code 1 = .ok (.getfield 420, 3) := by decide +kernel
theorem e_M_runCall_4 : decode prog_14_method_99_code 4 = .ok (.bipush 24, 2) := by decide +kernel
theorem e_M_runCall_6 : decode prog_14_method_99_code 6 = .ok (.if_icmp .ne 9, 3) := by decide +kernel
theorem e_M_runCall_9 : decode prog_14_method_99_code 9 = .ok (.aload_n 0, 1) := by decide +kernel
theorem e_M_runCall_10 : decode prog_14_method_99_code 10 = .ok (.iconst 3, 1) := by decide +kernel
theorem e_M_runCall_11 : decode prog_14_method_99_code 11 = .ok (.invokevirtual 430, 3) := by decide +kernel
theorem e_M_runCall_14 : decode prog_14_method_99_code 14 = .ok (.return_, 1) := by decide +kernel
theorem e_M_runCall_15 : decode prog_14_method_99_code 15 = .ok (.bipush 20, 2) := by decide +kernel
theorem e_M_runCall_17 : decode prog_14_method_99_code 17 = .ok (.aload_n 0, 1) := by decide +kernel
theorem e_M_runCall_18 : decode prog_14_method_99_code 18 = .ok (.getfield 420, 3) := by decide +kernel
theorem e_M_runCall_21 : decode prog_14_method_99_code 21 = .ok (.iconst 1, 1) := by decide +kernel
theorem e_M_runCall_22 : decode prog_14_method_99_code 22 = .ok (.isub, 1) := by decide +kernel
theorem e_M_runCall_23 : decode prog_14_method_99_code 23 = .ok (.imul, 1) := by decide +kernel
theorem e_M_runCall_24 : decode prog_14_method_99_code 24 = .ok (.istore_n 2, 1) := by decide +kernel
theorem e_M_runCall_25 : decode prog_14_method_99_code 25 = .ok (.aload_n 0, 1) := by decide +kernel
theorem e_M_runCall_26 : decode prog_14_method_99_code 26 = .ok (.getfield 160, 3) := by decide +kernel
theorem e_M_runCall_29 : decode prog_14_method_99_code 29 = .ok (.aload_n 0, 1) := by decide +kernel
theorem e_M_runCall_30 : decode prog_14_method_99_code 30 = .ok (.getfield 420, 3) := by decide +kernel
theorem e_M_runCall_33 : decode prog_14_method_99_code 33 = .ok (.iconst 1, 1) := by decide +kernel
theorem e_M_runCall_34 : decode prog_14_method_99_code 34 = .ok (.isub, 1) := by decide +kernel
theorem e_M_runCall_35 : decode prog_14_method_99_code 35 = .ok (.dup2, 1) := by decide +kernel
theorem e_M_runCall_36 : decode prog_14_method_99_code 36 = .ok (.iaload, 1) := by decide +kernel
theorem e_M_runCall_37 : decode prog_14_method_99_code 37 = .ok (.aload_n 0, 1) := by decide +kernel
theorem e_M_runCall_38 : decode prog_14_method_99_code 38 = .ok (.getfield 33, 3) := by decide +kernel
theorem e_M_runCall_41 : decode prog_14_method_99_code 41 = .ok (.iload_n 1, 1) := by decide +kernel
theorem e_M_runCall_42 : decode prog_14_method_99_code 42 = .ok (.iaload, 1) := by decide +kernel
theorem e_M_runCall_43 : decode prog_14_method_99_code 43 = .ok (.isub, 1) := by decide +kernel
theorem e_M_runCall_44 : decode prog_14_method_99_code 44 = .ok (.iastore, 1) := by decide +kernel
theorem e_M_runCall_45 : decode prog_14_method_99_code 45 = .ok (.aload_n 0, 1) := by decide +kernel
theorem e_M_runCall_46 : decode prog_14_method_99_code 46 = .ok (.getfield 160, 3) := by decide +kernel
theorem e_M_runCall_49 : decode prog_14_method_99_code 49 = .ok (.aload_n 0, 1) := by decide +kernel
theorem e_M_runCall_50 : decode prog_14_method_99_code 50 = .ok (.getfield 420, 3) := by decide +kernel
theorem e_M_runCall_53 : decode prog_14_method_99_code 53 = .ok (.iconst 1, 1) := by decide +kernel
theorem e_M_runCall_54 : decode prog_14_method_99_code 54 = .ok (.isub, 1) := by decide +kernel
theorem e_M_runCall_55 : decode prog_14_method_99_code 55 = .ok (.iaload, 1) := by decide +kernel
theorem e_M_runCall_56 : decode prog_14_method_99_code 56 = .ok (.istore_n 3, 1) := by decide +kernel
theorem e_M_runCall_57 : decode prog_14_method_99_code 57 = .ok (.aload_n 0, 1) := by decide +kernel
theorem e_M_runCall_58 : decode prog_14_method_99_code 58 = .ok (.iload_n 1, 1) := by decide +kernel
theorem e_M_runCall_59 : decode prog_14_method_99_code 59 = .ok (.invokevirtual 478, 3) := by decide +kernel
theorem e_M_runCall_62 : decode prog_14_method_99_code 62 = .ok (.iconst 0, 1) := by decide +kernel
theorem e_M_runCall_63 : decode prog_14_method_99_code 63 = .ok (.istore 4, 2) := by decide +kernel
theorem e_M_runCall_65 : decode prog_14_method_99_code 65 = .ok (.iconst 0, 1) := by decide +kernel
theorem e_M_runCall_66 : decode prog_14_method_99_code 66 = .ok (.istore 5, 2) := by decide +kernel
theorem e_M_runCall_68 : decode prog_14_method_99_code 68 = .ok (.iload 5, 2) := by decide +kernel
theorem e_M_runCall_70 : decode prog_14_method_99_code 70 = .ok (.aload_n 0, 1) := by decide +kernel
theorem e_M_runCall_71 : decode prog_14_method_99_code 71 = .ok (.getfield 33, 3) := by decide +kernel
theorem e_M_runCall_74 : decode prog_14_method_99_code 74 = .ok (.iload_n 1, 1) := by decide +kernel
theorem e_M_runCall_75 : decode prog_14_method_99_code 75 = .ok (.iaload, 1) := by decide +kernel
theorem e_M_runCall_76 : decode prog_14_method_99_code 76 = .ok (.if_icmp .ge 51, 3) := by decide +kernel
theorem e_M_runCall_79 : decode prog_14_method_99_code 79 = .ok (.aload_n 0, 1) := by decide +kernel
theorem e_M_runCall_80 : decode prog_14_method_99_code 80 = .ok (.iload 4, 2) := by decide +kernel
theorem e_M_runCall_82 : decode prog_14_method_99_code 82 = .ok (.aload_n 0, 1) := by decide +kernel
theorem e_M_runCall_83 : decode prog_14_method_99_code 83 = .ok (.getfield 166, 3) := by decide +kernel
theorem e_M_runCall_86 : decode prog_14_method_99_code 86 = .ok (.iload_n 2, 1) := by decide +kernel
theorem e_M_runCall_87 : decode prog_14_method_99_code 87 = .ok (.iload_n 3, 1) := by decide +kernel
theorem e_M_runCall_88 : decode prog_14_method_99_code 88 = .ok (.iadd, 1) := by decide +kernel
theorem e_M_runCall_89 : decode prog_14_method_99_code 89 = .ok (.iload 5, 2) := by decide +kernel
theorem e_M_runCall_91 : decode prog_14_method_99_code 91 = .ok (.iadd, 1) := by decide +kernel
theorem e_M_runCall_92 : decode prog_14_method_99_code 92 = .ok (.laload, 1) := by decide +kernel
theorem e_M_runCall_93 : decode prog_14_method_99_code 93 = .ok (.invokevirtual 466, 3) := by decide +kernel
theorem e_M_runCall_96 : decode prog_14_method_99_code 96 = .ok (.iload 4, 2) := by decide +kernel
theorem e_M_runCall_98 : decode prog_14_method_99_code 98 = .ok (.aload_n 0, 1) := by decide +kernel
theorem e_M_runCall_99 : decode prog_14_method_99_code 99 = .ok (.getfield 30, 3) := by decide +kernel
theorem e_M_runCall_102 : decode prog_14_method_99_code 102 = .ok (.iconst 4, 1) := by decide +kernel
theorem e_M_runCall_103 : decode prog_14_method_99_code 103 = .ok (.iload_n 1, 1) := by decide +kernel
theorem e_M_runCall_104 : decode prog_14_method_99_code 104 = .ok (.imul, 1) := by decide +kernel
theorem e_M_runCall_105 : decode prog_14_method_99_code 105 = .ok (.iload 5, 2) := by decide +kernel
theorem e_M_runCall_107 : decode prog_14_method_99_code 107 = .ok (.iadd, 1) := by decide +kernel
theorem e_M_runCall_108 : decode prog_14_method_99_code 108 = .ok (.iaload, 1) := by decide +kernel
theorem e_M_runCall_109 : decode prog_14_method_99_code 109 = .ok (.iconst 2, 1) := by decide +kernel
theorem e_M_runCall_110 : decode prog_14_method_99_code 110 = .ok (.if_icmp .ne 7, 3) := by decide +kernel
theorem e_M_runCall_113 : decode prog_14_method_99_code 113 = .ok (.iconst 2, 1) := by decide +kernel
theorem e_M_runCall_114 : decode prog_14_method_99_code 114 = .ok (.goto 4, 3) := by decide +kernel
theorem e_M_runCall_117 : decode prog_14_method_99_code 117 = .ok (.iconst 1, 1) := by decide +kernel
theorem e_M_runCall_118 : decode prog_14_method_99_code 118 = .ok (.iadd, 1) := by decide +kernel
theorem e_M_runCall_119 : decode prog_14_method_99_code 119 = .ok (.istore 4, 2) := by decide +kernel
theorem e_M_runCall_121 : decode prog_14_method_99_code 121 = .ok (.iinc 5 1, 3) := by decide +kernel
theorem e_M_runCall_124 : decode prog_14_method_99_code 124 = .ok (.goto (-56), 3) := by decide +kernel
theorem e_M_runCall_127 : decode prog_14_method_99_code 127 = .ok (.return_, 1) := by decide +kernel
def w_M_runCall_118 (K68 : Int32 → Int32 → Int32 → Int32 → Int32 → MST → Prop) (P : MST → Prop) (z1 : Int32) (z2 : Int32) (z3 : Int32) (z5 : Int32) (s0 : Int32) (s1 : Int32) (σ : MST) : Prop := K68 z1 z2 z3 (s1 + s0) (z5 + 1) σ
def w_M_runCall_68 (P : MST → Prop) : Nat → Int32 → Int32 → Int32 → Int32 → Int32 → MST → Prop
  | 0, _, _, _, _, _, _ => False
  | n + 1, z1, z2, z3, z4, z5, σ => vp_in z1 8 ∧ (∀ a1 : Int32, a1 = (σ.2.1 10 (z1 : Int32).toNatClampNeg) → ((a1 ≤ z5 → P σ) ∧ (¬ a1 ≤ z5 → vp_in ((z2 + z3) + z5) 480 ∧ (∀ a3 : Int64, a3 = (σ.2.2.1 68 (((z2 + z3) + z5) : Int32).toNatClampNeg) → w_M_setLocal z4 a3 σ (fun σ4 => vp_in (((4 : Int32) * z1) + z5) 32 ∧ (∀ a6 : Int32, a6 = (σ4.2.1 9 ((((4 : Int32) * z1) + z5) : Int32).toNatClampNeg) → ((a6 = 2 → w_M_runCall_118 (w_M_runCall_68 P n) P z1 z2 z3 z5 2 z4 σ4) ∧ (¬ a6 = 2 → w_M_runCall_118 (w_M_runCall_68 P n) P z1 z2 z3 z5 1 z4 σ4))))))))
def w_M_runCall (x1 : Int32) (σ : MST) (P : MST → Prop) : Prop := (((σ.1 63) = 24 → w_M_over (3 : Int32) σ (fun σ15 => P σ15)) ∧ (¬ (σ.1 63) = 24 → vp_in ((σ.1 63) - 1) 24 ∧ (∀ a9 : Int32, a9 = (σ.2.1 66 (((σ.1 63) - 1) : Int32).toNatClampNeg) → vp_in x1 8 ∧ (∀ a10 : Int32, a10 = (σ.2.1 10 (x1 : Int32).toNatClampNeg) → vp_in ((σ.1 63) - 1) 24 ∧ (∀ σ11 : MST, σ11 = setA σ 66 (upd (σ.2.1 66) (((σ.1 63) - 1) : Int32).toNatClampNeg (a9 - a10)) → vp_in ((σ11.1 63) - 1) 24 ∧ (∀ a12 : Int32, a12 = (σ11.2.1 66 (((σ11.1 63) - 1) : Int32).toNatClampNeg) → w_M_enter x1 σ11 (fun σ13 => (∃ n9 : Nat, w_M_runCall_68 P n9 x1 ((20 : Int32) * ((σ.1 63) - 1)) a12 0 0 σ13))))))))
set_option maxHeartbeats 4000000 in
set_option maxRecDepth 100000 in
theorem K_M_runCall (l : Launch) (dC : Nat → ClassId) (dI : Nat → Nat → Nat) (mo : Nat) (rf : Nat → Nat) (ca : Nat → ClassId) (sz : Nat) (σ : MST) (x1 : Int32) {P : MST → Prop} (hw : w_M_runCall x1 σ P) : Met l z_M_runCall (mW z_M_runCall prog_14_method_99_code 6 none) ({ frames := 2, cells := 0, slots := 0, locals := 45 } : Room) (va_Pc [.ref mo, .int x1] (MPre (dC, dI) mo rf ca σ sz)) (va_Qv P (MB (dC, dI) mo rf ca sz) (mA mo rf sz)) 0 0 (mA mo rf sz) := by
  refine M_ofv (by decide) rfl (Nat.le_of_ble_eq_true rfl) ?_
  intro p e s m below meth cx Q A ls C hA hend h hl
  have C0 := C
  obtain ⟨⟨hx, hb, hml, hown, hts⟩, hsub⟩ := C0
  have K_118 : ∀ (K68 : Int32 → Int32 → Int32 → Int32 → Int32 → MST → Prop) (hK68 : ∀ (z1 : Int32) (z2 : Int32) (z3 : Int32) (z4 : Int32) (z5 : Int32) (σ : MST) (H : Heap) (locs : List Loc) (ls : Array Slot), K68 z1 z2 z3 z4 z5 σ → MH (dC, dI) A mo rf ca σ s H locs → lv_has ls 6 [(0, .ref mo), (1, .int z1), (2, .int z2), (3, .int z3), (4, .int z4), (5, .int z5)] → W p l e ({ frames := 2, cells := 0, slots := 0, locals := 45 } : Room) s m ([.ref mo, .int x1] : List Value).toArray below meth cx H locs 0 0 Q (F0 m 68 ls [])), ∀ (z1 : Int32) (z2 : Int32) (z3 : Int32) (z5 : Int32) (s0 : Int32) (s1 : Int32) (σ : MST) (H : Heap) (locs : List Loc) (ls : Array Slot), w_M_runCall_118 K68 P z1 z2 z3 z5 s0 s1 σ → MH (dC, dI) A mo rf ca σ s H locs → lv_has ls 6 [(0, .ref mo), (1, .int z1), (2, .int z2), (3, .int z3), (5, .int z5)] → W p l e ({ frames := 2, cells := 0, slots := 0, locals := 45 } : Room) s m ([.ref mo, .int x1] : List Value).toArray below meth cx H locs 0 0 Q (F0 m 118 ls [.int s0, .int s1]) := by
    intro K68 hK68 z1 z2 z3 z5 s0 s1 σ H locs ls hw h hl
    unfold w_M_runCall_118 at hw
    refine lv_iadd hx hb e_M_runCall_118 ?_
    refine lv_istore (lv' := [(4, .int (s1 + s0)), (0, .ref mo), (1, .int z1), (2, .int z2), (3, .int z3), (5, .int z5)]) hx hb e_M_runCall_119 hl (by decide) rfl (fun ls hl => ?_)
    refine lv_iinc (v := (z5 + 1)) (lv' := [(5, .int (z5 + 1)), (4, .int (s1 + s0)), (0, .ref mo), (1, .int z1), (2, .int z2), (3, .int z3)]) hx hb e_M_runCall_121 hl (k := 5) rfl (rfl) (by decide) rfl (fun ls hl => ?_)
    refine lv_goto (tgt := 68) hx hb e_M_runCall_124 (by decide) ?_
    exact hK68 z1 z2 z3 (s1 + s0) (z5 + 1) σ _ _ _ hw h (lv_sub hl [2, 3, 4, 5, 1, 0] rfl)
  have K_68 : ∀ (n : Nat), ∀ (z1 : Int32) (z2 : Int32) (z3 : Int32) (z4 : Int32) (z5 : Int32) (σ : MST) (H : Heap) (locs : List Loc) (ls : Array Slot), w_M_runCall_68 P n z1 z2 z3 z4 z5 σ → MH (dC, dI) A mo rf ca σ s H locs → lv_has ls 6 [(0, .ref mo), (1, .int z1), (2, .int z2), (3, .int z3), (4, .int z4), (5, .int z5)] → W p l e ({ frames := 2, cells := 0, slots := 0, locals := 45 } : Room) s m ([.ref mo, .int x1] : List Value).toArray below meth cx H locs 0 0 Q (F0 m 68 ls []) := by
    intro  n
    induction n with
    | zero => intro z1 z2 z3 z4 z5 σ H locs ls hw h hl; unfold w_M_runCall_68 at hw; exact hw.elim
    | succ n ih =>
      intro z1 z2 z3 z4 z5 σ H locs ls hw h hl
      unfold w_M_runCall_68 at hw
      refine lv_iload hx hb e_M_runCall_68 (lv_at hl 5 rfl) ?_
      refine lv_aload_n hx hb e_M_runCall_70 rfl (lv_at hl 0 rfl) ?_
      refine M_get C h 10 (v := .ref (rf 10)) rfl (by decide) v_42 e_M_runCall_71 ?_
      refine lv_iload_n hx hb e_M_runCall_74 rfl (lv_at hl 1 rfl) ?_
      refine M_ald C h 10 (by decide) rfl hw.1 e_M_runCall_75 ?_
      replace hw := hw.2
      refine lv_topi (fun a1 e_a1 => ?_)
      replace hw := hw a1 e_a1
      refine lv_icmp_ge (tgt := 127) hx hb e_M_runCall_76 (by decide) (fun c2 => ?_) (fun c2 => ?_)
      · skip
        replace hw := hw.1 c2
        exact hend σ _ _ _ _ hw h e_M_runCall_127
      · skip
        replace hw := hw.2 c2
        refine lv_aload_n hx hb e_M_runCall_79 rfl (lv_at hl 0 rfl) ?_
        refine lv_iload hx hb e_M_runCall_80 (lv_at hl 4 rfl) ?_
        refine lv_aload_n hx hb e_M_runCall_82 rfl (lv_at hl 0 rfl) ?_
        refine M_get C h 68 (v := .ref (rf 68)) rfl (by decide) v_310 e_M_runCall_83 ?_
        refine lv_iload_n hx hb e_M_runCall_86 rfl (lv_at hl 2 rfl) ?_
        refine lv_iload_n hx hb e_M_runCall_87 rfl (lv_at hl 3 rfl) ?_
        refine lv_iadd hx hb e_M_runCall_88 ?_
        refine lv_iload hx hb e_M_runCall_89 (lv_at hl 5 rfl) ?_
        refine lv_iadd hx hb e_M_runCall_91 ?_
        refine M_lald C h 68 (by decide) rfl hw.1 e_M_runCall_92 ?_
        replace hw := hw.2
        refine lv_topl (fun a3 e_a3 => ?_)
        replace hw := hw a3 e_a3
        refine M_callv (As := [.int z4, .long a3]) (rest := []) C h hA (K_M_setLocal l dC dI mo rf ca H.size σ z4 a3 hw) (cwV 2 hts (gV hsub v_360 v_361 v_362 v_7 v_363) rfl rfl rfl (by decide +kernel) ⟨(Nat.le_of_ble_eq_true rfl), (Nat.le_of_ble_eq_true rfl)⟩) rfl hl.1 (Nat.le_of_ble_eq_true rfl) e_M_runCall_93 ⟨(Nat.le_of_ble_eq_true rfl), (Nat.le_of_ble_eq_true rfl)⟩ (fun σ4 H locs hw h => ?_)
        refine W.eq (g2 := F0 m 96 ls []) rfl ?_
        refine lv_iload hx hb e_M_runCall_96 (lv_at hl 4 rfl) ?_
        refine lv_aload_n hx hb e_M_runCall_98 rfl (lv_at hl 0 rfl) ?_
        refine M_get C h 9 (v := .ref (rf 9)) rfl (by decide) v_45 e_M_runCall_99 ?_
        refine lv_iconst (v := 4) hx hb e_M_runCall_102 (by decide) ?_
        refine lv_iload_n hx hb e_M_runCall_103 rfl (lv_at hl 1 rfl) ?_
        refine lv_imul hx hb e_M_runCall_104 ?_
        refine lv_iload hx hb e_M_runCall_105 (lv_at hl 5 rfl) ?_
        refine lv_iadd hx hb e_M_runCall_107 ?_
        refine M_ald C h 9 (by decide) rfl hw.1 e_M_runCall_108 ?_
        replace hw := hw.2
        refine lv_topi (fun a6 e_a6 => ?_)
        replace hw := hw a6 e_a6
        refine lv_iconst (v := 2) hx hb e_M_runCall_109 (by decide) ?_
        refine lv_icmp_ne (tgt := 117) hx hb e_M_runCall_110 (by decide) (fun c7 => ?_) (fun c7 => ?_)
        · skip
          replace hw := hw.2 c7
          refine lv_iconst (v := 1) hx hb e_M_runCall_117 (by decide) ?_
          exact K_118 _ ih z1 z2 z3 z5 1 z4 σ4 _ _ _ hw h (lv_sub hl [0, 1, 2, 3, 5] rfl)
        · skip
          replace hw := hw.1 c7
          refine lv_iconst (v := 2) hx hb e_M_runCall_113 (by decide) ?_
          refine lv_goto (tgt := 118) hx hb e_M_runCall_114 (by decide) ?_
          exact K_118 _ ih z1 z2 z3 z5 2 z4 σ4 _ _ _ hw h (lv_sub hl [0, 1, 2, 3, 5] rfl)
  have hl : lv_has ls 6 [(0, .ref mo), (1, .int x1)] := hl
  unfold w_M_runCall at hw
  refine lv_aload_n hx hb e_M_runCall_0 rfl (lv_at hl 0 rfl) ?_
  refine M_get C h 63 (v := .int (σ.1 63)) rfl (by decide) v_309 e_M_runCall_1 ?_
  refine lv_bipush (v := 24) hx hb e_M_runCall_4 (by decide) ?_
  refine lv_icmp_ne (tgt := 15) hx hb e_M_runCall_6 (by decide) (fun c8 => ?_) (fun c8 => ?_)
  · skip
    replace hw := hw.2 c8
    refine lv_bipush (v := 20) hx hb e_M_runCall_15 (by decide) ?_
    refine lv_aload_n hx hb e_M_runCall_17 rfl (lv_at hl 0 rfl) ?_
    refine M_get C h 63 (v := .int (σ.1 63)) rfl (by decide) v_309 e_M_runCall_18 ?_
    refine lv_iconst (v := 1) hx hb e_M_runCall_21 (by decide) ?_
    refine lv_isub hx hb e_M_runCall_22 ?_
    refine lv_imul hx hb e_M_runCall_23 ?_
    refine lv_istore_n (lv' := [(2, .int ((20 : Int32) * ((σ.1 63) - 1))), (0, .ref mo), (1, .int x1)]) hx hb e_M_runCall_24 rfl hl (by decide) rfl (fun ls hl => ?_)
    refine lv_aload_n hx hb e_M_runCall_25 rfl (lv_at hl 1 rfl) ?_
    refine M_get C h 66 (v := .ref (rf 66)) rfl (by decide) v_308 e_M_runCall_26 ?_
    refine lv_aload_n hx hb e_M_runCall_29 rfl (lv_at hl 1 rfl) ?_
    refine M_get C h 63 (v := .int (σ.1 63)) rfl (by decide) v_309 e_M_runCall_30 ?_
    refine lv_iconst (v := 1) hx hb e_M_runCall_33 (by decide) ?_
    refine lv_isub hx hb e_M_runCall_34 ?_
    refine lv_dup2_11 hx hb e_M_runCall_35 rfl rfl ?_
    refine M_ald C h 66 (by decide) rfl hw.1 e_M_runCall_36 ?_
    replace hw := hw.2
    refine lv_topi (fun a9 e_a9 => ?_)
    replace hw := hw a9 e_a9
    refine lv_aload_n hx hb e_M_runCall_37 rfl (lv_at hl 1 rfl) ?_
    refine M_get C h 10 (v := .ref (rf 10)) rfl (by decide) v_42 e_M_runCall_38 ?_
    refine lv_iload_n hx hb e_M_runCall_41 rfl (lv_at hl 2 rfl) ?_
    refine M_ald C h 10 (by decide) rfl hw.1 e_M_runCall_42 ?_
    replace hw := hw.2
    refine lv_topi (fun a10 e_a10 => ?_)
    replace hw := hw a10 e_a10
    refine lv_isub hx hb e_M_runCall_43 ?_
    refine M_ast C h 66 (by decide) rfl hw.1 e_M_runCall_44 (fun H locs h => ?_)
    replace hw := hw.2
    obtain ⟨σ11, e_σ11⟩ : ∃ z : MST, z = setA σ 66 (upd (σ.2.1 66) (((σ.1 63) - 1) : Int32).toNatClampNeg (a9 - a10)) := ⟨_, rfl⟩
    rw [← e_σ11] at h
    replace hw := hw σ11 e_σ11
    refine lv_aload_n hx hb e_M_runCall_45 rfl (lv_at hl 1 rfl) ?_
    refine M_get C h 66 (v := .ref (rf 66)) rfl (by decide) v_308 e_M_runCall_46 ?_
    refine lv_aload_n hx hb e_M_runCall_49 rfl (lv_at hl 1 rfl) ?_
    refine M_get C h 63 (v := .int (σ11.1 63)) rfl (by decide) v_309 e_M_runCall_50 ?_
    refine lv_iconst (v := 1) hx hb e_M_runCall_53 (by decide) ?_
    refine lv_isub hx hb e_M_runCall_54 ?_
    refine M_ald C h 66 (by decide) rfl hw.1 e_M_runCall_55 ?_
    replace hw := hw.2
    refine lv_topi (fun a12 e_a12 => ?_)
    replace hw := hw a12 e_a12
    refine lv_istore_n (lv' := [(3, .int a12), (2, .int ((20 : Int32) * ((σ.1 63) - 1))), (0, .ref mo), (1, .int x1)]) hx hb e_M_runCall_56 rfl hl (by decide) rfl (fun ls hl => ?_)
    refine lv_aload_n hx hb e_M_runCall_57 rfl (lv_at hl 2 rfl) ?_
    refine lv_iload_n hx hb e_M_runCall_58 rfl (lv_at hl 3 rfl) ?_
    refine M_callv (As := [.int x1]) (rest := []) C h hA (K_M_enter l dC dI mo rf ca H.size σ11 x1 hw) (cwV 1 hts (gV hsub v_369 v_370 v_371 v_7 v_372) rfl rfl rfl (by decide +kernel) ⟨(Nat.le_of_ble_eq_true rfl), (Nat.le_of_ble_eq_true rfl)⟩) rfl hl.1 (Nat.le_of_ble_eq_true rfl) e_M_runCall_59 ⟨(Nat.le_of_ble_eq_true rfl), (Nat.le_of_ble_eq_true rfl)⟩ (fun σ13 H locs hw h => ?_)
    refine W.eq (g2 := F0 m 62 ls []) rfl ?_
    refine lv_iconst (v := 0) hx hb e_M_runCall_62 (by decide) ?_
    refine lv_istore (lv' := [(4, .int 0), (3, .int a12), (2, .int ((20 : Int32) * ((σ.1 63) - 1))), (0, .ref mo), (1, .int x1)]) hx hb e_M_runCall_63 hl (by decide) rfl (fun ls hl => ?_)
    refine lv_iconst (v := 0) hx hb e_M_runCall_65 (by decide) ?_
    refine lv_istore (lv' := [(5, .int 0), (4, .int 0), (3, .int a12), (2, .int ((20 : Int32) * ((σ.1 63) - 1))), (0, .ref mo), (1, .int x1)]) hx hb e_M_runCall_66 hl (by decide) rfl (fun ls hl => ?_)
    obtain ⟨n9, hw⟩ := hw
    exact K_68 n9 x1 ((20 : Int32) * ((σ.1 63) - 1)) a12 0 0 σ13 _ _ _ hw h (lv_sub hl [4, 5, 3, 2, 1, 0] rfl)
  · skip
    replace hw := hw.1 c8
    refine lv_aload_n hx hb e_M_runCall_9 rfl (lv_at hl 0 rfl) ?_
    refine lv_iconst (v := 3) hx hb e_M_runCall_10 (by decide) ?_
    refine M_callv (As := [.int 3]) (rest := []) C h hA (K_M_over l dC dI mo rf ca s.heap.size σ (3 : Int32) hw) (cwV 1 hts (gV hsub v_322 v_323 v_324 v_7 v_325) rfl rfl rfl (by decide +kernel) ⟨(Nat.le_of_ble_eq_true rfl), (Nat.le_of_ble_eq_true rfl)⟩) rfl hl.1 (Nat.le_of_ble_eq_true rfl) e_M_runCall_11 ⟨(Nat.le_of_ble_eq_true rfl), (Nat.le_of_ble_eq_true rfl)⟩ (fun σ15 H locs hw h => ?_)
    refine W.eq (g2 := F0 m 14 ls []) rfl ?_
    exact hend σ15 _ _ _ _ hw h e_M_runCall_14
abbrev z_M_runObject : MethodName := ⟨"MapFramerModel", "runObject", "(III)V"⟩
theorem v_373 : (Cond.constantLong "MapFramerModel" 481 24 : Cond) ∈ bigW := inB_10 188 (by decide +kernel) rfl
theorem e_M_runObject_0 : decode prog_14_method_100_code 0 = .ok (.iload_n 1, 1) := by decide +kernel
theorem e_M_runObject_1 : decode prog_14_method_100_code 1 = .ok (.sipush 187, 3) := by decide +kernel
theorem e_M_runObject_4 : decode prog_14_method_100_code 4 = .ok (.if_icmp .ne 30, 3) := by decide +kernel
theorem e_M_runObject_7 : decode prog_14_method_100_code 7 = .ok (.aload_n 0, 1) := by decide +kernel
theorem e_M_runObject_8 : decode prog_14_method_100_code 8 = .ok (.bipush 32, 2) := by decide +kernel
theorem e_M_runObject_10 : decode prog_14_method_100_code 10 = .ok (.iload_n 2, 1) := by decide +kernel
theorem e_M_runObject_11 : decode prog_14_method_100_code 11 = .ok (.iadd, 1) := by decide +kernel
theorem e_M_runObject_12 : decode prog_14_method_100_code 12 = .ok (.iconst 0, 1) := by decide +kernel
theorem e_M_runObject_13 : decode prog_14_method_100_code 13 = .ok (.invokevirtual 443, 3) := by decide +kernel
theorem e_M_runObject_16 : decode prog_14_method_100_code 16 = .ok (.istore 4, 2) := by decide +kernel
theorem e_M_runObject_18 : decode prog_14_method_100_code 18 = .ok (.iload 4, 2) := by decide +kernel
theorem e_M_runObject_20 : decode prog_14_method_100_code 20 = .ok (.ifCond .ge 4, 3) := by decide +kernel
theorem e_M_runObject_23 : decode prog_14_method_100_code 23 = .ok (.return_, 1) := by decide +kernel
theorem e_M_runObject_24 : decode prog_14_method_100_code 24 = .ok (.aload_n 0, 1) := by decide +kernel
theorem e_M_runObject_25 : decode prog_14_method_100_code 25 = .ok (.iload 4, 2) := by decide +kernel
theorem e_M_runObject_27 : decode prog_14_method_100_code 27 = .ok (.i2l, 1) := by decide +kernel
theorem e_M_runObject_28 : decode prog_14_method_100_code 28 = .ok (.invokevirtual 439, 3) := by decide +kernel
theorem e_M_runObject_31 : decode prog_14_method_100_code 31 = .ok (.goto 265, 3) := by decide +kernel
theorem e_M_runObject_34 : decode prog_14_method_100_code 34 = .ok (.iload_n 1, 1) := by decide +kernel
theorem e_M_runObject_35 : decode prog_14_method_100_code 35 = .ok (.sipush 183, 3) := by decide +kernel
theorem e_M_runObject_38 : decode prog_14_method_100_code 38 = .ok (.if_icmp .ne 12, 3) := by decide +kernel
theorem e_M_runObject_41 : decode prog_14_method_100_code 41 = .ok (.aload_n 0, 1) := by decide +kernel
theorem e_M_runObject_42 : decode prog_14_method_100_code 42 = .ok (.invokevirtual 449, 3) := by decide +kernel
theorem e_M_runObject_45 : decode prog_14_method_100_code 45 = .ok (.lstore 4, 2) := by decide +kernel
theorem e_M_runObject_47 : decode prog_14_method_100_code 47 = .ok (.goto 249, 3) := by decide +kernel
theorem e_M_runObject_50 : decode prog_14_method_100_code 50 = .ok (.iload_n 1, 1) := by decide +kernel
theorem e_M_runObject_51 : decode prog_14_method_100_code 51 = .ok (.sipush 188, 3) := by decide +kernel
theorem e_M_runObject_54 : decode prog_14_method_100_code 54 = .ok (.if_icmp .eq 10, 3) := by decide +kernel
theorem e_M_runObject_57 : decode prog_14_method_100_code 57 = .ok (.iload_n 1, 1) := by decide +kernel
theorem e_M_runObject_58 : decode prog_14_method_100_code 58 = .ok (.sipush 189, 3) := by decide +kernel
theorem e_M_runObject_61 : decode prog_14_method_100_code 61 = .ok (.if_icmp .ne 80, 3) := by decide +kernel
theorem e_M_runObject_64 : decode prog_14_method_100_code 64 = .ok (.aload_n 0, 1) := by decide +kernel
theorem e_M_runObject_65 : decode prog_14_method_100_code 65 = .ok (.invokevirtual 449, 3) := by decide +kernel
theorem e_M_runObject_68 : decode prog_14_method_100_code 68 = .ok (.lstore 4, 2) := by decide +kernel
theorem e_M_runObject_70 : decode prog_14_method_100_code 70 = .ok (.lload 4, 2) := by decide +kernel
theorem e_M_runObject_72 : decode prog_14_method_100_code 72 = .ok (.lconst 0, 1) := by decide +kernel
theorem e_M_runObject_73 : decode prog_14_method_100_code 73 = .ok (.lcmp, 1) := by decide +kernel
theorem e_M_runObject_74 : decode prog_14_method_100_code 74 = .ok (.ifCond .lt 12, 3) := by decide +kernel
theorem e_M_runObject_77 : decode prog_14_method_100_code 77 = .ok (.lload 4, 2) := by decide +kernel
theorem e_M_runObject_79 : decode prog_14_method_100_code 79 = .ok (.ldc2_w 481, 3) := by decide +kernel
theorem e_M_runObject_82 : decode prog_14_method_100_code 82 = .ok (.lcmp, 1) := by decide +kernel
theorem e_M_runObject_83 : decode prog_14_method_100_code 83 = .ok (.ifCond .le 8, 3) := by decide +kernel
theorem e_M_runObject_86 : decode prog_14_method_100_code 86 = .ok (.aload_n 0, 1) := by decide +kernel
theorem e_M_runObject_87 : decode prog_14_method_100_code 87 = .ok (.invokevirtual 453, 3) := by decide +kernel
theorem e_M_runObject_90 : decode prog_14_method_100_code 90 = .ok (.return_, 1) := by decide +kernel
theorem e_M_runObject_91 : decode prog_14_method_100_code 91 = .ok (.aload_n 0, 1) := by decide +kernel
theorem e_M_runObject_92 : decode prog_14_method_100_code 92 = .ok (.iload_n 1, 1) := by decide +kernel
theorem e_M_runObject_93 : decode prog_14_method_100_code 93 = .ok (.sipush 189, 3) := by decide +kernel
theorem e_M_runObject_96 : decode prog_14_method_100_code 96 = .ok (.if_icmp .ne 10, 3) := by decide +kernel
theorem e_M_runObject_99 : decode prog_14_method_100_code 99 = .ok (.bipush 64, 2) := by decide +kernel
theorem e_M_runObject_101 : decode prog_14_method_100_code 101 = .ok (.iload_n 2, 1) := by decide +kernel
theorem e_M_runObject_102 : decode prog_14_method_100_code 102 = .ok (.iadd, 1) := by decide +kernel
theorem e_M_runObject_103 : decode prog_14_method_100_code 103 = .ok (.goto 14, 3) := by decide +kernel
theorem e_M_runObject_106 : decode prog_14_method_100_code 106 = .ok (.iload_n 2, 1) := by decide +kernel
theorem e_M_runObject_107 : decode prog_14_method_100_code 107 = .ok (.bipush 10, 2) := by decide +kernel
theorem e_M_runObject_109 : decode prog_14_method_100_code 109 = .ok (.if_icmp .ne 7, 3) := by decide +kernel
theorem e_M_runObject_112 : decode prog_14_method_100_code 112 = .ok (.iconst 3, 1) := by decide +kernel
theorem e_M_runObject_113 : decode prog_14_method_100_code 113 = .ok (.goto 4, 3) := by decide +kernel
theorem e_M_runObject_116 : decode prog_14_method_100_code 116 = .ok (.iconst 4, 1) := by decide +kernel
theorem e_M_runObject_117 : decode prog_14_method_100_code 117 = .ok (.lload 4, 2) := by decide +kernel
theorem e_M_runObject_119 : decode prog_14_method_100_code 119 = .ok (.l2i, 1) := by decide +kernel
theorem e_M_runObject_120 : decode prog_14_method_100_code 120 = .ok (.invokevirtual 443, 3) := by decide +kernel
theorem e_M_runObject_123 : decode prog_14_method_100_code 123 = .ok (.istore 6, 2) := by decide +kernel
theorem e_M_runObject_125 : decode prog_14_method_100_code 125 = .ok (.iload 6, 2) := by decide +kernel
theorem e_M_runObject_127 : decode prog_14_method_100_code 127 = .ok (.ifCond .ge 4, 3) := by decide +kernel
theorem e_M_runObject_130 : decode prog_14_method_100_code 130 = .ok (.return_, 1) := by decide +kernel
theorem e_M_runObject_131 : decode prog_14_method_100_code 131 = .ok (.aload_n 0, 1) := by decide +kernel
theorem e_M_runObject_132 : decode prog_14_method_100_code 132 = .ok (.iload 6, 2) := by decide +kernel
theorem e_M_runObject_134 : decode prog_14_method_100_code 134 = .ok (.i2l, 1) := by decide +kernel
theorem e_M_runObject_135 : decode prog_14_method_100_code 135 = .ok (.invokevirtual 439, 3) := by decide +kernel
theorem e_M_runObject_138 : decode prog_14_method_100_code 138 = .ok (.goto 158, 3) := by decide +kernel
theorem e_M_runObject_141 : decode prog_14_method_100_code 141 = .ok (.iload_n 1, 1) := by decide +kernel
theorem e_M_runObject_142 : decode prog_14_method_100_code 142 = .ok (.sipush 191, 3) := by decide +kernel
theorem e_M_runObject_145 : decode prog_14_method_100_code 145 = .ok (.if_icmp .eq 10, 3) := by decide +kernel
theorem e_M_runObject_148 : decode prog_14_method_100_code 148 = .ok (.iload_n 1, 1) := by decide +kernel
theorem e_M_runObject_149 : decode prog_14_method_100_code 149 = .ok (.sipush 190, 3) := by decide +kernel
theorem e_M_runObject_152 : decode prog_14_method_100_code 152 = .ok (.if_icmp .ne 49, 3) := by decide +kernel
theorem e_M_runObject_155 : decode prog_14_method_100_code 155 = .ok (.aload_n 0, 1) := by decide +kernel
theorem e_M_runObject_156 : decode prog_14_method_100_code 156 = .ok (.invokevirtual 449, 3) := by decide +kernel
theorem e_M_runObject_159 : decode prog_14_method_100_code 159 = .ok (.l2i, 1) := by decide +kernel
theorem e_M_runObject_160 : decode prog_14_method_100_code 160 = .ok (.istore 4, 2) := by decide +kernel
theorem e_M_runObject_162 : decode prog_14_method_100_code 162 = .ok (.iload 4, 2) := by decide +kernel
theorem e_M_runObject_164 : decode prog_14_method_100_code 164 = .ok (.ifCond .ge 8, 3) := by decide +kernel
theorem e_M_runObject_167 : decode prog_14_method_100_code 167 = .ok (.aload_n 0, 1) := by decide +kernel
theorem e_M_runObject_168 : decode prog_14_method_100_code 168 = .ok (.invokevirtual 453, 3) := by decide +kernel
theorem e_M_runObject_171 : decode prog_14_method_100_code 171 = .ok (.return_, 1) := by decide +kernel
theorem e_M_runObject_172 : decode prog_14_method_100_code 172 = .ok (.iload_n 1, 1) := by decide +kernel
theorem e_M_runObject_173 : decode prog_14_method_100_code 173 = .ok (.sipush 191, 3) := by decide +kernel
theorem e_M_runObject_176 : decode prog_14_method_100_code 176 = .ok (.if_icmp .ne 10, 3) := by decide +kernel
theorem e_M_runObject_179 : decode prog_14_method_100_code 179 = .ok (.aload_n 0, 1) := by decide +kernel
theorem e_M_runObject_180 : decode prog_14_method_100_code 180 = .ok (.iload 4, 2) := by decide +kernel
theorem e_M_runObject_182 : decode prog_14_method_100_code 182 = .ok (.invokevirtual 446, 3) := by decide +kernel
theorem e_M_runObject_185 : decode prog_14_method_100_code 185 = .ok (.return_, 1) := by decide +kernel
theorem e_M_runObject_186 : decode prog_14_method_100_code 186 = .ok (.aload_n 0, 1) := by decide +kernel
theorem e_M_runObject_187 : decode prog_14_method_100_code 187 = .ok (.aload_n 0, 1) := by decide +kernel
theorem e_M_runObject_188 : decode prog_14_method_100_code 188 = .ok (.getfield 145, 3) := by decide +kernel
theorem e_M_runObject_191 : decode prog_14_method_100_code 191 = .ok (.iload 4, 2) := by decide +kernel
theorem e_M_runObject_193 : decode prog_14_method_100_code 193 = .ok (.iaload, 1) := by decide +kernel
theorem e_M_runObject_194 : decode prog_14_method_100_code 194 = .ok (.i2l, 1) := by decide +kernel
theorem e_M_runObject_195 : decode prog_14_method_100_code 195 = .ok (.invokevirtual 439, 3) := by decide +kernel
theorem e_M_runObject_198 : decode prog_14_method_100_code 198 = .ok (.goto 98, 3) := by decide +kernel
theorem e_M_runObject_201 : decode prog_14_method_100_code 201 = .ok (.aload_n 0, 1) := by decide +kernel
theorem e_M_runObject_202 : decode prog_14_method_100_code 202 = .ok (.invokevirtual 449, 3) := by decide +kernel
theorem e_M_runObject_205 : decode prog_14_method_100_code 205 = .ok (.l2i, 1) := by decide +kernel
theorem e_M_runObject_206 : decode prog_14_method_100_code 206 = .ok (.istore 4, 2) := by decide +kernel
theorem e_M_runObject_208 : decode prog_14_method_100_code 208 = .ok (.iload 4, 2) := by decide +kernel
theorem e_M_runObject_210 : decode prog_14_method_100_code 210 = .ok (.ifCond .lt 34, 3) := by decide +kernel
theorem e_M_runObject_213 : decode prog_14_method_100_code 213 = .ok (.aload_n 0, 1) := by decide +kernel
theorem e_M_runObject_214 : decode prog_14_method_100_code 214 = .ok (.aload_n 0, 1) := by decide +kernel
theorem e_M_runObject_215 : decode prog_14_method_100_code 215 = .ok (.getfield 142, 3) := by decide +kernel
theorem e_M_runObject_218 : decode prog_14_method_100_code 218 = .ok (.iload 4, 2) := by decide +kernel
theorem e_M_runObject_220 : decode prog_14_method_100_code 220 = .ok (.ifCond .ge 7, 3) := by decide +kernel
theorem e_M_runObject_223 : decode prog_14_method_100_code 223 = .ok (.iconst 0, 1) := by decide +kernel
theorem e_M_runObject_224 : decode prog_14_method_100_code 224 = .ok (.goto 5, 3) := by decide +kernel
theorem e_M_runObject_227 : decode prog_14_method_100_code 227 = .ok (.iload 4, 2) := by decide +kernel
theorem e_M_runObject_229 : decode prog_14_method_100_code 229 = .ok (.iaload, 1) := by decide +kernel
theorem e_M_runObject_230 : decode prog_14_method_100_code 230 = .ok (.bipush 32, 2) := by decide +kernel
theorem e_M_runObject_232 : decode prog_14_method_100_code 232 = .ok (.iload_n 2, 1) := by decide +kernel
theorem e_M_runObject_233 : decode prog_14_method_100_code 233 = .ok (.iadd, 1) := by decide +kernel
theorem e_M_runObject_234 : decode prog_14_method_100_code 234 = .ok (.invokevirtual 260, 3) := by decide +kernel
theorem e_M_runObject_237 : decode prog_14_method_100_code 237 = .ok (.ifCond .eq 7, 3) := by decide +kernel
theorem e_M_runObject_240 : decode prog_14_method_100_code 240 = .ok (.iconst 1, 1) := by decide +kernel
theorem e_M_runObject_241 : decode prog_14_method_100_code 241 = .ok (.goto 4, 3) := by decide +kernel
theorem e_M_runObject_244 : decode prog_14_method_100_code 244 = .ok (.iconst 0, 1) := by decide +kernel
theorem e_M_runObject_245 : decode prog_14_method_100_code 245 = .ok (.istore 5, 2) := by decide +kernel
theorem e_M_runObject_247 : decode prog_14_method_100_code 247 = .ok (.iload_n 1, 1) := by decide +kernel
theorem e_M_runObject_248 : decode prog_14_method_100_code 248 = .ok (.sipush 192, 3) := by decide +kernel
theorem e_M_runObject_251 : decode prog_14_method_100_code 251 = .ok (.if_icmp .ne 18, 3) := by decide +kernel
theorem e_M_runObject_254 : decode prog_14_method_100_code 254 = .ok (.iload 4, 2) := by decide +kernel
theorem e_M_runObject_256 : decode prog_14_method_100_code 256 = .ok (.ifCond .lt 13, 3) := by decide +kernel
theorem e_M_runObject_259 : decode prog_14_method_100_code 259 = .ok (.iload 5, 2) := by decide +kernel
theorem e_M_runObject_261 : decode prog_14_method_100_code 261 = .ok (.ifCond .ne 8, 3) := by decide +kernel
theorem e_M_runObject_264 : decode prog_14_method_100_code 264 = .ok (.aload_n 0, 1) := by decide +kernel
theorem e_M_runObject_265 : decode prog_14_method_100_code 265 = .ok (.invokevirtual 453, 3) := by decide +kernel
theorem e_M_runObject_268 : decode prog_14_method_100_code 268 = .ok (.return_, 1) := by decide +kernel
theorem e_M_runObject_269 : decode prog_14_method_100_code 269 = .ok (.aload_n 0, 1) := by decide +kernel
theorem e_M_runObject_270 : decode prog_14_method_100_code 270 = .ok (.iload_n 1, 1) := by decide +kernel
theorem e_M_runObject_271 : decode prog_14_method_100_code 271 = .ok (.sipush 192, 3) := by decide +kernel
theorem e_M_runObject_274 : decode prog_14_method_100_code 274 = .ok (.if_icmp .ne 9, 3) := by decide +kernel
theorem e_M_runObject_277 : decode prog_14_method_100_code 277 = .ok (.iload 4, 2) := by decide +kernel
theorem e_M_runObject_279 : decode prog_14_method_100_code 279 = .ok (.i2l, 1) := by decide +kernel
theorem e_M_runObject_280 : decode prog_14_method_100_code 280 = .ok (.goto 13, 3) := by decide +kernel
theorem e_M_runObject_283 : decode prog_14_method_100_code 283 = .ok (.iload 5, 2) := by decide +kernel
theorem e_M_runObject_285 : decode prog_14_method_100_code 285 = .ok (.ifCond .eq 7, 3) := by decide +kernel
theorem e_M_runObject_288 : decode prog_14_method_100_code 288 = .ok (.lconst 1, 1) := by decide +kernel
theorem e_M_runObject_289 : decode prog_14_method_100_code 289 = .ok (.goto 4, 3) := by decide +kernel
theorem e_M_runObject_292 : decode prog_14_method_100_code 292 = .ok (.lconst 0, 1) := by decide +kernel
theorem e_M_runObject_293 : decode prog_14_method_100_code 293 = .ok (.invokevirtual 439, 3) := by decide +kernel
theorem e_M_runObject_296 : decode prog_14_method_100_code 296 = .ok (.aload_n 0, 1) := by decide +kernel
theorem e_M_runObject_297 : decode prog_14_method_100_code 297 = .ok (.iload_n 3, 1) := by decide +kernel
theorem e_M_runObject_298 : decode prog_14_method_100_code 298 = .ok (.invokevirtual 456, 3) := by decide +kernel
theorem e_M_runObject_301 : decode prog_14_method_100_code 301 = .ok (.return_, 1) := by decide +kernel
def w_M_runObject_296 (P : MST → Prop) (z3 : Int32) (σ : MST) : Prop := w_M_goTo z3 σ (fun σ1 => P σ1)
def w_M_runObject_86 (P : MST → Prop) (σ : MST) : Prop := w_M_raiseNew σ (fun σ3 => P σ3)
def w_M_runObject_117 (P : MST → Prop) (z3 : Int32) (z4 : Int64) (s0 : Int32) (σ : MST) : Prop := w_M_thing s0 ((z4 : Int64).toInt32) σ (fun r6 σ5 => ((0 ≤ r6 → w_M_lay ((r6 : Int32).toInt64) σ5 (fun σ8 => w_M_runObject_296 P z3 σ8)) ∧ (¬ 0 ≤ r6 → P σ5)))
def w_M_runObject_64 (P : MST → Prop) (z1 : Int32) (z2 : Int32) (z3 : Int32) (σ : MST) : Prop := w_M_take σ (fun r11 σ10 => (((lg_cmp r11 0) < 0 → w_M_runObject_86 P σ10) ∧ (¬ (lg_cmp r11 0) < 0 → (((lg_cmp r11 24) ≤ 0 → ((z1 = 189 → w_M_runObject_117 P z3 r11 ((64 : Int32) + z2) σ10) ∧ (¬ z1 = 189 → ((z2 = 10 → w_M_runObject_117 P z3 r11 3 σ10) ∧ (¬ z2 = 10 → w_M_runObject_117 P z3 r11 4 σ10))))) ∧ (¬ (lg_cmp r11 24) ≤ 0 → w_M_runObject_86 P σ10)))))
def w_M_runObject_155 (P : MST → Prop) (z1 : Int32) (z3 : Int32) (σ : MST) : Prop := w_M_take σ (fun r17 σ16 => ((0 ≤ ((r17 : Int64).toInt32) → ((z1 = 191 → w_M_raise ((r17 : Int64).toInt32) σ16 (fun σ23 => P σ23)) ∧ (¬ z1 = 191 → vp_in ((r17 : Int64).toInt32) 150 ∧ (∀ a20 : Int32, a20 = (σ16.2.1 60 (((r17 : Int64).toInt32) : Int32).toNatClampNeg) → w_M_lay ((a20 : Int32).toInt64) σ16 (fun σ21 => w_M_runObject_296 P z3 σ21))))) ∧ (¬ 0 ≤ ((r17 : Int64).toInt32) → w_M_raiseNew σ16 (fun σ25 => P σ25))))
def w_M_runObject_293 (P : MST → Prop) (z3 : Int32) (s0 : Int64) (σ : MST) : Prop := w_M_lay s0 σ (fun σ27 => w_M_runObject_296 P z3 σ27)
def w_M_runObject_269 (P : MST → Prop) (z1 : Int32) (z3 : Int32) (z4 : Int32) (z5 : Int32) (σ : MST) : Prop := ((z1 = 192 → w_M_runObject_293 P z3 ((z4 : Int32).toInt64) σ) ∧ (¬ z1 = 192 → ((z5 = 0 → w_M_runObject_293 P z3 0 σ) ∧ (¬ z5 = 0 → w_M_runObject_293 P z3 1 σ))))
def w_M_runObject_245 (P : MST → Prop) (z1 : Int32) (z3 : Int32) (z4 : Int32) (s0 : Int32) (σ : MST) : Prop := ((z1 = 192 → ((z4 < 0 → w_M_runObject_269 P z1 z3 z4 s0 σ) ∧ (¬ z4 < 0 → ((s0 = 0 → w_M_raiseNew σ (fun σ34 => P σ34)) ∧ (¬ s0 = 0 → w_M_runObject_269 P z1 z3 z4 s0 σ))))) ∧ (¬ z1 = 192 → w_M_runObject_269 P z1 z3 z4 s0 σ))
def w_M_runObject_244 (P : MST → Prop) (z1 : Int32) (z3 : Int32) (z4 : Int32) (σ : MST) : Prop := w_M_runObject_245 P z1 z3 z4 0 σ
def w_M_runObject_229 (P : MST → Prop) (z1 : Int32) (z2 : Int32) (z3 : Int32) (z4 : Int32) (s0 : Int32) (σ : MST) : Prop := vp_in s0 150 ∧ (∀ a36 : Int32, a36 = (σ.2.1 59 (s0 : Int32).toNatClampNeg) → w_M_goesInto a36 ((32 : Int32) + z2) σ (fun r38 σ37 => ((r38 = 0 → w_M_runObject_244 P z1 z3 z4 σ37) ∧ (¬ r38 = 0 → w_M_runObject_245 P z1 z3 z4 1 σ37))))
def w_M_runObject (x1 : Int32) (x2 : Int32) (x3 : Int32) (σ : MST) (P : MST → Prop) : Prop := ((x1 = 187 → w_M_thing ((32 : Int32) + x2) (0 : Int32) σ (fun r53 σ52 => ((0 ≤ r53 → w_M_lay ((r53 : Int32).toInt64) σ52 (fun σ55 => w_M_runObject_296 P x3 σ55)) ∧ (¬ 0 ≤ r53 → P σ52)))) ∧ (¬ x1 = 187 → ((x1 = 183 → w_M_take σ (fun r51 σ50 => w_M_runObject_296 P x3 σ50)) ∧ (¬ x1 = 183 → ((x1 = 188 → w_M_runObject_64 P x1 x2 x3 σ) ∧ (¬ x1 = 188 → ((x1 = 189 → w_M_runObject_64 P x1 x2 x3 σ) ∧ (¬ x1 = 189 → ((x1 = 191 → w_M_runObject_155 P x1 x3 σ) ∧ (¬ x1 = 191 → ((x1 = 190 → w_M_runObject_155 P x1 x3 σ) ∧ (¬ x1 = 190 → w_M_take σ (fun r47 σ46 => ((((r47 : Int64).toInt32) < 0 → w_M_runObject_244 P x1 x3 ((r47 : Int64).toInt32) σ46) ∧ (¬ ((r47 : Int64).toInt32) < 0 → ((0 ≤ ((r47 : Int64).toInt32) → w_M_runObject_229 P x1 x2 x3 ((r47 : Int64).toInt32) ((r47 : Int64).toInt32) σ46) ∧ (¬ 0 ≤ ((r47 : Int64).toInt32) → w_M_runObject_229 P x1 x2 x3 ((r47 : Int64).toInt32) 0 σ46)))))))))))))))))
set_option maxHeartbeats 4000000 in
set_option maxRecDepth 100000 in
theorem K_M_runObject (l : Launch) (dC : Nat → ClassId) (dI : Nat → Nat → Nat) (mo : Nat) (rf : Nat → Nat) (ca : Nat → ClassId) (sz : Nat) (σ : MST) (x1 : Int32) (x2 : Int32) (x3 : Int32) {P : MST → Prop} (hw : w_M_runObject x1 x2 x3 σ P) : Met l z_M_runObject (mW z_M_runObject prog_14_method_100_code 7 none) ({ frames := 3, cells := 0, slots := 0, locals := 69 } : Room) (va_Pc [.ref mo, .int x1, .int x2, .int x3] (MPre (dC, dI) mo rf ca σ sz)) (va_Qv P (MB (dC, dI) mo rf ca sz) (mA mo rf sz)) 0 0 (mA mo rf sz) := by
  refine M_ofv (by decide) rfl (Nat.le_of_ble_eq_true rfl) ?_
  intro p e s m below meth cx Q A ls C hA hend h hl
  have C0 := C
  obtain ⟨⟨hx, hb, hml, hown, hts⟩, hsub⟩ := C0
  have K_296 : ∀ (u9 : Unit), ∀ (z3 : Int32) (σ : MST) (H : Heap) (locs : List Loc) (ls : Array Slot), w_M_runObject_296 P z3 σ → MH (dC, dI) A mo rf ca σ s H locs → lv_has ls 7 [(0, .ref mo), (3, .int z3)] → W p l e ({ frames := 3, cells := 0, slots := 0, locals := 69 } : Room) s m ([.ref mo, .int x1, .int x2, .int x3] : List Value).toArray below meth cx H locs 0 0 Q (F0 m 296 ls []) := by
    intro u9 z3 σ H locs ls hw h hl
    unfold w_M_runObject_296 at hw
    refine lv_aload_n hx hb e_M_runObject_296 rfl (lv_at hl 0 rfl) ?_
    refine lv_iload_n hx hb e_M_runObject_297 rfl (lv_at hl 1 rfl) ?_
    refine M_callv (As := [.int z3]) (rest := []) C h hA (K_M_goTo l dC dI mo rf ca H.size σ z3 hw) (cwV 1 hts (gV hsub v_345 v_346 v_347 v_7 v_348) rfl rfl rfl (by decide +kernel) ⟨(Nat.le_of_ble_eq_true rfl), (Nat.le_of_ble_eq_true rfl)⟩) rfl hl.1 (Nat.le_of_ble_eq_true rfl) e_M_runObject_298 ⟨(Nat.le_of_ble_eq_true rfl), (Nat.le_of_ble_eq_true rfl)⟩ (fun σ1 H locs hw h => ?_)
    refine W.eq (g2 := F0 m 301 ls []) rfl ?_
    exact hend σ1 _ _ _ _ hw h e_M_runObject_301
  have K_86 : ∀ (u9 : Unit), ∀ (σ : MST) (H : Heap) (locs : List Loc) (ls : Array Slot), w_M_runObject_86 P σ → MH (dC, dI) A mo rf ca σ s H locs → lv_has ls 7 [(0, .ref mo)] → W p l e ({ frames := 3, cells := 0, slots := 0, locals := 69 } : Room) s m ([.ref mo, .int x1, .int x2, .int x3] : List Value).toArray below meth cx H locs 0 0 Q (F0 m 86 ls []) := by
    intro u9  σ H locs ls hw h hl
    unfold w_M_runObject_86 at hw
    refine lv_aload_n hx hb e_M_runObject_86 rfl (lv_at hl 0 rfl) ?_
    refine M_callv (As := []) (rest := []) C h hA (K_M_raiseNew l dC dI mo rf ca H.size σ hw) (cwV 0 hts (gV hsub v_341 v_342 v_343 v_7 v_344) rfl rfl rfl (by decide +kernel) ⟨(Nat.le_of_ble_eq_true rfl), (Nat.le_of_ble_eq_true rfl)⟩) rfl hl.1 (Nat.le_of_ble_eq_true rfl) e_M_runObject_87 ⟨(Nat.le_of_ble_eq_true rfl), (Nat.le_of_ble_eq_true rfl)⟩ (fun σ3 H locs hw h => ?_)
    refine W.eq (g2 := F0 m 90 ls []) rfl ?_
    exact hend σ3 _ _ _ _ hw h e_M_runObject_90
  have K_117 : ∀ (u9 : Unit), ∀ (z3 : Int32) (z4 : Int64) (s0 : Int32) (σ : MST) (H : Heap) (locs : List Loc) (ls : Array Slot), w_M_runObject_117 P z3 z4 s0 σ → MH (dC, dI) A mo rf ca σ s H locs → lv_has ls 7 [(0, .ref mo), (3, .int z3), (4, .long z4)] → W p l e ({ frames := 3, cells := 0, slots := 0, locals := 69 } : Room) s m ([.ref mo, .int x1, .int x2, .int x3] : List Value).toArray below meth cx H locs 0 0 Q (F0 m 117 ls [.int s0, .ref mo]) := by
    intro u9 z3 z4 s0 σ H locs ls hw h hl
    unfold w_M_runObject_117 at hw
    refine lv_lload hx hb e_M_runObject_117 (lv_at hl 2 rfl) ?_
    refine lv_l2i (v := (z4 : Int64).toInt32) hx hb e_M_runObject_119 rfl ?_
    refine M_calli (As := [.int s0, .int ((z4 : Int64).toInt32)]) (rest := []) C h hA (K_M_thing l dC dI mo rf ca H.size σ s0 ((z4 : Int64).toInt32) hw) (cwV 2 hts (gV hsub v_332 v_333 v_334 v_7 v_335) rfl rfl rfl (by decide +kernel) ⟨(Nat.le_of_ble_eq_true rfl), (Nat.le_of_ble_eq_true rfl)⟩) rfl hl.1 (Nat.le_of_ble_eq_true rfl) e_M_runObject_120 ⟨(Nat.le_of_ble_eq_true rfl), (Nat.le_of_ble_eq_true rfl)⟩ (fun r6 σ5 H locs hw h => ?_)
    refine W.eq (g2 := F0 m 123 ls [.int r6]) rfl ?_
    refine lv_istore (lv' := [(6, .int r6), (0, .ref mo), (3, .int z3), (4, .long z4)]) hx hb e_M_runObject_123 hl (by decide) rfl (fun ls hl => ?_)
    refine lv_iload hx hb e_M_runObject_125 (lv_at hl 0 rfl) ?_
    refine lv_if_ge (tgt := 131) hx hb e_M_runObject_127 (by decide) (fun c7 => ?_) (fun c7 => ?_)
    · skip
      replace hw := hw.1 c7
      refine lv_aload_n hx hb e_M_runObject_131 rfl (lv_at hl 1 rfl) ?_
      refine lv_iload hx hb e_M_runObject_132 (lv_at hl 0 rfl) ?_
      refine lv_i2l (v := (r6 : Int32).toInt64) hx hb e_M_runObject_134 rfl ?_
      refine M_callv (As := [.long ((r6 : Int32).toInt64)]) (rest := []) C h hA (K_M_lay l dC dI mo rf ca H.size σ5 ((r6 : Int32).toInt64) hw) (cwV 1 hts (gV hsub v_326 v_327 v_328 v_7 v_329) rfl rfl rfl (by decide +kernel) ⟨(Nat.le_of_ble_eq_true rfl), (Nat.le_of_ble_eq_true rfl)⟩) rfl hl.1 (Nat.le_of_ble_eq_true rfl) e_M_runObject_135 ⟨(Nat.le_of_ble_eq_true rfl), (Nat.le_of_ble_eq_true rfl)⟩ (fun σ8 H locs hw h => ?_)
      refine W.eq (g2 := F0 m 138 ls []) rfl ?_
      refine lv_goto (tgt := 296) hx hb e_M_runObject_138 (by decide) ?_
      exact K_296 () z3 σ8 _ _ _ hw h (lv_sub hl [1, 2] rfl)
    · skip
      replace hw := hw.2 c7
      exact hend σ5 _ _ _ _ hw h e_M_runObject_130
  have K_64 : ∀ (u9 : Unit), ∀ (z1 : Int32) (z2 : Int32) (z3 : Int32) (σ : MST) (H : Heap) (locs : List Loc) (ls : Array Slot), w_M_runObject_64 P z1 z2 z3 σ → MH (dC, dI) A mo rf ca σ s H locs → lv_has ls 7 [(0, .ref mo), (1, .int z1), (2, .int z2), (3, .int z3)] → W p l e ({ frames := 3, cells := 0, slots := 0, locals := 69 } : Room) s m ([.ref mo, .int x1, .int x2, .int x3] : List Value).toArray below meth cx H locs 0 0 Q (F0 m 64 ls []) := by
    intro u9 z1 z2 z3 σ H locs ls hw h hl
    unfold w_M_runObject_64 at hw
    refine lv_aload_n hx hb e_M_runObject_64 rfl (lv_at hl 0 rfl) ?_
    refine M_calll (As := []) (rest := []) C h hA (K_M_take l dC dI mo rf ca H.size σ hw) (cwV 0 hts (gV hsub v_349 v_350 v_351 v_7 v_352) rfl rfl rfl (by decide +kernel) ⟨(Nat.le_of_ble_eq_true rfl), (Nat.le_of_ble_eq_true rfl)⟩) rfl hl.1 (Nat.le_of_ble_eq_true rfl) e_M_runObject_65 ⟨(Nat.le_of_ble_eq_true rfl), (Nat.le_of_ble_eq_true rfl)⟩ (fun r11 σ10 H locs hw h => ?_)
    refine W.eq (g2 := F0 m 68 ls [.long r11]) rfl ?_
    refine lv_lstore (lv' := [(4, .long r11), (0, .ref mo), (1, .int z1), (2, .int z2), (3, .int z3)]) hx hb e_M_runObject_68 hl (by decide) rfl (fun ls hl => ?_)
    refine lv_lload hx hb e_M_runObject_70 (lv_at hl 0 rfl) ?_
    refine lv_lconst (v := 0) hx hb e_M_runObject_72 (by decide) ?_
    refine W.lcmp hx hb e_M_runObject_73 ?_
    refine lv_if_lt (tgt := 86) hx hb e_M_runObject_74 (by decide) (fun c12 => ?_) (fun c12 => ?_)
    · skip
      replace hw := hw.1 c12
      exact K_86 () σ10 _ _ _ hw h (lv_sub hl [1] rfl)
    · skip
      replace hw := hw.2 c12
      refine lv_lload hx hb e_M_runObject_77 (lv_at hl 0 rfl) ?_
      refine lv_ldc2 (v := 24) hx hb hown (hts _ (hsub _ v_373)) e_M_runObject_79 ?_
      refine W.lcmp hx hb e_M_runObject_82 ?_
      refine lv_if_le (tgt := 91) hx hb e_M_runObject_83 (by decide) (fun c13 => ?_) (fun c13 => ?_)
      · skip
        replace hw := hw.1 c13
        refine lv_aload_n hx hb e_M_runObject_91 rfl (lv_at hl 1 rfl) ?_
        refine lv_iload_n hx hb e_M_runObject_92 rfl (lv_at hl 2 rfl) ?_
        refine lv_sipush (v := 189) hx hb e_M_runObject_93 (by decide) ?_
        refine lv_icmp_ne (tgt := 106) hx hb e_M_runObject_96 (by decide) (fun c14 => ?_) (fun c14 => ?_)
        · skip
          replace hw := hw.2 c14
          refine lv_iload_n hx hb e_M_runObject_106 rfl (lv_at hl 3 rfl) ?_
          refine lv_bipush (v := 10) hx hb e_M_runObject_107 (by decide) ?_
          refine lv_icmp_ne (tgt := 116) hx hb e_M_runObject_109 (by decide) (fun c15 => ?_) (fun c15 => ?_)
          · skip
            replace hw := hw.2 c15
            refine lv_iconst (v := 4) hx hb e_M_runObject_116 (by decide) ?_
            exact K_117 () z3 r11 4 σ10 _ _ _ hw h (lv_sub hl [1, 4, 0] rfl)
          · skip
            replace hw := hw.1 c15
            refine lv_iconst (v := 3) hx hb e_M_runObject_112 (by decide) ?_
            refine lv_goto (tgt := 117) hx hb e_M_runObject_113 (by decide) ?_
            exact K_117 () z3 r11 3 σ10 _ _ _ hw h (lv_sub hl [1, 4, 0] rfl)
        · skip
          replace hw := hw.1 c14
          refine lv_bipush (v := 64) hx hb e_M_runObject_99 (by decide) ?_
          refine lv_iload_n hx hb e_M_runObject_101 rfl (lv_at hl 3 rfl) ?_
          refine lv_iadd hx hb e_M_runObject_102 ?_
          refine lv_goto (tgt := 117) hx hb e_M_runObject_103 (by decide) ?_
          exact K_117 () z3 r11 ((64 : Int32) + z2) σ10 _ _ _ hw h (lv_sub hl [1, 4, 0] rfl)
      · skip
        replace hw := hw.2 c13
        exact K_86 () σ10 _ _ _ hw h (lv_sub hl [1] rfl)
  have K_155 : ∀ (u9 : Unit), ∀ (z1 : Int32) (z3 : Int32) (σ : MST) (H : Heap) (locs : List Loc) (ls : Array Slot), w_M_runObject_155 P z1 z3 σ → MH (dC, dI) A mo rf ca σ s H locs → lv_has ls 7 [(0, .ref mo), (1, .int z1), (3, .int z3)] → W p l e ({ frames := 3, cells := 0, slots := 0, locals := 69 } : Room) s m ([.ref mo, .int x1, .int x2, .int x3] : List Value).toArray below meth cx H locs 0 0 Q (F0 m 155 ls []) := by
    intro u9 z1 z3 σ H locs ls hw h hl
    unfold w_M_runObject_155 at hw
    refine lv_aload_n hx hb e_M_runObject_155 rfl (lv_at hl 0 rfl) ?_
    refine M_calll (As := []) (rest := []) C h hA (K_M_take l dC dI mo rf ca H.size σ hw) (cwV 0 hts (gV hsub v_349 v_350 v_351 v_7 v_352) rfl rfl rfl (by decide +kernel) ⟨(Nat.le_of_ble_eq_true rfl), (Nat.le_of_ble_eq_true rfl)⟩) rfl hl.1 (Nat.le_of_ble_eq_true rfl) e_M_runObject_156 ⟨(Nat.le_of_ble_eq_true rfl), (Nat.le_of_ble_eq_true rfl)⟩ (fun r17 σ16 H locs hw h => ?_)
    refine W.eq (g2 := F0 m 159 ls [.long r17]) rfl ?_
    refine lv_l2i (v := (r17 : Int64).toInt32) hx hb e_M_runObject_159 rfl ?_
    refine lv_istore (lv' := [(4, .int ((r17 : Int64).toInt32)), (0, .ref mo), (1, .int z1), (3, .int z3)]) hx hb e_M_runObject_160 hl (by decide) rfl (fun ls hl => ?_)
    refine lv_iload hx hb e_M_runObject_162 (lv_at hl 0 rfl) ?_
    refine lv_if_ge (tgt := 172) hx hb e_M_runObject_164 (by decide) (fun c18 => ?_) (fun c18 => ?_)
    · skip
      replace hw := hw.1 c18
      refine lv_iload_n hx hb e_M_runObject_172 rfl (lv_at hl 2 rfl) ?_
      refine lv_sipush (v := 191) hx hb e_M_runObject_173 (by decide) ?_
      refine lv_icmp_ne (tgt := 186) hx hb e_M_runObject_176 (by decide) (fun c19 => ?_) (fun c19 => ?_)
      · skip
        replace hw := hw.2 c19
        refine lv_aload_n hx hb e_M_runObject_186 rfl (lv_at hl 1 rfl) ?_
        refine lv_aload_n hx hb e_M_runObject_187 rfl (lv_at hl 1 rfl) ?_
        refine M_get C h 60 (v := .ref (rf 60)) rfl (by decide) v_321 e_M_runObject_188 ?_
        refine lv_iload hx hb e_M_runObject_191 (lv_at hl 0 rfl) ?_
        refine M_ald C h 60 (by decide) rfl hw.1 e_M_runObject_193 ?_
        replace hw := hw.2
        refine lv_topi (fun a20 e_a20 => ?_)
        replace hw := hw a20 e_a20
        refine lv_i2l (v := (a20 : Int32).toInt64) hx hb e_M_runObject_194 rfl ?_
        refine M_callv (As := [.long ((a20 : Int32).toInt64)]) (rest := []) C h hA (K_M_lay l dC dI mo rf ca H.size σ16 ((a20 : Int32).toInt64) hw) (cwV 1 hts (gV hsub v_326 v_327 v_328 v_7 v_329) rfl rfl rfl (by decide +kernel) ⟨(Nat.le_of_ble_eq_true rfl), (Nat.le_of_ble_eq_true rfl)⟩) rfl hl.1 (Nat.le_of_ble_eq_true rfl) e_M_runObject_195 ⟨(Nat.le_of_ble_eq_true rfl), (Nat.le_of_ble_eq_true rfl)⟩ (fun σ21 H locs hw h => ?_)
        refine W.eq (g2 := F0 m 198 ls []) rfl ?_
        refine lv_goto (tgt := 296) hx hb e_M_runObject_198 (by decide) ?_
        exact K_296 () z3 σ21 _ _ _ hw h (lv_sub hl [1, 3] rfl)
      · skip
        replace hw := hw.1 c19
        refine lv_aload_n hx hb e_M_runObject_179 rfl (lv_at hl 1 rfl) ?_
        refine lv_iload hx hb e_M_runObject_180 (lv_at hl 0 rfl) ?_
        refine M_callv (As := [.int ((r17 : Int64).toInt32)]) (rest := []) C h hA (K_M_raise l dC dI mo rf ca H.size σ16 ((r17 : Int64).toInt32) hw) (cwV 1 hts (gV hsub v_336 v_337 v_338 v_7 v_339) rfl rfl rfl (by decide +kernel) ⟨(Nat.le_of_ble_eq_true rfl), (Nat.le_of_ble_eq_true rfl)⟩) rfl hl.1 (Nat.le_of_ble_eq_true rfl) e_M_runObject_182 ⟨(Nat.le_of_ble_eq_true rfl), (Nat.le_of_ble_eq_true rfl)⟩ (fun σ23 H locs hw h => ?_)
        refine W.eq (g2 := F0 m 185 ls []) rfl ?_
        exact hend σ23 _ _ _ _ hw h e_M_runObject_185
    · skip
      replace hw := hw.2 c18
      refine lv_aload_n hx hb e_M_runObject_167 rfl (lv_at hl 1 rfl) ?_
      refine M_callv (As := []) (rest := []) C h hA (K_M_raiseNew l dC dI mo rf ca H.size σ16 hw) (cwV 0 hts (gV hsub v_341 v_342 v_343 v_7 v_344) rfl rfl rfl (by decide +kernel) ⟨(Nat.le_of_ble_eq_true rfl), (Nat.le_of_ble_eq_true rfl)⟩) rfl hl.1 (Nat.le_of_ble_eq_true rfl) e_M_runObject_168 ⟨(Nat.le_of_ble_eq_true rfl), (Nat.le_of_ble_eq_true rfl)⟩ (fun σ25 H locs hw h => ?_)
      refine W.eq (g2 := F0 m 171 ls []) rfl ?_
      exact hend σ25 _ _ _ _ hw h e_M_runObject_171
  have K_293 : ∀ (u9 : Unit), ∀ (z3 : Int32) (s0 : Int64) (σ : MST) (H : Heap) (locs : List Loc) (ls : Array Slot), w_M_runObject_293 P z3 s0 σ → MH (dC, dI) A mo rf ca σ s H locs → lv_has ls 7 [(0, .ref mo), (3, .int z3)] → W p l e ({ frames := 3, cells := 0, slots := 0, locals := 69 } : Room) s m ([.ref mo, .int x1, .int x2, .int x3] : List Value).toArray below meth cx H locs 0 0 Q (F0 m 293 ls [.long s0, .ref mo]) := by
    intro u9 z3 s0 σ H locs ls hw h hl
    unfold w_M_runObject_293 at hw
    refine M_callv (As := [.long s0]) (rest := []) C h hA (K_M_lay l dC dI mo rf ca H.size σ s0 hw) (cwV 1 hts (gV hsub v_326 v_327 v_328 v_7 v_329) rfl rfl rfl (by decide +kernel) ⟨(Nat.le_of_ble_eq_true rfl), (Nat.le_of_ble_eq_true rfl)⟩) rfl hl.1 (Nat.le_of_ble_eq_true rfl) e_M_runObject_293 ⟨(Nat.le_of_ble_eq_true rfl), (Nat.le_of_ble_eq_true rfl)⟩ (fun σ27 H locs hw h => ?_)
    refine W.eq (g2 := F0 m 296 ls []) rfl ?_
    exact K_296 () z3 σ27 _ _ _ hw h (lv_sub hl [0, 1] rfl)
  have K_269 : ∀ (u9 : Unit), ∀ (z1 : Int32) (z3 : Int32) (z4 : Int32) (z5 : Int32) (σ : MST) (H : Heap) (locs : List Loc) (ls : Array Slot), w_M_runObject_269 P z1 z3 z4 z5 σ → MH (dC, dI) A mo rf ca σ s H locs → lv_has ls 7 [(0, .ref mo), (1, .int z1), (3, .int z3), (4, .int z4), (5, .int z5)] → W p l e ({ frames := 3, cells := 0, slots := 0, locals := 69 } : Room) s m ([.ref mo, .int x1, .int x2, .int x3] : List Value).toArray below meth cx H locs 0 0 Q (F0 m 269 ls []) := by
    intro u9 z1 z3 z4 z5 σ H locs ls hw h hl
    unfold w_M_runObject_269 at hw
    refine lv_aload_n hx hb e_M_runObject_269 rfl (lv_at hl 0 rfl) ?_
    refine lv_iload_n hx hb e_M_runObject_270 rfl (lv_at hl 1 rfl) ?_
    refine lv_sipush (v := 192) hx hb e_M_runObject_271 (by decide) ?_
    refine lv_icmp_ne (tgt := 283) hx hb e_M_runObject_274 (by decide) (fun c29 => ?_) (fun c29 => ?_)
    · skip
      replace hw := hw.2 c29
      refine lv_iload hx hb e_M_runObject_283 (lv_at hl 4 rfl) ?_
      refine lv_if_eq (tgt := 292) hx hb e_M_runObject_285 (by decide) (fun c30 => ?_) (fun c30 => ?_)
      · skip
        replace hw := hw.1 c30
        refine lv_lconst (v := 0) hx hb e_M_runObject_292 (by decide) ?_
        exact K_293 () z3 0 σ _ _ _ hw h (lv_sub hl [0, 2] rfl)
      · skip
        replace hw := hw.2 c30
        refine lv_lconst (v := 1) hx hb e_M_runObject_288 (by decide) ?_
        refine lv_goto (tgt := 293) hx hb e_M_runObject_289 (by decide) ?_
        exact K_293 () z3 1 σ _ _ _ hw h (lv_sub hl [0, 2] rfl)
    · skip
      replace hw := hw.1 c29
      refine lv_iload hx hb e_M_runObject_277 (lv_at hl 3 rfl) ?_
      refine lv_i2l (v := (z4 : Int32).toInt64) hx hb e_M_runObject_279 rfl ?_
      refine lv_goto (tgt := 293) hx hb e_M_runObject_280 (by decide) ?_
      exact K_293 () z3 ((z4 : Int32).toInt64) σ _ _ _ hw h (lv_sub hl [0, 2] rfl)
  have K_245 : ∀ (u9 : Unit), ∀ (z1 : Int32) (z3 : Int32) (z4 : Int32) (s0 : Int32) (σ : MST) (H : Heap) (locs : List Loc) (ls : Array Slot), w_M_runObject_245 P z1 z3 z4 s0 σ → MH (dC, dI) A mo rf ca σ s H locs → lv_has ls 7 [(0, .ref mo), (1, .int z1), (3, .int z3), (4, .int z4)] → W p l e ({ frames := 3, cells := 0, slots := 0, locals := 69 } : Room) s m ([.ref mo, .int x1, .int x2, .int x3] : List Value).toArray below meth cx H locs 0 0 Q (F0 m 245 ls [.int s0]) := by
    intro u9 z1 z3 z4 s0 σ H locs ls hw h hl
    unfold w_M_runObject_245 at hw
    refine lv_istore (lv' := [(5, .int s0), (0, .ref mo), (1, .int z1), (3, .int z3), (4, .int z4)]) hx hb e_M_runObject_245 hl (by decide) rfl (fun ls hl => ?_)
    refine lv_iload_n hx hb e_M_runObject_247 rfl (lv_at hl 2 rfl) ?_
    refine lv_sipush (v := 192) hx hb e_M_runObject_248 (by decide) ?_
    refine lv_icmp_ne (tgt := 269) hx hb e_M_runObject_251 (by decide) (fun c31 => ?_) (fun c31 => ?_)
    · skip
      replace hw := hw.2 c31
      exact K_269 () z1 z3 z4 s0 σ _ _ _ hw h (lv_sub hl [1, 2, 3, 4, 0] rfl)
    · skip
      replace hw := hw.1 c31
      refine lv_iload hx hb e_M_runObject_254 (lv_at hl 4 rfl) ?_
      refine lv_if_lt (tgt := 269) hx hb e_M_runObject_256 (by decide) (fun c32 => ?_) (fun c32 => ?_)
      · skip
        replace hw := hw.1 c32
        exact K_269 () z1 z3 z4 s0 σ _ _ _ hw h (lv_sub hl [1, 2, 3, 4, 0] rfl)
      · skip
        replace hw := hw.2 c32
        refine lv_iload hx hb e_M_runObject_259 (lv_at hl 0 rfl) ?_
        refine lv_if_ne (tgt := 269) hx hb e_M_runObject_261 (by decide) (fun c33 => ?_) (fun c33 => ?_)
        · skip
          replace hw := hw.2 c33
          exact K_269 () z1 z3 z4 s0 σ _ _ _ hw h (lv_sub hl [1, 2, 3, 4, 0] rfl)
        · skip
          replace hw := hw.1 c33
          refine lv_aload_n hx hb e_M_runObject_264 rfl (lv_at hl 1 rfl) ?_
          refine M_callv (As := []) (rest := []) C h hA (K_M_raiseNew l dC dI mo rf ca H.size σ hw) (cwV 0 hts (gV hsub v_341 v_342 v_343 v_7 v_344) rfl rfl rfl (by decide +kernel) ⟨(Nat.le_of_ble_eq_true rfl), (Nat.le_of_ble_eq_true rfl)⟩) rfl hl.1 (Nat.le_of_ble_eq_true rfl) e_M_runObject_265 ⟨(Nat.le_of_ble_eq_true rfl), (Nat.le_of_ble_eq_true rfl)⟩ (fun σ34 H locs hw h => ?_)
          refine W.eq (g2 := F0 m 268 ls []) rfl ?_
          exact hend σ34 _ _ _ _ hw h e_M_runObject_268
  have K_244 : ∀ (u9 : Unit), ∀ (z1 : Int32) (z3 : Int32) (z4 : Int32) (σ : MST) (H : Heap) (locs : List Loc) (ls : Array Slot), w_M_runObject_244 P z1 z3 z4 σ → MH (dC, dI) A mo rf ca σ s H locs → lv_has ls 7 [(0, .ref mo), (1, .int z1), (3, .int z3), (4, .int z4)] → W p l e ({ frames := 3, cells := 0, slots := 0, locals := 69 } : Room) s m ([.ref mo, .int x1, .int x2, .int x3] : List Value).toArray below meth cx H locs 0 0 Q (F0 m 244 ls []) := by
    intro u9 z1 z3 z4 σ H locs ls hw h hl
    unfold w_M_runObject_244 at hw
    refine lv_iconst (v := 0) hx hb e_M_runObject_244 (by decide) ?_
    exact K_245 () z1 z3 z4 0 σ _ _ _ hw h (lv_sub hl [0, 1, 2, 3] rfl)
  have K_229 : ∀ (u9 : Unit), ∀ (z1 : Int32) (z2 : Int32) (z3 : Int32) (z4 : Int32) (s0 : Int32) (σ : MST) (H : Heap) (locs : List Loc) (ls : Array Slot), w_M_runObject_229 P z1 z2 z3 z4 s0 σ → MH (dC, dI) A mo rf ca σ s H locs → lv_has ls 7 [(0, .ref mo), (1, .int z1), (2, .int z2), (3, .int z3), (4, .int z4)] → W p l e ({ frames := 3, cells := 0, slots := 0, locals := 69 } : Room) s m ([.ref mo, .int x1, .int x2, .int x3] : List Value).toArray below meth cx H locs 0 0 Q (F0 m 229 ls [.int s0, .ref (rf 59), .ref mo]) := by
    intro u9 z1 z2 z3 z4 s0 σ H locs ls hw h hl
    unfold w_M_runObject_229 at hw
    refine M_ald C h 59 (by decide) rfl hw.1 e_M_runObject_229 ?_
    replace hw := hw.2
    refine lv_topi (fun a36 e_a36 => ?_)
    replace hw := hw a36 e_a36
    refine lv_bipush (v := 32) hx hb e_M_runObject_230 (by decide) ?_
    refine lv_iload_n hx hb e_M_runObject_232 rfl (lv_at hl 2 rfl) ?_
    refine lv_iadd hx hb e_M_runObject_233 ?_
    refine M_calli (As := [.int a36, .int ((32 : Int32) + z2)]) (rest := []) C h hA (K_M_goesInto l dC dI mo rf ca H.size σ a36 ((32 : Int32) + z2) hw) (cwV 2 hts (gV hsub v_108 v_109 v_110 v_7 v_111) rfl rfl rfl (by decide +kernel) ⟨(Nat.le_of_ble_eq_true rfl), (Nat.le_of_ble_eq_true rfl)⟩) rfl hl.1 (Nat.le_of_ble_eq_true rfl) e_M_runObject_234 ⟨(Nat.le_of_ble_eq_true rfl), (Nat.le_of_ble_eq_true rfl)⟩ (fun r38 σ37 H locs hw h => ?_)
    refine W.eq (g2 := F0 m 237 ls [.int r38]) rfl ?_
    refine lv_if_eq (tgt := 244) hx hb e_M_runObject_237 (by decide) (fun c39 => ?_) (fun c39 => ?_)
    · skip
      replace hw := hw.1 c39
      exact K_244 () z1 z3 z4 σ37 _ _ _ hw h (lv_sub hl [0, 1, 3, 4] rfl)
    · skip
      replace hw := hw.2 c39
      refine lv_iconst (v := 1) hx hb e_M_runObject_240 (by decide) ?_
      refine lv_goto (tgt := 245) hx hb e_M_runObject_241 (by decide) ?_
      exact K_245 () z1 z3 z4 1 σ37 _ _ _ hw h (lv_sub hl [0, 1, 3, 4] rfl)
  have hl : lv_has ls 7 [(0, .ref mo), (1, .int x1), (2, .int x2), (3, .int x3)] := hl
  unfold w_M_runObject at hw
  refine lv_iload_n hx hb e_M_runObject_0 rfl (lv_at hl 1 rfl) ?_
  refine lv_sipush (v := 187) hx hb e_M_runObject_1 (by decide) ?_
  refine lv_icmp_ne (tgt := 34) hx hb e_M_runObject_4 (by decide) (fun c40 => ?_) (fun c40 => ?_)
  · skip
    replace hw := hw.2 c40
    refine lv_iload_n hx hb e_M_runObject_34 rfl (lv_at hl 1 rfl) ?_
    refine lv_sipush (v := 183) hx hb e_M_runObject_35 (by decide) ?_
    refine lv_icmp_ne (tgt := 50) hx hb e_M_runObject_38 (by decide) (fun c41 => ?_) (fun c41 => ?_)
    · skip
      replace hw := hw.2 c41
      refine lv_iload_n hx hb e_M_runObject_50 rfl (lv_at hl 1 rfl) ?_
      refine lv_sipush (v := 188) hx hb e_M_runObject_51 (by decide) ?_
      refine lv_icmp_eq (tgt := 64) hx hb e_M_runObject_54 (by decide) (fun c42 => ?_) (fun c42 => ?_)
      · skip
        replace hw := hw.1 c42
        exact K_64 () x1 x2 x3 σ _ _ _ hw h (lv_sub hl [0, 1, 2, 3] rfl)
      · skip
        replace hw := hw.2 c42
        refine lv_iload_n hx hb e_M_runObject_57 rfl (lv_at hl 1 rfl) ?_
        refine lv_sipush (v := 189) hx hb e_M_runObject_58 (by decide) ?_
        refine lv_icmp_ne (tgt := 141) hx hb e_M_runObject_61 (by decide) (fun c43 => ?_) (fun c43 => ?_)
        · skip
          replace hw := hw.2 c43
          refine lv_iload_n hx hb e_M_runObject_141 rfl (lv_at hl 1 rfl) ?_
          refine lv_sipush (v := 191) hx hb e_M_runObject_142 (by decide) ?_
          refine lv_icmp_eq (tgt := 155) hx hb e_M_runObject_145 (by decide) (fun c44 => ?_) (fun c44 => ?_)
          · skip
            replace hw := hw.1 c44
            exact K_155 () x1 x3 σ _ _ _ hw h (lv_sub hl [0, 1, 3] rfl)
          · skip
            replace hw := hw.2 c44
            refine lv_iload_n hx hb e_M_runObject_148 rfl (lv_at hl 1 rfl) ?_
            refine lv_sipush (v := 190) hx hb e_M_runObject_149 (by decide) ?_
            refine lv_icmp_ne (tgt := 201) hx hb e_M_runObject_152 (by decide) (fun c45 => ?_) (fun c45 => ?_)
            · skip
              replace hw := hw.2 c45
              refine lv_aload_n hx hb e_M_runObject_201 rfl (lv_at hl 0 rfl) ?_
              refine M_calll (As := []) (rest := []) C h hA (K_M_take l dC dI mo rf ca s.heap.size σ hw) (cwV 0 hts (gV hsub v_349 v_350 v_351 v_7 v_352) rfl rfl rfl (by decide +kernel) ⟨(Nat.le_of_ble_eq_true rfl), (Nat.le_of_ble_eq_true rfl)⟩) rfl hl.1 (Nat.le_of_ble_eq_true rfl) e_M_runObject_202 ⟨(Nat.le_of_ble_eq_true rfl), (Nat.le_of_ble_eq_true rfl)⟩ (fun r47 σ46 H locs hw h => ?_)
              refine W.eq (g2 := F0 m 205 ls [.long r47]) rfl ?_
              refine lv_l2i (v := (r47 : Int64).toInt32) hx hb e_M_runObject_205 rfl ?_
              refine lv_istore (lv' := [(4, .int ((r47 : Int64).toInt32)), (0, .ref mo), (1, .int x1), (2, .int x2), (3, .int x3)]) hx hb e_M_runObject_206 hl (by decide) rfl (fun ls hl => ?_)
              refine lv_iload hx hb e_M_runObject_208 (lv_at hl 0 rfl) ?_
              refine lv_if_lt (tgt := 244) hx hb e_M_runObject_210 (by decide) (fun c48 => ?_) (fun c48 => ?_)
              · skip
                replace hw := hw.1 c48
                exact K_244 () x1 x3 ((r47 : Int64).toInt32) σ46 _ _ _ hw h (lv_sub hl [1, 2, 4, 0] rfl)
              · skip
                replace hw := hw.2 c48
                refine lv_aload_n hx hb e_M_runObject_213 rfl (lv_at hl 1 rfl) ?_
                refine lv_aload_n hx hb e_M_runObject_214 rfl (lv_at hl 1 rfl) ?_
                refine M_get C h 59 (v := .ref (rf 59)) rfl (by decide) v_320 e_M_runObject_215 ?_
                refine lv_iload hx hb e_M_runObject_218 (lv_at hl 0 rfl) ?_
                refine lv_if_ge (tgt := 227) hx hb e_M_runObject_220 (by decide) (fun c49 => ?_) (fun c49 => ?_)
                · skip
                  replace hw := hw.1 c49
                  refine lv_iload hx hb e_M_runObject_227 (lv_at hl 0 rfl) ?_
                  exact K_229 () x1 x2 x3 ((r47 : Int64).toInt32) ((r47 : Int64).toInt32) σ46 _ _ _ hw h (lv_sub hl [1, 2, 3, 4, 0] rfl)
                · skip
                  replace hw := hw.2 c49
                  refine lv_iconst (v := 0) hx hb e_M_runObject_223 (by decide) ?_
                  refine lv_goto (tgt := 229) hx hb e_M_runObject_224 (by decide) ?_
                  exact K_229 () x1 x2 x3 ((r47 : Int64).toInt32) 0 σ46 _ _ _ hw h (lv_sub hl [1, 2, 3, 4, 0] rfl)
            · skip
              replace hw := hw.1 c45
              exact K_155 () x1 x3 σ _ _ _ hw h (lv_sub hl [0, 1, 3] rfl)
        · skip
          replace hw := hw.1 c43
          exact K_64 () x1 x2 x3 σ _ _ _ hw h (lv_sub hl [0, 1, 2, 3] rfl)
    · skip
      replace hw := hw.1 c41
      refine lv_aload_n hx hb e_M_runObject_41 rfl (lv_at hl 0 rfl) ?_
      refine M_calll (As := []) (rest := []) C h hA (K_M_take l dC dI mo rf ca s.heap.size σ hw) (cwV 0 hts (gV hsub v_349 v_350 v_351 v_7 v_352) rfl rfl rfl (by decide +kernel) ⟨(Nat.le_of_ble_eq_true rfl), (Nat.le_of_ble_eq_true rfl)⟩) rfl hl.1 (Nat.le_of_ble_eq_true rfl) e_M_runObject_42 ⟨(Nat.le_of_ble_eq_true rfl), (Nat.le_of_ble_eq_true rfl)⟩ (fun r51 σ50 H locs hw h => ?_)
      refine W.eq (g2 := F0 m 45 ls [.long r51]) rfl ?_
      refine lv_lstore (lv' := [(4, .long r51), (0, .ref mo), (1, .int x1), (2, .int x2), (3, .int x3)]) hx hb e_M_runObject_45 hl (by decide) rfl (fun ls hl => ?_)
      refine lv_goto (tgt := 296) hx hb e_M_runObject_47 (by decide) ?_
      exact K_296 () x3 σ50 _ _ _ hw h (lv_sub hl [1, 4] rfl)
  · skip
    replace hw := hw.1 c40
    refine lv_aload_n hx hb e_M_runObject_7 rfl (lv_at hl 0 rfl) ?_
    refine lv_bipush (v := 32) hx hb e_M_runObject_8 (by decide) ?_
    refine lv_iload_n hx hb e_M_runObject_10 rfl (lv_at hl 2 rfl) ?_
    refine lv_iadd hx hb e_M_runObject_11 ?_
    refine lv_iconst (v := 0) hx hb e_M_runObject_12 (by decide) ?_
    refine M_calli (As := [.int ((32 : Int32) + x2), .int 0]) (rest := []) C h hA (K_M_thing l dC dI mo rf ca s.heap.size σ ((32 : Int32) + x2) (0 : Int32) hw) (cwV 2 hts (gV hsub v_332 v_333 v_334 v_7 v_335) rfl rfl rfl (by decide +kernel) ⟨(Nat.le_of_ble_eq_true rfl), (Nat.le_of_ble_eq_true rfl)⟩) rfl hl.1 (Nat.le_of_ble_eq_true rfl) e_M_runObject_13 ⟨(Nat.le_of_ble_eq_true rfl), (Nat.le_of_ble_eq_true rfl)⟩ (fun r53 σ52 H locs hw h => ?_)
    refine W.eq (g2 := F0 m 16 ls [.int r53]) rfl ?_
    refine lv_istore (lv' := [(4, .int r53), (0, .ref mo), (1, .int x1), (2, .int x2), (3, .int x3)]) hx hb e_M_runObject_16 hl (by decide) rfl (fun ls hl => ?_)
    refine lv_iload hx hb e_M_runObject_18 (lv_at hl 0 rfl) ?_
    refine lv_if_ge (tgt := 24) hx hb e_M_runObject_20 (by decide) (fun c54 => ?_) (fun c54 => ?_)
    · skip
      replace hw := hw.1 c54
      refine lv_aload_n hx hb e_M_runObject_24 rfl (lv_at hl 1 rfl) ?_
      refine lv_iload hx hb e_M_runObject_25 (lv_at hl 0 rfl) ?_
      refine lv_i2l (v := (r53 : Int32).toInt64) hx hb e_M_runObject_27 rfl ?_
      refine M_callv (As := [.long ((r53 : Int32).toInt64)]) (rest := []) C h hA (K_M_lay l dC dI mo rf ca H.size σ52 ((r53 : Int32).toInt64) hw) (cwV 1 hts (gV hsub v_326 v_327 v_328 v_7 v_329) rfl rfl rfl (by decide +kernel) ⟨(Nat.le_of_ble_eq_true rfl), (Nat.le_of_ble_eq_true rfl)⟩) rfl hl.1 (Nat.le_of_ble_eq_true rfl) e_M_runObject_28 ⟨(Nat.le_of_ble_eq_true rfl), (Nat.le_of_ble_eq_true rfl)⟩ (fun σ55 H locs hw h => ?_)
      refine W.eq (g2 := F0 m 31 ls []) rfl ?_
      refine lv_goto (tgt := 296) hx hb e_M_runObject_31 (by decide) ?_
      exact K_296 () x3 σ55 _ _ _ hw h (lv_sub hl [1, 4] rfl)
    · skip
      replace hw := hw.2 c54
      exact hend σ52 _ _ _ _ hw h e_M_runObject_23
abbrev z_M_step : MethodName := ⟨"MapFramerModel", "step", "()V"⟩
theorem v_374 : (Cond.methodLink "MapFramerModel" 483 ⟨"MapFramerModel", "runArray", "(II)V"⟩ : Cond) ∈ bigW := inB_10 122 (by decide +kernel) rfl
theorem v_375 : (Cond.instanceMethod ⟨"MapFramerModel", "runArray", "(II)V"⟩ : Cond) ∈ bigW := inB_10 124 (by decide +kernel) rfl
theorem v_376 : (Cond.selects "MapFramerModel" ⟨"MapFramerModel", "runArray", "(II)V"⟩ ⟨"MapFramerModel", "runArray", "(II)V"⟩ : Cond) ∈ bigW := inS (y := ⟨"MapFramerModel", "runArray", "(II)V"⟩) (n := 71) (List.mem_of_getElem? (i := 139) (by decide +kernel))
theorem v_377 : (Cond.code ⟨"MapFramerModel", "runArray", "(II)V"⟩ prog_14_method_90_code 10 none : Cond) ∈ bigW := inB_10 125 rfl rfl
theorem v_378 : (Cond.methodLink "MapFramerModel" 504 ⟨"MapFramerModel", "runShuffle", "(III)V"⟩ : Cond) ∈ bigW := inB_10 189 (by decide +kernel) rfl
theorem v_379 : (Cond.instanceMethod ⟨"MapFramerModel", "runShuffle", "(III)V"⟩ : Cond) ∈ bigW := inB_10 191 (by decide +kernel) rfl
theorem v_380 : (Cond.selects "MapFramerModel" ⟨"MapFramerModel", "runShuffle", "(III)V"⟩ ⟨"MapFramerModel", "runShuffle", "(III)V"⟩ : Cond) ∈ bigW := inS (y := ⟨"MapFramerModel", "runShuffle", "(III)V"⟩) (n := 71) (List.mem_of_getElem? (i := 154) (by decide +kernel))
theorem v_381 : (Cond.code ⟨"MapFramerModel", "runShuffle", "(III)V"⟩ prog_14_method_91_code 10 none : Cond) ∈ bigW := inB_10 192 rfl rfl
theorem v_382 : (Cond.methodLink "MapFramerModel" 501 ⟨"MapFramerModel", "runObject", "(III)V"⟩ : Cond) ∈ bigW := inB_10 184 (by decide +kernel) rfl
theorem v_383 : (Cond.instanceMethod ⟨"MapFramerModel", "runObject", "(III)V"⟩ : Cond) ∈ bigW := inB_10 186 (by decide +kernel) rfl
theorem v_384 : (Cond.selects "MapFramerModel" ⟨"MapFramerModel", "runObject", "(III)V"⟩ ⟨"MapFramerModel", "runObject", "(III)V"⟩ : Cond) ∈ bigW := inS (y := ⟨"MapFramerModel", "runObject", "(III)V"⟩) (n := 71) (List.mem_of_getElem? (i := 153) (by decide +kernel))
theorem v_385 : (Cond.code ⟨"MapFramerModel", "runObject", "(III)V"⟩ prog_14_method_100_code 7 none : Cond) ∈ bigW := inB_10 187 rfl rfl
theorem v_386 : (Cond.methodLink "MapFramerModel" 498 ⟨"MapFramerModel", "runCall", "(I)V"⟩ : Cond) ∈ bigW := inB_10 180 (by decide +kernel) rfl
theorem v_387 : (Cond.instanceMethod ⟨"MapFramerModel", "runCall", "(I)V"⟩ : Cond) ∈ bigW := inB_10 182 (by decide +kernel) rfl
theorem v_388 : (Cond.selects "MapFramerModel" ⟨"MapFramerModel", "runCall", "(I)V"⟩ ⟨"MapFramerModel", "runCall", "(I)V"⟩ : Cond) ∈ bigW := inS (y := ⟨"MapFramerModel", "runCall", "(I)V"⟩) (n := 71) (List.mem_of_getElem? (i := 152) (by decide +kernel))
theorem v_389 : (Cond.code ⟨"MapFramerModel", "runCall", "(I)V"⟩ prog_14_method_99_code 6 none : Cond) ∈ bigW := inB_10 183 rfl rfl
theorem v_390 : (Cond.methodLink "MapFramerModel" 495 ⟨"MapFramerModel", "runField", "(III)V"⟩ : Cond) ∈ bigW := inB_10 176 (by decide +kernel) rfl
theorem v_391 : (Cond.instanceMethod ⟨"MapFramerModel", "runField", "(III)V"⟩ : Cond) ∈ bigW := inB_10 178 (by decide +kernel) rfl
theorem v_392 : (Cond.selects "MapFramerModel" ⟨"MapFramerModel", "runField", "(III)V"⟩ ⟨"MapFramerModel", "runField", "(III)V"⟩ : Cond) ∈ bigW := inS (y := ⟨"MapFramerModel", "runField", "(III)V"⟩) (n := 71) (List.mem_of_getElem? (i := 151) (by decide +kernel))
theorem v_393 : (Cond.code ⟨"MapFramerModel", "runField", "(III)V"⟩ prog_14_method_97_code 7 none : Cond) ∈ bigW := inB_10 179 rfl rfl
theorem v_394 : (Cond.methodLink "MapFramerModel" 492 ⟨"MapFramerModel", "runReturn", "(I)V"⟩ : Cond) ∈ bigW := inB_10 172 (by decide +kernel) rfl
theorem v_395 : (Cond.instanceMethod ⟨"MapFramerModel", "runReturn", "(I)V"⟩ : Cond) ∈ bigW := inB_10 174 (by decide +kernel) rfl
theorem v_396 : (Cond.selects "MapFramerModel" ⟨"MapFramerModel", "runReturn", "(I)V"⟩ ⟨"MapFramerModel", "runReturn", "(I)V"⟩ : Cond) ∈ bigW := inS (y := ⟨"MapFramerModel", "runReturn", "(I)V"⟩) (n := 71) (List.mem_of_getElem? (i := 150) (by decide +kernel))
theorem v_397 : (Cond.code ⟨"MapFramerModel", "runReturn", "(I)V"⟩ prog_14_method_96_code 4 none : Cond) ∈ bigW := inB_10 175 rfl rfl
theorem v_398 : (Cond.methodLink "MapFramerModel" 489 ⟨"MapFramerModel", "runBranch", "(IIII)V"⟩ : Cond) ∈ bigW := inB_10 165 (by decide +kernel) rfl
theorem v_399 : (Cond.instanceMethod ⟨"MapFramerModel", "runBranch", "(IIII)V"⟩ : Cond) ∈ bigW := inB_10 167 (by decide +kernel) rfl
theorem v_400 : (Cond.selects "MapFramerModel" ⟨"MapFramerModel", "runBranch", "(IIII)V"⟩ ⟨"MapFramerModel", "runBranch", "(IIII)V"⟩ : Cond) ∈ bigW := inS (y := ⟨"MapFramerModel", "runBranch", "(IIII)V"⟩) (n := 71) (List.mem_of_getElem? (i := 149) (by decide +kernel))
theorem v_401 : (Cond.code ⟨"MapFramerModel", "runBranch", "(IIII)V"⟩ prog_14_method_95_code 10 none : Cond) ∈ bigW := inB_10 168 rfl rfl
theorem v_402 : (Cond.methodLink "MapFramerModel" 486 ⟨"MapFramerModel", "runReckon", "(IIII)V"⟩ : Cond) ∈ bigW := inB_10 154 (by decide +kernel) rfl
theorem v_403 : (Cond.instanceMethod ⟨"MapFramerModel", "runReckon", "(IIII)V"⟩ : Cond) ∈ bigW := inB_10 156 (by decide +kernel) rfl
theorem v_404 : (Cond.selects "MapFramerModel" ⟨"MapFramerModel", "runReckon", "(IIII)V"⟩ ⟨"MapFramerModel", "runReckon", "(IIII)V"⟩ : Cond) ∈ bigW := inS (y := ⟨"MapFramerModel", "runReckon", "(IIII)V"⟩) (n := 71) (List.mem_of_getElem? (i := 147) (by decide +kernel))
theorem v_405 : (Cond.code ⟨"MapFramerModel", "runReckon", "(IIII)V"⟩ prog_14_method_93_code 9 none : Cond) ∈ bigW := inB_10 157 rfl rfl
theorem e_M_step_0 : decode prog_14_method_101_code 0 = .ok (.aload_n 0, 1) := by decide +kernel
theorem e_M_step_1 : decode prog_14_method_101_code 1 = .ok (.getfield 154, 3) := by decide +kernel
theorem e_M_step_4 : decode prog_14_method_101_code 4 = .ok (.aload_n 0, 1) := by decide +kernel
theorem e_M_step_5 : decode prog_14_method_101_code 5 = .ok (.getfield 420, 3) := by decide +kernel
theorem e_M_step_8 : decode prog_14_method_101_code 8 = .ok (.iconst 1, 1) := by decide +kernel
theorem e_M_step_9 : decode prog_14_method_101_code 9 = .ok (.isub, 1) := by decide +kernel
theorem e_M_step_10 : decode prog_14_method_101_code 10 = .ok (.iaload, 1) := by decide +kernel
theorem e_M_step_11 : decode prog_14_method_101_code 11 = .ok (.istore_n 1, 1) := by decide +kernel
theorem e_M_step_12 : decode prog_14_method_101_code 12 = .ok (.aload_n 0, 1) := by decide +kernel
theorem e_M_step_13 : decode prog_14_method_101_code 13 = .ok (.getfield 157, 3) := by decide +kernel
theorem e_M_step_16 : decode prog_14_method_101_code 16 = .ok (.aload_n 0, 1) := by decide +kernel
theorem e_M_step_17 : decode prog_14_method_101_code 17 = .ok (.getfield 420, 3) := by decide +kernel
theorem e_M_step_20 : decode prog_14_method_101_code 20 = .ok (.iconst 1, 1) := by decide +kernel
theorem e_M_step_21 : decode prog_14_method_101_code 21 = .ok (.isub, 1) := by decide +kernel
theorem e_M_step_22 : decode prog_14_method_101_code 22 = .ok (.iaload, 1) := by decide +kernel
theorem e_M_step_23 : decode prog_14_method_101_code 23 = .ok (.istore_n 2, 1) := by decide +kernel
theorem e_M_step_24 : decode prog_14_method_101_code 24 = .ok (.aload_n 0, 1) := by decide +kernel
theorem e_M_step_25 : decode prog_14_method_101_code 25 = .ok (.iload_n 1, 1) := by decide +kernel
theorem e_M_step_26 : decode prog_14_method_101_code 26 = .ok (.iload_n 2, 1) := by decide +kernel
theorem e_M_step_27 : decode prog_14_method_101_code 27 = .ok (.invokevirtual 222, 3) := by decide +kernel
theorem e_M_step_30 : decode prog_14_method_101_code 30 = .ok (.istore_n 3, 1) := by decide +kernel
theorem e_M_step_31 : decode prog_14_method_101_code 31 = .ok (.iload_n 2, 1) := by decide +kernel
theorem e_M_step_32 : decode prog_14_method_101_code 32 = .ok (.iload_n 3, 1) := by decide +kernel
theorem e_M_step_33 : decode prog_14_method_101_code 33 = .ok (.invokestatic 231, 3) := by decide +kernel
theorem e_M_step_36 : decode prog_14_method_101_code 36 = .ok (.iadd, 1) := by decide +kernel
theorem e_M_step_37 : decode prog_14_method_101_code 37 = .ok (.istore 4, 2) := by decide +kernel
theorem e_M_step_39 : decode prog_14_method_101_code 39 = .ok (.iload_n 3, 1) := by decide +kernel
theorem e_M_step_40 : decode prog_14_method_101_code 40 = .ok (.invokestatic 231, 3) := by decide +kernel
theorem e_M_step_43 : decode prog_14_method_101_code 43 = .ok (.iconst 1, 1) := by decide +kernel
theorem e_M_step_44 : decode prog_14_method_101_code 44 = .ok (.if_icmp .le 14, 3) := by decide +kernel
theorem e_M_step_47 : decode prog_14_method_101_code 47 = .ok (.aload_n 0, 1) := by decide +kernel
theorem e_M_step_48 : decode prog_14_method_101_code 48 = .ok (.iload_n 1, 1) := by decide +kernel
theorem e_M_step_49 : decode prog_14_method_101_code 49 = .ok (.iload_n 2, 1) := by decide +kernel
theorem e_M_step_50 : decode prog_14_method_101_code 50 = .ok (.iconst 1, 1) := by decide +kernel
theorem e_M_step_51 : decode prog_14_method_101_code 51 = .ok (.iadd, 1) := by decide +kernel
theorem e_M_step_52 : decode prog_14_method_101_code 52 = .ok (.invokevirtual 222, 3) := by decide +kernel
theorem e_M_step_55 : decode prog_14_method_101_code 55 = .ok (.goto 4, 3) := by decide +kernel
theorem e_M_step_58 : decode prog_14_method_101_code 58 = .ok (.iconst 0, 1) := by decide +kernel
theorem e_M_step_59 : decode prog_14_method_101_code 59 = .ok (.istore 5, 2) := by decide +kernel
theorem e_M_step_61 : decode prog_14_method_101_code 61 = .ok (.iload_n 3, 1) := by decide +kernel
theorem e_M_step_62 : decode prog_14_method_101_code 62 = .ok (.bipush 46, 2) := by decide +kernel
theorem e_M_step_64 : decode prog_14_method_101_code 64 = .ok (.bipush 50, 2) := by decide +kernel
theorem e_M_step_66 : decode prog_14_method_101_code 66 = .ok (.invokestatic 218, 3) := by decide +kernel
theorem e_M_step_69 : decode prog_14_method_101_code 69 = .ok (.ifCond .ne 14, 3) := by decide +kernel
theorem e_M_step_72 : decode prog_14_method_101_code 72 = .ok (.iload_n 3, 1) := by decide +kernel
theorem e_M_step_73 : decode prog_14_method_101_code 73 = .ok (.bipush 79, 2) := by decide +kernel
theorem e_M_step_75 : decode prog_14_method_101_code 75 = .ok (.bipush 83, 2) := by decide +kernel
theorem e_M_step_77 : decode prog_14_method_101_code 77 = .ok (.invokestatic 218, 3) := by decide +kernel
theorem e_M_step_80 : decode prog_14_method_101_code 80 = .ok (.ifCond .eq 13, 3) := by decide +kernel
theorem e_M_step_83 : decode prog_14_method_101_code 83 = .ok (.aload_n 0, 1) := by decide +kernel
theorem e_M_step_84 : decode prog_14_method_101_code 84 = .ok (.iload_n 3, 1) := by decide +kernel
theorem e_M_step_85 : decode prog_14_method_101_code 85 = .ok (.iload 4, 2) := by decide +kernel
theorem e_M_step_87 : decode prog_14_method_101_code 87 = .ok (.invokevirtual 483, 3) := by decide +kernel
theorem e_M_step_90 : decode prog_14_method_101_code 90 = .ok (.goto 284, 3) := by decide +kernel
theorem e_M_step_93 : decode prog_14_method_101_code 93 = .ok (.iload_n 3, 1) := by decide +kernel
theorem e_M_step_94 : decode prog_14_method_101_code 94 = .ok (.bipush 96, 2) := by decide +kernel
theorem e_M_step_96 : decode prog_14_method_101_code 96 = .ok (.sipush 148, 3) := by decide +kernel
theorem e_M_step_99 : decode prog_14_method_101_code 99 = .ok (.invokestatic 218, 3) := by decide +kernel
theorem e_M_step_102 : decode prog_14_method_101_code 102 = .ok (.ifCond .eq 15, 3) := by decide +kernel
theorem e_M_step_105 : decode prog_14_method_101_code 105 = .ok (.aload_n 0, 1) := by decide +kernel
theorem e_M_step_106 : decode prog_14_method_101_code 106 = .ok (.iload_n 3, 1) := by decide +kernel
theorem e_M_step_107 : decode prog_14_method_101_code 107 = .ok (.iload_n 1, 1) := by decide +kernel
theorem e_M_step_108 : decode prog_14_method_101_code 108 = .ok (.iload_n 2, 1) := by decide +kernel
theorem e_M_step_109 : decode prog_14_method_101_code 109 = .ok (.iload 4, 2) := by decide +kernel
theorem e_M_step_111 : decode prog_14_method_101_code 111 = .ok (.invokevirtual 486, 3) := by decide +kernel
theorem e_M_step_114 : decode prog_14_method_101_code 114 = .ok (.goto 260, 3) := by decide +kernel
theorem e_M_step_117 : decode prog_14_method_101_code 117 = .ok (.iload_n 3, 1) := by decide +kernel
theorem e_M_step_118 : decode prog_14_method_101_code 118 = .ok (.invokestatic 240, 3) := by decide +kernel
theorem e_M_step_121 : decode prog_14_method_101_code 121 = .ok (.ifCond .eq 15, 3) := by decide +kernel
theorem e_M_step_124 : decode prog_14_method_101_code 124 = .ok (.aload_n 0, 1) := by decide +kernel
theorem e_M_step_125 : decode prog_14_method_101_code 125 = .ok (.iload_n 3, 1) := by decide +kernel
theorem e_M_step_126 : decode prog_14_method_101_code 126 = .ok (.iload_n 1, 1) := by decide +kernel
theorem e_M_step_127 : decode prog_14_method_101_code 127 = .ok (.iload_n 2, 1) := by decide +kernel
theorem e_M_step_128 : decode prog_14_method_101_code 128 = .ok (.iload 4, 2) := by decide +kernel
theorem e_M_step_130 : decode prog_14_method_101_code 130 = .ok (.invokevirtual 489, 3) := by decide +kernel
theorem e_M_step_133 : decode prog_14_method_101_code 133 = .ok (.goto 241, 3) := by decide +kernel
theorem e_M_step_136 : decode prog_14_method_101_code 136 = .ok (.iload_n 3, 1) := by decide +kernel
theorem e_M_step_137 : decode prog_14_method_101_code 137 = .ok (.sipush 172, 3) := by decide +kernel
theorem e_M_step_140 : decode prog_14_method_101_code 140 = .ok (.sipush 177, 3) := by decide +kernel
theorem e_M_step_143 : decode prog_14_method_101_code 143 = .ok (.invokestatic 218, 3) := by decide +kernel
theorem e_M_step_146 : decode prog_14_method_101_code 146 = .ok (.ifCond .eq 11, 3) := by decide +kernel
theorem e_M_step_149 : decode prog_14_method_101_code 149 = .ok (.aload_n 0, 1) := by decide +kernel
theorem e_M_step_150 : decode prog_14_method_101_code 150 = .ok (.iload_n 3, 1) := by decide +kernel
theorem e_M_step_151 : decode prog_14_method_101_code 151 = .ok (.invokevirtual 492, 3) := by decide +kernel
theorem e_M_step_154 : decode prog_14_method_101_code 154 = .ok (.goto 220, 3) := by decide +kernel
theorem e_M_step_157 : decode prog_14_method_101_code 157 = .ok (.iload_n 3, 1) := by decide +kernel
theorem e_M_step_158 : decode prog_14_method_101_code 158 = .ok (.sipush 178, 3) := by decide +kernel
theorem e_M_step_161 : decode prog_14_method_101_code 161 = .ok (.sipush 181, 3) := by decide +kernel
theorem e_M_step_164 : decode prog_14_method_101_code 164 = .ok (.invokestatic 218, 3) := by decide +kernel
theorem e_M_step_167 : decode prog_14_method_101_code 167 = .ok (.ifCond .eq 15, 3) := by decide +kernel
theorem e_M_step_170 : decode prog_14_method_101_code 170 = .ok (.aload_n 0, 1) := by decide +kernel
theorem e_M_step_171 : decode prog_14_method_101_code 171 = .ok (.iload_n 3, 1) := by decide +kernel
theorem e_M_step_172 : decode prog_14_method_101_code 172 = .ok (.iload 5, 2) := by decide +kernel
theorem e_M_step_174 : decode prog_14_method_101_code 174 = .ok (.iload 4, 2) := by decide +kernel
theorem e_M_step_176 : decode prog_14_method_101_code 176 = .ok (.invokevirtual 495, 3) := by decide +kernel
theorem e_M_step_179 : decode prog_14_method_101_code 179 = .ok (.goto 195, 3) := by decide +kernel
theorem e_M_step_182 : decode prog_14_method_101_code 182 = .ok (.iload_n 3, 1) := by decide +kernel
theorem e_M_step_183 : decode prog_14_method_101_code 183 = .ok (.sipush 184, 3) := by decide +kernel
theorem e_M_step_186 : decode prog_14_method_101_code 186 = .ok (.if_icmp .ne 12, 3) := by decide +kernel
theorem e_M_step_189 : decode prog_14_method_101_code 189 = .ok (.aload_n 0, 1) := by decide +kernel
theorem e_M_step_190 : decode prog_14_method_101_code 190 = .ok (.iload 5, 2) := by decide +kernel
theorem e_M_step_192 : decode prog_14_method_101_code 192 = .ok (.invokevirtual 498, 3) := by decide +kernel
theorem e_M_step_195 : decode prog_14_method_101_code 195 = .ok (.goto 179, 3) := by decide +kernel
theorem e_M_step_198 : decode prog_14_method_101_code 198 = .ok (.iload_n 3, 1) := by decide +kernel
theorem e_M_step_199 : decode prog_14_method_101_code 199 = .ok (.sipush 182, 3) := by decide +kernel
theorem e_M_step_202 : decode prog_14_method_101_code 202 = .ok (.if_icmp .le 15, 3) := by decide +kernel
theorem e_M_step_205 : decode prog_14_method_101_code 205 = .ok (.aload_n 0, 1) := by decide +kernel
theorem e_M_step_206 : decode prog_14_method_101_code 206 = .ok (.iload_n 3, 1) := by decide +kernel
theorem e_M_step_207 : decode prog_14_method_101_code 207 = .ok (.iload 5, 2) := by decide +kernel
theorem e_M_step_209 : decode prog_14_method_101_code 209 = .ok (.iload 4, 2) := by decide +kernel
theorem e_M_step_211 : decode prog_14_method_101_code 211 = .ok (.invokevirtual 501, 3) := by decide +kernel
theorem e_M_step_214 : decode prog_14_method_101_code 214 = .ok (.goto 160, 3) := by decide +kernel
theorem e_M_step_217 : decode prog_14_method_101_code 217 = .ok (.iload_n 3, 1) := by decide +kernel
theorem e_M_step_218 : decode prog_14_method_101_code 218 = .ok (.iconst 1, 1) := by decide +kernel
theorem e_M_step_219 : decode prog_14_method_101_code 219 = .ok (.if_icmp .ne 10, 3) := by decide +kernel
theorem e_M_step_222 : decode prog_14_method_101_code 222 = .ok (.aload_n 0, 1) := by decide +kernel
theorem e_M_step_223 : decode prog_14_method_101_code 223 = .ok (.ldc2_w 433, 3) := by decide +kernel
theorem e_M_step_226 : decode prog_14_method_101_code 226 = .ok (.invokevirtual 439, 3) := by decide +kernel
theorem e_M_step_229 : decode prog_14_method_101_code 229 = .ok (.iload_n 3, 1) := by decide +kernel
theorem e_M_step_230 : decode prog_14_method_101_code 230 = .ok (.iconst 2, 1) := by decide +kernel
theorem e_M_step_231 : decode prog_14_method_101_code 231 = .ok (.bipush 8, 2) := by decide +kernel
theorem e_M_step_233 : decode prog_14_method_101_code 233 = .ok (.invokestatic 218, 3) := by decide +kernel
theorem e_M_step_236 : decode prog_14_method_101_code 236 = .ok (.ifCond .eq 11, 3) := by decide +kernel
theorem e_M_step_239 : decode prog_14_method_101_code 239 = .ok (.aload_n 0, 1) := by decide +kernel
theorem e_M_step_240 : decode prog_14_method_101_code 240 = .ok (.iload_n 3, 1) := by decide +kernel
theorem e_M_step_241 : decode prog_14_method_101_code 241 = .ok (.iconst 3, 1) := by decide +kernel
theorem e_M_step_242 : decode prog_14_method_101_code 242 = .ok (.isub, 1) := by decide +kernel
theorem e_M_step_243 : decode prog_14_method_101_code 243 = .ok (.i2l, 1) := by decide +kernel
theorem e_M_step_244 : decode prog_14_method_101_code 244 = .ok (.invokevirtual 439, 3) := by decide +kernel
theorem e_M_step_247 : decode prog_14_method_101_code 247 = .ok (.iload_n 3, 1) := by decide +kernel
theorem e_M_step_248 : decode prog_14_method_101_code 248 = .ok (.bipush 9, 2) := by decide +kernel
theorem e_M_step_250 : decode prog_14_method_101_code 250 = .ok (.if_icmp .eq 9, 3) := by decide +kernel
theorem e_M_step_253 : decode prog_14_method_101_code 253 = .ok (.iload_n 3, 1) := by decide +kernel
theorem e_M_step_254 : decode prog_14_method_101_code 254 = .ok (.bipush 10, 2) := by decide +kernel
theorem e_M_step_256 : decode prog_14_method_101_code 256 = .ok (.if_icmp .ne 12, 3) := by decide +kernel
theorem e_M_step_259 : decode prog_14_method_101_code 259 = .ok (.aload_n 0, 1) := by decide +kernel
theorem e_M_step_260 : decode prog_14_method_101_code 260 = .ok (.iload_n 3, 1) := by decide +kernel
theorem e_M_step_261 : decode prog_14_method_101_code 261 = .ok (.bipush 9, 2) := by decide +kernel
theorem e_M_step_263 : decode prog_14_method_101_code 263 = .ok (.isub, 1) := by decide +kernel
theorem e_M_step_264 : decode prog_14_method_101_code 264 = .ok (.i2l, 1) := by decide +kernel
theorem e_M_step_265 : decode prog_14_method_101_code 265 = .ok (.invokevirtual 439, 3) := by decide +kernel
theorem e_M_step_268 : decode prog_14_method_101_code 268 = .ok (.iload_n 3, 1) := by decide +kernel
theorem e_M_step_269 : decode prog_14_method_101_code 269 = .ok (.bipush 16, 2) := by decide +kernel
theorem e_M_step_271 : decode prog_14_method_101_code 271 = .ok (.if_icmp .ne 11, 3) := by decide +kernel
theorem e_M_step_274 : decode prog_14_method_101_code 274 = .ok (.aload_n 0, 1) := by decide +kernel
theorem e_M_step_275 : decode prog_14_method_101_code 275 = .ok (.iload 5, 2) := by decide +kernel
theorem e_M_step_277 : decode prog_14_method_101_code 277 = .ok (.i2b, 1) := by decide +kernel
theorem e_M_step_278 : decode prog_14_method_101_code 278 = .ok (.i2l, 1) := by decide +kernel
theorem e_M_step_279 : decode prog_14_method_101_code 279 = .ok (.invokevirtual 439, 3) := by decide +kernel
theorem e_M_step_282 : decode prog_14_method_101_code 282 = .ok (.iload_n 3, 1) := by decide +kernel
theorem e_M_step_283 : decode prog_14_method_101_code 283 = .ok (.bipush 17, 2) := by decide +kernel
theorem e_M_step_285 : decode prog_14_method_101_code 285 = .ok (.if_icmp .ne 23, 3) := by decide +kernel
theorem e_M_step_288 : decode prog_14_method_101_code 288 = .ok (.aload_n 0, 1) := by decide +kernel
theorem e_M_step_289 : decode prog_14_method_101_code 289 = .ok (.iload 5, 2) := by decide +kernel
theorem e_M_step_291 : decode prog_14_method_101_code 291 = .ok (.bipush 8, 2) := by decide +kernel
theorem e_M_step_293 : decode prog_14_method_101_code 293 = .ok (.ishl, 1) := by decide +kernel
theorem e_M_step_294 : decode prog_14_method_101_code 294 = .ok (.aload_n 0, 1) := by decide +kernel
theorem e_M_step_295 : decode prog_14_method_101_code 295 = .ok (.iload_n 1, 1) := by decide +kernel
theorem e_M_step_296 : decode prog_14_method_101_code 296 = .ok (.iload_n 2, 1) := by decide +kernel
theorem e_M_step_297 : decode prog_14_method_101_code 297 = .ok (.iconst 2, 1) := by decide +kernel
theorem e_M_step_298 : decode prog_14_method_101_code 298 = .ok (.iadd, 1) := by decide +kernel
theorem e_M_step_299 : decode prog_14_method_101_code 299 = .ok (.invokevirtual 222, 3) := by decide +kernel
theorem e_M_step_302 : decode prog_14_method_101_code 302 = .ok (.ior, 1) := by decide +kernel
theorem e_M_step_303 : decode prog_14_method_101_code 303 = .ok (.i2s, 1) := by decide +kernel
theorem e_M_step_304 : decode prog_14_method_101_code 304 = .ok (.i2l, 1) := by decide +kernel
theorem e_M_step_305 : decode prog_14_method_101_code 305 = .ok (.invokevirtual 439, 3) := by decide +kernel
theorem e_M_step_308 : decode prog_14_method_101_code 308 = .ok (.iload_n 3, 1) := by decide +kernel
theorem e_M_step_309 : decode prog_14_method_101_code 309 = .ok (.bipush 21, 2) := by decide +kernel
theorem e_M_step_311 : decode prog_14_method_101_code 311 = .ok (.bipush 25, 2) := by decide +kernel
theorem e_M_step_313 : decode prog_14_method_101_code 313 = .ok (.invokestatic 218, 3) := by decide +kernel
theorem e_M_step_316 : decode prog_14_method_101_code 316 = .ok (.ifCond .eq 13, 3) := by decide +kernel
theorem e_M_step_319 : decode prog_14_method_101_code 319 = .ok (.aload_n 0, 1) := by decide +kernel
theorem e_M_step_320 : decode prog_14_method_101_code 320 = .ok (.aload_n 0, 1) := by decide +kernel
theorem e_M_step_321 : decode prog_14_method_101_code 321 = .ok (.iload 5, 2) := by decide +kernel
theorem e_M_step_323 : decode prog_14_method_101_code 323 = .ok (.invokevirtual 463, 3) := by decide +kernel
theorem e_M_step_326 : decode prog_14_method_101_code 326 = .ok (.invokevirtual 439, 3) := by decide +kernel
theorem e_M_step_329 : decode prog_14_method_101_code 329 = .ok (.iload_n 3, 1) := by decide +kernel
theorem e_M_step_330 : decode prog_14_method_101_code 330 = .ok (.bipush 54, 2) := by decide +kernel
theorem e_M_step_332 : decode prog_14_method_101_code 332 = .ok (.bipush 58, 2) := by decide +kernel
theorem e_M_step_334 : decode prog_14_method_101_code 334 = .ok (.invokestatic 218, 3) := by decide +kernel
theorem e_M_step_337 : decode prog_14_method_101_code 337 = .ok (.ifCond .eq 13, 3) := by decide +kernel
theorem e_M_step_340 : decode prog_14_method_101_code 340 = .ok (.aload_n 0, 1) := by decide +kernel
theorem e_M_step_341 : decode prog_14_method_101_code 341 = .ok (.iload 5, 2) := by decide +kernel
theorem e_M_step_343 : decode prog_14_method_101_code 343 = .ok (.aload_n 0, 1) := by decide +kernel
theorem e_M_step_344 : decode prog_14_method_101_code 344 = .ok (.invokevirtual 449, 3) := by decide +kernel
theorem e_M_step_347 : decode prog_14_method_101_code 347 = .ok (.invokevirtual 466, 3) := by decide +kernel
theorem e_M_step_350 : decode prog_14_method_101_code 350 = .ok (.iload_n 3, 1) := by decide +kernel
theorem e_M_step_351 : decode prog_14_method_101_code 351 = .ok (.bipush 87, 2) := by decide +kernel
theorem e_M_step_353 : decode prog_14_method_101_code 353 = .ok (.bipush 95, 2) := by decide +kernel
theorem e_M_step_355 : decode prog_14_method_101_code 355 = .ok (.invokestatic 218, 3) := by decide +kernel
theorem e_M_step_358 : decode prog_14_method_101_code 358 = .ok (.ifCond .eq 10, 3) := by decide +kernel
theorem e_M_step_361 : decode prog_14_method_101_code 361 = .ok (.aload_n 0, 1) := by decide +kernel
theorem e_M_step_362 : decode prog_14_method_101_code 362 = .ok (.iload_n 3, 1) := by decide +kernel
theorem e_M_step_363 : decode prog_14_method_101_code 363 = .ok (.iload_n 1, 1) := by decide +kernel
theorem e_M_step_364 : decode prog_14_method_101_code 364 = .ok (.iload_n 2, 1) := by decide +kernel
theorem e_M_step_365 : decode prog_14_method_101_code 365 = .ok (.invokevirtual 504, 3) := by decide +kernel
theorem e_M_step_368 : decode prog_14_method_101_code 368 = .ok (.aload_n 0, 1) := by decide +kernel
theorem e_M_step_369 : decode prog_14_method_101_code 369 = .ok (.iload 4, 2) := by decide +kernel
theorem e_M_step_371 : decode prog_14_method_101_code 371 = .ok (.invokevirtual 456, 3) := by decide +kernel
theorem e_M_step_374 : decode prog_14_method_101_code 374 = .ok (.return_, 1) := by decide +kernel
def w_M_step_83 (P : MST → Prop) (z3 : Int32) (z4 : Int32) (σ : MST) : Prop := w_M_runArray z3 z4 σ (fun σ1 => P σ1)
def w_M_step_368 (P : MST → Prop) (z4 : Int32) (σ : MST) : Prop := w_M_goTo z4 σ (fun σ3 => P σ3)
def w_M_step_350 (P : MST → Prop) (z1 : Int32) (z2 : Int32) (z3 : Int32) (z4 : Int32) (σ : MST) : Prop := w_M_in z3 (87 : Int32) (95 : Int32) σ (fun r6 σ5 => ((r6 = 0 → w_M_step_368 P z4 σ5) ∧ (¬ r6 = 0 → w_M_runShuffle z3 z1 z2 σ5 (fun σ8 => w_M_step_368 P z4 σ8))))
def w_M_step_329 (P : MST → Prop) (z1 : Int32) (z2 : Int32) (z3 : Int32) (z4 : Int32) (z5 : Int32) (σ : MST) : Prop := w_M_in z3 (54 : Int32) (58 : Int32) σ (fun r11 σ10 => ((r11 = 0 → w_M_step_350 P z1 z2 z3 z4 σ10) ∧ (¬ r11 = 0 → w_M_take σ10 (fun r14 σ13 => w_M_setLocal z5 r14 σ13 (fun σ15 => w_M_step_350 P z1 z2 z3 z4 σ15)))))
def w_M_step_308 (P : MST → Prop) (z1 : Int32) (z2 : Int32) (z3 : Int32) (z4 : Int32) (z5 : Int32) (σ : MST) : Prop := w_M_in z3 (21 : Int32) (25 : Int32) σ (fun r18 σ17 => ((r18 = 0 → w_M_step_329 P z1 z2 z3 z4 z5 σ17) ∧ (¬ r18 = 0 → w_M_localOf z5 σ17 (fun r21 σ20 => w_M_lay r21 σ20 (fun σ22 => w_M_step_329 P z1 z2 z3 z4 z5 σ22)))))
def w_M_step_282 (P : MST → Prop) (z1 : Int32) (z2 : Int32) (z3 : Int32) (z4 : Int32) (z5 : Int32) (σ : MST) : Prop := ((z3 = 17 → ∀ a25 : Int32, a25 = (z5 <<< ((8 : Int32) &&& 31)) → w_M_at z1 (z2 + 2) σ (fun r27 σ26 => ∀ a28 : Int32, a28 = (a25 ||| r27) → w_M_lay ((((a28 : Int32).toInt16.toInt32) : Int32).toInt64) σ26 (fun σ29 => w_M_step_308 P z1 z2 z3 z4 z5 σ29))) ∧ (¬ z3 = 17 → w_M_step_308 P z1 z2 z3 z4 z5 σ))
def w_M_step_268 (P : MST → Prop) (z1 : Int32) (z2 : Int32) (z3 : Int32) (z4 : Int32) (z5 : Int32) (σ : MST) : Prop := ((z3 = 16 → w_M_lay ((((z5 : Int32).toInt8.toInt32) : Int32).toInt64) σ (fun σ32 => w_M_step_282 P z1 z2 z3 z4 z5 σ32)) ∧ (¬ z3 = 16 → w_M_step_282 P z1 z2 z3 z4 z5 σ))
def w_M_step_259 (P : MST → Prop) (z1 : Int32) (z2 : Int32) (z3 : Int32) (z4 : Int32) (z5 : Int32) (σ : MST) : Prop := w_M_lay (((z3 - 9) : Int32).toInt64) σ (fun σ34 => w_M_step_268 P z1 z2 z3 z4 z5 σ34)
def w_M_step_247 (P : MST → Prop) (z1 : Int32) (z2 : Int32) (z3 : Int32) (z4 : Int32) (z5 : Int32) (σ : MST) : Prop := ((z3 = 9 → w_M_step_259 P z1 z2 z3 z4 z5 σ) ∧ (¬ z3 = 9 → ((z3 = 10 → w_M_step_259 P z1 z2 z3 z4 z5 σ) ∧ (¬ z3 = 10 → w_M_step_268 P z1 z2 z3 z4 z5 σ))))
def w_M_step_229 (P : MST → Prop) (z1 : Int32) (z2 : Int32) (z3 : Int32) (z4 : Int32) (z5 : Int32) (σ : MST) : Prop := w_M_in z3 (2 : Int32) (8 : Int32) σ (fun r39 σ38 => ((r39 = 0 → w_M_step_247 P z1 z2 z3 z4 z5 σ38) ∧ (¬ r39 = 0 → w_M_lay (((z3 - 3) : Int32).toInt64) σ38 (fun σ41 => w_M_step_247 P z1 z2 z3 z4 z5 σ41))))
def w_M_step_59 (P : MST → Prop) (z1 : Int32) (z2 : Int32) (z3 : Int32) (z4 : Int32) (s0 : Int32) (σ : MST) : Prop := w_M_in z3 (46 : Int32) (50 : Int32) σ (fun r44 σ43 => ((r44 = 0 → w_M_in z3 (79 : Int32) (83 : Int32) σ43 (fun r47 σ46 => ((r47 = 0 → w_M_in z3 (96 : Int32) (148 : Int32) σ46 (fun r50 σ49 => ((r50 = 0 → w_M_branches z3 σ49 (fun r53 σ52 => ((r53 = 0 → w_M_in z3 (172 : Int32) (177 : Int32) σ52 (fun r56 σ55 => ((r56 = 0 → w_M_in z3 (178 : Int32) (181 : Int32) σ55 (fun r59 σ58 => ((r59 = 0 → ((z3 = 184 → w_M_runCall s0 σ58 (fun σ68 => P σ68)) ∧ (¬ z3 = 184 → ((z3 ≤ 182 → ((z3 = 1 → w_M_lay (-1) σ58 (fun σ64 => w_M_step_229 P z1 z2 z3 z4 s0 σ64)) ∧ (¬ z3 = 1 → w_M_step_229 P z1 z2 z3 z4 s0 σ58))) ∧ (¬ z3 ≤ 182 → w_M_runObject z3 s0 z4 σ58 (fun σ66 => P σ66)))))) ∧ (¬ r59 = 0 → w_M_runField z3 s0 z4 σ58 (fun σ70 => P σ70))))) ∧ (¬ r56 = 0 → w_M_runReturn z3 σ55 (fun σ72 => P σ72))))) ∧ (¬ r53 = 0 → w_M_runBranch z3 z1 z2 z4 σ52 (fun σ74 => P σ74))))) ∧ (¬ r50 = 0 → w_M_runReckon z3 z1 z2 z4 σ49 (fun σ76 => P σ76))))) ∧ (¬ r47 = 0 → w_M_step_83 P z3 z4 σ46)))) ∧ (¬ r44 = 0 → w_M_step_83 P z3 z4 σ43)))
def w_M_step (σ : MST) (P : MST → Prop) : Prop := vp_in ((σ.1 63) - 1) 24 ∧ (∀ a78 : Int32, a78 = (σ.2.1 64 (((σ.1 63) - 1) : Int32).toNatClampNeg) → vp_in ((σ.1 63) - 1) 24 ∧ (∀ a79 : Int32, a79 = (σ.2.1 65 (((σ.1 63) - 1) : Int32).toNatClampNeg) → w_M_at a78 a79 σ (fun r81 σ80 => w_M_length r81 σ80 (fun r83 σ82 => w_M_length r81 σ82 (fun r85 σ84 => ((r85 ≤ 1 → w_M_step_59 P a78 a79 r81 (a79 + r83) 0 σ84) ∧ (¬ r85 ≤ 1 → w_M_at a78 (a79 + 1) σ84 (fun r88 σ87 => w_M_step_59 P a78 a79 r81 (a79 + r83) r88 σ87))))))))
set_option maxHeartbeats 4000000 in
set_option maxRecDepth 100000 in
theorem K_M_step (l : Launch) (dC : Nat → ClassId) (dI : Nat → Nat → Nat) (mo : Nat) (rf : Nat → Nat) (ca : Nat → ClassId) (sz : Nat) (σ : MST) {P : MST → Prop} (hw : w_M_step σ P) : Met l z_M_step (mW z_M_step prog_14_method_101_code 6 none) ({ frames := 4, cells := 0, slots := 0, locals := 98 } : Room) (va_Pc [.ref mo] (MPre (dC, dI) mo rf ca σ sz)) (va_Qv P (MB (dC, dI) mo rf ca sz) (mA mo rf sz)) 0 0 (mA mo rf sz) := by
  refine M_ofv (by decide) rfl (Nat.le_of_ble_eq_true rfl) ?_
  intro p e s m below meth cx Q A ls C hA hend h hl
  have C0 := C
  obtain ⟨⟨hx, hb, hml, hown, hts⟩, hsub⟩ := C0
  have K_83 : ∀ (u9 : Unit), ∀ (z3 : Int32) (z4 : Int32) (σ : MST) (H : Heap) (locs : List Loc) (ls : Array Slot), w_M_step_83 P z3 z4 σ → MH (dC, dI) A mo rf ca σ s H locs → lv_has ls 6 [(0, .ref mo), (3, .int z3), (4, .int z4)] → W p l e ({ frames := 4, cells := 0, slots := 0, locals := 98 } : Room) s m ([.ref mo] : List Value).toArray below meth cx H locs 0 0 Q (F0 m 83 ls []) := by
    intro u9 z3 z4 σ H locs ls hw h hl
    unfold w_M_step_83 at hw
    refine lv_aload_n hx hb e_M_step_83 rfl (lv_at hl 0 rfl) ?_
    refine lv_iload_n hx hb e_M_step_84 rfl (lv_at hl 1 rfl) ?_
    refine lv_iload hx hb e_M_step_85 (lv_at hl 2 rfl) ?_
    refine M_callv (As := [.int z3, .int z4]) (rest := []) C h hA (K_M_runArray l dC dI mo rf ca H.size σ z3 z4 hw) (cwV 2 hts (gV hsub v_374 v_375 v_376 v_7 v_377) rfl rfl rfl (by decide +kernel) ⟨(Nat.le_of_ble_eq_true rfl), (Nat.le_of_ble_eq_true rfl)⟩) rfl hl.1 (Nat.le_of_ble_eq_true rfl) e_M_step_87 ⟨(Nat.le_of_ble_eq_true rfl), (Nat.le_of_ble_eq_true rfl)⟩ (fun σ1 H locs hw h => ?_)
    refine W.eq (g2 := F0 m 90 ls []) rfl ?_
    refine lv_goto (tgt := 374) hx hb e_M_step_90 (by decide) ?_
    exact hend σ1 _ _ _ _ hw h e_M_step_374
  have K_368 : ∀ (u9 : Unit), ∀ (z4 : Int32) (σ : MST) (H : Heap) (locs : List Loc) (ls : Array Slot), w_M_step_368 P z4 σ → MH (dC, dI) A mo rf ca σ s H locs → lv_has ls 6 [(0, .ref mo), (4, .int z4)] → W p l e ({ frames := 4, cells := 0, slots := 0, locals := 98 } : Room) s m ([.ref mo] : List Value).toArray below meth cx H locs 0 0 Q (F0 m 368 ls []) := by
    intro u9 z4 σ H locs ls hw h hl
    unfold w_M_step_368 at hw
    refine lv_aload_n hx hb e_M_step_368 rfl (lv_at hl 0 rfl) ?_
    refine lv_iload hx hb e_M_step_369 (lv_at hl 1 rfl) ?_
    refine M_callv (As := [.int z4]) (rest := []) C h hA (K_M_goTo l dC dI mo rf ca H.size σ z4 hw) (cwV 1 hts (gV hsub v_345 v_346 v_347 v_7 v_348) rfl rfl rfl (by decide +kernel) ⟨(Nat.le_of_ble_eq_true rfl), (Nat.le_of_ble_eq_true rfl)⟩) rfl hl.1 (Nat.le_of_ble_eq_true rfl) e_M_step_371 ⟨(Nat.le_of_ble_eq_true rfl), (Nat.le_of_ble_eq_true rfl)⟩ (fun σ3 H locs hw h => ?_)
    refine W.eq (g2 := F0 m 374 ls []) rfl ?_
    exact hend σ3 _ _ _ _ hw h e_M_step_374
  have K_350 : ∀ (u9 : Unit), ∀ (z1 : Int32) (z2 : Int32) (z3 : Int32) (z4 : Int32) (σ : MST) (H : Heap) (locs : List Loc) (ls : Array Slot), w_M_step_350 P z1 z2 z3 z4 σ → MH (dC, dI) A mo rf ca σ s H locs → lv_has ls 6 [(0, .ref mo), (1, .int z1), (2, .int z2), (3, .int z3), (4, .int z4)] → W p l e ({ frames := 4, cells := 0, slots := 0, locals := 98 } : Room) s m ([.ref mo] : List Value).toArray below meth cx H locs 0 0 Q (F0 m 350 ls []) := by
    intro u9 z1 z2 z3 z4 σ H locs ls hw h hl
    unfold w_M_step_350 at hw
    refine lv_iload_n hx hb e_M_step_350 rfl (lv_at hl 3 rfl) ?_
    refine lv_bipush (v := 87) hx hb e_M_step_351 (by decide) ?_
    refine lv_bipush (v := 95) hx hb e_M_step_353 (by decide) ?_
    refine M_scalli (As := [.int z3, .int 87, .int 95]) (rest := []) C h hA (K_M_in l dC dI mo rf ca H.size σ z3 (87 : Int32) (95 : Int32) hw) (va_cwS 3 hts (gS hsub v_66 v_67 v_7 v_68) rfl rfl rfl (by decide +kernel) ⟨(Nat.le_of_ble_eq_true rfl), (Nat.le_of_ble_eq_true rfl)⟩) rfl hl.1 (Nat.le_of_ble_eq_true rfl) e_M_step_355 ⟨(Nat.le_of_ble_eq_true rfl), (Nat.le_of_ble_eq_true rfl)⟩ (fun r6 σ5 H locs hw h => ?_)
    refine W.eq (g2 := F0 m 358 ls [.int r6]) rfl ?_
    refine lv_if_eq (tgt := 368) hx hb e_M_step_358 (by decide) (fun c7 => ?_) (fun c7 => ?_)
    · skip
      replace hw := hw.1 c7
      exact K_368 () z4 σ5 _ _ _ hw h (lv_sub hl [0, 4] rfl)
    · skip
      replace hw := hw.2 c7
      refine lv_aload_n hx hb e_M_step_361 rfl (lv_at hl 0 rfl) ?_
      refine lv_iload_n hx hb e_M_step_362 rfl (lv_at hl 3 rfl) ?_
      refine lv_iload_n hx hb e_M_step_363 rfl (lv_at hl 1 rfl) ?_
      refine lv_iload_n hx hb e_M_step_364 rfl (lv_at hl 2 rfl) ?_
      refine M_callv (As := [.int z3, .int z1, .int z2]) (rest := []) C h hA (K_M_runShuffle l dC dI mo rf ca H.size σ5 z3 z1 z2 hw) (cwV 3 hts (gV hsub v_378 v_379 v_380 v_7 v_381) rfl rfl rfl (by decide +kernel) ⟨(Nat.le_of_ble_eq_true rfl), (Nat.le_of_ble_eq_true rfl)⟩) rfl hl.1 (Nat.le_of_ble_eq_true rfl) e_M_step_365 ⟨(Nat.le_of_ble_eq_true rfl), (Nat.le_of_ble_eq_true rfl)⟩ (fun σ8 H locs hw h => ?_)
      refine W.eq (g2 := F0 m 368 ls []) rfl ?_
      exact K_368 () z4 σ8 _ _ _ hw h (lv_sub hl [0, 4] rfl)
  have K_329 : ∀ (u9 : Unit), ∀ (z1 : Int32) (z2 : Int32) (z3 : Int32) (z4 : Int32) (z5 : Int32) (σ : MST) (H : Heap) (locs : List Loc) (ls : Array Slot), w_M_step_329 P z1 z2 z3 z4 z5 σ → MH (dC, dI) A mo rf ca σ s H locs → lv_has ls 6 [(0, .ref mo), (1, .int z1), (2, .int z2), (3, .int z3), (4, .int z4), (5, .int z5)] → W p l e ({ frames := 4, cells := 0, slots := 0, locals := 98 } : Room) s m ([.ref mo] : List Value).toArray below meth cx H locs 0 0 Q (F0 m 329 ls []) := by
    intro u9 z1 z2 z3 z4 z5 σ H locs ls hw h hl
    unfold w_M_step_329 at hw
    refine lv_iload_n hx hb e_M_step_329 rfl (lv_at hl 3 rfl) ?_
    refine lv_bipush (v := 54) hx hb e_M_step_330 (by decide) ?_
    refine lv_bipush (v := 58) hx hb e_M_step_332 (by decide) ?_
    refine M_scalli (As := [.int z3, .int 54, .int 58]) (rest := []) C h hA (K_M_in l dC dI mo rf ca H.size σ z3 (54 : Int32) (58 : Int32) hw) (va_cwS 3 hts (gS hsub v_66 v_67 v_7 v_68) rfl rfl rfl (by decide +kernel) ⟨(Nat.le_of_ble_eq_true rfl), (Nat.le_of_ble_eq_true rfl)⟩) rfl hl.1 (Nat.le_of_ble_eq_true rfl) e_M_step_334 ⟨(Nat.le_of_ble_eq_true rfl), (Nat.le_of_ble_eq_true rfl)⟩ (fun r11 σ10 H locs hw h => ?_)
    refine W.eq (g2 := F0 m 337 ls [.int r11]) rfl ?_
    refine lv_if_eq (tgt := 350) hx hb e_M_step_337 (by decide) (fun c12 => ?_) (fun c12 => ?_)
    · skip
      replace hw := hw.1 c12
      exact K_350 () z1 z2 z3 z4 σ10 _ _ _ hw h (lv_sub hl [0, 1, 2, 3, 4] rfl)
    · skip
      replace hw := hw.2 c12
      refine lv_aload_n hx hb e_M_step_340 rfl (lv_at hl 0 rfl) ?_
      refine lv_iload hx hb e_M_step_341 (lv_at hl 5 rfl) ?_
      refine lv_aload_n hx hb e_M_step_343 rfl (lv_at hl 0 rfl) ?_
      refine M_calll (As := []) (rest := [.int z5, .ref mo]) C h hA (K_M_take l dC dI mo rf ca H.size σ10 hw) (cwV 0 hts (gV hsub v_349 v_350 v_351 v_7 v_352) rfl rfl rfl (by decide +kernel) ⟨(Nat.le_of_ble_eq_true rfl), (Nat.le_of_ble_eq_true rfl)⟩) rfl hl.1 (Nat.le_of_ble_eq_true rfl) e_M_step_344 ⟨(Nat.le_of_ble_eq_true rfl), (Nat.le_of_ble_eq_true rfl)⟩ (fun r14 σ13 H locs hw h => ?_)
      refine W.eq (g2 := F0 m 347 ls [.long r14, .int z5, .ref mo]) rfl ?_
      refine M_callv (As := [.int z5, .long r14]) (rest := []) C h hA (K_M_setLocal l dC dI mo rf ca H.size σ13 z5 r14 hw) (cwV 2 hts (gV hsub v_360 v_361 v_362 v_7 v_363) rfl rfl rfl (by decide +kernel) ⟨(Nat.le_of_ble_eq_true rfl), (Nat.le_of_ble_eq_true rfl)⟩) rfl hl.1 (Nat.le_of_ble_eq_true rfl) e_M_step_347 ⟨(Nat.le_of_ble_eq_true rfl), (Nat.le_of_ble_eq_true rfl)⟩ (fun σ15 H locs hw h => ?_)
      refine W.eq (g2 := F0 m 350 ls []) rfl ?_
      exact K_350 () z1 z2 z3 z4 σ15 _ _ _ hw h (lv_sub hl [0, 1, 2, 3, 4] rfl)
  have K_308 : ∀ (u9 : Unit), ∀ (z1 : Int32) (z2 : Int32) (z3 : Int32) (z4 : Int32) (z5 : Int32) (σ : MST) (H : Heap) (locs : List Loc) (ls : Array Slot), w_M_step_308 P z1 z2 z3 z4 z5 σ → MH (dC, dI) A mo rf ca σ s H locs → lv_has ls 6 [(0, .ref mo), (1, .int z1), (2, .int z2), (3, .int z3), (4, .int z4), (5, .int z5)] → W p l e ({ frames := 4, cells := 0, slots := 0, locals := 98 } : Room) s m ([.ref mo] : List Value).toArray below meth cx H locs 0 0 Q (F0 m 308 ls []) := by
    intro u9 z1 z2 z3 z4 z5 σ H locs ls hw h hl
    unfold w_M_step_308 at hw
    refine lv_iload_n hx hb e_M_step_308 rfl (lv_at hl 3 rfl) ?_
    refine lv_bipush (v := 21) hx hb e_M_step_309 (by decide) ?_
    refine lv_bipush (v := 25) hx hb e_M_step_311 (by decide) ?_
    refine M_scalli (As := [.int z3, .int 21, .int 25]) (rest := []) C h hA (K_M_in l dC dI mo rf ca H.size σ z3 (21 : Int32) (25 : Int32) hw) (va_cwS 3 hts (gS hsub v_66 v_67 v_7 v_68) rfl rfl rfl (by decide +kernel) ⟨(Nat.le_of_ble_eq_true rfl), (Nat.le_of_ble_eq_true rfl)⟩) rfl hl.1 (Nat.le_of_ble_eq_true rfl) e_M_step_313 ⟨(Nat.le_of_ble_eq_true rfl), (Nat.le_of_ble_eq_true rfl)⟩ (fun r18 σ17 H locs hw h => ?_)
    refine W.eq (g2 := F0 m 316 ls [.int r18]) rfl ?_
    refine lv_if_eq (tgt := 329) hx hb e_M_step_316 (by decide) (fun c19 => ?_) (fun c19 => ?_)
    · skip
      replace hw := hw.1 c19
      exact K_329 () z1 z2 z3 z4 z5 σ17 _ _ _ hw h (lv_sub hl [0, 1, 2, 3, 4, 5] rfl)
    · skip
      replace hw := hw.2 c19
      refine lv_aload_n hx hb e_M_step_319 rfl (lv_at hl 0 rfl) ?_
      refine lv_aload_n hx hb e_M_step_320 rfl (lv_at hl 0 rfl) ?_
      refine lv_iload hx hb e_M_step_321 (lv_at hl 5 rfl) ?_
      refine M_calll (As := [.int z5]) (rest := [.ref mo]) C h hA (K_M_localOf l dC dI mo rf ca H.size σ17 z5 hw) (cwV 1 hts (gV hsub v_356 v_357 v_358 v_7 v_359) rfl rfl rfl (by decide +kernel) ⟨(Nat.le_of_ble_eq_true rfl), (Nat.le_of_ble_eq_true rfl)⟩) rfl hl.1 (Nat.le_of_ble_eq_true rfl) e_M_step_323 ⟨(Nat.le_of_ble_eq_true rfl), (Nat.le_of_ble_eq_true rfl)⟩ (fun r21 σ20 H locs hw h => ?_)
      refine W.eq (g2 := F0 m 326 ls [.long r21, .ref mo]) rfl ?_
      refine M_callv (As := [.long r21]) (rest := []) C h hA (K_M_lay l dC dI mo rf ca H.size σ20 r21 hw) (cwV 1 hts (gV hsub v_326 v_327 v_328 v_7 v_329) rfl rfl rfl (by decide +kernel) ⟨(Nat.le_of_ble_eq_true rfl), (Nat.le_of_ble_eq_true rfl)⟩) rfl hl.1 (Nat.le_of_ble_eq_true rfl) e_M_step_326 ⟨(Nat.le_of_ble_eq_true rfl), (Nat.le_of_ble_eq_true rfl)⟩ (fun σ22 H locs hw h => ?_)
      refine W.eq (g2 := F0 m 329 ls []) rfl ?_
      exact K_329 () z1 z2 z3 z4 z5 σ22 _ _ _ hw h (lv_sub hl [0, 1, 2, 3, 4, 5] rfl)
  have K_282 : ∀ (u9 : Unit), ∀ (z1 : Int32) (z2 : Int32) (z3 : Int32) (z4 : Int32) (z5 : Int32) (σ : MST) (H : Heap) (locs : List Loc) (ls : Array Slot), w_M_step_282 P z1 z2 z3 z4 z5 σ → MH (dC, dI) A mo rf ca σ s H locs → lv_has ls 6 [(0, .ref mo), (1, .int z1), (2, .int z2), (3, .int z3), (4, .int z4), (5, .int z5)] → W p l e ({ frames := 4, cells := 0, slots := 0, locals := 98 } : Room) s m ([.ref mo] : List Value).toArray below meth cx H locs 0 0 Q (F0 m 282 ls []) := by
    intro u9 z1 z2 z3 z4 z5 σ H locs ls hw h hl
    unfold w_M_step_282 at hw
    refine lv_iload_n hx hb e_M_step_282 rfl (lv_at hl 3 rfl) ?_
    refine lv_bipush (v := 17) hx hb e_M_step_283 (by decide) ?_
    refine lv_icmp_ne (tgt := 308) hx hb e_M_step_285 (by decide) (fun c24 => ?_) (fun c24 => ?_)
    · skip
      replace hw := hw.2 c24
      exact K_308 () z1 z2 z3 z4 z5 σ _ _ _ hw h (lv_sub hl [0, 1, 2, 3, 4, 5] rfl)
    · skip
      replace hw := hw.1 c24
      refine lv_aload_n hx hb e_M_step_288 rfl (lv_at hl 0 rfl) ?_
      refine lv_iload hx hb e_M_step_289 (lv_at hl 5 rfl) ?_
      refine lv_bipush (v := 8) hx hb e_M_step_291 (by decide) ?_
      refine lv_ishl hx hb e_M_step_293 ?_
      refine lv_topi (fun a25 e_a25 => ?_)
      replace hw := hw a25 e_a25
      refine lv_aload_n hx hb e_M_step_294 rfl (lv_at hl 0 rfl) ?_
      refine lv_iload_n hx hb e_M_step_295 rfl (lv_at hl 1 rfl) ?_
      refine lv_iload_n hx hb e_M_step_296 rfl (lv_at hl 2 rfl) ?_
      refine lv_iconst (v := 2) hx hb e_M_step_297 (by decide) ?_
      refine lv_iadd hx hb e_M_step_298 ?_
      refine M_calli (As := [.int z1, .int (z2 + 2)]) (rest := [.int a25, .ref mo]) C h hA (K_M_at l dC dI mo rf ca H.size σ z1 (z2 + 2) hw) (cwV 2 hts (gV hsub v_69 v_70 v_71 v_7 v_72) rfl rfl rfl (by decide +kernel) ⟨(Nat.le_of_ble_eq_true rfl), (Nat.le_of_ble_eq_true rfl)⟩) rfl hl.1 (Nat.le_of_ble_eq_true rfl) e_M_step_299 ⟨(Nat.le_of_ble_eq_true rfl), (Nat.le_of_ble_eq_true rfl)⟩ (fun r27 σ26 H locs hw h => ?_)
      refine W.eq (g2 := F0 m 302 ls [.int r27, .int a25, .ref mo]) rfl ?_
      refine lv_ior hx hb e_M_step_302 ?_
      refine lv_topi (fun a28 e_a28 => ?_)
      replace hw := hw a28 e_a28
      refine lv_i2s (v := (a28 : Int32).toInt16.toInt32) hx hb e_M_step_303 rfl ?_
      refine lv_i2l (v := (((a28 : Int32).toInt16.toInt32) : Int32).toInt64) hx hb e_M_step_304 rfl ?_
      refine M_callv (As := [.long ((((a28 : Int32).toInt16.toInt32) : Int32).toInt64)]) (rest := []) C h hA (K_M_lay l dC dI mo rf ca H.size σ26 ((((a28 : Int32).toInt16.toInt32) : Int32).toInt64) hw) (cwV 1 hts (gV hsub v_326 v_327 v_328 v_7 v_329) rfl rfl rfl (by decide +kernel) ⟨(Nat.le_of_ble_eq_true rfl), (Nat.le_of_ble_eq_true rfl)⟩) rfl hl.1 (Nat.le_of_ble_eq_true rfl) e_M_step_305 ⟨(Nat.le_of_ble_eq_true rfl), (Nat.le_of_ble_eq_true rfl)⟩ (fun σ29 H locs hw h => ?_)
      refine W.eq (g2 := F0 m 308 ls []) rfl ?_
      exact K_308 () z1 z2 z3 z4 z5 σ29 _ _ _ hw h (lv_sub hl [0, 1, 2, 3, 4, 5] rfl)
  have K_268 : ∀ (u9 : Unit), ∀ (z1 : Int32) (z2 : Int32) (z3 : Int32) (z4 : Int32) (z5 : Int32) (σ : MST) (H : Heap) (locs : List Loc) (ls : Array Slot), w_M_step_268 P z1 z2 z3 z4 z5 σ → MH (dC, dI) A mo rf ca σ s H locs → lv_has ls 6 [(0, .ref mo), (1, .int z1), (2, .int z2), (3, .int z3), (4, .int z4), (5, .int z5)] → W p l e ({ frames := 4, cells := 0, slots := 0, locals := 98 } : Room) s m ([.ref mo] : List Value).toArray below meth cx H locs 0 0 Q (F0 m 268 ls []) := by
    intro u9 z1 z2 z3 z4 z5 σ H locs ls hw h hl
    unfold w_M_step_268 at hw
    refine lv_iload_n hx hb e_M_step_268 rfl (lv_at hl 3 rfl) ?_
    refine lv_bipush (v := 16) hx hb e_M_step_269 (by decide) ?_
    refine lv_icmp_ne (tgt := 282) hx hb e_M_step_271 (by decide) (fun c31 => ?_) (fun c31 => ?_)
    · skip
      replace hw := hw.2 c31
      exact K_282 () z1 z2 z3 z4 z5 σ _ _ _ hw h (lv_sub hl [0, 1, 2, 3, 4, 5] rfl)
    · skip
      replace hw := hw.1 c31
      refine lv_aload_n hx hb e_M_step_274 rfl (lv_at hl 0 rfl) ?_
      refine lv_iload hx hb e_M_step_275 (lv_at hl 5 rfl) ?_
      refine lv_i2b (v := (z5 : Int32).toInt8.toInt32) hx hb e_M_step_277 rfl ?_
      refine lv_i2l (v := (((z5 : Int32).toInt8.toInt32) : Int32).toInt64) hx hb e_M_step_278 rfl ?_
      refine M_callv (As := [.long ((((z5 : Int32).toInt8.toInt32) : Int32).toInt64)]) (rest := []) C h hA (K_M_lay l dC dI mo rf ca H.size σ ((((z5 : Int32).toInt8.toInt32) : Int32).toInt64) hw) (cwV 1 hts (gV hsub v_326 v_327 v_328 v_7 v_329) rfl rfl rfl (by decide +kernel) ⟨(Nat.le_of_ble_eq_true rfl), (Nat.le_of_ble_eq_true rfl)⟩) rfl hl.1 (Nat.le_of_ble_eq_true rfl) e_M_step_279 ⟨(Nat.le_of_ble_eq_true rfl), (Nat.le_of_ble_eq_true rfl)⟩ (fun σ32 H locs hw h => ?_)
      refine W.eq (g2 := F0 m 282 ls []) rfl ?_
      exact K_282 () z1 z2 z3 z4 z5 σ32 _ _ _ hw h (lv_sub hl [0, 1, 2, 3, 4, 5] rfl)
  have K_259 : ∀ (u9 : Unit), ∀ (z1 : Int32) (z2 : Int32) (z3 : Int32) (z4 : Int32) (z5 : Int32) (σ : MST) (H : Heap) (locs : List Loc) (ls : Array Slot), w_M_step_259 P z1 z2 z3 z4 z5 σ → MH (dC, dI) A mo rf ca σ s H locs → lv_has ls 6 [(0, .ref mo), (1, .int z1), (2, .int z2), (3, .int z3), (4, .int z4), (5, .int z5)] → W p l e ({ frames := 4, cells := 0, slots := 0, locals := 98 } : Room) s m ([.ref mo] : List Value).toArray below meth cx H locs 0 0 Q (F0 m 259 ls []) := by
    intro u9 z1 z2 z3 z4 z5 σ H locs ls hw h hl
    unfold w_M_step_259 at hw
    refine lv_aload_n hx hb e_M_step_259 rfl (lv_at hl 0 rfl) ?_
    refine lv_iload_n hx hb e_M_step_260 rfl (lv_at hl 3 rfl) ?_
    refine lv_bipush (v := 9) hx hb e_M_step_261 (by decide) ?_
    refine lv_isub hx hb e_M_step_263 ?_
    refine lv_i2l (v := ((z3 - 9) : Int32).toInt64) hx hb e_M_step_264 rfl ?_
    refine M_callv (As := [.long (((z3 - 9) : Int32).toInt64)]) (rest := []) C h hA (K_M_lay l dC dI mo rf ca H.size σ (((z3 - 9) : Int32).toInt64) hw) (cwV 1 hts (gV hsub v_326 v_327 v_328 v_7 v_329) rfl rfl rfl (by decide +kernel) ⟨(Nat.le_of_ble_eq_true rfl), (Nat.le_of_ble_eq_true rfl)⟩) rfl hl.1 (Nat.le_of_ble_eq_true rfl) e_M_step_265 ⟨(Nat.le_of_ble_eq_true rfl), (Nat.le_of_ble_eq_true rfl)⟩ (fun σ34 H locs hw h => ?_)
    refine W.eq (g2 := F0 m 268 ls []) rfl ?_
    exact K_268 () z1 z2 z3 z4 z5 σ34 _ _ _ hw h (lv_sub hl [0, 1, 2, 3, 4, 5] rfl)
  have K_247 : ∀ (u9 : Unit), ∀ (z1 : Int32) (z2 : Int32) (z3 : Int32) (z4 : Int32) (z5 : Int32) (σ : MST) (H : Heap) (locs : List Loc) (ls : Array Slot), w_M_step_247 P z1 z2 z3 z4 z5 σ → MH (dC, dI) A mo rf ca σ s H locs → lv_has ls 6 [(0, .ref mo), (1, .int z1), (2, .int z2), (3, .int z3), (4, .int z4), (5, .int z5)] → W p l e ({ frames := 4, cells := 0, slots := 0, locals := 98 } : Room) s m ([.ref mo] : List Value).toArray below meth cx H locs 0 0 Q (F0 m 247 ls []) := by
    intro u9 z1 z2 z3 z4 z5 σ H locs ls hw h hl
    unfold w_M_step_247 at hw
    refine lv_iload_n hx hb e_M_step_247 rfl (lv_at hl 3 rfl) ?_
    refine lv_bipush (v := 9) hx hb e_M_step_248 (by decide) ?_
    refine lv_icmp_eq (tgt := 259) hx hb e_M_step_250 (by decide) (fun c36 => ?_) (fun c36 => ?_)
    · skip
      replace hw := hw.1 c36
      exact K_259 () z1 z2 z3 z4 z5 σ _ _ _ hw h (lv_sub hl [0, 1, 2, 3, 4, 5] rfl)
    · skip
      replace hw := hw.2 c36
      refine lv_iload_n hx hb e_M_step_253 rfl (lv_at hl 3 rfl) ?_
      refine lv_bipush (v := 10) hx hb e_M_step_254 (by decide) ?_
      refine lv_icmp_ne (tgt := 268) hx hb e_M_step_256 (by decide) (fun c37 => ?_) (fun c37 => ?_)
      · skip
        replace hw := hw.2 c37
        exact K_268 () z1 z2 z3 z4 z5 σ _ _ _ hw h (lv_sub hl [0, 1, 2, 3, 4, 5] rfl)
      · skip
        replace hw := hw.1 c37
        exact K_259 () z1 z2 z3 z4 z5 σ _ _ _ hw h (lv_sub hl [0, 1, 2, 3, 4, 5] rfl)
  have K_229 : ∀ (u9 : Unit), ∀ (z1 : Int32) (z2 : Int32) (z3 : Int32) (z4 : Int32) (z5 : Int32) (σ : MST) (H : Heap) (locs : List Loc) (ls : Array Slot), w_M_step_229 P z1 z2 z3 z4 z5 σ → MH (dC, dI) A mo rf ca σ s H locs → lv_has ls 6 [(0, .ref mo), (1, .int z1), (2, .int z2), (3, .int z3), (4, .int z4), (5, .int z5)] → W p l e ({ frames := 4, cells := 0, slots := 0, locals := 98 } : Room) s m ([.ref mo] : List Value).toArray below meth cx H locs 0 0 Q (F0 m 229 ls []) := by
    intro u9 z1 z2 z3 z4 z5 σ H locs ls hw h hl
    unfold w_M_step_229 at hw
    refine lv_iload_n hx hb e_M_step_229 rfl (lv_at hl 3 rfl) ?_
    refine lv_iconst (v := 2) hx hb e_M_step_230 (by decide) ?_
    refine lv_bipush (v := 8) hx hb e_M_step_231 (by decide) ?_
    refine M_scalli (As := [.int z3, .int 2, .int 8]) (rest := []) C h hA (K_M_in l dC dI mo rf ca H.size σ z3 (2 : Int32) (8 : Int32) hw) (va_cwS 3 hts (gS hsub v_66 v_67 v_7 v_68) rfl rfl rfl (by decide +kernel) ⟨(Nat.le_of_ble_eq_true rfl), (Nat.le_of_ble_eq_true rfl)⟩) rfl hl.1 (Nat.le_of_ble_eq_true rfl) e_M_step_233 ⟨(Nat.le_of_ble_eq_true rfl), (Nat.le_of_ble_eq_true rfl)⟩ (fun r39 σ38 H locs hw h => ?_)
    refine W.eq (g2 := F0 m 236 ls [.int r39]) rfl ?_
    refine lv_if_eq (tgt := 247) hx hb e_M_step_236 (by decide) (fun c40 => ?_) (fun c40 => ?_)
    · skip
      replace hw := hw.1 c40
      exact K_247 () z1 z2 z3 z4 z5 σ38 _ _ _ hw h (lv_sub hl [0, 1, 2, 3, 4, 5] rfl)
    · skip
      replace hw := hw.2 c40
      refine lv_aload_n hx hb e_M_step_239 rfl (lv_at hl 0 rfl) ?_
      refine lv_iload_n hx hb e_M_step_240 rfl (lv_at hl 3 rfl) ?_
      refine lv_iconst (v := 3) hx hb e_M_step_241 (by decide) ?_
      refine lv_isub hx hb e_M_step_242 ?_
      refine lv_i2l (v := ((z3 - 3) : Int32).toInt64) hx hb e_M_step_243 rfl ?_
      refine M_callv (As := [.long (((z3 - 3) : Int32).toInt64)]) (rest := []) C h hA (K_M_lay l dC dI mo rf ca H.size σ38 (((z3 - 3) : Int32).toInt64) hw) (cwV 1 hts (gV hsub v_326 v_327 v_328 v_7 v_329) rfl rfl rfl (by decide +kernel) ⟨(Nat.le_of_ble_eq_true rfl), (Nat.le_of_ble_eq_true rfl)⟩) rfl hl.1 (Nat.le_of_ble_eq_true rfl) e_M_step_244 ⟨(Nat.le_of_ble_eq_true rfl), (Nat.le_of_ble_eq_true rfl)⟩ (fun σ41 H locs hw h => ?_)
      refine W.eq (g2 := F0 m 247 ls []) rfl ?_
      exact K_247 () z1 z2 z3 z4 z5 σ41 _ _ _ hw h (lv_sub hl [0, 1, 2, 3, 4, 5] rfl)
  have K_59 : ∀ (u9 : Unit), ∀ (z1 : Int32) (z2 : Int32) (z3 : Int32) (z4 : Int32) (s0 : Int32) (σ : MST) (H : Heap) (locs : List Loc) (ls : Array Slot), w_M_step_59 P z1 z2 z3 z4 s0 σ → MH (dC, dI) A mo rf ca σ s H locs → lv_has ls 6 [(0, .ref mo), (1, .int z1), (2, .int z2), (3, .int z3), (4, .int z4)] → W p l e ({ frames := 4, cells := 0, slots := 0, locals := 98 } : Room) s m ([.ref mo] : List Value).toArray below meth cx H locs 0 0 Q (F0 m 59 ls [.int s0]) := by
    intro u9 z1 z2 z3 z4 s0 σ H locs ls hw h hl
    unfold w_M_step_59 at hw
    refine lv_istore (lv' := [(5, .int s0), (0, .ref mo), (1, .int z1), (2, .int z2), (3, .int z3), (4, .int z4)]) hx hb e_M_step_59 hl (by decide) rfl (fun ls hl => ?_)
    refine lv_iload_n hx hb e_M_step_61 rfl (lv_at hl 4 rfl) ?_
    refine lv_bipush (v := 46) hx hb e_M_step_62 (by decide) ?_
    refine lv_bipush (v := 50) hx hb e_M_step_64 (by decide) ?_
    refine M_scalli (As := [.int z3, .int 46, .int 50]) (rest := []) C h hA (K_M_in l dC dI mo rf ca H.size σ z3 (46 : Int32) (50 : Int32) hw) (va_cwS 3 hts (gS hsub v_66 v_67 v_7 v_68) rfl rfl rfl (by decide +kernel) ⟨(Nat.le_of_ble_eq_true rfl), (Nat.le_of_ble_eq_true rfl)⟩) rfl hl.1 (Nat.le_of_ble_eq_true rfl) e_M_step_66 ⟨(Nat.le_of_ble_eq_true rfl), (Nat.le_of_ble_eq_true rfl)⟩ (fun r44 σ43 H locs hw h => ?_)
    refine W.eq (g2 := F0 m 69 ls [.int r44]) rfl ?_
    refine lv_if_ne (tgt := 83) hx hb e_M_step_69 (by decide) (fun c45 => ?_) (fun c45 => ?_)
    · skip
      replace hw := hw.2 c45
      exact K_83 () z3 z4 σ43 _ _ _ hw h (lv_sub hl [1, 4, 5] rfl)
    · skip
      replace hw := hw.1 c45
      refine lv_iload_n hx hb e_M_step_72 rfl (lv_at hl 4 rfl) ?_
      refine lv_bipush (v := 79) hx hb e_M_step_73 (by decide) ?_
      refine lv_bipush (v := 83) hx hb e_M_step_75 (by decide) ?_
      refine M_scalli (As := [.int z3, .int 79, .int 83]) (rest := []) C h hA (K_M_in l dC dI mo rf ca H.size σ43 z3 (79 : Int32) (83 : Int32) hw) (va_cwS 3 hts (gS hsub v_66 v_67 v_7 v_68) rfl rfl rfl (by decide +kernel) ⟨(Nat.le_of_ble_eq_true rfl), (Nat.le_of_ble_eq_true rfl)⟩) rfl hl.1 (Nat.le_of_ble_eq_true rfl) e_M_step_77 ⟨(Nat.le_of_ble_eq_true rfl), (Nat.le_of_ble_eq_true rfl)⟩ (fun r47 σ46 H locs hw h => ?_)
      refine W.eq (g2 := F0 m 80 ls [.int r47]) rfl ?_
      refine lv_if_eq (tgt := 93) hx hb e_M_step_80 (by decide) (fun c48 => ?_) (fun c48 => ?_)
      · skip
        replace hw := hw.1 c48
        refine lv_iload_n hx hb e_M_step_93 rfl (lv_at hl 4 rfl) ?_
        refine lv_bipush (v := 96) hx hb e_M_step_94 (by decide) ?_
        refine lv_sipush (v := 148) hx hb e_M_step_96 (by decide) ?_
        refine M_scalli (As := [.int z3, .int 96, .int 148]) (rest := []) C h hA (K_M_in l dC dI mo rf ca H.size σ46 z3 (96 : Int32) (148 : Int32) hw) (va_cwS 3 hts (gS hsub v_66 v_67 v_7 v_68) rfl rfl rfl (by decide +kernel) ⟨(Nat.le_of_ble_eq_true rfl), (Nat.le_of_ble_eq_true rfl)⟩) rfl hl.1 (Nat.le_of_ble_eq_true rfl) e_M_step_99 ⟨(Nat.le_of_ble_eq_true rfl), (Nat.le_of_ble_eq_true rfl)⟩ (fun r50 σ49 H locs hw h => ?_)
        refine W.eq (g2 := F0 m 102 ls [.int r50]) rfl ?_
        refine lv_if_eq (tgt := 117) hx hb e_M_step_102 (by decide) (fun c51 => ?_) (fun c51 => ?_)
        · skip
          replace hw := hw.1 c51
          refine lv_iload_n hx hb e_M_step_117 rfl (lv_at hl 4 rfl) ?_
          refine M_scalli (As := [.int z3]) (rest := []) C h hA (K_M_branches l dC dI mo rf ca H.size σ49 z3 hw) (va_cwS 1 hts (gS hsub v_87 v_88 v_7 v_89) rfl rfl rfl (by decide +kernel) ⟨(Nat.le_of_ble_eq_true rfl), (Nat.le_of_ble_eq_true rfl)⟩) rfl hl.1 (Nat.le_of_ble_eq_true rfl) e_M_step_118 ⟨(Nat.le_of_ble_eq_true rfl), (Nat.le_of_ble_eq_true rfl)⟩ (fun r53 σ52 H locs hw h => ?_)
          refine W.eq (g2 := F0 m 121 ls [.int r53]) rfl ?_
          refine lv_if_eq (tgt := 136) hx hb e_M_step_121 (by decide) (fun c54 => ?_) (fun c54 => ?_)
          · skip
            replace hw := hw.1 c54
            refine lv_iload_n hx hb e_M_step_136 rfl (lv_at hl 4 rfl) ?_
            refine lv_sipush (v := 172) hx hb e_M_step_137 (by decide) ?_
            refine lv_sipush (v := 177) hx hb e_M_step_140 (by decide) ?_
            refine M_scalli (As := [.int z3, .int 172, .int 177]) (rest := []) C h hA (K_M_in l dC dI mo rf ca H.size σ52 z3 (172 : Int32) (177 : Int32) hw) (va_cwS 3 hts (gS hsub v_66 v_67 v_7 v_68) rfl rfl rfl (by decide +kernel) ⟨(Nat.le_of_ble_eq_true rfl), (Nat.le_of_ble_eq_true rfl)⟩) rfl hl.1 (Nat.le_of_ble_eq_true rfl) e_M_step_143 ⟨(Nat.le_of_ble_eq_true rfl), (Nat.le_of_ble_eq_true rfl)⟩ (fun r56 σ55 H locs hw h => ?_)
            refine W.eq (g2 := F0 m 146 ls [.int r56]) rfl ?_
            refine lv_if_eq (tgt := 157) hx hb e_M_step_146 (by decide) (fun c57 => ?_) (fun c57 => ?_)
            · skip
              replace hw := hw.1 c57
              refine lv_iload_n hx hb e_M_step_157 rfl (lv_at hl 4 rfl) ?_
              refine lv_sipush (v := 178) hx hb e_M_step_158 (by decide) ?_
              refine lv_sipush (v := 181) hx hb e_M_step_161 (by decide) ?_
              refine M_scalli (As := [.int z3, .int 178, .int 181]) (rest := []) C h hA (K_M_in l dC dI mo rf ca H.size σ55 z3 (178 : Int32) (181 : Int32) hw) (va_cwS 3 hts (gS hsub v_66 v_67 v_7 v_68) rfl rfl rfl (by decide +kernel) ⟨(Nat.le_of_ble_eq_true rfl), (Nat.le_of_ble_eq_true rfl)⟩) rfl hl.1 (Nat.le_of_ble_eq_true rfl) e_M_step_164 ⟨(Nat.le_of_ble_eq_true rfl), (Nat.le_of_ble_eq_true rfl)⟩ (fun r59 σ58 H locs hw h => ?_)
              refine W.eq (g2 := F0 m 167 ls [.int r59]) rfl ?_
              refine lv_if_eq (tgt := 182) hx hb e_M_step_167 (by decide) (fun c60 => ?_) (fun c60 => ?_)
              · skip
                replace hw := hw.1 c60
                refine lv_iload_n hx hb e_M_step_182 rfl (lv_at hl 4 rfl) ?_
                refine lv_sipush (v := 184) hx hb e_M_step_183 (by decide) ?_
                refine lv_icmp_ne (tgt := 198) hx hb e_M_step_186 (by decide) (fun c61 => ?_) (fun c61 => ?_)
                · skip
                  replace hw := hw.2 c61
                  refine lv_iload_n hx hb e_M_step_198 rfl (lv_at hl 4 rfl) ?_
                  refine lv_sipush (v := 182) hx hb e_M_step_199 (by decide) ?_
                  refine lv_icmp_le (tgt := 217) hx hb e_M_step_202 (by decide) (fun c62 => ?_) (fun c62 => ?_)
                  · skip
                    replace hw := hw.1 c62
                    refine lv_iload_n hx hb e_M_step_217 rfl (lv_at hl 4 rfl) ?_
                    refine lv_iconst (v := 1) hx hb e_M_step_218 (by decide) ?_
                    refine lv_icmp_ne (tgt := 229) hx hb e_M_step_219 (by decide) (fun c63 => ?_) (fun c63 => ?_)
                    · skip
                      replace hw := hw.2 c63
                      exact K_229 () z1 z2 z3 z4 s0 σ58 _ _ _ hw h (lv_sub hl [1, 2, 3, 4, 5, 0] rfl)
                    · skip
                      replace hw := hw.1 c63
                      refine lv_aload_n hx hb e_M_step_222 rfl (lv_at hl 1 rfl) ?_
                      refine lv_ldc2 (v := (-1)) hx hb hown (hts _ (hsub _ v_313)) e_M_step_223 ?_
                      refine M_callv (As := [.long (-1)]) (rest := []) C h hA (K_M_lay l dC dI mo rf ca H.size σ58 (-1) hw) (cwV 1 hts (gV hsub v_326 v_327 v_328 v_7 v_329) rfl rfl rfl (by decide +kernel) ⟨(Nat.le_of_ble_eq_true rfl), (Nat.le_of_ble_eq_true rfl)⟩) rfl hl.1 (Nat.le_of_ble_eq_true rfl) e_M_step_226 ⟨(Nat.le_of_ble_eq_true rfl), (Nat.le_of_ble_eq_true rfl)⟩ (fun σ64 H locs hw h => ?_)
                      refine W.eq (g2 := F0 m 229 ls []) rfl ?_
                      exact K_229 () z1 z2 z3 z4 s0 σ64 _ _ _ hw h (lv_sub hl [1, 2, 3, 4, 5, 0] rfl)
                  · skip
                    replace hw := hw.2 c62
                    refine lv_aload_n hx hb e_M_step_205 rfl (lv_at hl 1 rfl) ?_
                    refine lv_iload_n hx hb e_M_step_206 rfl (lv_at hl 4 rfl) ?_
                    refine lv_iload hx hb e_M_step_207 (lv_at hl 0 rfl) ?_
                    refine lv_iload hx hb e_M_step_209 (lv_at hl 5 rfl) ?_
                    refine M_callv (As := [.int z3, .int s0, .int z4]) (rest := []) C h hA (K_M_runObject l dC dI mo rf ca H.size σ58 z3 s0 z4 hw) (cwV 3 hts (gV hsub v_382 v_383 v_384 v_7 v_385) rfl rfl rfl (by decide +kernel) ⟨(Nat.le_of_ble_eq_true rfl), (Nat.le_of_ble_eq_true rfl)⟩) rfl hl.1 (Nat.le_of_ble_eq_true rfl) e_M_step_211 ⟨(Nat.le_of_ble_eq_true rfl), (Nat.le_of_ble_eq_true rfl)⟩ (fun σ66 H locs hw h => ?_)
                    refine W.eq (g2 := F0 m 214 ls []) rfl ?_
                    refine lv_goto (tgt := 374) hx hb e_M_step_214 (by decide) ?_
                    exact hend σ66 _ _ _ _ hw h e_M_step_374
                · skip
                  replace hw := hw.1 c61
                  refine lv_aload_n hx hb e_M_step_189 rfl (lv_at hl 1 rfl) ?_
                  refine lv_iload hx hb e_M_step_190 (lv_at hl 0 rfl) ?_
                  refine M_callv (As := [.int s0]) (rest := []) C h hA (K_M_runCall l dC dI mo rf ca H.size σ58 s0 hw) (cwV 1 hts (gV hsub v_386 v_387 v_388 v_7 v_389) rfl rfl rfl (by decide +kernel) ⟨(Nat.le_of_ble_eq_true rfl), (Nat.le_of_ble_eq_true rfl)⟩) rfl hl.1 (Nat.le_of_ble_eq_true rfl) e_M_step_192 ⟨(Nat.le_of_ble_eq_true rfl), (Nat.le_of_ble_eq_true rfl)⟩ (fun σ68 H locs hw h => ?_)
                  refine W.eq (g2 := F0 m 195 ls []) rfl ?_
                  refine lv_goto (tgt := 374) hx hb e_M_step_195 (by decide) ?_
                  exact hend σ68 _ _ _ _ hw h e_M_step_374
              · skip
                replace hw := hw.2 c60
                refine lv_aload_n hx hb e_M_step_170 rfl (lv_at hl 1 rfl) ?_
                refine lv_iload_n hx hb e_M_step_171 rfl (lv_at hl 4 rfl) ?_
                refine lv_iload hx hb e_M_step_172 (lv_at hl 0 rfl) ?_
                refine lv_iload hx hb e_M_step_174 (lv_at hl 5 rfl) ?_
                refine M_callv (As := [.int z3, .int s0, .int z4]) (rest := []) C h hA (K_M_runField l dC dI mo rf ca H.size σ58 z3 s0 z4 hw) (cwV 3 hts (gV hsub v_390 v_391 v_392 v_7 v_393) rfl rfl rfl (by decide +kernel) ⟨(Nat.le_of_ble_eq_true rfl), (Nat.le_of_ble_eq_true rfl)⟩) rfl hl.1 (Nat.le_of_ble_eq_true rfl) e_M_step_176 ⟨(Nat.le_of_ble_eq_true rfl), (Nat.le_of_ble_eq_true rfl)⟩ (fun σ70 H locs hw h => ?_)
                refine W.eq (g2 := F0 m 179 ls []) rfl ?_
                refine lv_goto (tgt := 374) hx hb e_M_step_179 (by decide) ?_
                exact hend σ70 _ _ _ _ hw h e_M_step_374
            · skip
              replace hw := hw.2 c57
              refine lv_aload_n hx hb e_M_step_149 rfl (lv_at hl 1 rfl) ?_
              refine lv_iload_n hx hb e_M_step_150 rfl (lv_at hl 4 rfl) ?_
              refine M_callv (As := [.int z3]) (rest := []) C h hA (K_M_runReturn l dC dI mo rf ca H.size σ55 z3 hw) (cwV 1 hts (gV hsub v_394 v_395 v_396 v_7 v_397) rfl rfl rfl (by decide +kernel) ⟨(Nat.le_of_ble_eq_true rfl), (Nat.le_of_ble_eq_true rfl)⟩) rfl hl.1 (Nat.le_of_ble_eq_true rfl) e_M_step_151 ⟨(Nat.le_of_ble_eq_true rfl), (Nat.le_of_ble_eq_true rfl)⟩ (fun σ72 H locs hw h => ?_)
              refine W.eq (g2 := F0 m 154 ls []) rfl ?_
              refine lv_goto (tgt := 374) hx hb e_M_step_154 (by decide) ?_
              exact hend σ72 _ _ _ _ hw h e_M_step_374
          · skip
            replace hw := hw.2 c54
            refine lv_aload_n hx hb e_M_step_124 rfl (lv_at hl 1 rfl) ?_
            refine lv_iload_n hx hb e_M_step_125 rfl (lv_at hl 4 rfl) ?_
            refine lv_iload_n hx hb e_M_step_126 rfl (lv_at hl 2 rfl) ?_
            refine lv_iload_n hx hb e_M_step_127 rfl (lv_at hl 3 rfl) ?_
            refine lv_iload hx hb e_M_step_128 (lv_at hl 5 rfl) ?_
            refine M_callv (As := [.int z3, .int z1, .int z2, .int z4]) (rest := []) C h hA (K_M_runBranch l dC dI mo rf ca H.size σ52 z3 z1 z2 z4 hw) (cwV 4 hts (gV hsub v_398 v_399 v_400 v_7 v_401) rfl rfl rfl (by decide +kernel) ⟨(Nat.le_of_ble_eq_true rfl), (Nat.le_of_ble_eq_true rfl)⟩) rfl hl.1 (Nat.le_of_ble_eq_true rfl) e_M_step_130 ⟨(Nat.le_of_ble_eq_true rfl), (Nat.le_of_ble_eq_true rfl)⟩ (fun σ74 H locs hw h => ?_)
            refine W.eq (g2 := F0 m 133 ls []) rfl ?_
            refine lv_goto (tgt := 374) hx hb e_M_step_133 (by decide) ?_
            exact hend σ74 _ _ _ _ hw h e_M_step_374
        · skip
          replace hw := hw.2 c51
          refine lv_aload_n hx hb e_M_step_105 rfl (lv_at hl 1 rfl) ?_
          refine lv_iload_n hx hb e_M_step_106 rfl (lv_at hl 4 rfl) ?_
          refine lv_iload_n hx hb e_M_step_107 rfl (lv_at hl 2 rfl) ?_
          refine lv_iload_n hx hb e_M_step_108 rfl (lv_at hl 3 rfl) ?_
          refine lv_iload hx hb e_M_step_109 (lv_at hl 5 rfl) ?_
          refine M_callv (As := [.int z3, .int z1, .int z2, .int z4]) (rest := []) C h hA (K_M_runReckon l dC dI mo rf ca H.size σ49 z3 z1 z2 z4 hw) (cwV 4 hts (gV hsub v_402 v_403 v_404 v_7 v_405) rfl rfl rfl (by decide +kernel) ⟨(Nat.le_of_ble_eq_true rfl), (Nat.le_of_ble_eq_true rfl)⟩) rfl hl.1 (Nat.le_of_ble_eq_true rfl) e_M_step_111 ⟨(Nat.le_of_ble_eq_true rfl), (Nat.le_of_ble_eq_true rfl)⟩ (fun σ76 H locs hw h => ?_)
          refine W.eq (g2 := F0 m 114 ls []) rfl ?_
          refine lv_goto (tgt := 374) hx hb e_M_step_114 (by decide) ?_
          exact hend σ76 _ _ _ _ hw h e_M_step_374
      · skip
        replace hw := hw.2 c48
        exact K_83 () z3 z4 σ46 _ _ _ hw h (lv_sub hl [1, 4, 5] rfl)
  have hl : lv_has ls 6 [(0, .ref mo)] := hl
  unfold w_M_step at hw
  refine lv_aload_n hx hb e_M_step_0 rfl (lv_at hl 0 rfl) ?_
  refine M_get C h 64 (v := .ref (rf 64)) rfl (by decide) v_331 e_M_step_1 ?_
  refine lv_aload_n hx hb e_M_step_4 rfl (lv_at hl 0 rfl) ?_
  refine M_get C h 63 (v := .int (σ.1 63)) rfl (by decide) v_309 e_M_step_5 ?_
  refine lv_iconst (v := 1) hx hb e_M_step_8 (by decide) ?_
  refine lv_isub hx hb e_M_step_9 ?_
  refine M_ald C h 64 (by decide) rfl hw.1 e_M_step_10 ?_
  replace hw := hw.2
  refine lv_topi (fun a78 e_a78 => ?_)
  replace hw := hw a78 e_a78
  refine lv_istore_n (lv' := [(1, .int a78), (0, .ref mo)]) hx hb e_M_step_11 rfl hl (by decide) rfl (fun ls hl => ?_)
  refine lv_aload_n hx hb e_M_step_12 rfl (lv_at hl 1 rfl) ?_
  refine M_get C h 65 (v := .ref (rf 65)) rfl (by decide) v_330 e_M_step_13 ?_
  refine lv_aload_n hx hb e_M_step_16 rfl (lv_at hl 1 rfl) ?_
  refine M_get C h 63 (v := .int (σ.1 63)) rfl (by decide) v_309 e_M_step_17 ?_
  refine lv_iconst (v := 1) hx hb e_M_step_20 (by decide) ?_
  refine lv_isub hx hb e_M_step_21 ?_
  refine M_ald C h 65 (by decide) rfl hw.1 e_M_step_22 ?_
  replace hw := hw.2
  refine lv_topi (fun a79 e_a79 => ?_)
  replace hw := hw a79 e_a79
  refine lv_istore_n (lv' := [(2, .int a79), (1, .int a78), (0, .ref mo)]) hx hb e_M_step_23 rfl hl (by decide) rfl (fun ls hl => ?_)
  refine lv_aload_n hx hb e_M_step_24 rfl (lv_at hl 2 rfl) ?_
  refine lv_iload_n hx hb e_M_step_25 rfl (lv_at hl 1 rfl) ?_
  refine lv_iload_n hx hb e_M_step_26 rfl (lv_at hl 0 rfl) ?_
  refine M_calli (As := [.int a78, .int a79]) (rest := []) C h hA (K_M_at l dC dI mo rf ca s.heap.size σ a78 a79 hw) (cwV 2 hts (gV hsub v_69 v_70 v_71 v_7 v_72) rfl rfl rfl (by decide +kernel) ⟨(Nat.le_of_ble_eq_true rfl), (Nat.le_of_ble_eq_true rfl)⟩) rfl hl.1 (Nat.le_of_ble_eq_true rfl) e_M_step_27 ⟨(Nat.le_of_ble_eq_true rfl), (Nat.le_of_ble_eq_true rfl)⟩ (fun r81 σ80 H locs hw h => ?_)
  refine W.eq (g2 := F0 m 30 ls [.int r81]) rfl ?_
  refine lv_istore_n (lv' := [(3, .int r81), (2, .int a79), (1, .int a78), (0, .ref mo)]) hx hb e_M_step_30 rfl hl (by decide) rfl (fun ls hl => ?_)
  refine lv_iload_n hx hb e_M_step_31 rfl (lv_at hl 1 rfl) ?_
  refine lv_iload_n hx hb e_M_step_32 rfl (lv_at hl 0 rfl) ?_
  refine M_scalli (As := [.int r81]) (rest := [.int a79]) C h hA (K_M_length l dC dI mo rf ca H.size σ80 r81 hw) (va_cwS 1 hts (gS hsub v_75 v_76 v_7 v_77) rfl rfl rfl (by decide +kernel) ⟨(Nat.le_of_ble_eq_true rfl), (Nat.le_of_ble_eq_true rfl)⟩) rfl hl.1 (Nat.le_of_ble_eq_true rfl) e_M_step_33 ⟨(Nat.le_of_ble_eq_true rfl), (Nat.le_of_ble_eq_true rfl)⟩ (fun r83 σ82 H locs hw h => ?_)
  refine W.eq (g2 := F0 m 36 ls [.int r83, .int a79]) rfl ?_
  refine lv_iadd hx hb e_M_step_36 ?_
  refine lv_istore (lv' := [(4, .int (a79 + r83)), (3, .int r81), (2, .int a79), (1, .int a78), (0, .ref mo)]) hx hb e_M_step_37 hl (by decide) rfl (fun ls hl => ?_)
  refine lv_iload_n hx hb e_M_step_39 rfl (lv_at hl 1 rfl) ?_
  refine M_scalli (As := [.int r81]) (rest := []) C h hA (K_M_length l dC dI mo rf ca H.size σ82 r81 hw) (va_cwS 1 hts (gS hsub v_75 v_76 v_7 v_77) rfl rfl rfl (by decide +kernel) ⟨(Nat.le_of_ble_eq_true rfl), (Nat.le_of_ble_eq_true rfl)⟩) rfl hl.1 (Nat.le_of_ble_eq_true rfl) e_M_step_40 ⟨(Nat.le_of_ble_eq_true rfl), (Nat.le_of_ble_eq_true rfl)⟩ (fun r85 σ84 H locs hw h => ?_)
  refine W.eq (g2 := F0 m 43 ls [.int r85]) rfl ?_
  refine lv_iconst (v := 1) hx hb e_M_step_43 (by decide) ?_
  refine lv_icmp_le (tgt := 58) hx hb e_M_step_44 (by decide) (fun c86 => ?_) (fun c86 => ?_)
  · skip
    replace hw := hw.1 c86
    refine lv_iconst (v := 0) hx hb e_M_step_58 (by decide) ?_
    exact K_59 () a78 a79 r81 (a79 + r83) 0 σ84 _ _ _ hw h (lv_sub hl [4, 3, 2, 1, 0] rfl)
  · skip
    replace hw := hw.2 c86
    refine lv_aload_n hx hb e_M_step_47 rfl (lv_at hl 4 rfl) ?_
    refine lv_iload_n hx hb e_M_step_48 rfl (lv_at hl 3 rfl) ?_
    refine lv_iload_n hx hb e_M_step_49 rfl (lv_at hl 2 rfl) ?_
    refine lv_iconst (v := 1) hx hb e_M_step_50 (by decide) ?_
    refine lv_iadd hx hb e_M_step_51 ?_
    refine M_calli (As := [.int a78, .int (a79 + 1)]) (rest := []) C h hA (K_M_at l dC dI mo rf ca H.size σ84 a78 (a79 + 1) hw) (cwV 2 hts (gV hsub v_69 v_70 v_71 v_7 v_72) rfl rfl rfl (by decide +kernel) ⟨(Nat.le_of_ble_eq_true rfl), (Nat.le_of_ble_eq_true rfl)⟩) rfl hl.1 (Nat.le_of_ble_eq_true rfl) e_M_step_52 ⟨(Nat.le_of_ble_eq_true rfl), (Nat.le_of_ble_eq_true rfl)⟩ (fun r88 σ87 H locs hw h => ?_)
    refine W.eq (g2 := F0 m 55 ls [.int r88]) rfl ?_
    refine lv_goto (tgt := 59) hx hb e_M_step_55 (by decide) ?_
    exact K_59 () a78 a79 r81 (a79 + r83) r88 σ87 _ _ _ hw h (lv_sub hl [4, 3, 2, 1, 0] rfl)
abbrev z_M_isReady : MethodName := ⟨"MapFramerModel", "isReady", "(I)Z"⟩
theorem e_M_isReady_0 : decode prog_14_method_102_code 0 = .ok (.iconst 1, 1) := by decide +kernel
theorem e_M_isReady_1 : decode prog_14_method_102_code 1 = .ok (.iload_n 1, 1) := by decide +kernel
theorem e_M_isReady_2 : decode prog_14_method_102_code 2 = .ok (.ishl, 1) := by decide +kernel
theorem e_M_isReady_3 : decode prog_14_method_102_code 3 = .ok (.istore_n 2, 1) := by decide +kernel
theorem e_M_isReady_4 : decode prog_14_method_102_code 4 = .ok (.iconst 1, 1) := by decide +kernel
theorem e_M_isReady_5 : decode prog_14_method_102_code 5 = .ok (.istore_n 3, 1) := by decide +kernel
theorem e_M_isReady_6 : decode prog_14_method_102_code 6 = .ok (.iconst 0, 1) := by decide +kernel
theorem e_M_isReady_7 : decode prog_14_method_102_code 7 = .ok (.istore 4, 2) := by decide +kernel
theorem e_M_isReady_9 : decode prog_14_method_102_code 9 = .ok (.iload 4, 2) := by decide +kernel
theorem e_M_isReady_11 : decode prog_14_method_102_code 11 = .ok (.bipush 8, 2) := by decide +kernel
theorem e_M_isReady_13 : decode prog_14_method_102_code 13 = .ok (.if_icmp .ge 155, 3) := by decide +kernel
theorem e_M_isReady_16 : decode prog_14_method_102_code 16 = .ok (.iconst 0, 1) := by decide +kernel
theorem e_M_isReady_17 : decode prog_14_method_102_code 17 = .ok (.istore 5, 2) := by decide +kernel
theorem e_M_isReady_19 : decode prog_14_method_102_code 19 = .ok (.iload 5, 2) := by decide +kernel
theorem e_M_isReady_21 : decode prog_14_method_102_code 21 = .ok (.aload_n 0, 1) := by decide +kernel
theorem e_M_isReady_22 : decode prog_14_method_102_code 22 = .ok (.getfield 206, 3) := by decide +kernel
theorem e_M_isReady_25 : decode prog_14_method_102_code 25 = .ok (.if_icmp .ge 137, 3) := by decide +kernel
theorem e_M_isReady_28 : decode prog_14_method_102_code 28 = .ok (.iload_n 2, 1) := by decide +kernel
theorem e_M_isReady_29 : decode prog_14_method_102_code 29 = .ok (.iload 5, 2) := by decide +kernel
theorem e_M_isReady_31 : decode prog_14_method_102_code 31 = .ok (.ishr, 1) := by decide +kernel
theorem e_M_isReady_32 : decode prog_14_method_102_code 32 = .ok (.iconst 1, 1) := by decide +kernel
theorem e_M_isReady_33 : decode prog_14_method_102_code 33 = .ok (.iand, 1) := by decide +kernel
theorem e_M_isReady_34 : decode prog_14_method_102_code 34 = .ok (.iconst 1, 1) := by decide +kernel
theorem e_M_isReady_35 : decode prog_14_method_102_code 35 = .ok (.if_icmp .ne 7, 3) := by decide +kernel
theorem e_M_isReady_38 : decode prog_14_method_102_code 38 = .ok (.iconst 1, 1) := by decide +kernel
theorem e_M_isReady_39 : decode prog_14_method_102_code 39 = .ok (.goto 4, 3) := by decide +kernel
theorem e_M_isReady_42 : decode prog_14_method_102_code 42 = .ok (.iconst 0, 1) := by decide +kernel
theorem e_M_isReady_43 : decode prog_14_method_102_code 43 = .ok (.istore 6, 2) := by decide +kernel
theorem e_M_isReady_45 : decode prog_14_method_102_code 45 = .ok (.iload_n 3, 1) := by decide +kernel
theorem e_M_isReady_46 : decode prog_14_method_102_code 46 = .ok (.ifCond .eq 32, 3) := by decide +kernel
theorem e_M_isReady_49 : decode prog_14_method_102_code 49 = .ok (.iload 6, 2) := by decide +kernel
theorem e_M_isReady_51 : decode prog_14_method_102_code 51 = .ok (.ifCond .eq 23, 3) := by decide +kernel
theorem e_M_isReady_54 : decode prog_14_method_102_code 54 = .ok (.aload_n 0, 1) := by decide +kernel
theorem e_M_isReady_55 : decode prog_14_method_102_code 55 = .ok (.getfield 66, 3) := by decide +kernel
theorem e_M_isReady_58 : decode prog_14_method_102_code 58 = .ok (.iload 5, 2) := by decide +kernel
theorem e_M_isReady_60 : decode prog_14_method_102_code 60 = .ok (.baload, 1) := by decide +kernel
theorem e_M_isReady_61 : decode prog_14_method_102_code 61 = .ok (.ifCond .eq 17, 3) := by decide +kernel
theorem e_M_isReady_64 : decode prog_14_method_102_code 64 = .ok (.aload_n 0, 1) := by decide +kernel
theorem e_M_isReady_65 : decode prog_14_method_102_code 65 = .ok (.getfield 69, 3) := by decide +kernel
theorem e_M_isReady_68 : decode prog_14_method_102_code 68 = .ok (.iload 5, 2) := by decide +kernel
theorem e_M_isReady_70 : decode prog_14_method_102_code 70 = .ok (.iaload, 1) := by decide +kernel
theorem e_M_isReady_71 : decode prog_14_method_102_code 71 = .ok (.ifCond .ne 7, 3) := by decide +kernel
theorem e_M_isReady_74 : decode prog_14_method_102_code 74 = .ok (.iconst 1, 1) := by decide +kernel
theorem e_M_isReady_75 : decode prog_14_method_102_code 75 = .ok (.goto 4, 3) := by decide +kernel
theorem e_M_isReady_78 : decode prog_14_method_102_code 78 = .ok (.iconst 0, 1) := by decide +kernel
theorem e_M_isReady_79 : decode prog_14_method_102_code 79 = .ok (.istore_n 3, 1) := by decide +kernel
theorem e_M_isReady_80 : decode prog_14_method_102_code 80 = .ok (.iconst 0, 1) := by decide +kernel
theorem e_M_isReady_81 : decode prog_14_method_102_code 81 = .ok (.istore 7, 2) := by decide +kernel
theorem e_M_isReady_83 : decode prog_14_method_102_code 83 = .ok (.iload 7, 2) := by decide +kernel
theorem e_M_isReady_85 : decode prog_14_method_102_code 85 = .ok (.aload_n 0, 1) := by decide +kernel
theorem e_M_isReady_86 : decode prog_14_method_102_code 86 = .ok (.getfield 39, 3) := by decide +kernel
theorem e_M_isReady_89 : decode prog_14_method_102_code 89 = .ok (.iload 5, 2) := by decide +kernel
theorem e_M_isReady_91 : decode prog_14_method_102_code 91 = .ok (.iaload, 1) := by decide +kernel
theorem e_M_isReady_92 : decode prog_14_method_102_code 92 = .ok (.if_icmp .ge 64, 3) := by decide +kernel
theorem e_M_isReady_95 : decode prog_14_method_102_code 95 = .ok (.iload 6, 2) := by decide +kernel
theorem e_M_isReady_97 : decode prog_14_method_102_code 97 = .ok (.ifCond .eq 59, 3) := by decide +kernel
theorem e_M_isReady_100 : decode prog_14_method_102_code 100 = .ok (.iload_n 3, 1) := by decide +kernel
theorem e_M_isReady_101 : decode prog_14_method_102_code 101 = .ok (.ifCond .eq 55, 3) := by decide +kernel
theorem e_M_isReady_104 : decode prog_14_method_102_code 104 = .ok (.iload_n 2, 1) := by decide +kernel
theorem e_M_isReady_105 : decode prog_14_method_102_code 105 = .ok (.aload_n 0, 1) := by decide +kernel
theorem e_M_isReady_106 : decode prog_14_method_102_code 106 = .ok (.iload 5, 2) := by decide +kernel
theorem e_M_isReady_108 : decode prog_14_method_102_code 108 = .ok (.iload 7, 2) := by decide +kernel
theorem e_M_isReady_110 : decode prog_14_method_102_code 110 = .ok (.invokevirtual 222, 3) := by decide +kernel
theorem e_M_isReady_113 : decode prog_14_method_102_code 113 = .ok (.sipush 184, 3) := by decide +kernel
theorem e_M_isReady_116 : decode prog_14_method_102_code 116 = .ok (.if_icmp .ne 18, 3) := by decide +kernel
theorem e_M_isReady_119 : decode prog_14_method_102_code 119 = .ok (.iconst 1, 1) := by decide +kernel
theorem e_M_isReady_120 : decode prog_14_method_102_code 120 = .ok (.aload_n 0, 1) := by decide +kernel
theorem e_M_isReady_121 : decode prog_14_method_102_code 121 = .ok (.iload 5, 2) := by decide +kernel
theorem e_M_isReady_123 : decode prog_14_method_102_code 123 = .ok (.iload 7, 2) := by decide +kernel
theorem e_M_isReady_125 : decode prog_14_method_102_code 125 = .ok (.iconst 1, 1) := by decide +kernel
theorem e_M_isReady_126 : decode prog_14_method_102_code 126 = .ok (.iadd, 1) := by decide +kernel
theorem e_M_isReady_127 : decode prog_14_method_102_code 127 = .ok (.invokevirtual 222, 3) := by decide +kernel
theorem e_M_isReady_130 : decode prog_14_method_102_code 130 = .ok (.ishl, 1) := by decide +kernel
theorem e_M_isReady_131 : decode prog_14_method_102_code 131 = .ok (.goto 4, 3) := by decide +kernel
theorem e_M_isReady_134 : decode prog_14_method_102_code 134 = .ok (.iconst 0, 1) := by decide +kernel
theorem e_M_isReady_135 : decode prog_14_method_102_code 135 = .ok (.ior, 1) := by decide +kernel
theorem e_M_isReady_136 : decode prog_14_method_102_code 136 = .ok (.istore_n 2, 1) := by decide +kernel
theorem e_M_isReady_137 : decode prog_14_method_102_code 137 = .ok (.iload 7, 2) := by decide +kernel
theorem e_M_isReady_139 : decode prog_14_method_102_code 139 = .ok (.aload_n 0, 1) := by decide +kernel
theorem e_M_isReady_140 : decode prog_14_method_102_code 140 = .ok (.iload 5, 2) := by decide +kernel
theorem e_M_isReady_142 : decode prog_14_method_102_code 142 = .ok (.iload 7, 2) := by decide +kernel
theorem e_M_isReady_144 : decode prog_14_method_102_code 144 = .ok (.invokevirtual 222, 3) := by decide +kernel
theorem e_M_isReady_147 : decode prog_14_method_102_code 147 = .ok (.invokestatic 231, 3) := by decide +kernel
theorem e_M_isReady_150 : decode prog_14_method_102_code 150 = .ok (.iadd, 1) := by decide +kernel
theorem e_M_isReady_151 : decode prog_14_method_102_code 151 = .ok (.istore 7, 2) := by decide +kernel
theorem e_M_isReady_153 : decode prog_14_method_102_code 153 = .ok (.goto (-70), 3) := by decide +kernel
theorem e_M_isReady_156 : decode prog_14_method_102_code 156 = .ok (.iinc 5 1, 3) := by decide +kernel
theorem e_M_isReady_159 : decode prog_14_method_102_code 159 = .ok (.goto (-140), 3) := by decide +kernel
theorem e_M_isReady_162 : decode prog_14_method_102_code 162 = .ok (.iinc 4 1, 3) := by decide +kernel
theorem e_M_isReady_165 : decode prog_14_method_102_code 165 = .ok (.goto (-156), 3) := by decide +kernel
theorem e_M_isReady_168 : decode prog_14_method_102_code 168 = .ok (.iload_n 3, 1) := by decide +kernel
theorem e_M_isReady_169 : decode prog_14_method_102_code 169 = .ok (.ireturn, 1) := by decide +kernel
def w_M_isReady_156 (K19 : Int32 → Int32 → Int32 → Int32 → MST → Prop) (P : Int32 → MST → Prop) (z2 : Int32) (z3 : Int32) (z4 : Int32) (z5 : Int32) (σ : MST) : Prop := K19 z2 z3 z4 (z5 + 1) σ
def w_M_isReady_135 (K83 : Int32 → Int32 → Int32 → Int32 → Int32 → Int32 → MST → Prop) (P : Int32 → MST → Prop) (z3 : Int32) (z4 : Int32) (z5 : Int32) (z6 : Int32) (z7 : Int32) (s0 : Int32) (s1 : Int32) (σ : MST) : Prop := ∀ a1 : Int32, a1 = (s1 ||| s0) → w_M_at z5 z7 σ (fun r3 σ2 => w_M_length r3 σ2 (fun r5 σ4 => K83 a1 z3 z4 z5 z6 (z7 + r5) σ4))
def w_M_isReady_83 (K19 : Int32 → Int32 → Int32 → Int32 → MST → Prop) (P : Int32 → MST → Prop) : Nat → Int32 → Int32 → Int32 → Int32 → Int32 → Int32 → MST → Prop
  | 0, _, _, _, _, _, _, _ => False
  | n + 1, z2, z3, z4, z5, z6, z7, σ => vp_in z5 8 ∧ (∀ a6 : Int32, a6 = (σ.2.1 12 (z5 : Int32).toNatClampNeg) → ((a6 ≤ z7 → w_M_isReady_156 K19 P z2 z3 z4 z5 σ) ∧ (¬ a6 ≤ z7 → ((z6 = 0 → w_M_isReady_156 K19 P z2 z3 z4 z5 σ) ∧ (¬ z6 = 0 → ((z3 = 0 → w_M_isReady_156 K19 P z2 z3 z4 z5 σ) ∧ (¬ z3 = 0 → w_M_at z5 z7 σ (fun r11 σ10 => ((r11 = 184 → w_M_at z5 (z7 + 1) σ10 (fun r14 σ13 => ∀ a15 : Int32, a15 = ((1 : Int32) <<< ((r14 : Int32) &&& 31)) → w_M_isReady_135 (w_M_isReady_83 K19 P n) P z3 z4 z5 z6 z7 a15 z2 σ13)) ∧ (¬ r11 = 184 → w_M_isReady_135 (w_M_isReady_83 K19 P n) P z3 z4 z5 z6 z7 0 z2 σ10))))))))))
def w_M_isReady_79 (K19 : Int32 → Int32 → Int32 → Int32 → MST → Prop) (P : Int32 → MST → Prop) (z2 : Int32) (z4 : Int32) (z5 : Int32) (z6 : Int32) (s0 : Int32) (σ : MST) : Prop := (∃ n9 : Nat, w_M_isReady_83 K19 P n9 z2 s0 z4 z5 z6 0 σ)
def w_M_isReady_78 (K19 : Int32 → Int32 → Int32 → Int32 → MST → Prop) (P : Int32 → MST → Prop) (z2 : Int32) (z4 : Int32) (z5 : Int32) (z6 : Int32) (σ : MST) : Prop := w_M_isReady_79 K19 P z2 z4 z5 z6 0 σ
def w_M_isReady_74 (K19 : Int32 → Int32 → Int32 → Int32 → MST → Prop) (P : Int32 → MST → Prop) (z2 : Int32) (z4 : Int32) (z5 : Int32) (z6 : Int32) (σ : MST) : Prop := w_M_isReady_79 K19 P z2 z4 z5 z6 1 σ
def w_M_isReady_43 (K19 : Int32 → Int32 → Int32 → Int32 → MST → Prop) (P : Int32 → MST → Prop) (z2 : Int32) (z3 : Int32) (z4 : Int32) (z5 : Int32) (s0 : Int32) (σ : MST) : Prop := ((z3 = 0 → w_M_isReady_78 K19 P z2 z4 z5 s0 σ) ∧ (¬ z3 = 0 → ((s0 = 0 → w_M_isReady_74 K19 P z2 z4 z5 s0 σ) ∧ (¬ s0 = 0 → vp_in z5 8 ∧ (∀ a18 : Int32, a18 = (σ.2.1 21 (z5 : Int32).toNatClampNeg) → ((a18 = 0 → w_M_isReady_78 K19 P z2 z4 z5 s0 σ) ∧ (¬ a18 = 0 → vp_in z5 8 ∧ (∀ a20 : Int32, a20 = (σ.2.1 22 (z5 : Int32).toNatClampNeg) → ((a20 = 0 → w_M_isReady_74 K19 P z2 z4 z5 s0 σ) ∧ (¬ a20 = 0 → w_M_isReady_78 K19 P z2 z4 z5 s0 σ))))))))))
def w_M_isReady_19 (K9 : Int32 → Int32 → Int32 → MST → Prop) (P : Int32 → MST → Prop) : Nat → Int32 → Int32 → Int32 → Int32 → MST → Prop
  | 0, _, _, _, _, _ => False
  | n + 1, z2, z3, z4, z5, σ => (((σ.1 8) ≤ z5 → K9 z2 z3 (z4 + 1) σ) ∧ (¬ (σ.1 8) ≤ z5 → ∀ a23 : Int32, a23 = (z2 >>> ((z5 : Int32) &&& 31)) → ∀ a24 : Int32, a24 = (a23 &&& 1) → ((a24 = 1 → w_M_isReady_43 (w_M_isReady_19 K9 P n) P z2 z3 z4 z5 1 σ) ∧ (¬ a24 = 1 → w_M_isReady_43 (w_M_isReady_19 K9 P n) P z2 z3 z4 z5 0 σ))))
def w_M_isReady_9 (P : Int32 → MST → Prop) : Nat → Int32 → Int32 → Int32 → MST → Prop
  | 0, _, _, _, _ => False
  | n + 1, z2, z3, z4, σ => ((8 ≤ z4 → (narrow .boolean (.int z3) = .int z3 ∧ P z3 σ)) ∧ (¬ 8 ≤ z4 → (∃ n9 : Nat, w_M_isReady_19 (w_M_isReady_9 P n) P n9 z2 z3 z4 0 σ)))
def w_M_isReady (x1 : Int32) (σ : MST) (P : Int32 → MST → Prop) : Prop := ∀ a27 : Int32, a27 = ((1 : Int32) <<< ((x1 : Int32) &&& 31)) → (∃ n9 : Nat, w_M_isReady_9 P n9 a27 1 0 σ)
set_option maxHeartbeats 4000000 in
set_option maxRecDepth 100000 in
theorem K_M_isReady (l : Launch) (dC : Nat → ClassId) (dI : Nat → Nat → Nat) (mo : Nat) (rf : Nat → Nat) (ca : Nat → ClassId) (sz : Nat) (σ : MST) (x1 : Int32) {P : Int32 → MST → Prop} (hw : w_M_isReady x1 σ P) : Met l z_M_isReady (mW z_M_isReady prog_14_method_102_code 8 (some .boolean)) ({ frames := 2, cells := 0, slots := 0, locals := 43 } : Room) (va_Pc [.ref mo, .int x1] (MPre (dC, dI) mo rf ca σ sz)) (va_Qi P (MB (dC, dI) mo rf ca sz) (mA mo rf sz)) 0 0 (mA mo rf sz) := by
  refine M_ofz (by decide) rfl (Nat.le_of_ble_eq_true rfl) ?_
  intro p e s m below meth cx Q A ls C hA hend h hl
  have C0 := C
  obtain ⟨⟨hx, hb, hml, hown, hts⟩, hsub⟩ := C0
  have K_156 : ∀ (K19 : Int32 → Int32 → Int32 → Int32 → MST → Prop) (hK19 : ∀ (z2 : Int32) (z3 : Int32) (z4 : Int32) (z5 : Int32) (σ : MST) (H : Heap) (locs : List Loc) (ls : Array Slot), K19 z2 z3 z4 z5 σ → MH (dC, dI) A mo rf ca σ s H locs → lv_has ls 8 [(0, .ref mo), (2, .int z2), (3, .int z3), (4, .int z4), (5, .int z5)] → W p l e ({ frames := 2, cells := 0, slots := 0, locals := 43 } : Room) s m ([.ref mo, .int x1] : List Value).toArray below meth cx H locs 0 0 Q (F0 m 19 ls [])), ∀ (z2 : Int32) (z3 : Int32) (z4 : Int32) (z5 : Int32) (σ : MST) (H : Heap) (locs : List Loc) (ls : Array Slot), w_M_isReady_156 K19 P z2 z3 z4 z5 σ → MH (dC, dI) A mo rf ca σ s H locs → lv_has ls 8 [(0, .ref mo), (2, .int z2), (3, .int z3), (4, .int z4), (5, .int z5)] → W p l e ({ frames := 2, cells := 0, slots := 0, locals := 43 } : Room) s m ([.ref mo, .int x1] : List Value).toArray below meth cx H locs 0 0 Q (F0 m 156 ls []) := by
    intro K19 hK19 z2 z3 z4 z5 σ H locs ls hw h hl
    unfold w_M_isReady_156 at hw
    refine lv_iinc (v := (z5 + 1)) (lv' := [(5, .int (z5 + 1)), (0, .ref mo), (2, .int z2), (3, .int z3), (4, .int z4)]) hx hb e_M_isReady_156 hl (k := 4) rfl (rfl) (by decide) rfl (fun ls hl => ?_)
    refine lv_goto (tgt := 19) hx hb e_M_isReady_159 (by decide) ?_
    exact hK19 z2 z3 z4 (z5 + 1) σ _ _ _ hw h (lv_sub hl [1, 2, 3, 4, 0] rfl)
  have K_135 : ∀ (K83 : Int32 → Int32 → Int32 → Int32 → Int32 → Int32 → MST → Prop) (hK83 : ∀ (z2 : Int32) (z3 : Int32) (z4 : Int32) (z5 : Int32) (z6 : Int32) (z7 : Int32) (σ : MST) (H : Heap) (locs : List Loc) (ls : Array Slot), K83 z2 z3 z4 z5 z6 z7 σ → MH (dC, dI) A mo rf ca σ s H locs → lv_has ls 8 [(0, .ref mo), (2, .int z2), (3, .int z3), (4, .int z4), (5, .int z5), (6, .int z6), (7, .int z7)] → W p l e ({ frames := 2, cells := 0, slots := 0, locals := 43 } : Room) s m ([.ref mo, .int x1] : List Value).toArray below meth cx H locs 0 0 Q (F0 m 83 ls [])), ∀ (z3 : Int32) (z4 : Int32) (z5 : Int32) (z6 : Int32) (z7 : Int32) (s0 : Int32) (s1 : Int32) (σ : MST) (H : Heap) (locs : List Loc) (ls : Array Slot), w_M_isReady_135 K83 P z3 z4 z5 z6 z7 s0 s1 σ → MH (dC, dI) A mo rf ca σ s H locs → lv_has ls 8 [(0, .ref mo), (3, .int z3), (4, .int z4), (5, .int z5), (6, .int z6), (7, .int z7)] → W p l e ({ frames := 2, cells := 0, slots := 0, locals := 43 } : Room) s m ([.ref mo, .int x1] : List Value).toArray below meth cx H locs 0 0 Q (F0 m 135 ls [.int s0, .int s1]) := by
    intro K83 hK83 z3 z4 z5 z6 z7 s0 s1 σ H locs ls hw h hl
    unfold w_M_isReady_135 at hw
    refine lv_ior hx hb e_M_isReady_135 ?_
    refine lv_topi (fun a1 e_a1 => ?_)
    replace hw := hw a1 e_a1
    refine lv_istore_n (lv' := [(2, .int a1), (0, .ref mo), (3, .int z3), (4, .int z4), (5, .int z5), (6, .int z6), (7, .int z7)]) hx hb e_M_isReady_136 rfl hl (by decide) rfl (fun ls hl => ?_)
    refine lv_iload hx hb e_M_isReady_137 (lv_at hl 6 rfl) ?_
    refine lv_aload_n hx hb e_M_isReady_139 rfl (lv_at hl 1 rfl) ?_
    refine lv_iload hx hb e_M_isReady_140 (lv_at hl 4 rfl) ?_
    refine lv_iload hx hb e_M_isReady_142 (lv_at hl 6 rfl) ?_
    refine M_calli (As := [.int z5, .int z7]) (rest := [.int z7]) C h hA (K_M_at l dC dI mo rf ca H.size σ z5 z7 hw) (cwV 2 hts (gV hsub v_69 v_70 v_71 v_7 v_72) rfl rfl rfl (by decide +kernel) ⟨(Nat.le_of_ble_eq_true rfl), (Nat.le_of_ble_eq_true rfl)⟩) rfl hl.1 (Nat.le_of_ble_eq_true rfl) e_M_isReady_144 ⟨(Nat.le_of_ble_eq_true rfl), (Nat.le_of_ble_eq_true rfl)⟩ (fun r3 σ2 H locs hw h => ?_)
    refine W.eq (g2 := F0 m 147 ls [.int r3, .int z7]) rfl ?_
    refine M_scalli (As := [.int r3]) (rest := [.int z7]) C h hA (K_M_length l dC dI mo rf ca H.size σ2 r3 hw) (va_cwS 1 hts (gS hsub v_75 v_76 v_7 v_77) rfl rfl rfl (by decide +kernel) ⟨(Nat.le_of_ble_eq_true rfl), (Nat.le_of_ble_eq_true rfl)⟩) rfl hl.1 (Nat.le_of_ble_eq_true rfl) e_M_isReady_147 ⟨(Nat.le_of_ble_eq_true rfl), (Nat.le_of_ble_eq_true rfl)⟩ (fun r5 σ4 H locs hw h => ?_)
    refine W.eq (g2 := F0 m 150 ls [.int r5, .int z7]) rfl ?_
    refine lv_iadd hx hb e_M_isReady_150 ?_
    refine lv_istore (lv' := [(7, .int (z7 + r5)), (2, .int a1), (0, .ref mo), (3, .int z3), (4, .int z4), (5, .int z5), (6, .int z6)]) hx hb e_M_isReady_151 hl (by decide) rfl (fun ls hl => ?_)
    refine lv_goto (tgt := 83) hx hb e_M_isReady_153 (by decide) ?_
    exact hK83 a1 z3 z4 z5 z6 (z7 + r5) σ4 _ _ _ hw h (lv_sub hl [2, 1, 3, 4, 5, 6, 0] rfl)
  have K_83 : ∀ (K19 : Int32 → Int32 → Int32 → Int32 → MST → Prop) (hK19 : ∀ (z2 : Int32) (z3 : Int32) (z4 : Int32) (z5 : Int32) (σ : MST) (H : Heap) (locs : List Loc) (ls : Array Slot), K19 z2 z3 z4 z5 σ → MH (dC, dI) A mo rf ca σ s H locs → lv_has ls 8 [(0, .ref mo), (2, .int z2), (3, .int z3), (4, .int z4), (5, .int z5)] → W p l e ({ frames := 2, cells := 0, slots := 0, locals := 43 } : Room) s m ([.ref mo, .int x1] : List Value).toArray below meth cx H locs 0 0 Q (F0 m 19 ls [])) (n : Nat), ∀ (z2 : Int32) (z3 : Int32) (z4 : Int32) (z5 : Int32) (z6 : Int32) (z7 : Int32) (σ : MST) (H : Heap) (locs : List Loc) (ls : Array Slot), w_M_isReady_83 K19 P n z2 z3 z4 z5 z6 z7 σ → MH (dC, dI) A mo rf ca σ s H locs → lv_has ls 8 [(0, .ref mo), (2, .int z2), (3, .int z3), (4, .int z4), (5, .int z5), (6, .int z6), (7, .int z7)] → W p l e ({ frames := 2, cells := 0, slots := 0, locals := 43 } : Room) s m ([.ref mo, .int x1] : List Value).toArray below meth cx H locs 0 0 Q (F0 m 83 ls []) := by
    intro K19 hK19 n
    induction n with
    | zero => intro z2 z3 z4 z5 z6 z7 σ H locs ls hw h hl; unfold w_M_isReady_83 at hw; exact hw.elim
    | succ n ih =>
      intro z2 z3 z4 z5 z6 z7 σ H locs ls hw h hl
      unfold w_M_isReady_83 at hw
      refine lv_iload hx hb e_M_isReady_83 (lv_at hl 6 rfl) ?_
      refine lv_aload_n hx hb e_M_isReady_85 rfl (lv_at hl 0 rfl) ?_
      refine M_get C h 12 (v := .ref (rf 12)) rfl (by decide) v_51 e_M_isReady_86 ?_
      refine lv_iload hx hb e_M_isReady_89 (lv_at hl 4 rfl) ?_
      refine M_ald C h 12 (by decide) rfl hw.1 e_M_isReady_91 ?_
      replace hw := hw.2
      refine lv_topi (fun a6 e_a6 => ?_)
      replace hw := hw a6 e_a6
      refine lv_icmp_ge (tgt := 156) hx hb e_M_isReady_92 (by decide) (fun c7 => ?_) (fun c7 => ?_)
      · skip
        replace hw := hw.1 c7
        exact K_156 _ hK19 z2 z3 z4 z5 σ _ _ _ hw h (lv_sub hl [0, 1, 2, 3, 4] rfl)
      · skip
        replace hw := hw.2 c7
        refine lv_iload hx hb e_M_isReady_95 (lv_at hl 5 rfl) ?_
        refine lv_if_eq (tgt := 156) hx hb e_M_isReady_97 (by decide) (fun c8 => ?_) (fun c8 => ?_)
        · skip
          replace hw := hw.1 c8
          exact K_156 _ hK19 z2 z3 z4 z5 σ _ _ _ hw h (lv_sub hl [0, 1, 2, 3, 4] rfl)
        · skip
          replace hw := hw.2 c8
          refine lv_iload_n hx hb e_M_isReady_100 rfl (lv_at hl 2 rfl) ?_
          refine lv_if_eq (tgt := 156) hx hb e_M_isReady_101 (by decide) (fun c9 => ?_) (fun c9 => ?_)
          · skip
            replace hw := hw.1 c9
            exact K_156 _ hK19 z2 z3 z4 z5 σ _ _ _ hw h (lv_sub hl [0, 1, 2, 3, 4] rfl)
          · skip
            replace hw := hw.2 c9
            refine lv_iload_n hx hb e_M_isReady_104 rfl (lv_at hl 1 rfl) ?_
            refine lv_aload_n hx hb e_M_isReady_105 rfl (lv_at hl 0 rfl) ?_
            refine lv_iload hx hb e_M_isReady_106 (lv_at hl 4 rfl) ?_
            refine lv_iload hx hb e_M_isReady_108 (lv_at hl 6 rfl) ?_
            refine M_calli (As := [.int z5, .int z7]) (rest := [.int z2]) C h hA (K_M_at l dC dI mo rf ca H.size σ z5 z7 hw) (cwV 2 hts (gV hsub v_69 v_70 v_71 v_7 v_72) rfl rfl rfl (by decide +kernel) ⟨(Nat.le_of_ble_eq_true rfl), (Nat.le_of_ble_eq_true rfl)⟩) rfl hl.1 (Nat.le_of_ble_eq_true rfl) e_M_isReady_110 ⟨(Nat.le_of_ble_eq_true rfl), (Nat.le_of_ble_eq_true rfl)⟩ (fun r11 σ10 H locs hw h => ?_)
            refine W.eq (g2 := F0 m 113 ls [.int r11, .int z2]) rfl ?_
            refine lv_sipush (v := 184) hx hb e_M_isReady_113 (by decide) ?_
            refine lv_icmp_ne (tgt := 134) hx hb e_M_isReady_116 (by decide) (fun c12 => ?_) (fun c12 => ?_)
            · skip
              replace hw := hw.2 c12
              refine lv_iconst (v := 0) hx hb e_M_isReady_134 (by decide) ?_
              exact K_135 _ ih z3 z4 z5 z6 z7 0 z2 σ10 _ _ _ hw h (lv_sub hl [0, 2, 3, 4, 5, 6] rfl)
            · skip
              replace hw := hw.1 c12
              refine lv_iconst (v := 1) hx hb e_M_isReady_119 (by decide) ?_
              refine lv_aload_n hx hb e_M_isReady_120 rfl (lv_at hl 0 rfl) ?_
              refine lv_iload hx hb e_M_isReady_121 (lv_at hl 4 rfl) ?_
              refine lv_iload hx hb e_M_isReady_123 (lv_at hl 6 rfl) ?_
              refine lv_iconst (v := 1) hx hb e_M_isReady_125 (by decide) ?_
              refine lv_iadd hx hb e_M_isReady_126 ?_
              refine M_calli (As := [.int z5, .int (z7 + 1)]) (rest := [.int 1, .int z2]) C h hA (K_M_at l dC dI mo rf ca H.size σ10 z5 (z7 + 1) hw) (cwV 2 hts (gV hsub v_69 v_70 v_71 v_7 v_72) rfl rfl rfl (by decide +kernel) ⟨(Nat.le_of_ble_eq_true rfl), (Nat.le_of_ble_eq_true rfl)⟩) rfl hl.1 (Nat.le_of_ble_eq_true rfl) e_M_isReady_127 ⟨(Nat.le_of_ble_eq_true rfl), (Nat.le_of_ble_eq_true rfl)⟩ (fun r14 σ13 H locs hw h => ?_)
              refine W.eq (g2 := F0 m 130 ls [.int r14, .int 1, .int z2]) rfl ?_
              refine lv_ishl hx hb e_M_isReady_130 ?_
              refine lv_topi (fun a15 e_a15 => ?_)
              replace hw := hw a15 e_a15
              refine lv_goto (tgt := 135) hx hb e_M_isReady_131 (by decide) ?_
              exact K_135 _ ih z3 z4 z5 z6 z7 a15 z2 σ13 _ _ _ hw h (lv_sub hl [0, 2, 3, 4, 5, 6] rfl)
  have K_79 : ∀ (K19 : Int32 → Int32 → Int32 → Int32 → MST → Prop) (hK19 : ∀ (z2 : Int32) (z3 : Int32) (z4 : Int32) (z5 : Int32) (σ : MST) (H : Heap) (locs : List Loc) (ls : Array Slot), K19 z2 z3 z4 z5 σ → MH (dC, dI) A mo rf ca σ s H locs → lv_has ls 8 [(0, .ref mo), (2, .int z2), (3, .int z3), (4, .int z4), (5, .int z5)] → W p l e ({ frames := 2, cells := 0, slots := 0, locals := 43 } : Room) s m ([.ref mo, .int x1] : List Value).toArray below meth cx H locs 0 0 Q (F0 m 19 ls [])), ∀ (z2 : Int32) (z4 : Int32) (z5 : Int32) (z6 : Int32) (s0 : Int32) (σ : MST) (H : Heap) (locs : List Loc) (ls : Array Slot), w_M_isReady_79 K19 P z2 z4 z5 z6 s0 σ → MH (dC, dI) A mo rf ca σ s H locs → lv_has ls 8 [(0, .ref mo), (2, .int z2), (4, .int z4), (5, .int z5), (6, .int z6)] → W p l e ({ frames := 2, cells := 0, slots := 0, locals := 43 } : Room) s m ([.ref mo, .int x1] : List Value).toArray below meth cx H locs 0 0 Q (F0 m 79 ls [.int s0]) := by
    intro K19 hK19 z2 z4 z5 z6 s0 σ H locs ls hw h hl
    unfold w_M_isReady_79 at hw
    refine lv_istore_n (lv' := [(3, .int s0), (0, .ref mo), (2, .int z2), (4, .int z4), (5, .int z5), (6, .int z6)]) hx hb e_M_isReady_79 rfl hl (by decide) rfl (fun ls hl => ?_)
    refine lv_iconst (v := 0) hx hb e_M_isReady_80 (by decide) ?_
    refine lv_istore (lv' := [(7, .int 0), (3, .int s0), (0, .ref mo), (2, .int z2), (4, .int z4), (5, .int z5), (6, .int z6)]) hx hb e_M_isReady_81 hl (by decide) rfl (fun ls hl => ?_)
    obtain ⟨n9, hw⟩ := hw
    exact K_83 _ hK19 n9 z2 s0 z4 z5 z6 0 σ _ _ _ hw h (lv_sub hl [2, 3, 1, 4, 5, 6, 0] rfl)
  have K_78 : ∀ (K19 : Int32 → Int32 → Int32 → Int32 → MST → Prop) (hK19 : ∀ (z2 : Int32) (z3 : Int32) (z4 : Int32) (z5 : Int32) (σ : MST) (H : Heap) (locs : List Loc) (ls : Array Slot), K19 z2 z3 z4 z5 σ → MH (dC, dI) A mo rf ca σ s H locs → lv_has ls 8 [(0, .ref mo), (2, .int z2), (3, .int z3), (4, .int z4), (5, .int z5)] → W p l e ({ frames := 2, cells := 0, slots := 0, locals := 43 } : Room) s m ([.ref mo, .int x1] : List Value).toArray below meth cx H locs 0 0 Q (F0 m 19 ls [])), ∀ (z2 : Int32) (z4 : Int32) (z5 : Int32) (z6 : Int32) (σ : MST) (H : Heap) (locs : List Loc) (ls : Array Slot), w_M_isReady_78 K19 P z2 z4 z5 z6 σ → MH (dC, dI) A mo rf ca σ s H locs → lv_has ls 8 [(0, .ref mo), (2, .int z2), (4, .int z4), (5, .int z5), (6, .int z6)] → W p l e ({ frames := 2, cells := 0, slots := 0, locals := 43 } : Room) s m ([.ref mo, .int x1] : List Value).toArray below meth cx H locs 0 0 Q (F0 m 78 ls []) := by
    intro K19 hK19 z2 z4 z5 z6 σ H locs ls hw h hl
    unfold w_M_isReady_78 at hw
    refine lv_iconst (v := 0) hx hb e_M_isReady_78 (by decide) ?_
    exact K_79 _ hK19 z2 z4 z5 z6 0 σ _ _ _ hw h (lv_sub hl [0, 1, 2, 3, 4] rfl)
  have K_74 : ∀ (K19 : Int32 → Int32 → Int32 → Int32 → MST → Prop) (hK19 : ∀ (z2 : Int32) (z3 : Int32) (z4 : Int32) (z5 : Int32) (σ : MST) (H : Heap) (locs : List Loc) (ls : Array Slot), K19 z2 z3 z4 z5 σ → MH (dC, dI) A mo rf ca σ s H locs → lv_has ls 8 [(0, .ref mo), (2, .int z2), (3, .int z3), (4, .int z4), (5, .int z5)] → W p l e ({ frames := 2, cells := 0, slots := 0, locals := 43 } : Room) s m ([.ref mo, .int x1] : List Value).toArray below meth cx H locs 0 0 Q (F0 m 19 ls [])), ∀ (z2 : Int32) (z4 : Int32) (z5 : Int32) (z6 : Int32) (σ : MST) (H : Heap) (locs : List Loc) (ls : Array Slot), w_M_isReady_74 K19 P z2 z4 z5 z6 σ → MH (dC, dI) A mo rf ca σ s H locs → lv_has ls 8 [(0, .ref mo), (2, .int z2), (4, .int z4), (5, .int z5), (6, .int z6)] → W p l e ({ frames := 2, cells := 0, slots := 0, locals := 43 } : Room) s m ([.ref mo, .int x1] : List Value).toArray below meth cx H locs 0 0 Q (F0 m 74 ls []) := by
    intro K19 hK19 z2 z4 z5 z6 σ H locs ls hw h hl
    unfold w_M_isReady_74 at hw
    refine lv_iconst (v := 1) hx hb e_M_isReady_74 (by decide) ?_
    refine lv_goto (tgt := 79) hx hb e_M_isReady_75 (by decide) ?_
    exact K_79 _ hK19 z2 z4 z5 z6 1 σ _ _ _ hw h (lv_sub hl [0, 1, 2, 3, 4] rfl)
  have K_43 : ∀ (K19 : Int32 → Int32 → Int32 → Int32 → MST → Prop) (hK19 : ∀ (z2 : Int32) (z3 : Int32) (z4 : Int32) (z5 : Int32) (σ : MST) (H : Heap) (locs : List Loc) (ls : Array Slot), K19 z2 z3 z4 z5 σ → MH (dC, dI) A mo rf ca σ s H locs → lv_has ls 8 [(0, .ref mo), (2, .int z2), (3, .int z3), (4, .int z4), (5, .int z5)] → W p l e ({ frames := 2, cells := 0, slots := 0, locals := 43 } : Room) s m ([.ref mo, .int x1] : List Value).toArray below meth cx H locs 0 0 Q (F0 m 19 ls [])), ∀ (z2 : Int32) (z3 : Int32) (z4 : Int32) (z5 : Int32) (s0 : Int32) (σ : MST) (H : Heap) (locs : List Loc) (ls : Array Slot), w_M_isReady_43 K19 P z2 z3 z4 z5 s0 σ → MH (dC, dI) A mo rf ca σ s H locs → lv_has ls 8 [(0, .ref mo), (2, .int z2), (3, .int z3), (4, .int z4), (5, .int z5)] → W p l e ({ frames := 2, cells := 0, slots := 0, locals := 43 } : Room) s m ([.ref mo, .int x1] : List Value).toArray below meth cx H locs 0 0 Q (F0 m 43 ls [.int s0]) := by
    intro K19 hK19 z2 z3 z4 z5 s0 σ H locs ls hw h hl
    unfold w_M_isReady_43 at hw
    refine lv_istore (lv' := [(6, .int s0), (0, .ref mo), (2, .int z2), (3, .int z3), (4, .int z4), (5, .int z5)]) hx hb e_M_isReady_43 hl (by decide) rfl (fun ls hl => ?_)
    refine lv_iload_n hx hb e_M_isReady_45 rfl (lv_at hl 3 rfl) ?_
    refine lv_if_eq (tgt := 78) hx hb e_M_isReady_46 (by decide) (fun c16 => ?_) (fun c16 => ?_)
    · skip
      replace hw := hw.1 c16
      exact K_78 _ hK19 z2 z4 z5 s0 σ _ _ _ hw h (lv_sub hl [1, 2, 4, 5, 0] rfl)
    · skip
      replace hw := hw.2 c16
      refine lv_iload hx hb e_M_isReady_49 (lv_at hl 0 rfl) ?_
      refine lv_if_eq (tgt := 74) hx hb e_M_isReady_51 (by decide) (fun c17 => ?_) (fun c17 => ?_)
      · skip
        replace hw := hw.1 c17
        exact K_74 _ hK19 z2 z4 z5 s0 σ _ _ _ hw h (lv_sub hl [1, 2, 4, 5, 0] rfl)
      · skip
        replace hw := hw.2 c17
        refine lv_aload_n hx hb e_M_isReady_54 rfl (lv_at hl 1 rfl) ?_
        refine M_get C h 21 (v := .ref (rf 21)) rfl (by decide) v_60 e_M_isReady_55 ?_
        refine lv_iload hx hb e_M_isReady_58 (lv_at hl 5 rfl) ?_
        refine M_zald C h 21 (by decide) rfl hw.1 e_M_isReady_60 ?_
        replace hw := hw.2
        refine lv_topi (fun a18 e_a18 => ?_)
        replace hw := hw a18 e_a18
        refine lv_if_eq (tgt := 78) hx hb e_M_isReady_61 (by decide) (fun c19 => ?_) (fun c19 => ?_)
        · skip
          replace hw := hw.1 c19
          exact K_78 _ hK19 z2 z4 z5 s0 σ _ _ _ hw h (lv_sub hl [1, 2, 4, 5, 0] rfl)
        · skip
          replace hw := hw.2 c19
          refine lv_aload_n hx hb e_M_isReady_64 rfl (lv_at hl 1 rfl) ?_
          refine M_get C h 22 (v := .ref (rf 22)) rfl (by decide) v_256 e_M_isReady_65 ?_
          refine lv_iload hx hb e_M_isReady_68 (lv_at hl 5 rfl) ?_
          refine M_ald C h 22 (by decide) rfl hw.1 e_M_isReady_70 ?_
          replace hw := hw.2
          refine lv_topi (fun a20 e_a20 => ?_)
          replace hw := hw a20 e_a20
          refine lv_if_ne (tgt := 78) hx hb e_M_isReady_71 (by decide) (fun c21 => ?_) (fun c21 => ?_)
          · skip
            replace hw := hw.2 c21
            exact K_78 _ hK19 z2 z4 z5 s0 σ _ _ _ hw h (lv_sub hl [1, 2, 4, 5, 0] rfl)
          · skip
            replace hw := hw.1 c21
            exact K_74 _ hK19 z2 z4 z5 s0 σ _ _ _ hw h (lv_sub hl [1, 2, 4, 5, 0] rfl)
  have K_19 : ∀ (K9 : Int32 → Int32 → Int32 → MST → Prop) (hK9 : ∀ (z2 : Int32) (z3 : Int32) (z4 : Int32) (σ : MST) (H : Heap) (locs : List Loc) (ls : Array Slot), K9 z2 z3 z4 σ → MH (dC, dI) A mo rf ca σ s H locs → lv_has ls 8 [(0, .ref mo), (2, .int z2), (3, .int z3), (4, .int z4)] → W p l e ({ frames := 2, cells := 0, slots := 0, locals := 43 } : Room) s m ([.ref mo, .int x1] : List Value).toArray below meth cx H locs 0 0 Q (F0 m 9 ls [])) (n : Nat), ∀ (z2 : Int32) (z3 : Int32) (z4 : Int32) (z5 : Int32) (σ : MST) (H : Heap) (locs : List Loc) (ls : Array Slot), w_M_isReady_19 K9 P n z2 z3 z4 z5 σ → MH (dC, dI) A mo rf ca σ s H locs → lv_has ls 8 [(0, .ref mo), (2, .int z2), (3, .int z3), (4, .int z4), (5, .int z5)] → W p l e ({ frames := 2, cells := 0, slots := 0, locals := 43 } : Room) s m ([.ref mo, .int x1] : List Value).toArray below meth cx H locs 0 0 Q (F0 m 19 ls []) := by
    intro K9 hK9 n
    induction n with
    | zero => intro z2 z3 z4 z5 σ H locs ls hw h hl; unfold w_M_isReady_19 at hw; exact hw.elim
    | succ n ih =>
      intro z2 z3 z4 z5 σ H locs ls hw h hl
      unfold w_M_isReady_19 at hw
      refine lv_iload hx hb e_M_isReady_19 (lv_at hl 4 rfl) ?_
      refine lv_aload_n hx hb e_M_isReady_21 rfl (lv_at hl 0 rfl) ?_
      refine M_get C h 8 (v := .int (σ.1 8)) rfl (by decide) v_43 e_M_isReady_22 ?_
      refine lv_icmp_ge (tgt := 162) hx hb e_M_isReady_25 (by decide) (fun c22 => ?_) (fun c22 => ?_)
      · skip
        replace hw := hw.1 c22
        refine lv_iinc (v := (z4 + 1)) (lv' := [(4, .int (z4 + 1)), (0, .ref mo), (2, .int z2), (3, .int z3), (5, .int z5)]) hx hb e_M_isReady_162 hl (k := 3) rfl (rfl) (by decide) rfl (fun ls hl => ?_)
        refine lv_goto (tgt := 9) hx hb e_M_isReady_165 (by decide) ?_
        exact hK9 z2 z3 (z4 + 1) σ _ _ _ hw h (lv_sub hl [1, 2, 3, 0] rfl)
      · skip
        replace hw := hw.2 c22
        refine lv_iload_n hx hb e_M_isReady_28 rfl (lv_at hl 1 rfl) ?_
        refine lv_iload hx hb e_M_isReady_29 (lv_at hl 4 rfl) ?_
        refine lv_ishr hx hb e_M_isReady_31 ?_
        refine lv_topi (fun a23 e_a23 => ?_)
        replace hw := hw a23 e_a23
        refine lv_iconst (v := 1) hx hb e_M_isReady_32 (by decide) ?_
        refine lv_iand hx hb e_M_isReady_33 ?_
        refine lv_topi (fun a24 e_a24 => ?_)
        replace hw := hw a24 e_a24
        refine lv_iconst (v := 1) hx hb e_M_isReady_34 (by decide) ?_
        refine lv_icmp_ne (tgt := 42) hx hb e_M_isReady_35 (by decide) (fun c25 => ?_) (fun c25 => ?_)
        · skip
          replace hw := hw.2 c25
          refine lv_iconst (v := 0) hx hb e_M_isReady_42 (by decide) ?_
          exact K_43 _ ih z2 z3 z4 z5 0 σ _ _ _ hw h (lv_sub hl [0, 1, 2, 3, 4] rfl)
        · skip
          replace hw := hw.1 c25
          refine lv_iconst (v := 1) hx hb e_M_isReady_38 (by decide) ?_
          refine lv_goto (tgt := 43) hx hb e_M_isReady_39 (by decide) ?_
          exact K_43 _ ih z2 z3 z4 z5 1 σ _ _ _ hw h (lv_sub hl [0, 1, 2, 3, 4] rfl)
  have K_9 : ∀ (n : Nat), ∀ (z2 : Int32) (z3 : Int32) (z4 : Int32) (σ : MST) (H : Heap) (locs : List Loc) (ls : Array Slot), w_M_isReady_9 P n z2 z3 z4 σ → MH (dC, dI) A mo rf ca σ s H locs → lv_has ls 8 [(0, .ref mo), (2, .int z2), (3, .int z3), (4, .int z4)] → W p l e ({ frames := 2, cells := 0, slots := 0, locals := 43 } : Room) s m ([.ref mo, .int x1] : List Value).toArray below meth cx H locs 0 0 Q (F0 m 9 ls []) := by
    intro  n
    induction n with
    | zero => intro z2 z3 z4 σ H locs ls hw h hl; unfold w_M_isReady_9 at hw; exact hw.elim
    | succ n ih =>
      intro z2 z3 z4 σ H locs ls hw h hl
      unfold w_M_isReady_9 at hw
      refine lv_iload hx hb e_M_isReady_9 (lv_at hl 3 rfl) ?_
      refine lv_bipush (v := 8) hx hb e_M_isReady_11 (by decide) ?_
      refine lv_icmp_ge (tgt := 168) hx hb e_M_isReady_13 (by decide) (fun c26 => ?_) (fun c26 => ?_)
      · skip
        replace hw := hw.1 c26
        refine lv_iload_n hx hb e_M_isReady_168 rfl (lv_at hl 2 rfl) ?_
        exact hend z3 σ _ _ _ _ hw.1 hw.2 h e_M_isReady_169
      · skip
        replace hw := hw.2 c26
        refine lv_iconst (v := 0) hx hb e_M_isReady_16 (by decide) ?_
        refine lv_istore (lv' := [(5, .int 0), (0, .ref mo), (2, .int z2), (3, .int z3), (4, .int z4)]) hx hb e_M_isReady_17 hl (by decide) rfl (fun ls hl => ?_)
        obtain ⟨n9, hw⟩ := hw
        exact K_19 _ ih n9 z2 z3 z4 0 σ _ _ _ hw h (lv_sub hl [1, 2, 3, 4, 0] rfl)
  have hl : lv_has ls 8 [(0, .ref mo), (1, .int x1)] := hl
  unfold w_M_isReady at hw
  refine lv_iconst (v := 1) hx hb e_M_isReady_0 (by decide) ?_
  refine lv_iload_n hx hb e_M_isReady_1 rfl (lv_at hl 1 rfl) ?_
  refine lv_ishl hx hb e_M_isReady_2 ?_
  refine lv_topi (fun a27 e_a27 => ?_)
  replace hw := hw a27 e_a27
  refine lv_istore_n (lv' := [(2, .int a27), (0, .ref mo), (1, .int x1)]) hx hb e_M_isReady_3 rfl hl (by decide) rfl (fun ls hl => ?_)
  refine lv_iconst (v := 1) hx hb e_M_isReady_4 (by decide) ?_
  refine lv_istore_n (lv' := [(3, .int 1), (2, .int a27), (0, .ref mo), (1, .int x1)]) hx hb e_M_isReady_5 rfl hl (by decide) rfl (fun ls hl => ?_)
  refine lv_iconst (v := 0) hx hb e_M_isReady_6 (by decide) ?_
  refine lv_istore (lv' := [(4, .int 0), (3, .int 1), (2, .int a27), (0, .ref mo), (1, .int x1)]) hx hb e_M_isReady_7 hl (by decide) rfl (fun ls hl => ?_)
  obtain ⟨n9, hw⟩ := hw
  exact K_9 n9 a27 1 0 σ _ _ _ hw h (lv_sub hl [3, 2, 1, 0] rfl)
abbrev z_M_run : MethodName := ⟨"MapFramerModel", "run", "(IJJI)J"⟩
theorem v_406 : (Cond.constantLong "MapFramerModel" 513 32 : Cond) ∈ bigW := inB_10 193 (by decide +kernel) rfl
theorem v_407 : (Cond.methodLink "MapFramerModel" 510 ⟨"MapFramerModel", "step", "()V"⟩ : Cond) ∈ bigW := inB_10 118 (by decide +kernel) rfl
theorem v_408 : (Cond.instanceMethod ⟨"MapFramerModel", "step", "()V"⟩ : Cond) ∈ bigW := inB_10 120 (by decide +kernel) rfl
theorem v_409 : (Cond.selects "MapFramerModel" ⟨"MapFramerModel", "step", "()V"⟩ ⟨"MapFramerModel", "step", "()V"⟩ : Cond) ∈ bigW := inS (y := ⟨"MapFramerModel", "step", "()V"⟩) (n := 71) (List.mem_of_getElem? (i := 138) (by decide +kernel))
theorem v_410 : (Cond.code ⟨"MapFramerModel", "step", "()V"⟩ prog_14_method_101_code 6 none : Cond) ∈ bigW := inB_10 121 rfl rfl
theorem v_411 : (Cond.methodLink "MapFramerModel" 507 ⟨"MapFramerModel", "isReady", "(I)Z"⟩ : Cond) ∈ bigW := inB_10 102 (by decide +kernel) rfl
theorem v_412 : (Cond.instanceMethod ⟨"MapFramerModel", "isReady", "(I)Z"⟩ : Cond) ∈ bigW := inB_10 104 (by decide +kernel) rfl
theorem v_413 : (Cond.selects "MapFramerModel" ⟨"MapFramerModel", "isReady", "(I)Z"⟩ ⟨"MapFramerModel", "isReady", "(I)Z"⟩ : Cond) ∈ bigW := inS (y := ⟨"MapFramerModel", "isReady", "(I)Z"⟩) (n := 71) (List.mem_of_getElem? (i := 135) (by decide +kernel))
theorem v_414 : (Cond.code ⟨"MapFramerModel", "isReady", "(I)Z"⟩ prog_14_method_102_code 8 (some .boolean) : Cond) ∈ bigW := inB_10 105 rfl rfl
theorem e_M_run_0 : decode prog_14_method_103_code 0 = .ok (.aload_n 0, 1) := by decide +kernel
theorem e_M_run_1 : decode prog_14_method_103_code 1 = .ok (.iload_n 1, 1) := by decide +kernel
theorem e_M_run_2 : decode prog_14_method_103_code 2 = .ok (.invokevirtual 212, 3) := by decide +kernel
theorem e_M_run_5 : decode prog_14_method_103_code 5 = .ok (.ifCond .eq 62, 3) := by decide +kernel
theorem e_M_run_8 : decode prog_14_method_103_code 8 = .ok (.aload_n 0, 1) := by decide +kernel
theorem e_M_run_9 : decode prog_14_method_103_code 9 = .ok (.getfield 66, 3) := by decide +kernel
theorem e_M_run_12 : decode prog_14_method_103_code 12 = .ok (.aload_n 0, 1) := by decide +kernel
theorem e_M_run_13 : decode prog_14_method_103_code 13 = .ok (.iload_n 1, 1) := by decide +kernel
theorem e_M_run_14 : decode prog_14_method_103_code 14 = .ok (.invokevirtual 212, 3) := by decide +kernel
theorem e_M_run_17 : decode prog_14_method_103_code 17 = .ok (.ifCond .eq 7, 3) := by decide +kernel
theorem e_M_run_20 : decode prog_14_method_103_code 20 = .ok (.iload_n 1, 1) := by decide +kernel
theorem e_M_run_21 : decode prog_14_method_103_code 21 = .ok (.goto 4, 3) := by decide +kernel
theorem e_M_run_24 : decode prog_14_method_103_code 24 = .ok (.iconst 0, 1) := by decide +kernel
theorem e_M_run_25 : decode prog_14_method_103_code 25 = .ok (.baload, 1) := by decide +kernel
theorem e_M_run_26 : decode prog_14_method_103_code 26 = .ok (.ifCond .eq 41, 3) := by decide +kernel
theorem e_M_run_29 : decode prog_14_method_103_code 29 = .ok (.aload_n 0, 1) := by decide +kernel
theorem e_M_run_30 : decode prog_14_method_103_code 30 = .ok (.getfield 69, 3) := by decide +kernel
theorem e_M_run_33 : decode prog_14_method_103_code 33 = .ok (.aload_n 0, 1) := by decide +kernel
theorem e_M_run_34 : decode prog_14_method_103_code 34 = .ok (.iload_n 1, 1) := by decide +kernel
theorem e_M_run_35 : decode prog_14_method_103_code 35 = .ok (.invokevirtual 212, 3) := by decide +kernel
theorem e_M_run_38 : decode prog_14_method_103_code 38 = .ok (.ifCond .eq 7, 3) := by decide +kernel
theorem e_M_run_41 : decode prog_14_method_103_code 41 = .ok (.iload_n 1, 1) := by decide +kernel
theorem e_M_run_42 : decode prog_14_method_103_code 42 = .ok (.goto 4, 3) := by decide +kernel
theorem e_M_run_45 : decode prog_14_method_103_code 45 = .ok (.iconst 0, 1) := by decide +kernel
theorem e_M_run_46 : decode prog_14_method_103_code 46 = .ok (.iaload, 1) := by decide +kernel
theorem e_M_run_47 : decode prog_14_method_103_code 47 = .ok (.ifCond .ne 20, 3) := by decide +kernel
theorem e_M_run_50 : decode prog_14_method_103_code 50 = .ok (.iload 6, 2) := by decide +kernel
theorem e_M_run_52 : decode prog_14_method_103_code 52 = .ok (.ifCond .le 15, 3) := by decide +kernel
theorem e_M_run_55 : decode prog_14_method_103_code 55 = .ok (.iload 6, 2) := by decide +kernel
theorem e_M_run_57 : decode prog_14_method_103_code 57 = .ok (.sipush 20000, 3) := by decide +kernel
theorem e_M_run_60 : decode prog_14_method_103_code 60 = .ok (.if_icmp .gt 7, 3) := by decide +kernel
theorem e_M_run_63 : decode prog_14_method_103_code 63 = .ok (.iconst 1, 1) := by decide +kernel
theorem e_M_run_64 : decode prog_14_method_103_code 64 = .ok (.goto 4, 3) := by decide +kernel
theorem e_M_run_67 : decode prog_14_method_103_code 67 = .ok (.iconst 0, 1) := by decide +kernel
theorem e_M_run_68 : decode prog_14_method_103_code 68 = .ok (.istore 7, 2) := by decide +kernel
theorem e_M_run_70 : decode prog_14_method_103_code 70 = .ok (.iconst 0, 1) := by decide +kernel
theorem e_M_run_71 : decode prog_14_method_103_code 71 = .ok (.istore 8, 2) := by decide +kernel
theorem e_M_run_73 : decode prog_14_method_103_code 73 = .ok (.iload 8, 2) := by decide +kernel
theorem e_M_run_75 : decode prog_14_method_103_code 75 = .ok (.aload_n 0, 1) := by decide +kernel
theorem e_M_run_76 : decode prog_14_method_103_code 76 = .ok (.getfield 33, 3) := by decide +kernel
theorem e_M_run_79 : decode prog_14_method_103_code 79 = .ok (.iload 7, 2) := by decide +kernel
theorem e_M_run_81 : decode prog_14_method_103_code 81 = .ok (.ifCond .eq 7, 3) := by decide +kernel
theorem e_M_run_84 : decode prog_14_method_103_code 84 = .ok (.iload_n 1, 1) := by decide +kernel
theorem e_M_run_85 : decode prog_14_method_103_code 85 = .ok (.goto 4, 3) := by decide +kernel
theorem e_M_run_88 : decode prog_14_method_103_code 88 = .ok (.iconst 0, 1) := by decide +kernel
theorem e_M_run_89 : decode prog_14_method_103_code 89 = .ok (.iaload, 1) := by decide +kernel
theorem e_M_run_90 : decode prog_14_method_103_code 90 = .ok (.if_icmp .ge 36, 3) := by decide +kernel
theorem e_M_run_93 : decode prog_14_method_103_code 93 = .ok (.iload 7, 2) := by decide +kernel
theorem e_M_run_95 : decode prog_14_method_103_code 95 = .ok (.ifCond .eq 31, 3) := by decide +kernel
theorem e_M_run_98 : decode prog_14_method_103_code 98 = .ok (.aload_n 0, 1) := by decide +kernel
theorem e_M_run_99 : decode prog_14_method_103_code 99 = .ok (.getfield 30, 3) := by decide +kernel
theorem e_M_run_102 : decode prog_14_method_103_code 102 = .ok (.iconst 4, 1) := by decide +kernel
theorem e_M_run_103 : decode prog_14_method_103_code 103 = .ok (.iload_n 1, 1) := by decide +kernel
theorem e_M_run_104 : decode prog_14_method_103_code 104 = .ok (.imul, 1) := by decide +kernel
theorem e_M_run_105 : decode prog_14_method_103_code 105 = .ok (.iload 8, 2) := by decide +kernel
theorem e_M_run_107 : decode prog_14_method_103_code 107 = .ok (.iadd, 1) := by decide +kernel
theorem e_M_run_108 : decode prog_14_method_103_code 108 = .ok (.iaload, 1) := by decide +kernel
theorem e_M_run_109 : decode prog_14_method_103_code 109 = .ok (.iconst 2, 1) := by decide +kernel
theorem e_M_run_110 : decode prog_14_method_103_code 110 = .ok (.if_icmp .gt 7, 3) := by decide +kernel
theorem e_M_run_113 : decode prog_14_method_103_code 113 = .ok (.iconst 1, 1) := by decide +kernel
theorem e_M_run_114 : decode prog_14_method_103_code 114 = .ok (.goto 4, 3) := by decide +kernel
theorem e_M_run_117 : decode prog_14_method_103_code 117 = .ok (.iconst 0, 1) := by decide +kernel
theorem e_M_run_118 : decode prog_14_method_103_code 118 = .ok (.istore 7, 2) := by decide +kernel
theorem e_M_run_120 : decode prog_14_method_103_code 120 = .ok (.iinc 8 1, 3) := by decide +kernel
theorem e_M_run_123 : decode prog_14_method_103_code 123 = .ok (.goto (-50), 3) := by decide +kernel
theorem e_M_run_126 : decode prog_14_method_103_code 126 = .ok (.iload 7, 2) := by decide +kernel
theorem e_M_run_128 : decode prog_14_method_103_code 128 = .ok (.ifCond .ne 10, 3) := by decide +kernel
theorem e_M_run_131 : decode prog_14_method_103_code 131 = .ok (.aload_n 0, 1) := by decide +kernel
theorem e_M_run_132 : decode prog_14_method_103_code 132 = .ok (.iconst 1, 1) := by decide +kernel
theorem e_M_run_133 : decode prog_14_method_103_code 133 = .ok (.invokevirtual 196, 3) := by decide +kernel
theorem e_M_run_136 : decode prog_14_method_103_code 136 = .ok (.i2l, 1) := by decide +kernel
theorem e_M_run_137 : decode prog_14_method_103_code 137 = .ok (.lreturn, 1) := by decide +kernel
theorem e_M_run_138 : decode prog_14_method_103_code 138 = .ok (.aload_n 0, 1) := by decide +kernel
theorem e_M_run_139 : decode prog_14_method_103_code 139 = .ok (.iload_n 1, 1) := by decide +kernel
theorem e_M_run_140 : decode prog_14_method_103_code 140 = .ok (.invokevirtual 507, 3) := by decide +kernel
theorem e_M_run_143 : decode prog_14_method_103_code 143 = .ok (.ifCond .ne 10, 3) := by decide +kernel
theorem e_M_run_146 : decode prog_14_method_103_code 146 = .ok (.aload_n 0, 1) := by decide +kernel
theorem e_M_run_147 : decode prog_14_method_103_code 147 = .ok (.iconst 2, 1) := by decide +kernel
theorem e_M_run_148 : decode prog_14_method_103_code 148 = .ok (.invokevirtual 196, 3) := by decide +kernel
theorem e_M_run_151 : decode prog_14_method_103_code 151 = .ok (.i2l, 1) := by decide +kernel
theorem e_M_run_152 : decode prog_14_method_103_code 152 = .ok (.lreturn, 1) := by decide +kernel
theorem e_M_run_153 : decode prog_14_method_103_code 153 = .ok (.iconst 0, 1) := by decide +kernel
theorem e_M_run_154 : decode prog_14_method_103_code 154 = .ok (.istore 8, 2) := by decide +kernel
theorem e_M_run_156 : decode prog_14_method_103_code 156 = .ok (.iload 8, 2) := by decide +kernel
theorem e_M_run_158 : decode prog_14_method_103_code 158 = .ok (.bipush 16, 2) := by decide +kernel
theorem e_M_run_160 : decode prog_14_method_103_code 160 = .ok (.if_icmp .ge 26, 3) := by decide +kernel
theorem e_M_run_163 : decode prog_14_method_103_code 163 = .ok (.aload_n 0, 1) := by decide +kernel
theorem e_M_run_164 : decode prog_14_method_103_code 164 = .ok (.getfield 138, 3) := by decide +kernel
theorem e_M_run_167 : decode prog_14_method_103_code 167 = .ok (.iload 8, 2) := by decide +kernel
theorem e_M_run_169 : decode prog_14_method_103_code 169 = .ok (.aload_n 0, 1) := by decide +kernel
theorem e_M_run_170 : decode prog_14_method_103_code 170 = .ok (.getfield 24, 3) := by decide +kernel
theorem e_M_run_173 : decode prog_14_method_103_code 173 = .ok (.iload 8, 2) := by decide +kernel
theorem e_M_run_175 : decode prog_14_method_103_code 175 = .ok (.iaload, 1) := by decide +kernel
theorem e_M_run_176 : decode prog_14_method_103_code 176 = .ok (.invokestatic 435, 3) := by decide +kernel
theorem e_M_run_179 : decode prog_14_method_103_code 179 = .ok (.lastore, 1) := by decide +kernel
theorem e_M_run_180 : decode prog_14_method_103_code 180 = .ok (.iinc 8 1, 3) := by decide +kernel
theorem e_M_run_183 : decode prog_14_method_103_code 183 = .ok (.goto (-27), 3) := by decide +kernel
theorem e_M_run_186 : decode prog_14_method_103_code 186 = .ok (.aload_n 0, 1) := by decide +kernel
theorem e_M_run_187 : decode prog_14_method_103_code 187 = .ok (.iconst 0, 1) := by decide +kernel
theorem e_M_run_188 : decode prog_14_method_103_code 188 = .ok (.putfield 427, 3) := by decide +kernel
theorem e_M_run_191 : decode prog_14_method_103_code 191 = .ok (.aload_n 0, 1) := by decide +kernel
theorem e_M_run_192 : decode prog_14_method_103_code 192 = .ok (.iconst 0, 1) := by decide +kernel
theorem e_M_run_193 : decode prog_14_method_103_code 193 = .ok (.putfield 420, 3) := by decide +kernel
theorem e_M_run_196 : decode prog_14_method_103_code 196 = .ok (.aload_n 0, 1) := by decide +kernel
theorem e_M_run_197 : decode prog_14_method_103_code 197 = .ok (.iconst 1, 1) := by decide +kernel
theorem e_M_run_198 : decode prog_14_method_103_code 198 = .ok (.putfield 423, 3) := by decide +kernel
theorem e_M_run_201 : decode prog_14_method_103_code 201 = .ok (.aload_n 0, 1) := by decide +kernel
theorem e_M_run_202 : decode prog_14_method_103_code 202 = .ok (.lconst 0, 1) := by decide +kernel
theorem e_M_run_203 : decode prog_14_method_103_code 203 = .ok (.putfield 474, 3) := by decide +kernel
theorem e_M_run_206 : decode prog_14_method_103_code 206 = .ok (.aload_n 0, 1) := by decide +kernel
theorem e_M_run_207 : decode prog_14_method_103_code 207 = .ok (.getfield 135, 3) := by decide +kernel
theorem e_M_run_210 : decode prog_14_method_103_code 210 = .ok (.iconst 1, 1) := by decide +kernel
theorem e_M_run_211 : decode prog_14_method_103_code 211 = .ok (.iconst 0, 1) := by decide +kernel
theorem e_M_run_212 : decode prog_14_method_103_code 212 = .ok (.iastore, 1) := by decide +kernel
theorem e_M_run_213 : decode prog_14_method_103_code 213 = .ok (.aload_n 0, 1) := by decide +kernel
theorem e_M_run_214 : decode prog_14_method_103_code 214 = .ok (.getfield 135, 3) := by decide +kernel
theorem e_M_run_217 : decode prog_14_method_103_code 217 = .ok (.iconst 2, 1) := by decide +kernel
theorem e_M_run_218 : decode prog_14_method_103_code 218 = .ok (.iconst (-1), 1) := by decide +kernel
theorem e_M_run_219 : decode prog_14_method_103_code 219 = .ok (.iastore, 1) := by decide +kernel
theorem e_M_run_220 : decode prog_14_method_103_code 220 = .ok (.aload_n 0, 1) := by decide +kernel
theorem e_M_run_221 : decode prog_14_method_103_code 221 = .ok (.iload_n 1, 1) := by decide +kernel
theorem e_M_run_222 : decode prog_14_method_103_code 222 = .ok (.invokevirtual 478, 3) := by decide +kernel
theorem e_M_run_225 : decode prog_14_method_103_code 225 = .ok (.iconst 0, 1) := by decide +kernel
theorem e_M_run_226 : decode prog_14_method_103_code 226 = .ok (.istore 8, 2) := by decide +kernel
theorem e_M_run_228 : decode prog_14_method_103_code 228 = .ok (.iconst 0, 1) := by decide +kernel
theorem e_M_run_229 : decode prog_14_method_103_code 229 = .ok (.istore 9, 2) := by decide +kernel
theorem e_M_run_231 : decode prog_14_method_103_code 231 = .ok (.iload 9, 2) := by decide +kernel
theorem e_M_run_233 : decode prog_14_method_103_code 233 = .ok (.aload_n 0, 1) := by decide +kernel
theorem e_M_run_234 : decode prog_14_method_103_code 234 = .ok (.getfield 33, 3) := by decide +kernel
theorem e_M_run_237 : decode prog_14_method_103_code 237 = .ok (.iload_n 1, 1) := by decide +kernel
theorem e_M_run_238 : decode prog_14_method_103_code 238 = .ok (.iaload, 1) := by decide +kernel
theorem e_M_run_239 : decode prog_14_method_103_code 239 = .ok (.if_icmp .ge 87, 3) := by decide +kernel
theorem e_M_run_242 : decode prog_14_method_103_code 242 = .ok (.iload 9, 2) := by decide +kernel
theorem e_M_run_244 : decode prog_14_method_103_code 244 = .ok (.ifCond .ne 7, 3) := by decide +kernel
theorem e_M_run_247 : decode prog_14_method_103_code 247 = .ok (.lload_n 2, 1) := by decide +kernel
theorem e_M_run_248 : decode prog_14_method_103_code 248 = .ok (.goto 15, 3) := by decide +kernel
theorem e_M_run_251 : decode prog_14_method_103_code 251 = .ok (.iload 9, 2) := by decide +kernel
theorem e_M_run_253 : decode prog_14_method_103_code 253 = .ok (.iconst 1, 1) := by decide +kernel
theorem e_M_run_254 : decode prog_14_method_103_code 254 = .ok (.if_icmp .ne 8, 3) := by decide +kernel
theorem e_M_run_257 : decode prog_14_method_103_code 257 = .ok (.lload 4, 2) := by decide +kernel
theorem e_M_run_259 : decode prog_14_method_103_code 259 = .ok (.goto 4, 3) := by decide +kernel
theorem e_M_run_262 : decode prog_14_method_103_code 262 = .ok (.lconst 0, 1) := by decide +kernel
theorem e_M_run_263 : decode prog_14_method_103_code 263 = .ok (.lstore 10, 2) := by decide +kernel
theorem e_M_run_265 : decode prog_14_method_103_code 265 = .ok (.aload_n 0, 1) := by decide +kernel
theorem e_M_run_266 : decode prog_14_method_103_code 266 = .ok (.iload 8, 2) := by decide +kernel
theorem e_M_run_268 : decode prog_14_method_103_code 268 = .ok (.aload_n 0, 1) := by decide +kernel
theorem e_M_run_269 : decode prog_14_method_103_code 269 = .ok (.getfield 30, 3) := by decide +kernel
theorem e_M_run_272 : decode prog_14_method_103_code 272 = .ok (.iload_n 1, 1) := by decide +kernel
theorem e_M_run_273 : decode prog_14_method_103_code 273 = .ok (.iconst 4, 1) := by decide +kernel
theorem e_M_run_274 : decode prog_14_method_103_code 274 = .ok (.imul, 1) := by decide +kernel
theorem e_M_run_275 : decode prog_14_method_103_code 275 = .ok (.iload 9, 2) := by decide +kernel
theorem e_M_run_277 : decode prog_14_method_103_code 277 = .ok (.iadd, 1) := by decide +kernel
theorem e_M_run_278 : decode prog_14_method_103_code 278 = .ok (.iaload, 1) := by decide +kernel
theorem e_M_run_279 : decode prog_14_method_103_code 279 = .ok (.iconst 1, 1) := by decide +kernel
theorem e_M_run_280 : decode prog_14_method_103_code 280 = .ok (.if_icmp .ne 10, 3) := by decide +kernel
theorem e_M_run_283 : decode prog_14_method_103_code 283 = .ok (.lload 10, 2) := by decide +kernel
theorem e_M_run_285 : decode prog_14_method_103_code 285 = .ok (.l2i, 1) := by decide +kernel
theorem e_M_run_286 : decode prog_14_method_103_code 286 = .ok (.i2l, 1) := by decide +kernel
theorem e_M_run_287 : decode prog_14_method_103_code 287 = .ok (.goto 5, 3) := by decide +kernel
theorem e_M_run_290 : decode prog_14_method_103_code 290 = .ok (.lload 10, 2) := by decide +kernel
theorem e_M_run_292 : decode prog_14_method_103_code 292 = .ok (.invokevirtual 466, 3) := by decide +kernel
theorem e_M_run_295 : decode prog_14_method_103_code 295 = .ok (.iload 8, 2) := by decide +kernel
theorem e_M_run_297 : decode prog_14_method_103_code 297 = .ok (.aload_n 0, 1) := by decide +kernel
theorem e_M_run_298 : decode prog_14_method_103_code 298 = .ok (.getfield 30, 3) := by decide +kernel
theorem e_M_run_301 : decode prog_14_method_103_code 301 = .ok (.iconst 4, 1) := by decide +kernel
theorem e_M_run_302 : decode prog_14_method_103_code 302 = .ok (.iload_n 1, 1) := by decide +kernel
theorem e_M_run_303 : decode prog_14_method_103_code 303 = .ok (.imul, 1) := by decide +kernel
theorem e_M_run_304 : decode prog_14_method_103_code 304 = .ok (.iload 9, 2) := by decide +kernel
theorem e_M_run_306 : decode prog_14_method_103_code 306 = .ok (.iadd, 1) := by decide +kernel
theorem e_M_run_307 : decode prog_14_method_103_code 307 = .ok (.iaload, 1) := by decide +kernel
theorem e_M_run_308 : decode prog_14_method_103_code 308 = .ok (.iconst 2, 1) := by decide +kernel
theorem e_M_run_309 : decode prog_14_method_103_code 309 = .ok (.if_icmp .ne 7, 3) := by decide +kernel
theorem e_M_run_312 : decode prog_14_method_103_code 312 = .ok (.iconst 2, 1) := by decide +kernel
theorem e_M_run_313 : decode prog_14_method_103_code 313 = .ok (.goto 4, 3) := by decide +kernel
theorem e_M_run_316 : decode prog_14_method_103_code 316 = .ok (.iconst 1, 1) := by decide +kernel
theorem e_M_run_317 : decode prog_14_method_103_code 317 = .ok (.iadd, 1) := by decide +kernel
theorem e_M_run_318 : decode prog_14_method_103_code 318 = .ok (.istore 8, 2) := by decide +kernel
theorem e_M_run_320 : decode prog_14_method_103_code 320 = .ok (.iinc 9 1, 3) := by decide +kernel
theorem e_M_run_323 : decode prog_14_method_103_code 323 = .ok (.goto (-92), 3) := by decide +kernel
theorem e_M_run_326 : decode prog_14_method_103_code 326 = .ok (.aload_n 0, 1) := by decide +kernel
theorem e_M_run_327 : decode prog_14_method_103_code 327 = .ok (.getfield 423, 3) := by decide +kernel
theorem e_M_run_330 : decode prog_14_method_103_code 330 = .ok (.ifCond .eq 31, 3) := by decide +kernel
theorem e_M_run_333 : decode prog_14_method_103_code 333 = .ok (.aload_n 0, 1) := by decide +kernel
theorem e_M_run_334 : decode prog_14_method_103_code 334 = .ok (.getfield 135, 3) := by decide +kernel
theorem e_M_run_337 : decode prog_14_method_103_code 337 = .ok (.iconst 1, 1) := by decide +kernel
theorem e_M_run_338 : decode prog_14_method_103_code 338 = .ok (.iaload, 1) := by decide +kernel
theorem e_M_run_339 : decode prog_14_method_103_code 339 = .ok (.iload 6, 2) := by decide +kernel
theorem e_M_run_341 : decode prog_14_method_103_code 341 = .ok (.if_icmp .ge 20, 3) := by decide +kernel
theorem e_M_run_344 : decode prog_14_method_103_code 344 = .ok (.aload_n 0, 1) := by decide +kernel
theorem e_M_run_345 : decode prog_14_method_103_code 345 = .ok (.getfield 135, 3) := by decide +kernel
theorem e_M_run_348 : decode prog_14_method_103_code 348 = .ok (.iconst 1, 1) := by decide +kernel
theorem e_M_run_349 : decode prog_14_method_103_code 349 = .ok (.dup2, 1) := by decide +kernel
theorem e_M_run_350 : decode prog_14_method_103_code 350 = .ok (.iaload, 1) := by decide +kernel
theorem e_M_run_351 : decode prog_14_method_103_code 351 = .ok (.iconst 1, 1) := by decide +kernel
theorem e_M_run_352 : decode prog_14_method_103_code 352 = .ok (.iadd, 1) := by decide +kernel
theorem e_M_run_353 : decode prog_14_method_103_code 353 = .ok (.iastore, 1) := by decide +kernel
theorem e_M_run_354 : decode prog_14_method_103_code 354 = .ok (.aload_n 0, 1) := by decide +kernel
theorem e_M_run_355 : decode prog_14_method_103_code 355 = .ok (.invokevirtual 510, 3) := by decide +kernel
theorem e_M_run_358 : decode prog_14_method_103_code 358 = .ok (.goto (-32), 3) := by decide +kernel
theorem e_M_run_361 : decode prog_14_method_103_code 361 = .ok (.aload_n 0, 1) := by decide +kernel
theorem e_M_run_362 : decode prog_14_method_103_code 362 = .ok (.getfield 423, 3) := by decide +kernel
theorem e_M_run_365 : decode prog_14_method_103_code 365 = .ok (.ifCond .eq 8, 3) := by decide +kernel
theorem e_M_run_368 : decode prog_14_method_103_code 368 = .ok (.aload_n 0, 1) := by decide +kernel
theorem e_M_run_369 : decode prog_14_method_103_code 369 = .ok (.iconst 2, 1) := by decide +kernel
theorem e_M_run_370 : decode prog_14_method_103_code 370 = .ok (.invokevirtual 430, 3) := by decide +kernel
theorem e_M_run_373 : decode prog_14_method_103_code 373 = .ok (.aload_n 0, 1) := by decide +kernel
theorem e_M_run_374 : decode prog_14_method_103_code 374 = .ok (.getfield 135, 3) := by decide +kernel
theorem e_M_run_377 : decode prog_14_method_103_code 377 = .ok (.iconst 3, 1) := by decide +kernel
theorem e_M_run_378 : decode prog_14_method_103_code 378 = .ok (.aload_n 0, 1) := by decide +kernel
theorem e_M_run_379 : decode prog_14_method_103_code 379 = .ok (.getfield 427, 3) := by decide +kernel
theorem e_M_run_382 : decode prog_14_method_103_code 382 = .ok (.iastore, 1) := by decide +kernel
theorem e_M_run_383 : decode prog_14_method_103_code 383 = .ok (.aload_n 0, 1) := by decide +kernel
theorem e_M_run_384 : decode prog_14_method_103_code 384 = .ok (.aload_n 0, 1) := by decide +kernel
theorem e_M_run_385 : decode prog_14_method_103_code 385 = .ok (.getfield 135, 3) := by decide +kernel
theorem e_M_run_388 : decode prog_14_method_103_code 388 = .ok (.iconst 0, 1) := by decide +kernel
theorem e_M_run_389 : decode prog_14_method_103_code 389 = .ok (.iaload, 1) := by decide +kernel
theorem e_M_run_390 : decode prog_14_method_103_code 390 = .ok (.ifCond .ne 7, 3) := by decide +kernel
theorem e_M_run_393 : decode prog_14_method_103_code 393 = .ok (.iconst 0, 1) := by decide +kernel
theorem e_M_run_394 : decode prog_14_method_103_code 394 = .ok (.goto 4, 3) := by decide +kernel
theorem e_M_run_397 : decode prog_14_method_103_code 397 = .ok (.iconst 3, 1) := by decide +kernel
theorem e_M_run_398 : decode prog_14_method_103_code 398 = .ok (.putfield 169, 3) := by decide +kernel
theorem e_M_run_401 : decode prog_14_method_103_code 401 = .ok (.aload_n 0, 1) := by decide +kernel
theorem e_M_run_402 : decode prog_14_method_103_code 402 = .ok (.getfield 169, 3) := by decide +kernel
theorem e_M_run_405 : decode prog_14_method_103_code 405 = .ok (.ifCond .le 5, 3) := by decide +kernel
theorem e_M_run_408 : decode prog_14_method_103_code 408 = .ok (.lconst 0, 1) := by decide +kernel
theorem e_M_run_409 : decode prog_14_method_103_code 409 = .ok (.lreturn, 1) := by decide +kernel
theorem e_M_run_410 : decode prog_14_method_103_code 410 = .ok (.aload_n 0, 1) := by decide +kernel
theorem e_M_run_411 : decode prog_14_method_103_code 411 = .ok (.getfield 36, 3) := by decide +kernel
theorem e_M_run_414 : decode prog_14_method_103_code 414 = .ok (.iload_n 1, 1) := by decide +kernel
theorem e_M_run_415 : decode prog_14_method_103_code 415 = .ok (.iaload, 1) := by decide +kernel
theorem e_M_run_416 : decode prog_14_method_103_code 416 = .ok (.istore 9, 2) := by decide +kernel
theorem e_M_run_418 : decode prog_14_method_103_code 418 = .ok (.iload 9, 2) := by decide +kernel
theorem e_M_run_420 : decode prog_14_method_103_code 420 = .ok (.iconst 2, 1) := by decide +kernel
theorem e_M_run_421 : decode prog_14_method_103_code 421 = .ok (.if_icmp .gt 10, 3) := by decide +kernel
theorem e_M_run_424 : decode prog_14_method_103_code 424 = .ok (.aload_n 0, 1) := by decide +kernel
theorem e_M_run_425 : decode prog_14_method_103_code 425 = .ok (.getfield 474, 3) := by decide +kernel
theorem e_M_run_428 : decode prog_14_method_103_code 428 = .ok (.goto 54, 3) := by decide +kernel
theorem e_M_run_431 : decode prog_14_method_103_code 431 = .ok (.aload_n 0, 1) := by decide +kernel
theorem e_M_run_432 : decode prog_14_method_103_code 432 = .ok (.getfield 474, 3) := by decide +kernel
theorem e_M_run_435 : decode prog_14_method_103_code 435 = .ok (.lconst 0, 1) := by decide +kernel
theorem e_M_run_436 : decode prog_14_method_103_code 436 = .ok (.lcmp, 1) := by decide +kernel
theorem e_M_run_437 : decode prog_14_method_103_code 437 = .ok (.ifCond .ge 9, 3) := by decide +kernel
theorem e_M_run_440 : decode prog_14_method_103_code 440 = .ok (.ldc2_w 433, 3) := by decide +kernel
theorem e_M_run_443 : decode prog_14_method_103_code 443 = .ok (.goto 39, 3) := by decide +kernel
theorem e_M_run_446 : decode prog_14_method_103_code 446 = .ok (.aload_n 0, 1) := by decide +kernel
theorem e_M_run_447 : decode prog_14_method_103_code 447 = .ok (.getfield 142, 3) := by decide +kernel
theorem e_M_run_450 : decode prog_14_method_103_code 450 = .ok (.aload_n 0, 1) := by decide +kernel
theorem e_M_run_451 : decode prog_14_method_103_code 451 = .ok (.getfield 474, 3) := by decide +kernel
theorem e_M_run_454 : decode prog_14_method_103_code 454 = .ok (.l2i, 1) := by decide +kernel
theorem e_M_run_455 : decode prog_14_method_103_code 455 = .ok (.iaload, 1) := by decide +kernel
theorem e_M_run_456 : decode prog_14_method_103_code 456 = .ok (.invokestatic 176, 3) := by decide +kernel
theorem e_M_run_459 : decode prog_14_method_103_code 459 = .ok (.ifCond .eq 20, 3) := by decide +kernel
theorem e_M_run_462 : decode prog_14_method_103_code 462 = .ok (.aload_n 0, 1) := by decide +kernel
theorem e_M_run_463 : decode prog_14_method_103_code 463 = .ok (.getfield 142, 3) := by decide +kernel
theorem e_M_run_466 : decode prog_14_method_103_code 466 = .ok (.aload_n 0, 1) := by decide +kernel
theorem e_M_run_467 : decode prog_14_method_103_code 467 = .ok (.getfield 474, 3) := by decide +kernel
theorem e_M_run_470 : decode prog_14_method_103_code 470 = .ok (.l2i, 1) := by decide +kernel
theorem e_M_run_471 : decode prog_14_method_103_code 471 = .ok (.iaload, 1) := by decide +kernel
theorem e_M_run_472 : decode prog_14_method_103_code 472 = .ok (.bipush 32, 2) := by decide +kernel
theorem e_M_run_474 : decode prog_14_method_103_code 474 = .ok (.isub, 1) := by decide +kernel
theorem e_M_run_475 : decode prog_14_method_103_code 475 = .ok (.i2l, 1) := by decide +kernel
theorem e_M_run_476 : decode prog_14_method_103_code 476 = .ok (.goto 6, 3) := by decide +kernel
theorem e_M_run_479 : decode prog_14_method_103_code 479 = .ok (.ldc2_w 513, 3) := by decide +kernel
theorem e_M_run_482 : decode prog_14_method_103_code 482 = .ok (.lreturn, 1) := by decide +kernel
def w_M_run_398 (P : Int64 → MST → Prop) (z1 : Int32) (s0 : Int32) (σ : MST) : Prop := ∀ σ1 : MST, σ1 = setI σ 0 s0 → (((σ1.1 0) ≤ 0 → vp_in z1 8 ∧ (∀ a3 : Int32, a3 = (σ1.2.1 11 (z1 : Int32).toNatClampNeg) → ((2 < a3 → ((0 ≤ (lg_cmp σ1.2.2.2 0) → vp_in ((σ1.2.2.2 : Int64).toInt32) 150 ∧ (∀ a6 : Int32, a6 = (σ1.2.1 59 (((σ1.2.2.2 : Int64).toInt32) : Int32).toNatClampNeg) → w_M_isObject a6 σ1 (fun r8 σ7 => ((r8 = 0 → P 32 σ7) ∧ (¬ r8 = 0 → vp_in ((σ7.2.2.2 : Int64).toInt32) 150 ∧ (∀ a10 : Int32, a10 = (σ7.2.1 59 (((σ7.2.2.2 : Int64).toInt32) : Int32).toNatClampNeg) → P (((a10 - 32) : Int32).toInt64) σ7)))))) ∧ (¬ 0 ≤ (lg_cmp σ1.2.2.2 0) → P (-1) σ1))) ∧ (¬ 2 < a3 → P σ1.2.2.2 σ1)))) ∧ (¬ (σ1.1 0) ≤ 0 → P 0 σ1))
def w_M_run_373 (P : Int64 → MST → Prop) (z1 : Int32) (σ : MST) : Prop := ∀ σ11 : MST, σ11 = setA σ 56 (upd (σ.2.1 56) (3 : Int32).toNatClampNeg (σ.1 58)) → ∀ a12 : Int32, a12 = (σ11.2.1 56 (0 : Int32).toNatClampNeg) → ((a12 = 0 → w_M_run_398 P z1 0 σ11) ∧ (¬ a12 = 0 → w_M_run_398 P z1 3 σ11))
def w_M_run_361 (P : Int64 → MST → Prop) (z1 : Int32) (σ : MST) : Prop := (((σ.1 69) = 0 → w_M_run_373 P z1 σ) ∧ (¬ (σ.1 69) = 0 → w_M_over (2 : Int32) σ (fun σ15 => w_M_run_373 P z1 σ15)))
def w_M_run_326 (P : Int64 → MST → Prop) : Nat → Int32 → Int32 → MST → Prop
  | 0, _, _, _ => False
  | n + 1, z1, z6, σ => (((σ.1 69) = 0 → w_M_run_361 P z1 σ) ∧ (¬ (σ.1 69) = 0 → ∀ a18 : Int32, a18 = (σ.2.1 56 (1 : Int32).toNatClampNeg) → ((z6 ≤ a18 → w_M_run_361 P z1 σ) ∧ (¬ z6 ≤ a18 → ∀ a20 : Int32, a20 = (σ.2.1 56 (1 : Int32).toNatClampNeg) → ∀ σ21 : MST, σ21 = setA σ 56 (upd (σ.2.1 56) (1 : Int32).toNatClampNeg (a20 + 1)) → w_M_step σ21 (fun σ22 => w_M_run_326 P n z1 z6 σ22)))))
def w_M_run_317 (K231 : Int32 → Int64 → Int64 → Int32 → Int32 → Int32 → MST → Prop) (P : Int64 → MST → Prop) (z1 : Int32) (z2 : Int64) (z4 : Int64) (z6 : Int32) (z9 : Int32) (s0 : Int32) (s1 : Int32) (σ : MST) : Prop := K231 z1 z2 z4 z6 (s1 + s0) (z9 + 1) σ
def w_M_run_292 (K231 : Int32 → Int64 → Int64 → Int32 → Int32 → Int32 → MST → Prop) (P : Int64 → MST → Prop) (z1 : Int32) (z2 : Int64) (z4 : Int64) (z6 : Int32) (z8 : Int32) (z9 : Int32) (s0 : Int64) (s1 : Int32) (σ : MST) : Prop := w_M_setLocal s1 s0 σ (fun σ24 => vp_in (((4 : Int32) * z1) + z9) 32 ∧ (∀ a26 : Int32, a26 = (σ24.2.1 9 ((((4 : Int32) * z1) + z9) : Int32).toNatClampNeg) → ((a26 = 2 → w_M_run_317 K231 P z1 z2 z4 z6 z9 2 z8 σ24) ∧ (¬ a26 = 2 → w_M_run_317 K231 P z1 z2 z4 z6 z9 1 z8 σ24))))
def w_M_run_263 (K231 : Int32 → Int64 → Int64 → Int32 → Int32 → Int32 → MST → Prop) (P : Int64 → MST → Prop) (z1 : Int32) (z2 : Int64) (z4 : Int64) (z6 : Int32) (z8 : Int32) (z9 : Int32) (s0 : Int64) (σ : MST) : Prop := vp_in ((z1 * 4) + z9) 32 ∧ (∀ a28 : Int32, a28 = (σ.2.1 9 (((z1 * 4) + z9) : Int32).toNatClampNeg) → ((a28 = 1 → w_M_run_292 K231 P z1 z2 z4 z6 z8 z9 ((((s0 : Int64).toInt32) : Int32).toInt64) z8 σ) ∧ (¬ a28 = 1 → w_M_run_292 K231 P z1 z2 z4 z6 z8 z9 s0 z8 σ)))
def w_M_run_231 (P : Int64 → MST → Prop) : Nat → Int32 → Int64 → Int64 → Int32 → Int32 → Int32 → MST → Prop
  | 0, _, _, _, _, _, _, _ => False
  | n + 1, z1, z2, z4, z6, z8, z9, σ => vp_in z1 8 ∧ (∀ a30 : Int32, a30 = (σ.2.1 10 (z1 : Int32).toNatClampNeg) → ((a30 ≤ z9 → (∃ n9 : Nat, w_M_run_326 P n9 z1 z6 σ)) ∧ (¬ a30 ≤ z9 → ((z9 = 0 → w_M_run_263 (w_M_run_231 P n) P z1 z2 z4 z6 z8 z9 z2 σ) ∧ (¬ z9 = 0 → ((z9 = 1 → w_M_run_263 (w_M_run_231 P n) P z1 z2 z4 z6 z8 z9 z4 σ) ∧ (¬ z9 = 1 → w_M_run_263 (w_M_run_231 P n) P z1 z2 z4 z6 z8 z9 0 σ)))))))
def w_M_run_156 (P : Int64 → MST → Prop) : Nat → Int32 → Int64 → Int64 → Int32 → Int32 → MST → Prop
  | 0, _, _, _, _, _, _ => False
  | n + 1, z1, z2, z4, z6, z8, σ => ((16 ≤ z8 → ∀ σ35 : MST, σ35 = setI σ 58 0 → ∀ σ36 : MST, σ36 = setI σ35 63 0 → ∀ σ37 : MST, σ37 = setI σ36 69 1 → ∀ σ38 : MST, σ38 = setJ σ37 0 → ∀ σ39 : MST, σ39 = setA σ38 56 (upd (σ38.2.1 56) (1 : Int32).toNatClampNeg 0) → ∀ σ40 : MST, σ40 = setA σ39 56 (upd (σ39.2.1 56) (2 : Int32).toNatClampNeg (-1)) → w_M_enter z1 σ40 (fun σ41 => (∃ n9 : Nat, w_M_run_231 P n9 z1 z2 z4 z6 0 0 σ41))) ∧ (¬ 16 ≤ z8 → vp_in z8 16 ∧ (∀ a43 : Int32, a43 = (σ.2.1 6 (z8 : Int32).toNatClampNeg) → w_M_zero a43 σ (fun r45 σ44 => vp_in z8 16 ∧ (∀ σ46 : MST, σ46 = setL σ44 57 (vp_updL (σ44.2.2.1 57) (z8 : Int32).toNatClampNeg r45) → w_M_run_156 P n z1 z2 z4 z6 (z8 + 1) σ46)))))
def w_M_run_126 (P : Int64 → MST → Prop) (z1 : Int32) (z2 : Int64) (z4 : Int64) (z6 : Int32) (z7 : Int32) (σ : MST) : Prop := ((z7 = 0 → w_M_fails (1 : Int32) σ (fun r54 σ53 => P ((r54 : Int32).toInt64) σ53)) ∧ (¬ z7 = 0 → w_M_isReady z1 σ (fun r49 σ48 => ((r49 = 0 → w_M_fails (2 : Int32) σ48 (fun r52 σ51 => P ((r52 : Int32).toInt64) σ51)) ∧ (¬ r49 = 0 → (∃ n9 : Nat, w_M_run_156 P n9 z1 z2 z4 z6 0 σ48))))))
def w_M_run_118 (K73 : Int32 → Int64 → Int64 → Int32 → Int32 → Int32 → MST → Prop) (P : Int64 → MST → Prop) (z1 : Int32) (z2 : Int64) (z4 : Int64) (z6 : Int32) (z8 : Int32) (s0 : Int32) (σ : MST) : Prop := K73 z1 z2 z4 z6 s0 (z8 + 1) σ
def w_M_run_89 (K73 : Int32 → Int64 → Int64 → Int32 → Int32 → Int32 → MST → Prop) (P : Int64 → MST → Prop) (z1 : Int32) (z2 : Int64) (z4 : Int64) (z6 : Int32) (z7 : Int32) (z8 : Int32) (s0 : Int32) (s2 : Int32) (σ : MST) : Prop := vp_in s0 8 ∧ (∀ a55 : Int32, a55 = (σ.2.1 10 (s0 : Int32).toNatClampNeg) → ((a55 ≤ s2 → w_M_run_126 P z1 z2 z4 z6 z7 σ) ∧ (¬ a55 ≤ s2 → ((z7 = 0 → w_M_run_126 P z1 z2 z4 z6 z7 σ) ∧ (¬ z7 = 0 → vp_in (((4 : Int32) * z1) + z8) 32 ∧ (∀ a58 : Int32, a58 = (σ.2.1 9 ((((4 : Int32) * z1) + z8) : Int32).toNatClampNeg) → ((2 < a58 → w_M_run_118 K73 P z1 z2 z4 z6 z8 0 σ) ∧ (¬ 2 < a58 → w_M_run_118 K73 P z1 z2 z4 z6 z8 1 σ))))))))
def w_M_run_73 (P : Int64 → MST → Prop) : Nat → Int32 → Int64 → Int64 → Int32 → Int32 → Int32 → MST → Prop
  | 0, _, _, _, _, _, _, _ => False
  | n + 1, z1, z2, z4, z6, z7, z8, σ => ((z7 = 0 → w_M_run_89 (w_M_run_73 P n) P z1 z2 z4 z6 z7 z8 0 z8 σ) ∧ (¬ z7 = 0 → w_M_run_89 (w_M_run_73 P n) P z1 z2 z4 z6 z7 z8 z1 z8 σ))
def w_M_run_68 (P : Int64 → MST → Prop) (z1 : Int32) (z2 : Int64) (z4 : Int64) (z6 : Int32) (s0 : Int32) (σ : MST) : Prop := (∃ n9 : Nat, w_M_run_73 P n9 z1 z2 z4 z6 s0 0 σ)
def w_M_run_67 (P : Int64 → MST → Prop) (z1 : Int32) (z2 : Int64) (z4 : Int64) (z6 : Int32) (σ : MST) : Prop := w_M_run_68 P z1 z2 z4 z6 0 σ
def w_M_run_46 (P : Int64 → MST → Prop) (z1 : Int32) (z2 : Int64) (z4 : Int64) (z6 : Int32) (s0 : Int32) (σ : MST) : Prop := vp_in s0 8 ∧ (∀ a61 : Int32, a61 = (σ.2.1 22 (s0 : Int32).toNatClampNeg) → ((a61 = 0 → ((z6 ≤ 0 → w_M_run_67 P z1 z2 z4 z6 σ) ∧ (¬ z6 ≤ 0 → ((20000 < z6 → w_M_run_67 P z1 z2 z4 z6 σ) ∧ (¬ 20000 < z6 → w_M_run_68 P z1 z2 z4 z6 1 σ))))) ∧ (¬ a61 = 0 → w_M_run_67 P z1 z2 z4 z6 σ)))
def w_M_run_25 (P : Int64 → MST → Prop) (z1 : Int32) (z2 : Int64) (z4 : Int64) (z6 : Int32) (s0 : Int32) (σ : MST) : Prop := vp_in s0 8 ∧ (∀ a65 : Int32, a65 = (σ.2.1 21 (s0 : Int32).toNatClampNeg) → ((a65 = 0 → w_M_run_67 P z1 z2 z4 z6 σ) ∧ (¬ a65 = 0 → w_M_isMethod z1 σ (fun r68 σ67 => ((r68 = 0 → w_M_run_46 P z1 z2 z4 z6 0 σ67) ∧ (¬ r68 = 0 → w_M_run_46 P z1 z2 z4 z6 z1 σ67))))))
def w_M_run (x1 : Int32) (x2 : Int64) (x4 : Int64) (x6 : Int32) (σ : MST) (P : Int64 → MST → Prop) : Prop := w_M_isMethod x1 σ (fun r71 σ70 => ((r71 = 0 → w_M_run_67 P x1 x2 x4 x6 σ70) ∧ (¬ r71 = 0 → w_M_isMethod x1 σ70 (fun r74 σ73 => ((r74 = 0 → w_M_run_25 P x1 x2 x4 x6 0 σ73) ∧ (¬ r74 = 0 → w_M_run_25 P x1 x2 x4 x6 x1 σ73))))))
set_option maxHeartbeats 4000000 in
set_option maxRecDepth 100000 in
theorem K_M_run (l : Launch) (dC : Nat → ClassId) (dI : Nat → Nat → Nat) (mo : Nat) (rf : Nat → Nat) (ca : Nat → ClassId) (sz : Nat) (σ : MST) (x1 : Int32) (x2 : Int64) (x4 : Int64) (x6 : Int32) {P : Int64 → MST → Prop} (hw : w_M_run x1 x2 x4 x6 σ P) : Met l z_M_run (mW z_M_run prog_14_method_103_code 12 (some .long)) ({ frames := 5, cells := 0, slots := 0, locals := 123 } : Room) (va_Pc [.ref mo, .int x1, .long x2, .long x4, .int x6] (MPre (dC, dI) mo rf ca σ sz)) (va_Ql P (MB (dC, dI) mo rf ca sz) (mA mo rf sz)) 0 0 (mA mo rf sz) := by
  refine M_ofl (by decide) rfl (Nat.le_of_ble_eq_true rfl) ?_
  intro p e s m below meth cx Q A ls C hA hend h hl
  have C0 := C
  obtain ⟨⟨hx, hb, hml, hown, hts⟩, hsub⟩ := C0
  have K_398 : ∀ (u9 : Unit), ∀ (z1 : Int32) (s0 : Int32) (σ : MST) (H : Heap) (locs : List Loc) (ls : Array Slot), w_M_run_398 P z1 s0 σ → MH (dC, dI) A mo rf ca σ s H locs → lv_has ls 12 [(0, .ref mo), (1, .int z1)] → W p l e ({ frames := 5, cells := 0, slots := 0, locals := 123 } : Room) s m ([.ref mo, .int x1, .long x2, .long x4, .int x6] : List Value).toArray below meth cx H locs 0 0 Q (F0 m 398 ls [.int s0, .ref mo]) := by
    intro u9 z1 s0 σ H locs ls hw h hl
    unfold w_M_run_398 at hw
    refine M_puti C h 0 (by decide) rfl rfl (by decide +kernel) v_0 e_M_run_398 (fun H locs h => ?_)
    obtain ⟨σ1, e_σ1⟩ : ∃ z : MST, z = setI σ 0 s0 := ⟨_, rfl⟩
    rw [← e_σ1] at h
    replace hw := hw σ1 e_σ1
    refine lv_aload_n hx hb e_M_run_401 rfl (lv_at hl 0 rfl) ?_
    refine M_get C h 0 (v := .int (σ1.1 0)) rfl (by decide) v_0 e_M_run_402 ?_
    refine lv_if_le (tgt := 410) hx hb e_M_run_405 (by decide) (fun c2 => ?_) (fun c2 => ?_)
    · skip
      replace hw := hw.1 c2
      refine lv_aload_n hx hb e_M_run_410 rfl (lv_at hl 0 rfl) ?_
      refine M_get C h 11 (v := .ref (rf 11)) rfl (by decide) v_44 e_M_run_411 ?_
      refine lv_iload_n hx hb e_M_run_414 rfl (lv_at hl 1 rfl) ?_
      refine M_ald C h 11 (by decide) rfl hw.1 e_M_run_415 ?_
      replace hw := hw.2
      refine lv_topi (fun a3 e_a3 => ?_)
      replace hw := hw a3 e_a3
      refine lv_istore (lv' := [(9, .int a3), (0, .ref mo), (1, .int z1)]) hx hb e_M_run_416 hl (by decide) rfl (fun ls hl => ?_)
      refine lv_iload hx hb e_M_run_418 (lv_at hl 0 rfl) ?_
      refine lv_iconst (v := 2) hx hb e_M_run_420 (by decide) ?_
      refine lv_icmp_gt (tgt := 431) hx hb e_M_run_421 (by decide) (fun c4 => ?_) (fun c4 => ?_)
      · skip
        replace hw := hw.1 c4
        refine lv_aload_n hx hb e_M_run_431 rfl (lv_at hl 1 rfl) ?_
        refine M_get C h 70 (v := .long σ1.2.2.2) rfl (by decide) v_367 e_M_run_432 ?_
        refine lv_lconst (v := 0) hx hb e_M_run_435 (by decide) ?_
        refine W.lcmp hx hb e_M_run_436 ?_
        refine lv_if_ge (tgt := 446) hx hb e_M_run_437 (by decide) (fun c5 => ?_) (fun c5 => ?_)
        · skip
          replace hw := hw.1 c5
          refine lv_aload_n hx hb e_M_run_446 rfl (lv_at hl 1 rfl) ?_
          refine M_get C h 59 (v := .ref (rf 59)) rfl (by decide) v_320 e_M_run_447 ?_
          refine lv_aload_n hx hb e_M_run_450 rfl (lv_at hl 1 rfl) ?_
          refine M_get C h 70 (v := .long σ1.2.2.2) rfl (by decide) v_367 e_M_run_451 ?_
          refine lv_l2i (v := (σ1.2.2.2 : Int64).toInt32) hx hb e_M_run_454 rfl ?_
          refine M_ald C h 59 (by decide) rfl hw.1 e_M_run_455 ?_
          replace hw := hw.2
          refine lv_topi (fun a6 e_a6 => ?_)
          replace hw := hw a6 e_a6
          refine M_scalli (As := [.int a6]) (rest := []) C h hA (K_M_isObject l dC dI mo rf ca H.size σ1 a6 hw) (va_cwS 1 hts (gS hsub v_16 v_17 v_7 v_18) rfl rfl rfl (by decide +kernel) ⟨(Nat.le_of_ble_eq_true rfl), (Nat.le_of_ble_eq_true rfl)⟩) rfl hl.1 (Nat.le_of_ble_eq_true rfl) e_M_run_456 ⟨(Nat.le_of_ble_eq_true rfl), (Nat.le_of_ble_eq_true rfl)⟩ (fun r8 σ7 H locs hw h => ?_)
          refine W.eq (g2 := F0 m 459 ls [.int r8]) rfl ?_
          refine lv_if_eq (tgt := 479) hx hb e_M_run_459 (by decide) (fun c9 => ?_) (fun c9 => ?_)
          · skip
            replace hw := hw.1 c9
            refine lv_ldc2 (v := 32) hx hb hown (hts _ (hsub _ v_406)) e_M_run_479 ?_
            exact hend 32 σ7 _ _ _ _ hw h e_M_run_482
          · skip
            replace hw := hw.2 c9
            refine lv_aload_n hx hb e_M_run_462 rfl (lv_at hl 1 rfl) ?_
            refine M_get C h 59 (v := .ref (rf 59)) rfl (by decide) v_320 e_M_run_463 ?_
            refine lv_aload_n hx hb e_M_run_466 rfl (lv_at hl 1 rfl) ?_
            refine M_get C h 70 (v := .long σ7.2.2.2) rfl (by decide) v_367 e_M_run_467 ?_
            refine lv_l2i (v := (σ7.2.2.2 : Int64).toInt32) hx hb e_M_run_470 rfl ?_
            refine M_ald C h 59 (by decide) rfl hw.1 e_M_run_471 ?_
            replace hw := hw.2
            refine lv_topi (fun a10 e_a10 => ?_)
            replace hw := hw a10 e_a10
            refine lv_bipush (v := 32) hx hb e_M_run_472 (by decide) ?_
            refine lv_isub hx hb e_M_run_474 ?_
            refine lv_i2l (v := ((a10 - 32) : Int32).toInt64) hx hb e_M_run_475 rfl ?_
            refine lv_goto (tgt := 482) hx hb e_M_run_476 (by decide) ?_
            exact hend (((a10 - 32) : Int32).toInt64) σ7 _ _ _ _ hw h e_M_run_482
        · skip
          replace hw := hw.2 c5
          refine lv_ldc2 (v := (-1)) hx hb hown (hts _ (hsub _ v_313)) e_M_run_440 ?_
          refine lv_goto (tgt := 482) hx hb e_M_run_443 (by decide) ?_
          exact hend (-1) σ1 _ _ _ _ hw h e_M_run_482
      · skip
        replace hw := hw.2 c4
        refine lv_aload_n hx hb e_M_run_424 rfl (lv_at hl 1 rfl) ?_
        refine M_get C h 70 (v := .long σ1.2.2.2) rfl (by decide) v_367 e_M_run_425 ?_
        refine lv_goto (tgt := 482) hx hb e_M_run_428 (by decide) ?_
        exact hend σ1.2.2.2 σ1 _ _ _ _ hw h e_M_run_482
    · skip
      replace hw := hw.2 c2
      refine lv_lconst (v := 0) hx hb e_M_run_408 (by decide) ?_
      exact hend 0 σ1 _ _ _ _ hw h e_M_run_409
  have K_373 : ∀ (u9 : Unit), ∀ (z1 : Int32) (σ : MST) (H : Heap) (locs : List Loc) (ls : Array Slot), w_M_run_373 P z1 σ → MH (dC, dI) A mo rf ca σ s H locs → lv_has ls 12 [(0, .ref mo), (1, .int z1)] → W p l e ({ frames := 5, cells := 0, slots := 0, locals := 123 } : Room) s m ([.ref mo, .int x1, .long x2, .long x4, .int x6] : List Value).toArray below meth cx H locs 0 0 Q (F0 m 373 ls []) := by
    intro u9 z1 σ H locs ls hw h hl
    unfold w_M_run_373 at hw
    refine lv_aload_n hx hb e_M_run_373 rfl (lv_at hl 0 rfl) ?_
    refine M_get C h 56 (v := .ref (rf 56)) rfl (by decide) v_312 e_M_run_374 ?_
    refine lv_iconst (v := 3) hx hb e_M_run_377 (by decide) ?_
    refine lv_aload_n hx hb e_M_run_378 rfl (lv_at hl 0 rfl) ?_
    refine M_get C h 58 (v := .int (σ.1 58)) rfl (by decide) v_314 e_M_run_379 ?_
    refine M_ast C h 56 (by decide) rfl (vp_in_iff.mpr (by decide)) e_M_run_382 (fun H locs h => ?_)
    obtain ⟨σ11, e_σ11⟩ : ∃ z : MST, z = setA σ 56 (upd (σ.2.1 56) (3 : Int32).toNatClampNeg (σ.1 58)) := ⟨_, rfl⟩
    rw [← e_σ11] at h
    replace hw := hw σ11 e_σ11
    refine lv_aload_n hx hb e_M_run_383 rfl (lv_at hl 0 rfl) ?_
    refine lv_aload_n hx hb e_M_run_384 rfl (lv_at hl 0 rfl) ?_
    refine M_get C h 56 (v := .ref (rf 56)) rfl (by decide) v_312 e_M_run_385 ?_
    refine lv_iconst (v := 0) hx hb e_M_run_388 (by decide) ?_
    refine M_ald C h 56 (by decide) rfl (vp_in_iff.mpr (by decide)) e_M_run_389 ?_
    refine lv_topi (fun a12 e_a12 => ?_)
    replace hw := hw a12 e_a12
    refine lv_if_ne (tgt := 397) hx hb e_M_run_390 (by decide) (fun c13 => ?_) (fun c13 => ?_)
    · skip
      replace hw := hw.2 c13
      refine lv_iconst (v := 3) hx hb e_M_run_397 (by decide) ?_
      exact K_398 () z1 3 σ11 _ _ _ hw h (lv_sub hl [0, 1] rfl)
    · skip
      replace hw := hw.1 c13
      refine lv_iconst (v := 0) hx hb e_M_run_393 (by decide) ?_
      refine lv_goto (tgt := 398) hx hb e_M_run_394 (by decide) ?_
      exact K_398 () z1 0 σ11 _ _ _ hw h (lv_sub hl [0, 1] rfl)
  have K_361 : ∀ (u9 : Unit), ∀ (z1 : Int32) (σ : MST) (H : Heap) (locs : List Loc) (ls : Array Slot), w_M_run_361 P z1 σ → MH (dC, dI) A mo rf ca σ s H locs → lv_has ls 12 [(0, .ref mo), (1, .int z1)] → W p l e ({ frames := 5, cells := 0, slots := 0, locals := 123 } : Room) s m ([.ref mo, .int x1, .long x2, .long x4, .int x6] : List Value).toArray below meth cx H locs 0 0 Q (F0 m 361 ls []) := by
    intro u9 z1 σ H locs ls hw h hl
    unfold w_M_run_361 at hw
    refine lv_aload_n hx hb e_M_run_361 rfl (lv_at hl 0 rfl) ?_
    refine M_get C h 69 (v := .int (σ.1 69)) rfl (by decide) v_311 e_M_run_362 ?_
    refine lv_if_eq (tgt := 373) hx hb e_M_run_365 (by decide) (fun c14 => ?_) (fun c14 => ?_)
    · skip
      replace hw := hw.1 c14
      exact K_373 () z1 σ _ _ _ hw h (lv_sub hl [0, 1] rfl)
    · skip
      replace hw := hw.2 c14
      refine lv_aload_n hx hb e_M_run_368 rfl (lv_at hl 0 rfl) ?_
      refine lv_iconst (v := 2) hx hb e_M_run_369 (by decide) ?_
      refine M_callv (As := [.int 2]) (rest := []) C h hA (K_M_over l dC dI mo rf ca H.size σ (2 : Int32) hw) (cwV 1 hts (gV hsub v_322 v_323 v_324 v_7 v_325) rfl rfl rfl (by decide +kernel) ⟨(Nat.le_of_ble_eq_true rfl), (Nat.le_of_ble_eq_true rfl)⟩) rfl hl.1 (Nat.le_of_ble_eq_true rfl) e_M_run_370 ⟨(Nat.le_of_ble_eq_true rfl), (Nat.le_of_ble_eq_true rfl)⟩ (fun σ15 H locs hw h => ?_)
      refine W.eq (g2 := F0 m 373 ls []) rfl ?_
      exact K_373 () z1 σ15 _ _ _ hw h (lv_sub hl [0, 1] rfl)
  have K_326 : ∀ (n : Nat), ∀ (z1 : Int32) (z6 : Int32) (σ : MST) (H : Heap) (locs : List Loc) (ls : Array Slot), w_M_run_326 P n z1 z6 σ → MH (dC, dI) A mo rf ca σ s H locs → lv_has ls 12 [(0, .ref mo), (1, .int z1), (6, .int z6)] → W p l e ({ frames := 5, cells := 0, slots := 0, locals := 123 } : Room) s m ([.ref mo, .int x1, .long x2, .long x4, .int x6] : List Value).toArray below meth cx H locs 0 0 Q (F0 m 326 ls []) := by
    intro  n
    induction n with
    | zero => intro z1 z6 σ H locs ls hw h hl; unfold w_M_run_326 at hw; exact hw.elim
    | succ n ih =>
      intro z1 z6 σ H locs ls hw h hl
      unfold w_M_run_326 at hw
      refine lv_aload_n hx hb e_M_run_326 rfl (lv_at hl 0 rfl) ?_
      refine M_get C h 69 (v := .int (σ.1 69)) rfl (by decide) v_311 e_M_run_327 ?_
      refine lv_if_eq (tgt := 361) hx hb e_M_run_330 (by decide) (fun c17 => ?_) (fun c17 => ?_)
      · skip
        replace hw := hw.1 c17
        exact K_361 () z1 σ _ _ _ hw h (lv_sub hl [0, 1] rfl)
      · skip
        replace hw := hw.2 c17
        refine lv_aload_n hx hb e_M_run_333 rfl (lv_at hl 0 rfl) ?_
        refine M_get C h 56 (v := .ref (rf 56)) rfl (by decide) v_312 e_M_run_334 ?_
        refine lv_iconst (v := 1) hx hb e_M_run_337 (by decide) ?_
        refine M_ald C h 56 (by decide) rfl (vp_in_iff.mpr (by decide)) e_M_run_338 ?_
        refine lv_topi (fun a18 e_a18 => ?_)
        replace hw := hw a18 e_a18
        refine lv_iload hx hb e_M_run_339 (lv_at hl 2 rfl) ?_
        refine lv_icmp_ge (tgt := 361) hx hb e_M_run_341 (by decide) (fun c19 => ?_) (fun c19 => ?_)
        · skip
          replace hw := hw.1 c19
          exact K_361 () z1 σ _ _ _ hw h (lv_sub hl [0, 1] rfl)
        · skip
          replace hw := hw.2 c19
          refine lv_aload_n hx hb e_M_run_344 rfl (lv_at hl 0 rfl) ?_
          refine M_get C h 56 (v := .ref (rf 56)) rfl (by decide) v_312 e_M_run_345 ?_
          refine lv_iconst (v := 1) hx hb e_M_run_348 (by decide) ?_
          refine lv_dup2_11 hx hb e_M_run_349 rfl rfl ?_
          refine M_ald C h 56 (by decide) rfl (vp_in_iff.mpr (by decide)) e_M_run_350 ?_
          refine lv_topi (fun a20 e_a20 => ?_)
          replace hw := hw a20 e_a20
          refine lv_iconst (v := 1) hx hb e_M_run_351 (by decide) ?_
          refine lv_iadd hx hb e_M_run_352 ?_
          refine M_ast C h 56 (by decide) rfl (vp_in_iff.mpr (by decide)) e_M_run_353 (fun H locs h => ?_)
          obtain ⟨σ21, e_σ21⟩ : ∃ z : MST, z = setA σ 56 (upd (σ.2.1 56) (1 : Int32).toNatClampNeg (a20 + 1)) := ⟨_, rfl⟩
          rw [← e_σ21] at h
          replace hw := hw σ21 e_σ21
          refine lv_aload_n hx hb e_M_run_354 rfl (lv_at hl 0 rfl) ?_
          refine M_callv (As := []) (rest := []) C h hA (K_M_step l dC dI mo rf ca H.size σ21 hw) (cwV 0 hts (gV hsub v_407 v_408 v_409 v_7 v_410) rfl rfl rfl (by decide +kernel) ⟨(Nat.le_of_ble_eq_true rfl), (Nat.le_of_ble_eq_true rfl)⟩) rfl hl.1 (Nat.le_of_ble_eq_true rfl) e_M_run_355 ⟨(Nat.le_of_ble_eq_true rfl), (Nat.le_of_ble_eq_true rfl)⟩ (fun σ22 H locs hw h => ?_)
          refine W.eq (g2 := F0 m 358 ls []) rfl ?_
          refine lv_goto (tgt := 326) hx hb e_M_run_358 (by decide) ?_
          exact ih z1 z6 σ22 _ _ _ hw h (lv_sub hl [0, 1, 2] rfl)
  have K_317 : ∀ (K231 : Int32 → Int64 → Int64 → Int32 → Int32 → Int32 → MST → Prop) (hK231 : ∀ (z1 : Int32) (z2 : Int64) (z4 : Int64) (z6 : Int32) (z8 : Int32) (z9 : Int32) (σ : MST) (H : Heap) (locs : List Loc) (ls : Array Slot), K231 z1 z2 z4 z6 z8 z9 σ → MH (dC, dI) A mo rf ca σ s H locs → lv_has ls 12 [(0, .ref mo), (1, .int z1), (2, .long z2), (4, .long z4), (6, .int z6), (8, .int z8), (9, .int z9)] → W p l e ({ frames := 5, cells := 0, slots := 0, locals := 123 } : Room) s m ([.ref mo, .int x1, .long x2, .long x4, .int x6] : List Value).toArray below meth cx H locs 0 0 Q (F0 m 231 ls [])), ∀ (z1 : Int32) (z2 : Int64) (z4 : Int64) (z6 : Int32) (z9 : Int32) (s0 : Int32) (s1 : Int32) (σ : MST) (H : Heap) (locs : List Loc) (ls : Array Slot), w_M_run_317 K231 P z1 z2 z4 z6 z9 s0 s1 σ → MH (dC, dI) A mo rf ca σ s H locs → lv_has ls 12 [(0, .ref mo), (1, .int z1), (2, .long z2), (4, .long z4), (6, .int z6), (9, .int z9)] → W p l e ({ frames := 5, cells := 0, slots := 0, locals := 123 } : Room) s m ([.ref mo, .int x1, .long x2, .long x4, .int x6] : List Value).toArray below meth cx H locs 0 0 Q (F0 m 317 ls [.int s0, .int s1]) := by
    intro K231 hK231 z1 z2 z4 z6 z9 s0 s1 σ H locs ls hw h hl
    unfold w_M_run_317 at hw
    refine lv_iadd hx hb e_M_run_317 ?_
    refine lv_istore (lv' := [(8, .int (s1 + s0)), (0, .ref mo), (1, .int z1), (2, .long z2), (4, .long z4), (6, .int z6), (9, .int z9)]) hx hb e_M_run_318 hl (by decide) rfl (fun ls hl => ?_)
    refine lv_iinc (v := (z9 + 1)) (lv' := [(9, .int (z9 + 1)), (8, .int (s1 + s0)), (0, .ref mo), (1, .int z1), (2, .long z2), (4, .long z4), (6, .int z6)]) hx hb e_M_run_320 hl (k := 6) rfl (rfl) (by decide) rfl (fun ls hl => ?_)
    refine lv_goto (tgt := 231) hx hb e_M_run_323 (by decide) ?_
    exact hK231 z1 z2 z4 z6 (s1 + s0) (z9 + 1) σ _ _ _ hw h (lv_sub hl [2, 3, 4, 5, 6, 1, 0] rfl)
  have K_292 : ∀ (K231 : Int32 → Int64 → Int64 → Int32 → Int32 → Int32 → MST → Prop) (hK231 : ∀ (z1 : Int32) (z2 : Int64) (z4 : Int64) (z6 : Int32) (z8 : Int32) (z9 : Int32) (σ : MST) (H : Heap) (locs : List Loc) (ls : Array Slot), K231 z1 z2 z4 z6 z8 z9 σ → MH (dC, dI) A mo rf ca σ s H locs → lv_has ls 12 [(0, .ref mo), (1, .int z1), (2, .long z2), (4, .long z4), (6, .int z6), (8, .int z8), (9, .int z9)] → W p l e ({ frames := 5, cells := 0, slots := 0, locals := 123 } : Room) s m ([.ref mo, .int x1, .long x2, .long x4, .int x6] : List Value).toArray below meth cx H locs 0 0 Q (F0 m 231 ls [])), ∀ (z1 : Int32) (z2 : Int64) (z4 : Int64) (z6 : Int32) (z8 : Int32) (z9 : Int32) (s0 : Int64) (s1 : Int32) (σ : MST) (H : Heap) (locs : List Loc) (ls : Array Slot), w_M_run_292 K231 P z1 z2 z4 z6 z8 z9 s0 s1 σ → MH (dC, dI) A mo rf ca σ s H locs → lv_has ls 12 [(0, .ref mo), (1, .int z1), (2, .long z2), (4, .long z4), (6, .int z6), (8, .int z8), (9, .int z9)] → W p l e ({ frames := 5, cells := 0, slots := 0, locals := 123 } : Room) s m ([.ref mo, .int x1, .long x2, .long x4, .int x6] : List Value).toArray below meth cx H locs 0 0 Q (F0 m 292 ls [.long s0, .int s1, .ref mo]) := by
    intro K231 hK231 z1 z2 z4 z6 z8 z9 s0 s1 σ H locs ls hw h hl
    unfold w_M_run_292 at hw
    refine M_callv (As := [.int s1, .long s0]) (rest := []) C h hA (K_M_setLocal l dC dI mo rf ca H.size σ s1 s0 hw) (cwV 2 hts (gV hsub v_360 v_361 v_362 v_7 v_363) rfl rfl rfl (by decide +kernel) ⟨(Nat.le_of_ble_eq_true rfl), (Nat.le_of_ble_eq_true rfl)⟩) rfl hl.1 (Nat.le_of_ble_eq_true rfl) e_M_run_292 ⟨(Nat.le_of_ble_eq_true rfl), (Nat.le_of_ble_eq_true rfl)⟩ (fun σ24 H locs hw h => ?_)
    refine W.eq (g2 := F0 m 295 ls []) rfl ?_
    refine lv_iload hx hb e_M_run_295 (lv_at hl 5 rfl) ?_
    refine lv_aload_n hx hb e_M_run_297 rfl (lv_at hl 0 rfl) ?_
    refine M_get C h 9 (v := .ref (rf 9)) rfl (by decide) v_45 e_M_run_298 ?_
    refine lv_iconst (v := 4) hx hb e_M_run_301 (by decide) ?_
    refine lv_iload_n hx hb e_M_run_302 rfl (lv_at hl 1 rfl) ?_
    refine lv_imul hx hb e_M_run_303 ?_
    refine lv_iload hx hb e_M_run_304 (lv_at hl 6 rfl) ?_
    refine lv_iadd hx hb e_M_run_306 ?_
    refine M_ald C h 9 (by decide) rfl hw.1 e_M_run_307 ?_
    replace hw := hw.2
    refine lv_topi (fun a26 e_a26 => ?_)
    replace hw := hw a26 e_a26
    refine lv_iconst (v := 2) hx hb e_M_run_308 (by decide) ?_
    refine lv_icmp_ne (tgt := 316) hx hb e_M_run_309 (by decide) (fun c27 => ?_) (fun c27 => ?_)
    · skip
      replace hw := hw.2 c27
      refine lv_iconst (v := 1) hx hb e_M_run_316 (by decide) ?_
      exact K_317 _ hK231 z1 z2 z4 z6 z9 1 z8 σ24 _ _ _ hw h (lv_sub hl [0, 1, 2, 3, 4, 6] rfl)
    · skip
      replace hw := hw.1 c27
      refine lv_iconst (v := 2) hx hb e_M_run_312 (by decide) ?_
      refine lv_goto (tgt := 317) hx hb e_M_run_313 (by decide) ?_
      exact K_317 _ hK231 z1 z2 z4 z6 z9 2 z8 σ24 _ _ _ hw h (lv_sub hl [0, 1, 2, 3, 4, 6] rfl)
  have K_263 : ∀ (K231 : Int32 → Int64 → Int64 → Int32 → Int32 → Int32 → MST → Prop) (hK231 : ∀ (z1 : Int32) (z2 : Int64) (z4 : Int64) (z6 : Int32) (z8 : Int32) (z9 : Int32) (σ : MST) (H : Heap) (locs : List Loc) (ls : Array Slot), K231 z1 z2 z4 z6 z8 z9 σ → MH (dC, dI) A mo rf ca σ s H locs → lv_has ls 12 [(0, .ref mo), (1, .int z1), (2, .long z2), (4, .long z4), (6, .int z6), (8, .int z8), (9, .int z9)] → W p l e ({ frames := 5, cells := 0, slots := 0, locals := 123 } : Room) s m ([.ref mo, .int x1, .long x2, .long x4, .int x6] : List Value).toArray below meth cx H locs 0 0 Q (F0 m 231 ls [])), ∀ (z1 : Int32) (z2 : Int64) (z4 : Int64) (z6 : Int32) (z8 : Int32) (z9 : Int32) (s0 : Int64) (σ : MST) (H : Heap) (locs : List Loc) (ls : Array Slot), w_M_run_263 K231 P z1 z2 z4 z6 z8 z9 s0 σ → MH (dC, dI) A mo rf ca σ s H locs → lv_has ls 12 [(0, .ref mo), (1, .int z1), (2, .long z2), (4, .long z4), (6, .int z6), (8, .int z8), (9, .int z9)] → W p l e ({ frames := 5, cells := 0, slots := 0, locals := 123 } : Room) s m ([.ref mo, .int x1, .long x2, .long x4, .int x6] : List Value).toArray below meth cx H locs 0 0 Q (F0 m 263 ls [.long s0]) := by
    intro K231 hK231 z1 z2 z4 z6 z8 z9 s0 σ H locs ls hw h hl
    unfold w_M_run_263 at hw
    refine lv_lstore (lv' := [(10, .long s0), (0, .ref mo), (1, .int z1), (2, .long z2), (4, .long z4), (6, .int z6), (8, .int z8), (9, .int z9)]) hx hb e_M_run_263 hl (by decide) rfl (fun ls hl => ?_)
    refine lv_aload_n hx hb e_M_run_265 rfl (lv_at hl 1 rfl) ?_
    refine lv_iload hx hb e_M_run_266 (lv_at hl 6 rfl) ?_
    refine lv_aload_n hx hb e_M_run_268 rfl (lv_at hl 1 rfl) ?_
    refine M_get C h 9 (v := .ref (rf 9)) rfl (by decide) v_45 e_M_run_269 ?_
    refine lv_iload_n hx hb e_M_run_272 rfl (lv_at hl 2 rfl) ?_
    refine lv_iconst (v := 4) hx hb e_M_run_273 (by decide) ?_
    refine lv_imul hx hb e_M_run_274 ?_
    refine lv_iload hx hb e_M_run_275 (lv_at hl 7 rfl) ?_
    refine lv_iadd hx hb e_M_run_277 ?_
    refine M_ald C h 9 (by decide) rfl hw.1 e_M_run_278 ?_
    replace hw := hw.2
    refine lv_topi (fun a28 e_a28 => ?_)
    replace hw := hw a28 e_a28
    refine lv_iconst (v := 1) hx hb e_M_run_279 (by decide) ?_
    refine lv_icmp_ne (tgt := 290) hx hb e_M_run_280 (by decide) (fun c29 => ?_) (fun c29 => ?_)
    · skip
      replace hw := hw.2 c29
      refine lv_lload hx hb e_M_run_290 (lv_at hl 0 rfl) ?_
      exact K_292 _ hK231 z1 z2 z4 z6 z8 z9 s0 z8 σ _ _ _ hw h (lv_sub hl [1, 2, 3, 4, 5, 6, 7] rfl)
    · skip
      replace hw := hw.1 c29
      refine lv_lload hx hb e_M_run_283 (lv_at hl 0 rfl) ?_
      refine lv_l2i (v := (s0 : Int64).toInt32) hx hb e_M_run_285 rfl ?_
      refine lv_i2l (v := (((s0 : Int64).toInt32) : Int32).toInt64) hx hb e_M_run_286 rfl ?_
      refine lv_goto (tgt := 292) hx hb e_M_run_287 (by decide) ?_
      exact K_292 _ hK231 z1 z2 z4 z6 z8 z9 ((((s0 : Int64).toInt32) : Int32).toInt64) z8 σ _ _ _ hw h (lv_sub hl [1, 2, 3, 4, 5, 6, 7] rfl)
  have K_231 : ∀ (n : Nat), ∀ (z1 : Int32) (z2 : Int64) (z4 : Int64) (z6 : Int32) (z8 : Int32) (z9 : Int32) (σ : MST) (H : Heap) (locs : List Loc) (ls : Array Slot), w_M_run_231 P n z1 z2 z4 z6 z8 z9 σ → MH (dC, dI) A mo rf ca σ s H locs → lv_has ls 12 [(0, .ref mo), (1, .int z1), (2, .long z2), (4, .long z4), (6, .int z6), (8, .int z8), (9, .int z9)] → W p l e ({ frames := 5, cells := 0, slots := 0, locals := 123 } : Room) s m ([.ref mo, .int x1, .long x2, .long x4, .int x6] : List Value).toArray below meth cx H locs 0 0 Q (F0 m 231 ls []) := by
    intro  n
    induction n with
    | zero => intro z1 z2 z4 z6 z8 z9 σ H locs ls hw h hl; unfold w_M_run_231 at hw; exact hw.elim
    | succ n ih =>
      intro z1 z2 z4 z6 z8 z9 σ H locs ls hw h hl
      unfold w_M_run_231 at hw
      refine lv_iload hx hb e_M_run_231 (lv_at hl 6 rfl) ?_
      refine lv_aload_n hx hb e_M_run_233 rfl (lv_at hl 0 rfl) ?_
      refine M_get C h 10 (v := .ref (rf 10)) rfl (by decide) v_42 e_M_run_234 ?_
      refine lv_iload_n hx hb e_M_run_237 rfl (lv_at hl 1 rfl) ?_
      refine M_ald C h 10 (by decide) rfl hw.1 e_M_run_238 ?_
      replace hw := hw.2
      refine lv_topi (fun a30 e_a30 => ?_)
      replace hw := hw a30 e_a30
      refine lv_icmp_ge (tgt := 326) hx hb e_M_run_239 (by decide) (fun c31 => ?_) (fun c31 => ?_)
      · skip
        replace hw := hw.1 c31
        obtain ⟨n9, hw⟩ := hw
        exact K_326 n9 z1 z6 σ _ _ _ hw h (lv_sub hl [0, 1, 4] rfl)
      · skip
        replace hw := hw.2 c31
        refine lv_iload hx hb e_M_run_242 (lv_at hl 6 rfl) ?_
        refine lv_if_ne (tgt := 251) hx hb e_M_run_244 (by decide) (fun c32 => ?_) (fun c32 => ?_)
        · skip
          replace hw := hw.2 c32
          refine lv_iload hx hb e_M_run_251 (lv_at hl 6 rfl) ?_
          refine lv_iconst (v := 1) hx hb e_M_run_253 (by decide) ?_
          refine lv_icmp_ne (tgt := 262) hx hb e_M_run_254 (by decide) (fun c33 => ?_) (fun c33 => ?_)
          · skip
            replace hw := hw.2 c33
            refine lv_lconst (v := 0) hx hb e_M_run_262 (by decide) ?_
            exact K_263 _ ih z1 z2 z4 z6 z8 z9 0 σ _ _ _ hw h (lv_sub hl [0, 1, 2, 3, 4, 5, 6] rfl)
          · skip
            replace hw := hw.1 c33
            refine lv_lload hx hb e_M_run_257 (lv_at hl 3 rfl) ?_
            refine lv_goto (tgt := 263) hx hb e_M_run_259 (by decide) ?_
            exact K_263 _ ih z1 z2 z4 z6 z8 z9 z4 σ _ _ _ hw h (lv_sub hl [0, 1, 2, 3, 4, 5, 6] rfl)
        · skip
          replace hw := hw.1 c32
          refine lv_lload_n hx hb e_M_run_247 rfl (lv_at hl 2 rfl) ?_
          refine lv_goto (tgt := 263) hx hb e_M_run_248 (by decide) ?_
          exact K_263 _ ih z1 z2 z4 z6 z8 z9 z2 σ _ _ _ hw h (lv_sub hl [0, 1, 2, 3, 4, 5, 6] rfl)
  have K_156 : ∀ (n : Nat), ∀ (z1 : Int32) (z2 : Int64) (z4 : Int64) (z6 : Int32) (z8 : Int32) (σ : MST) (H : Heap) (locs : List Loc) (ls : Array Slot), w_M_run_156 P n z1 z2 z4 z6 z8 σ → MH (dC, dI) A mo rf ca σ s H locs → lv_has ls 12 [(0, .ref mo), (1, .int z1), (2, .long z2), (4, .long z4), (6, .int z6), (8, .int z8)] → W p l e ({ frames := 5, cells := 0, slots := 0, locals := 123 } : Room) s m ([.ref mo, .int x1, .long x2, .long x4, .int x6] : List Value).toArray below meth cx H locs 0 0 Q (F0 m 156 ls []) := by
    intro  n
    induction n with
    | zero => intro z1 z2 z4 z6 z8 σ H locs ls hw h hl; unfold w_M_run_156 at hw; exact hw.elim
    | succ n ih =>
      intro z1 z2 z4 z6 z8 σ H locs ls hw h hl
      unfold w_M_run_156 at hw
      refine lv_iload hx hb e_M_run_156 (lv_at hl 5 rfl) ?_
      refine lv_bipush (v := 16) hx hb e_M_run_158 (by decide) ?_
      refine lv_icmp_ge (tgt := 186) hx hb e_M_run_160 (by decide) (fun c34 => ?_) (fun c34 => ?_)
      · skip
        replace hw := hw.1 c34
        refine lv_aload_n hx hb e_M_run_186 rfl (lv_at hl 0 rfl) ?_
        refine lv_iconst (v := 0) hx hb e_M_run_187 (by decide) ?_
        refine M_puti C h 58 (by decide) rfl rfl (by decide +kernel) v_314 e_M_run_188 (fun H locs h => ?_)
        obtain ⟨σ35, e_σ35⟩ : ∃ z : MST, z = setI σ 58 0 := ⟨_, rfl⟩
        rw [← e_σ35] at h
        replace hw := hw σ35 e_σ35
        refine lv_aload_n hx hb e_M_run_191 rfl (lv_at hl 0 rfl) ?_
        refine lv_iconst (v := 0) hx hb e_M_run_192 (by decide) ?_
        refine M_puti C h 63 (by decide) rfl rfl (by decide +kernel) v_309 e_M_run_193 (fun H locs h => ?_)
        obtain ⟨σ36, e_σ36⟩ : ∃ z : MST, z = setI σ35 63 0 := ⟨_, rfl⟩
        rw [← e_σ36] at h
        replace hw := hw σ36 e_σ36
        refine lv_aload_n hx hb e_M_run_196 rfl (lv_at hl 0 rfl) ?_
        refine lv_iconst (v := 1) hx hb e_M_run_197 (by decide) ?_
        refine M_putz C h 69 (by decide) rfl rfl (by decide +kernel) rfl rfl v_311 e_M_run_198 (fun H locs h => ?_)
        obtain ⟨σ37, e_σ37⟩ : ∃ z : MST, z = setI σ36 69 1 := ⟨_, rfl⟩
        rw [← e_σ37] at h
        replace hw := hw σ37 e_σ37
        refine lv_aload_n hx hb e_M_run_201 rfl (lv_at hl 0 rfl) ?_
        refine lv_lconst (v := 0) hx hb e_M_run_202 (by decide) ?_
        refine M_putj C h rfl (by decide +kernel) v_367 e_M_run_203 (fun H locs h => ?_)
        obtain ⟨σ38, e_σ38⟩ : ∃ z : MST, z = setJ σ37 0 := ⟨_, rfl⟩
        rw [← e_σ38] at h
        replace hw := hw σ38 e_σ38
        refine lv_aload_n hx hb e_M_run_206 rfl (lv_at hl 0 rfl) ?_
        refine M_get C h 56 (v := .ref (rf 56)) rfl (by decide) v_312 e_M_run_207 ?_
        refine lv_iconst (v := 1) hx hb e_M_run_210 (by decide) ?_
        refine lv_iconst (v := 0) hx hb e_M_run_211 (by decide) ?_
        refine M_ast C h 56 (by decide) rfl (vp_in_iff.mpr (by decide)) e_M_run_212 (fun H locs h => ?_)
        obtain ⟨σ39, e_σ39⟩ : ∃ z : MST, z = setA σ38 56 (upd (σ38.2.1 56) (1 : Int32).toNatClampNeg 0) := ⟨_, rfl⟩
        rw [← e_σ39] at h
        replace hw := hw σ39 e_σ39
        refine lv_aload_n hx hb e_M_run_213 rfl (lv_at hl 0 rfl) ?_
        refine M_get C h 56 (v := .ref (rf 56)) rfl (by decide) v_312 e_M_run_214 ?_
        refine lv_iconst (v := 2) hx hb e_M_run_217 (by decide) ?_
        refine lv_iconst (v := (-1)) hx hb e_M_run_218 (by decide) ?_
        refine M_ast C h 56 (by decide) rfl (vp_in_iff.mpr (by decide)) e_M_run_219 (fun H locs h => ?_)
        obtain ⟨σ40, e_σ40⟩ : ∃ z : MST, z = setA σ39 56 (upd (σ39.2.1 56) (2 : Int32).toNatClampNeg (-1)) := ⟨_, rfl⟩
        rw [← e_σ40] at h
        replace hw := hw σ40 e_σ40
        refine lv_aload_n hx hb e_M_run_220 rfl (lv_at hl 0 rfl) ?_
        refine lv_iload_n hx hb e_M_run_221 rfl (lv_at hl 1 rfl) ?_
        refine M_callv (As := [.int z1]) (rest := []) C h hA (K_M_enter l dC dI mo rf ca H.size σ40 z1 hw) (cwV 1 hts (gV hsub v_369 v_370 v_371 v_7 v_372) rfl rfl rfl (by decide +kernel) ⟨(Nat.le_of_ble_eq_true rfl), (Nat.le_of_ble_eq_true rfl)⟩) rfl hl.1 (Nat.le_of_ble_eq_true rfl) e_M_run_222 ⟨(Nat.le_of_ble_eq_true rfl), (Nat.le_of_ble_eq_true rfl)⟩ (fun σ41 H locs hw h => ?_)
        refine W.eq (g2 := F0 m 225 ls []) rfl ?_
        refine lv_iconst (v := 0) hx hb e_M_run_225 (by decide) ?_
        refine lv_istore (lv' := [(8, .int 0), (0, .ref mo), (1, .int z1), (2, .long z2), (4, .long z4), (6, .int z6)]) hx hb e_M_run_226 hl (by decide) rfl (fun ls hl => ?_)
        refine lv_iconst (v := 0) hx hb e_M_run_228 (by decide) ?_
        refine lv_istore (lv' := [(9, .int 0), (8, .int 0), (0, .ref mo), (1, .int z1), (2, .long z2), (4, .long z4), (6, .int z6)]) hx hb e_M_run_229 hl (by decide) rfl (fun ls hl => ?_)
        obtain ⟨n9, hw⟩ := hw
        exact K_231 n9 z1 z2 z4 z6 0 0 σ41 _ _ _ hw h (lv_sub hl [2, 3, 4, 5, 6, 1, 0] rfl)
      · skip
        replace hw := hw.2 c34
        refine lv_aload_n hx hb e_M_run_163 rfl (lv_at hl 0 rfl) ?_
        refine M_get C h 57 (v := .ref (rf 57)) rfl (by decide) v_368 e_M_run_164 ?_
        refine lv_iload hx hb e_M_run_167 (lv_at hl 5 rfl) ?_
        refine lv_aload_n hx hb e_M_run_169 rfl (lv_at hl 0 rfl) ?_
        refine M_get C h 6 (v := .ref (rf 6)) rfl (by decide) v_36 e_M_run_170 ?_
        refine lv_iload hx hb e_M_run_173 (lv_at hl 5 rfl) ?_
        refine M_ald C h 6 (by decide) rfl hw.1 e_M_run_175 ?_
        replace hw := hw.2
        refine lv_topi (fun a43 e_a43 => ?_)
        replace hw := hw a43 e_a43
        refine M_scalll (As := [.int a43]) (rest := [.int z8, .ref (rf 57)]) C h hA (K_M_zero l dC dI mo rf ca H.size σ a43 hw) (va_cwS 1 hts (gS hsub v_316 v_317 v_7 v_318) rfl rfl rfl (by decide +kernel) ⟨(Nat.le_of_ble_eq_true rfl), (Nat.le_of_ble_eq_true rfl)⟩) rfl hl.1 (Nat.le_of_ble_eq_true rfl) e_M_run_176 ⟨(Nat.le_of_ble_eq_true rfl), (Nat.le_of_ble_eq_true rfl)⟩ (fun r45 σ44 H locs hw h => ?_)
        refine W.eq (g2 := F0 m 179 ls [.long r45, .int z8, .ref (rf 57)]) rfl ?_
        refine M_last C h 57 (by decide) rfl hw.1 e_M_run_179 (fun H locs h => ?_)
        replace hw := hw.2
        obtain ⟨σ46, e_σ46⟩ : ∃ z : MST, z = setL σ44 57 (vp_updL (σ44.2.2.1 57) (z8 : Int32).toNatClampNeg r45) := ⟨_, rfl⟩
        rw [← e_σ46] at h
        replace hw := hw σ46 e_σ46
        refine lv_iinc (v := (z8 + 1)) (lv' := [(8, .int (z8 + 1)), (0, .ref mo), (1, .int z1), (2, .long z2), (4, .long z4), (6, .int z6)]) hx hb e_M_run_180 hl (k := 5) rfl (rfl) (by decide) rfl (fun ls hl => ?_)
        refine lv_goto (tgt := 156) hx hb e_M_run_183 (by decide) ?_
        exact ih z1 z2 z4 z6 (z8 + 1) σ46 _ _ _ hw h (lv_sub hl [1, 2, 3, 4, 5, 0] rfl)
  have K_126 : ∀ (u9 : Unit), ∀ (z1 : Int32) (z2 : Int64) (z4 : Int64) (z6 : Int32) (z7 : Int32) (σ : MST) (H : Heap) (locs : List Loc) (ls : Array Slot), w_M_run_126 P z1 z2 z4 z6 z7 σ → MH (dC, dI) A mo rf ca σ s H locs → lv_has ls 12 [(0, .ref mo), (1, .int z1), (2, .long z2), (4, .long z4), (6, .int z6), (7, .int z7)] → W p l e ({ frames := 5, cells := 0, slots := 0, locals := 123 } : Room) s m ([.ref mo, .int x1, .long x2, .long x4, .int x6] : List Value).toArray below meth cx H locs 0 0 Q (F0 m 126 ls []) := by
    intro u9 z1 z2 z4 z6 z7 σ H locs ls hw h hl
    unfold w_M_run_126 at hw
    refine lv_iload hx hb e_M_run_126 (lv_at hl 5 rfl) ?_
    refine lv_if_ne (tgt := 138) hx hb e_M_run_128 (by decide) (fun c47 => ?_) (fun c47 => ?_)
    · skip
      replace hw := hw.2 c47
      refine lv_aload_n hx hb e_M_run_138 rfl (lv_at hl 0 rfl) ?_
      refine lv_iload_n hx hb e_M_run_139 rfl (lv_at hl 1 rfl) ?_
      refine M_calli (As := [.int z1]) (rest := []) C h hA (K_M_isReady l dC dI mo rf ca H.size σ z1 hw) (cwV 1 hts (gV hsub v_411 v_412 v_413 v_7 v_414) rfl rfl rfl (by decide +kernel) ⟨(Nat.le_of_ble_eq_true rfl), (Nat.le_of_ble_eq_true rfl)⟩) rfl hl.1 (Nat.le_of_ble_eq_true rfl) e_M_run_140 ⟨(Nat.le_of_ble_eq_true rfl), (Nat.le_of_ble_eq_true rfl)⟩ (fun r49 σ48 H locs hw h => ?_)
      refine W.eq (g2 := F0 m 143 ls [.int r49]) rfl ?_
      refine lv_if_ne (tgt := 153) hx hb e_M_run_143 (by decide) (fun c50 => ?_) (fun c50 => ?_)
      · skip
        replace hw := hw.2 c50
        refine lv_iconst (v := 0) hx hb e_M_run_153 (by decide) ?_
        refine lv_istore (lv' := [(8, .int 0), (0, .ref mo), (1, .int z1), (2, .long z2), (4, .long z4), (6, .int z6), (7, .int z7)]) hx hb e_M_run_154 hl (by decide) rfl (fun ls hl => ?_)
        obtain ⟨n9, hw⟩ := hw
        exact K_156 n9 z1 z2 z4 z6 0 σ48 _ _ _ hw h (lv_sub hl [1, 2, 3, 4, 5, 0] rfl)
      · skip
        replace hw := hw.1 c50
        refine lv_aload_n hx hb e_M_run_146 rfl (lv_at hl 0 rfl) ?_
        refine lv_iconst (v := 2) hx hb e_M_run_147 (by decide) ?_
        refine M_calli (As := [.int 2]) (rest := []) C h hA (K_M_fails l dC dI mo rf ca H.size σ48 (2 : Int32) hw) (cwV 1 hts (gV hsub v_26 v_27 v_28 v_7 v_29) rfl rfl rfl (by decide +kernel) ⟨(Nat.le_of_ble_eq_true rfl), (Nat.le_of_ble_eq_true rfl)⟩) rfl hl.1 (Nat.le_of_ble_eq_true rfl) e_M_run_148 ⟨(Nat.le_of_ble_eq_true rfl), (Nat.le_of_ble_eq_true rfl)⟩ (fun r52 σ51 H locs hw h => ?_)
        refine W.eq (g2 := F0 m 151 ls [.int r52]) rfl ?_
        refine lv_i2l (v := (r52 : Int32).toInt64) hx hb e_M_run_151 rfl ?_
        exact hend ((r52 : Int32).toInt64) σ51 _ _ _ _ hw h e_M_run_152
    · skip
      replace hw := hw.1 c47
      refine lv_aload_n hx hb e_M_run_131 rfl (lv_at hl 0 rfl) ?_
      refine lv_iconst (v := 1) hx hb e_M_run_132 (by decide) ?_
      refine M_calli (As := [.int 1]) (rest := []) C h hA (K_M_fails l dC dI mo rf ca H.size σ (1 : Int32) hw) (cwV 1 hts (gV hsub v_26 v_27 v_28 v_7 v_29) rfl rfl rfl (by decide +kernel) ⟨(Nat.le_of_ble_eq_true rfl), (Nat.le_of_ble_eq_true rfl)⟩) rfl hl.1 (Nat.le_of_ble_eq_true rfl) e_M_run_133 ⟨(Nat.le_of_ble_eq_true rfl), (Nat.le_of_ble_eq_true rfl)⟩ (fun r54 σ53 H locs hw h => ?_)
      refine W.eq (g2 := F0 m 136 ls [.int r54]) rfl ?_
      refine lv_i2l (v := (r54 : Int32).toInt64) hx hb e_M_run_136 rfl ?_
      exact hend ((r54 : Int32).toInt64) σ53 _ _ _ _ hw h e_M_run_137
  have K_118 : ∀ (K73 : Int32 → Int64 → Int64 → Int32 → Int32 → Int32 → MST → Prop) (hK73 : ∀ (z1 : Int32) (z2 : Int64) (z4 : Int64) (z6 : Int32) (z7 : Int32) (z8 : Int32) (σ : MST) (H : Heap) (locs : List Loc) (ls : Array Slot), K73 z1 z2 z4 z6 z7 z8 σ → MH (dC, dI) A mo rf ca σ s H locs → lv_has ls 12 [(0, .ref mo), (1, .int z1), (2, .long z2), (4, .long z4), (6, .int z6), (7, .int z7), (8, .int z8)] → W p l e ({ frames := 5, cells := 0, slots := 0, locals := 123 } : Room) s m ([.ref mo, .int x1, .long x2, .long x4, .int x6] : List Value).toArray below meth cx H locs 0 0 Q (F0 m 73 ls [])), ∀ (z1 : Int32) (z2 : Int64) (z4 : Int64) (z6 : Int32) (z8 : Int32) (s0 : Int32) (σ : MST) (H : Heap) (locs : List Loc) (ls : Array Slot), w_M_run_118 K73 P z1 z2 z4 z6 z8 s0 σ → MH (dC, dI) A mo rf ca σ s H locs → lv_has ls 12 [(0, .ref mo), (1, .int z1), (2, .long z2), (4, .long z4), (6, .int z6), (8, .int z8)] → W p l e ({ frames := 5, cells := 0, slots := 0, locals := 123 } : Room) s m ([.ref mo, .int x1, .long x2, .long x4, .int x6] : List Value).toArray below meth cx H locs 0 0 Q (F0 m 118 ls [.int s0]) := by
    intro K73 hK73 z1 z2 z4 z6 z8 s0 σ H locs ls hw h hl
    unfold w_M_run_118 at hw
    refine lv_istore (lv' := [(7, .int s0), (0, .ref mo), (1, .int z1), (2, .long z2), (4, .long z4), (6, .int z6), (8, .int z8)]) hx hb e_M_run_118 hl (by decide) rfl (fun ls hl => ?_)
    refine lv_iinc (v := (z8 + 1)) (lv' := [(8, .int (z8 + 1)), (7, .int s0), (0, .ref mo), (1, .int z1), (2, .long z2), (4, .long z4), (6, .int z6)]) hx hb e_M_run_120 hl (k := 6) rfl (rfl) (by decide) rfl (fun ls hl => ?_)
    refine lv_goto (tgt := 73) hx hb e_M_run_123 (by decide) ?_
    exact hK73 z1 z2 z4 z6 s0 (z8 + 1) σ _ _ _ hw h (lv_sub hl [2, 3, 4, 5, 6, 1, 0] rfl)
  have K_89 : ∀ (K73 : Int32 → Int64 → Int64 → Int32 → Int32 → Int32 → MST → Prop) (hK73 : ∀ (z1 : Int32) (z2 : Int64) (z4 : Int64) (z6 : Int32) (z7 : Int32) (z8 : Int32) (σ : MST) (H : Heap) (locs : List Loc) (ls : Array Slot), K73 z1 z2 z4 z6 z7 z8 σ → MH (dC, dI) A mo rf ca σ s H locs → lv_has ls 12 [(0, .ref mo), (1, .int z1), (2, .long z2), (4, .long z4), (6, .int z6), (7, .int z7), (8, .int z8)] → W p l e ({ frames := 5, cells := 0, slots := 0, locals := 123 } : Room) s m ([.ref mo, .int x1, .long x2, .long x4, .int x6] : List Value).toArray below meth cx H locs 0 0 Q (F0 m 73 ls [])), ∀ (z1 : Int32) (z2 : Int64) (z4 : Int64) (z6 : Int32) (z7 : Int32) (z8 : Int32) (s0 : Int32) (s2 : Int32) (σ : MST) (H : Heap) (locs : List Loc) (ls : Array Slot), w_M_run_89 K73 P z1 z2 z4 z6 z7 z8 s0 s2 σ → MH (dC, dI) A mo rf ca σ s H locs → lv_has ls 12 [(0, .ref mo), (1, .int z1), (2, .long z2), (4, .long z4), (6, .int z6), (7, .int z7), (8, .int z8)] → W p l e ({ frames := 5, cells := 0, slots := 0, locals := 123 } : Room) s m ([.ref mo, .int x1, .long x2, .long x4, .int x6] : List Value).toArray below meth cx H locs 0 0 Q (F0 m 89 ls [.int s0, .ref (rf 10), .int s2]) := by
    intro K73 hK73 z1 z2 z4 z6 z7 z8 s0 s2 σ H locs ls hw h hl
    unfold w_M_run_89 at hw
    refine M_ald C h 10 (by decide) rfl hw.1 e_M_run_89 ?_
    replace hw := hw.2
    refine lv_topi (fun a55 e_a55 => ?_)
    replace hw := hw a55 e_a55
    refine lv_icmp_ge (tgt := 126) hx hb e_M_run_90 (by decide) (fun c56 => ?_) (fun c56 => ?_)
    · skip
      replace hw := hw.1 c56
      exact K_126 () z1 z2 z4 z6 z7 σ _ _ _ hw h (lv_sub hl [0, 1, 2, 3, 4, 5] rfl)
    · skip
      replace hw := hw.2 c56
      refine lv_iload hx hb e_M_run_93 (lv_at hl 5 rfl) ?_
      refine lv_if_eq (tgt := 126) hx hb e_M_run_95 (by decide) (fun c57 => ?_) (fun c57 => ?_)
      · skip
        replace hw := hw.1 c57
        exact K_126 () z1 z2 z4 z6 z7 σ _ _ _ hw h (lv_sub hl [0, 1, 2, 3, 4, 5] rfl)
      · skip
        replace hw := hw.2 c57
        refine lv_aload_n hx hb e_M_run_98 rfl (lv_at hl 0 rfl) ?_
        refine M_get C h 9 (v := .ref (rf 9)) rfl (by decide) v_45 e_M_run_99 ?_
        refine lv_iconst (v := 4) hx hb e_M_run_102 (by decide) ?_
        refine lv_iload_n hx hb e_M_run_103 rfl (lv_at hl 1 rfl) ?_
        refine lv_imul hx hb e_M_run_104 ?_
        refine lv_iload hx hb e_M_run_105 (lv_at hl 6 rfl) ?_
        refine lv_iadd hx hb e_M_run_107 ?_
        refine M_ald C h 9 (by decide) rfl hw.1 e_M_run_108 ?_
        replace hw := hw.2
        refine lv_topi (fun a58 e_a58 => ?_)
        replace hw := hw a58 e_a58
        refine lv_iconst (v := 2) hx hb e_M_run_109 (by decide) ?_
        refine lv_icmp_gt (tgt := 117) hx hb e_M_run_110 (by decide) (fun c59 => ?_) (fun c59 => ?_)
        · skip
          replace hw := hw.1 c59
          refine lv_iconst (v := 0) hx hb e_M_run_117 (by decide) ?_
          exact K_118 _ hK73 z1 z2 z4 z6 z8 0 σ _ _ _ hw h (lv_sub hl [0, 1, 2, 3, 4, 6] rfl)
        · skip
          replace hw := hw.2 c59
          refine lv_iconst (v := 1) hx hb e_M_run_113 (by decide) ?_
          refine lv_goto (tgt := 118) hx hb e_M_run_114 (by decide) ?_
          exact K_118 _ hK73 z1 z2 z4 z6 z8 1 σ _ _ _ hw h (lv_sub hl [0, 1, 2, 3, 4, 6] rfl)
  have K_73 : ∀ (n : Nat), ∀ (z1 : Int32) (z2 : Int64) (z4 : Int64) (z6 : Int32) (z7 : Int32) (z8 : Int32) (σ : MST) (H : Heap) (locs : List Loc) (ls : Array Slot), w_M_run_73 P n z1 z2 z4 z6 z7 z8 σ → MH (dC, dI) A mo rf ca σ s H locs → lv_has ls 12 [(0, .ref mo), (1, .int z1), (2, .long z2), (4, .long z4), (6, .int z6), (7, .int z7), (8, .int z8)] → W p l e ({ frames := 5, cells := 0, slots := 0, locals := 123 } : Room) s m ([.ref mo, .int x1, .long x2, .long x4, .int x6] : List Value).toArray below meth cx H locs 0 0 Q (F0 m 73 ls []) := by
    intro  n
    induction n with
    | zero => intro z1 z2 z4 z6 z7 z8 σ H locs ls hw h hl; unfold w_M_run_73 at hw; exact hw.elim
    | succ n ih =>
      intro z1 z2 z4 z6 z7 z8 σ H locs ls hw h hl
      unfold w_M_run_73 at hw
      refine lv_iload hx hb e_M_run_73 (lv_at hl 6 rfl) ?_
      refine lv_aload_n hx hb e_M_run_75 rfl (lv_at hl 0 rfl) ?_
      refine M_get C h 10 (v := .ref (rf 10)) rfl (by decide) v_42 e_M_run_76 ?_
      refine lv_iload hx hb e_M_run_79 (lv_at hl 5 rfl) ?_
      refine lv_if_eq (tgt := 88) hx hb e_M_run_81 (by decide) (fun c60 => ?_) (fun c60 => ?_)
      · skip
        replace hw := hw.1 c60
        refine lv_iconst (v := 0) hx hb e_M_run_88 (by decide) ?_
        exact K_89 _ ih z1 z2 z4 z6 z7 z8 0 z8 σ _ _ _ hw h (lv_sub hl [0, 1, 2, 3, 4, 5, 6] rfl)
      · skip
        replace hw := hw.2 c60
        refine lv_iload_n hx hb e_M_run_84 rfl (lv_at hl 1 rfl) ?_
        refine lv_goto (tgt := 89) hx hb e_M_run_85 (by decide) ?_
        exact K_89 _ ih z1 z2 z4 z6 z7 z8 z1 z8 σ _ _ _ hw h (lv_sub hl [0, 1, 2, 3, 4, 5, 6] rfl)
  have K_68 : ∀ (u9 : Unit), ∀ (z1 : Int32) (z2 : Int64) (z4 : Int64) (z6 : Int32) (s0 : Int32) (σ : MST) (H : Heap) (locs : List Loc) (ls : Array Slot), w_M_run_68 P z1 z2 z4 z6 s0 σ → MH (dC, dI) A mo rf ca σ s H locs → lv_has ls 12 [(0, .ref mo), (1, .int z1), (2, .long z2), (4, .long z4), (6, .int z6)] → W p l e ({ frames := 5, cells := 0, slots := 0, locals := 123 } : Room) s m ([.ref mo, .int x1, .long x2, .long x4, .int x6] : List Value).toArray below meth cx H locs 0 0 Q (F0 m 68 ls [.int s0]) := by
    intro u9 z1 z2 z4 z6 s0 σ H locs ls hw h hl
    unfold w_M_run_68 at hw
    refine lv_istore (lv' := [(7, .int s0), (0, .ref mo), (1, .int z1), (2, .long z2), (4, .long z4), (6, .int z6)]) hx hb e_M_run_68 hl (by decide) rfl (fun ls hl => ?_)
    refine lv_iconst (v := 0) hx hb e_M_run_70 (by decide) ?_
    refine lv_istore (lv' := [(8, .int 0), (7, .int s0), (0, .ref mo), (1, .int z1), (2, .long z2), (4, .long z4), (6, .int z6)]) hx hb e_M_run_71 hl (by decide) rfl (fun ls hl => ?_)
    obtain ⟨n9, hw⟩ := hw
    exact K_73 n9 z1 z2 z4 z6 s0 0 σ _ _ _ hw h (lv_sub hl [2, 3, 4, 5, 6, 1, 0] rfl)
  have K_67 : ∀ (u9 : Unit), ∀ (z1 : Int32) (z2 : Int64) (z4 : Int64) (z6 : Int32) (σ : MST) (H : Heap) (locs : List Loc) (ls : Array Slot), w_M_run_67 P z1 z2 z4 z6 σ → MH (dC, dI) A mo rf ca σ s H locs → lv_has ls 12 [(0, .ref mo), (1, .int z1), (2, .long z2), (4, .long z4), (6, .int z6)] → W p l e ({ frames := 5, cells := 0, slots := 0, locals := 123 } : Room) s m ([.ref mo, .int x1, .long x2, .long x4, .int x6] : List Value).toArray below meth cx H locs 0 0 Q (F0 m 67 ls []) := by
    intro u9 z1 z2 z4 z6 σ H locs ls hw h hl
    unfold w_M_run_67 at hw
    refine lv_iconst (v := 0) hx hb e_M_run_67 (by decide) ?_
    exact K_68 () z1 z2 z4 z6 0 σ _ _ _ hw h (lv_sub hl [0, 1, 2, 3, 4] rfl)
  have K_46 : ∀ (u9 : Unit), ∀ (z1 : Int32) (z2 : Int64) (z4 : Int64) (z6 : Int32) (s0 : Int32) (σ : MST) (H : Heap) (locs : List Loc) (ls : Array Slot), w_M_run_46 P z1 z2 z4 z6 s0 σ → MH (dC, dI) A mo rf ca σ s H locs → lv_has ls 12 [(0, .ref mo), (1, .int z1), (2, .long z2), (4, .long z4), (6, .int z6)] → W p l e ({ frames := 5, cells := 0, slots := 0, locals := 123 } : Room) s m ([.ref mo, .int x1, .long x2, .long x4, .int x6] : List Value).toArray below meth cx H locs 0 0 Q (F0 m 46 ls [.int s0, .ref (rf 22)]) := by
    intro u9 z1 z2 z4 z6 s0 σ H locs ls hw h hl
    unfold w_M_run_46 at hw
    refine M_ald C h 22 (by decide) rfl hw.1 e_M_run_46 ?_
    replace hw := hw.2
    refine lv_topi (fun a61 e_a61 => ?_)
    replace hw := hw a61 e_a61
    refine lv_if_ne (tgt := 67) hx hb e_M_run_47 (by decide) (fun c62 => ?_) (fun c62 => ?_)
    · skip
      replace hw := hw.2 c62
      exact K_67 () z1 z2 z4 z6 σ _ _ _ hw h (lv_sub hl [0, 1, 2, 3, 4] rfl)
    · skip
      replace hw := hw.1 c62
      refine lv_iload hx hb e_M_run_50 (lv_at hl 4 rfl) ?_
      refine lv_if_le (tgt := 67) hx hb e_M_run_52 (by decide) (fun c63 => ?_) (fun c63 => ?_)
      · skip
        replace hw := hw.1 c63
        exact K_67 () z1 z2 z4 z6 σ _ _ _ hw h (lv_sub hl [0, 1, 2, 3, 4] rfl)
      · skip
        replace hw := hw.2 c63
        refine lv_iload hx hb e_M_run_55 (lv_at hl 4 rfl) ?_
        refine lv_sipush (v := 20000) hx hb e_M_run_57 (by decide) ?_
        refine lv_icmp_gt (tgt := 67) hx hb e_M_run_60 (by decide) (fun c64 => ?_) (fun c64 => ?_)
        · skip
          replace hw := hw.1 c64
          exact K_67 () z1 z2 z4 z6 σ _ _ _ hw h (lv_sub hl [0, 1, 2, 3, 4] rfl)
        · skip
          replace hw := hw.2 c64
          refine lv_iconst (v := 1) hx hb e_M_run_63 (by decide) ?_
          refine lv_goto (tgt := 68) hx hb e_M_run_64 (by decide) ?_
          exact K_68 () z1 z2 z4 z6 1 σ _ _ _ hw h (lv_sub hl [0, 1, 2, 3, 4] rfl)
  have K_25 : ∀ (u9 : Unit), ∀ (z1 : Int32) (z2 : Int64) (z4 : Int64) (z6 : Int32) (s0 : Int32) (σ : MST) (H : Heap) (locs : List Loc) (ls : Array Slot), w_M_run_25 P z1 z2 z4 z6 s0 σ → MH (dC, dI) A mo rf ca σ s H locs → lv_has ls 12 [(0, .ref mo), (1, .int z1), (2, .long z2), (4, .long z4), (6, .int z6)] → W p l e ({ frames := 5, cells := 0, slots := 0, locals := 123 } : Room) s m ([.ref mo, .int x1, .long x2, .long x4, .int x6] : List Value).toArray below meth cx H locs 0 0 Q (F0 m 25 ls [.int s0, .ref (rf 21)]) := by
    intro u9 z1 z2 z4 z6 s0 σ H locs ls hw h hl
    unfold w_M_run_25 at hw
    refine M_zald C h 21 (by decide) rfl hw.1 e_M_run_25 ?_
    replace hw := hw.2
    refine lv_topi (fun a65 e_a65 => ?_)
    replace hw := hw a65 e_a65
    refine lv_if_eq (tgt := 67) hx hb e_M_run_26 (by decide) (fun c66 => ?_) (fun c66 => ?_)
    · skip
      replace hw := hw.1 c66
      exact K_67 () z1 z2 z4 z6 σ _ _ _ hw h (lv_sub hl [0, 1, 2, 3, 4] rfl)
    · skip
      replace hw := hw.2 c66
      refine lv_aload_n hx hb e_M_run_29 rfl (lv_at hl 0 rfl) ?_
      refine M_get C h 22 (v := .ref (rf 22)) rfl (by decide) v_256 e_M_run_30 ?_
      refine lv_aload_n hx hb e_M_run_33 rfl (lv_at hl 0 rfl) ?_
      refine lv_iload_n hx hb e_M_run_34 rfl (lv_at hl 1 rfl) ?_
      refine M_calli (As := [.int z1]) (rest := [.ref (rf 22)]) C h hA (K_M_isMethod l dC dI mo rf ca H.size σ z1 hw) (cwV 1 hts (gV hsub v_56 v_57 v_58 v_7 v_59) rfl rfl rfl (by decide +kernel) ⟨(Nat.le_of_ble_eq_true rfl), (Nat.le_of_ble_eq_true rfl)⟩) rfl hl.1 (Nat.le_of_ble_eq_true rfl) e_M_run_35 ⟨(Nat.le_of_ble_eq_true rfl), (Nat.le_of_ble_eq_true rfl)⟩ (fun r68 σ67 H locs hw h => ?_)
      refine W.eq (g2 := F0 m 38 ls [.int r68, .ref (rf 22)]) rfl ?_
      refine lv_if_eq (tgt := 45) hx hb e_M_run_38 (by decide) (fun c69 => ?_) (fun c69 => ?_)
      · skip
        replace hw := hw.1 c69
        refine lv_iconst (v := 0) hx hb e_M_run_45 (by decide) ?_
        exact K_46 () z1 z2 z4 z6 0 σ67 _ _ _ hw h (lv_sub hl [0, 1, 2, 3, 4] rfl)
      · skip
        replace hw := hw.2 c69
        refine lv_iload_n hx hb e_M_run_41 rfl (lv_at hl 1 rfl) ?_
        refine lv_goto (tgt := 46) hx hb e_M_run_42 (by decide) ?_
        exact K_46 () z1 z2 z4 z6 z1 σ67 _ _ _ hw h (lv_sub hl [0, 1, 2, 3, 4] rfl)
  have hl : lv_has ls 12 [(0, .ref mo), (1, .int x1), (2, .long x2), (4, .long x4), (6, .int x6)] := hl
  unfold w_M_run at hw
  refine lv_aload_n hx hb e_M_run_0 rfl (lv_at hl 0 rfl) ?_
  refine lv_iload_n hx hb e_M_run_1 rfl (lv_at hl 1 rfl) ?_
  refine M_calli (As := [.int x1]) (rest := []) C h hA (K_M_isMethod l dC dI mo rf ca s.heap.size σ x1 hw) (cwV 1 hts (gV hsub v_56 v_57 v_58 v_7 v_59) rfl rfl rfl (by decide +kernel) ⟨(Nat.le_of_ble_eq_true rfl), (Nat.le_of_ble_eq_true rfl)⟩) rfl hl.1 (Nat.le_of_ble_eq_true rfl) e_M_run_2 ⟨(Nat.le_of_ble_eq_true rfl), (Nat.le_of_ble_eq_true rfl)⟩ (fun r71 σ70 H locs hw h => ?_)
  refine W.eq (g2 := F0 m 5 ls [.int r71]) rfl ?_
  refine lv_if_eq (tgt := 67) hx hb e_M_run_5 (by decide) (fun c72 => ?_) (fun c72 => ?_)
  · skip
    replace hw := hw.1 c72
    exact K_67 () x1 x2 x4 x6 σ70 _ _ _ hw h (lv_sub hl [0, 1, 2, 3, 4] rfl)
  · skip
    replace hw := hw.2 c72
    refine lv_aload_n hx hb e_M_run_8 rfl (lv_at hl 0 rfl) ?_
    refine M_get C h 21 (v := .ref (rf 21)) rfl (by decide) v_60 e_M_run_9 ?_
    refine lv_aload_n hx hb e_M_run_12 rfl (lv_at hl 0 rfl) ?_
    refine lv_iload_n hx hb e_M_run_13 rfl (lv_at hl 1 rfl) ?_
    refine M_calli (As := [.int x1]) (rest := [.ref (rf 21)]) C h hA (K_M_isMethod l dC dI mo rf ca H.size σ70 x1 hw) (cwV 1 hts (gV hsub v_56 v_57 v_58 v_7 v_59) rfl rfl rfl (by decide +kernel) ⟨(Nat.le_of_ble_eq_true rfl), (Nat.le_of_ble_eq_true rfl)⟩) rfl hl.1 (Nat.le_of_ble_eq_true rfl) e_M_run_14 ⟨(Nat.le_of_ble_eq_true rfl), (Nat.le_of_ble_eq_true rfl)⟩ (fun r74 σ73 H locs hw h => ?_)
    refine W.eq (g2 := F0 m 17 ls [.int r74, .ref (rf 21)]) rfl ?_
    refine lv_if_eq (tgt := 24) hx hb e_M_run_17 (by decide) (fun c75 => ?_) (fun c75 => ?_)
    · skip
      replace hw := hw.1 c75
      refine lv_iconst (v := 0) hx hb e_M_run_24 (by decide) ?_
      exact K_25 () x1 x2 x4 x6 0 σ73 _ _ _ hw h (lv_sub hl [0, 1, 2, 3, 4] rfl)
    · skip
      replace hw := hw.2 c75
      refine lv_iload_n hx hb e_M_run_20 rfl (lv_at hl 1 rfl) ?_
      refine lv_goto (tgt := 25) hx hb e_M_run_21 (by decide) ?_
      exact K_25 () x1 x2 x4 x6 x1 σ73 _ _ _ hw h (lv_sub hl [0, 1, 2, 3, 4] rfl)
