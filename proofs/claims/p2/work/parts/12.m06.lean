abbrev z_M_writeAll : MethodName := ⟨"MapFramerModel", "writeAll", "(I)V"⟩
theorem v_296 : (Cond.methodLink "MapFramerModel" 410 ⟨"MapFramerModel", "listLocals", "(II)V"⟩ : Cond) ∈ bigW := inB_10 54 (by decide +kernel) rfl
theorem v_297 : (Cond.instanceMethod ⟨"MapFramerModel", "listLocals", "(II)V"⟩ : Cond) ∈ bigW := inB_10 56 (by decide +kernel) rfl
theorem v_298 : (Cond.selects "MapFramerModel" ⟨"MapFramerModel", "listLocals", "(II)V"⟩ ⟨"MapFramerModel", "listLocals", "(II)V"⟩ : Cond) ∈ bigW := inS (y := ⟨"MapFramerModel", "listLocals", "(II)V"⟩) (n := 71) (List.mem_of_getElem? (i := 128) (by decide +kernel))
theorem v_299 : (Cond.code ⟨"MapFramerModel", "listLocals", "(II)V"⟩ prog_14_method_70_code 6 none : Cond) ∈ bigW := inB_10 57 rfl rfl
theorem v_300 : (Cond.methodLink "MapFramerModel" 413 ⟨"MapFramerModel", "writeFrame", "(III)V"⟩ : Cond) ∈ bigW := inB_10 58 (by decide +kernel) rfl
theorem v_301 : (Cond.instanceMethod ⟨"MapFramerModel", "writeFrame", "(III)V"⟩ : Cond) ∈ bigW := inB_10 60 (by decide +kernel) rfl
theorem v_302 : (Cond.selects "MapFramerModel" ⟨"MapFramerModel", "writeFrame", "(III)V"⟩ ⟨"MapFramerModel", "writeFrame", "(III)V"⟩ : Cond) ∈ bigW := inS (y := ⟨"MapFramerModel", "writeFrame", "(III)V"⟩) (n := 71) (List.mem_of_getElem? (i := 129) (by decide +kernel))
theorem v_303 : (Cond.code ⟨"MapFramerModel", "writeFrame", "(III)V"⟩ prog_14_method_73_code 8 none : Cond) ∈ bigW := inB_10 61 rfl rfl
theorem e_M_writeAll_0 : decode prog_14_method_74_code 0 = .ok (.aload_n 0, 1) := by decide +kernel
theorem e_M_writeAll_1 : decode prog_14_method_74_code 1 = .ok (.iconst 0, 1) := by decide +kernel
theorem e_M_writeAll_2 : decode prog_14_method_74_code 2 = .ok (.putfield 385, 3) := by decide +kernel
theorem e_M_writeAll_5 : decode prog_14_method_74_code 5 = .ok (.aload_n 0, 1) := by decide +kernel
theorem e_M_writeAll_6 : decode prog_14_method_74_code 6 = .ok (.aload_n 0, 1) := by decide +kernel
theorem e_M_writeAll_7 : decode prog_14_method_74_code 7 = .ok (.getfield 33, 3) := by decide +kernel
theorem e_M_writeAll_10 : decode prog_14_method_74_code 10 = .ok (.iload_n 1, 1) := by decide +kernel
theorem e_M_writeAll_11 : decode prog_14_method_74_code 11 = .ok (.iaload, 1) := by decide +kernel
theorem e_M_writeAll_12 : decode prog_14_method_74_code 12 = .ok (.putfield 397, 3) := by decide +kernel
theorem e_M_writeAll_15 : decode prog_14_method_74_code 15 = .ok (.iconst 0, 1) := by decide +kernel
theorem e_M_writeAll_16 : decode prog_14_method_74_code 16 = .ok (.istore_n 2, 1) := by decide +kernel
theorem e_M_writeAll_17 : decode prog_14_method_74_code 17 = .ok (.iload_n 2, 1) := by decide +kernel
theorem e_M_writeAll_18 : decode prog_14_method_74_code 18 = .ok (.aload_n 0, 1) := by decide +kernel
theorem e_M_writeAll_19 : decode prog_14_method_74_code 19 = .ok (.getfield 397, 3) := by decide +kernel
theorem e_M_writeAll_22 : decode prog_14_method_74_code 22 = .ok (.if_icmp .ge 25, 3) := by decide +kernel
theorem e_M_writeAll_25 : decode prog_14_method_74_code 25 = .ok (.aload_n 0, 1) := by decide +kernel
theorem e_M_writeAll_26 : decode prog_14_method_74_code 26 = .ok (.getfield 129, 3) := by decide +kernel
theorem e_M_writeAll_29 : decode prog_14_method_74_code 29 = .ok (.iload_n 2, 1) := by decide +kernel
theorem e_M_writeAll_30 : decode prog_14_method_74_code 30 = .ok (.aload_n 0, 1) := by decide +kernel
theorem e_M_writeAll_31 : decode prog_14_method_74_code 31 = .ok (.getfield 30, 3) := by decide +kernel
theorem e_M_writeAll_34 : decode prog_14_method_74_code 34 = .ok (.iconst 4, 1) := by decide +kernel
theorem e_M_writeAll_35 : decode prog_14_method_74_code 35 = .ok (.iload_n 1, 1) := by decide +kernel
theorem e_M_writeAll_36 : decode prog_14_method_74_code 36 = .ok (.imul, 1) := by decide +kernel
theorem e_M_writeAll_37 : decode prog_14_method_74_code 37 = .ok (.iload_n 2, 1) := by decide +kernel
theorem e_M_writeAll_38 : decode prog_14_method_74_code 38 = .ok (.iadd, 1) := by decide +kernel
theorem e_M_writeAll_39 : decode prog_14_method_74_code 39 = .ok (.iaload, 1) := by decide +kernel
theorem e_M_writeAll_40 : decode prog_14_method_74_code 40 = .ok (.iastore, 1) := by decide +kernel
theorem e_M_writeAll_41 : decode prog_14_method_74_code 41 = .ok (.iinc 2 1, 3) := by decide +kernel
theorem e_M_writeAll_44 : decode prog_14_method_74_code 44 = .ok (.goto (-27), 3) := by decide +kernel
theorem e_M_writeAll_47 : decode prog_14_method_74_code 47 = .ok (.iconst (-1), 1) := by decide +kernel
theorem e_M_writeAll_48 : decode prog_14_method_74_code 48 = .ok (.istore_n 2, 1) := by decide +kernel
theorem e_M_writeAll_49 : decode prog_14_method_74_code 49 = .ok (.iconst 0, 1) := by decide +kernel
theorem e_M_writeAll_50 : decode prog_14_method_74_code 50 = .ok (.istore_n 3, 1) := by decide +kernel
theorem e_M_writeAll_51 : decode prog_14_method_74_code 51 = .ok (.iload_n 3, 1) := by decide +kernel
theorem e_M_writeAll_52 : decode prog_14_method_74_code 52 = .ok (.aload_n 0, 1) := by decide +kernel
theorem e_M_writeAll_53 : decode prog_14_method_74_code 53 = .ok (.getfield 39, 3) := by decide +kernel
theorem e_M_writeAll_56 : decode prog_14_method_74_code 56 = .ok (.iload_n 1, 1) := by decide +kernel
theorem e_M_writeAll_57 : decode prog_14_method_74_code 57 = .ok (.iaload, 1) := by decide +kernel
theorem e_M_writeAll_58 : decode prog_14_method_74_code 58 = .ok (.if_icmp .ge 82, 3) := by decide +kernel
theorem e_M_writeAll_61 : decode prog_14_method_74_code 61 = .ok (.aload_n 0, 1) := by decide +kernel
theorem e_M_writeAll_62 : decode prog_14_method_74_code 62 = .ok (.getfield 96, 3) := by decide +kernel
theorem e_M_writeAll_65 : decode prog_14_method_74_code 65 = .ok (.bipush 120, 2) := by decide +kernel
theorem e_M_writeAll_67 : decode prog_14_method_74_code 67 = .ok (.iload_n 1, 1) := by decide +kernel
theorem e_M_writeAll_68 : decode prog_14_method_74_code 68 = .ok (.imul, 1) := by decide +kernel
theorem e_M_writeAll_69 : decode prog_14_method_74_code 69 = .ok (.iload_n 3, 1) := by decide +kernel
theorem e_M_writeAll_70 : decode prog_14_method_74_code 70 = .ok (.iadd, 1) := by decide +kernel
theorem e_M_writeAll_71 : decode prog_14_method_74_code 71 = .ok (.baload, 1) := by decide +kernel
theorem e_M_writeAll_72 : decode prog_14_method_74_code 72 = .ok (.ifCond .eq 62, 3) := by decide +kernel
theorem e_M_writeAll_75 : decode prog_14_method_74_code 75 = .ok (.aload_n 0, 1) := by decide +kernel
theorem e_M_writeAll_76 : decode prog_14_method_74_code 76 = .ok (.iload_n 1, 1) := by decide +kernel
theorem e_M_writeAll_77 : decode prog_14_method_74_code 77 = .ok (.iload_n 3, 1) := by decide +kernel
theorem e_M_writeAll_78 : decode prog_14_method_74_code 78 = .ok (.invokevirtual 410, 3) := by decide +kernel
theorem e_M_writeAll_81 : decode prog_14_method_74_code 81 = .ok (.aload_n 0, 1) := by decide +kernel
theorem e_M_writeAll_82 : decode prog_14_method_74_code 82 = .ok (.iload_n 1, 1) := by decide +kernel
theorem e_M_writeAll_83 : decode prog_14_method_74_code 83 = .ok (.iload_n 3, 1) := by decide +kernel
theorem e_M_writeAll_84 : decode prog_14_method_74_code 84 = .ok (.iload_n 3, 1) := by decide +kernel
theorem e_M_writeAll_85 : decode prog_14_method_74_code 85 = .ok (.iload_n 2, 1) := by decide +kernel
theorem e_M_writeAll_86 : decode prog_14_method_74_code 86 = .ok (.isub, 1) := by decide +kernel
theorem e_M_writeAll_87 : decode prog_14_method_74_code 87 = .ok (.iconst 1, 1) := by decide +kernel
theorem e_M_writeAll_88 : decode prog_14_method_74_code 88 = .ok (.isub, 1) := by decide +kernel
theorem e_M_writeAll_89 : decode prog_14_method_74_code 89 = .ok (.invokevirtual 413, 3) := by decide +kernel
theorem e_M_writeAll_92 : decode prog_14_method_74_code 92 = .ok (.iload_n 3, 1) := by decide +kernel
theorem e_M_writeAll_93 : decode prog_14_method_74_code 93 = .ok (.istore_n 2, 1) := by decide +kernel
theorem e_M_writeAll_94 : decode prog_14_method_74_code 94 = .ok (.aload_n 0, 1) := by decide +kernel
theorem e_M_writeAll_95 : decode prog_14_method_74_code 95 = .ok (.aload_n 0, 1) := by decide +kernel
theorem e_M_writeAll_96 : decode prog_14_method_74_code 96 = .ok (.getfield 394, 3) := by decide +kernel
theorem e_M_writeAll_99 : decode prog_14_method_74_code 99 = .ok (.putfield 397, 3) := by decide +kernel
theorem e_M_writeAll_102 : decode prog_14_method_74_code 102 = .ok (.iconst 0, 1) := by decide +kernel
theorem e_M_writeAll_103 : decode prog_14_method_74_code 103 = .ok (.istore 4, 2) := by decide +kernel
theorem e_M_writeAll_105 : decode prog_14_method_74_code 105 = .ok (.iload 4, 2) := by decide +kernel
theorem e_M_writeAll_107 : decode prog_14_method_74_code 107 = .ok (.aload_n 0, 1) := by decide +kernel
theorem e_M_writeAll_108 : decode prog_14_method_74_code 108 = .ok (.getfield 394, 3) := by decide +kernel
theorem e_M_writeAll_111 : decode prog_14_method_74_code 111 = .ok (.if_icmp .ge 23, 3) := by decide +kernel
theorem e_M_writeAll_114 : decode prog_14_method_74_code 114 = .ok (.aload_n 0, 1) := by decide +kernel
theorem e_M_writeAll_115 : decode prog_14_method_74_code 115 = .ok (.getfield 129, 3) := by decide +kernel
theorem e_M_writeAll_118 : decode prog_14_method_74_code 118 = .ok (.iload 4, 2) := by decide +kernel
theorem e_M_writeAll_120 : decode prog_14_method_74_code 120 = .ok (.aload_n 0, 1) := by decide +kernel
theorem e_M_writeAll_121 : decode prog_14_method_74_code 121 = .ok (.getfield 132, 3) := by decide +kernel
theorem e_M_writeAll_124 : decode prog_14_method_74_code 124 = .ok (.iload 4, 2) := by decide +kernel
theorem e_M_writeAll_126 : decode prog_14_method_74_code 126 = .ok (.iaload, 1) := by decide +kernel
theorem e_M_writeAll_127 : decode prog_14_method_74_code 127 = .ok (.iastore, 1) := by decide +kernel
theorem e_M_writeAll_128 : decode prog_14_method_74_code 128 = .ok (.iinc 4 1, 3) := by decide +kernel
theorem e_M_writeAll_131 : decode prog_14_method_74_code 131 = .ok (.goto (-26), 3) := by decide +kernel
theorem e_M_writeAll_134 : decode prog_14_method_74_code 134 = .ok (.iinc 3 1, 3) := by decide +kernel
theorem e_M_writeAll_137 : decode prog_14_method_74_code 137 = .ok (.goto (-86), 3) := by decide +kernel
theorem e_M_writeAll_140 : decode prog_14_method_74_code 140 = .ok (.return_, 1) := by decide +kernel
def w_M_writeAll_134 (K51 : Int32 → Int32 → Int32 → MST → Prop) (P : MST → Prop) (z1 : Int32) (z2 : Int32) (z3 : Int32) (σ : MST) : Prop := K51 z1 z2 (z3 + 1) σ
def w_M_writeAll_105 (K51 : Int32 → Int32 → Int32 → MST → Prop) (P : MST → Prop) : Nat → Int32 → Int32 → Int32 → Int32 → MST → Prop
  | 0, _, _, _, _, _ => False
  | n + 1, z1, z2, z3, z4, σ => (((σ.1 55) ≤ z4 → w_M_writeAll_134 K51 P z1 z2 z3 σ) ∧ (¬ (σ.1 55) ≤ z4 → vp_in z4 12 ∧ (∀ a2 : Int32, a2 = (σ.2.1 54 (z4 : Int32).toNatClampNeg) → vp_in z4 12 ∧ (∀ σ3 : MST, σ3 = setA σ 52 (upd (σ.2.1 52) (z4 : Int32).toNatClampNeg a2) → w_M_writeAll_105 K51 P n z1 z2 z3 (z4 + 1) σ3))))
def w_M_writeAll_51 (P : MST → Prop) : Nat → Int32 → Int32 → Int32 → MST → Prop
  | 0, _, _, _, _ => False
  | n + 1, z1, z2, z3, σ => vp_in z1 8 ∧ (∀ a4 : Int32, a4 = (σ.2.1 12 (z1 : Int32).toNatClampNeg) → ((a4 ≤ z3 → P σ) ∧ (¬ a4 ≤ z3 → vp_in (((120 : Int32) * z1) + z3) 960 ∧ (∀ a6 : Int32, a6 = (σ.2.1 32 ((((120 : Int32) * z1) + z3) : Int32).toNatClampNeg) → ((a6 = 0 → w_M_writeAll_134 (w_M_writeAll_51 P n) P z1 z2 z3 σ) ∧ (¬ a6 = 0 → w_M_listLocals z1 z3 σ (fun σ8 => w_M_writeFrame z1 z3 ((z3 - z2) - 1) σ8 (fun σ10 => ∀ σ12 : MST, σ12 = setI σ10 53 (σ10.1 55) → (∃ n9 : Nat, w_M_writeAll_105 (w_M_writeAll_51 P n) P n9 z1 z3 z3 0 σ12)))))))))
def w_M_writeAll_17 (P : MST → Prop) : Nat → Int32 → Int32 → MST → Prop
  | 0, _, _, _ => False
  | n + 1, z1, z2, σ => (((σ.1 53) ≤ z2 → (∃ n9 : Nat, w_M_writeAll_51 P n9 z1 (-1) 0 σ)) ∧ (¬ (σ.1 53) ≤ z2 → vp_in (((4 : Int32) * z1) + z2) 32 ∧ (∀ a14 : Int32, a14 = (σ.2.1 9 ((((4 : Int32) * z1) + z2) : Int32).toNatClampNeg) → vp_in z2 12 ∧ (∀ σ15 : MST, σ15 = setA σ 52 (upd (σ.2.1 52) (z2 : Int32).toNatClampNeg a14) → w_M_writeAll_17 P n z1 (z2 + 1) σ15))))
def w_M_writeAll (x1 : Int32) (σ : MST) (P : MST → Prop) : Prop := ∀ σ16 : MST, σ16 = setI σ 50 0 → vp_in x1 8 ∧ (∀ a17 : Int32, a17 = (σ16.2.1 10 (x1 : Int32).toNatClampNeg) → ∀ σ18 : MST, σ18 = setI σ16 53 a17 → (∃ n9 : Nat, w_M_writeAll_17 P n9 x1 0 σ18))
set_option maxHeartbeats 4000000 in
set_option maxRecDepth 100000 in
theorem K_M_writeAll (l : Launch) (dC : Nat → ClassId) (dI : Nat → Nat → Nat) (mo : Nat) (rf : Nat → Nat) (ca : Nat → ClassId) (sz : Nat) (σ : MST) (x1 : Int32) {P : MST → Prop} (hw : w_M_writeAll x1 σ P) : Met l z_M_writeAll (mW z_M_writeAll prog_14_method_74_code 5 none) ({ frames := 4, cells := 0, slots := 0, locals := 91 } : Room) (va_Pc [.ref mo, .int x1] (MPre (dC, dI) mo rf ca σ sz)) (va_Qv P (MB (dC, dI) mo rf ca sz) (mA mo rf sz)) 0 0 (mA mo rf sz) := by
  refine M_ofv (by decide) rfl (Nat.le_of_ble_eq_true rfl) ?_
  intro p e s m below meth cx Q A ls C hA hend h hl
  have C0 := C
  obtain ⟨⟨hx, hb, hml, hown, hts⟩, hsub⟩ := C0
  have K_134 : ∀ (K51 : Int32 → Int32 → Int32 → MST → Prop) (hK51 : ∀ (z1 : Int32) (z2 : Int32) (z3 : Int32) (σ : MST) (H : Heap) (locs : List Loc) (ls : Array Slot), K51 z1 z2 z3 σ → MH (dC, dI) A mo rf ca σ s H locs → lv_has ls 5 [(0, .ref mo), (1, .int z1), (2, .int z2), (3, .int z3)] → W p l e ({ frames := 4, cells := 0, slots := 0, locals := 91 } : Room) s m ([.ref mo, .int x1] : List Value).toArray below meth cx H locs 0 0 Q (F0 m 51 ls [])), ∀ (z1 : Int32) (z2 : Int32) (z3 : Int32) (σ : MST) (H : Heap) (locs : List Loc) (ls : Array Slot), w_M_writeAll_134 K51 P z1 z2 z3 σ → MH (dC, dI) A mo rf ca σ s H locs → lv_has ls 5 [(0, .ref mo), (1, .int z1), (2, .int z2), (3, .int z3)] → W p l e ({ frames := 4, cells := 0, slots := 0, locals := 91 } : Room) s m ([.ref mo, .int x1] : List Value).toArray below meth cx H locs 0 0 Q (F0 m 134 ls []) := by
    intro K51 hK51 z1 z2 z3 σ H locs ls hw h hl
    unfold w_M_writeAll_134 at hw
    refine lv_iinc (v := (z3 + 1)) (lv' := [(3, .int (z3 + 1)), (0, .ref mo), (1, .int z1), (2, .int z2)]) hx hb e_M_writeAll_134 hl (k := 3) rfl (rfl) (by decide) rfl (fun ls hl => ?_)
    refine lv_goto (tgt := 51) hx hb e_M_writeAll_137 (by decide) ?_
    exact hK51 z1 z2 (z3 + 1) σ _ _ _ hw h (lv_sub hl [1, 2, 3, 0] rfl)
  have K_105 : ∀ (K51 : Int32 → Int32 → Int32 → MST → Prop) (hK51 : ∀ (z1 : Int32) (z2 : Int32) (z3 : Int32) (σ : MST) (H : Heap) (locs : List Loc) (ls : Array Slot), K51 z1 z2 z3 σ → MH (dC, dI) A mo rf ca σ s H locs → lv_has ls 5 [(0, .ref mo), (1, .int z1), (2, .int z2), (3, .int z3)] → W p l e ({ frames := 4, cells := 0, slots := 0, locals := 91 } : Room) s m ([.ref mo, .int x1] : List Value).toArray below meth cx H locs 0 0 Q (F0 m 51 ls [])) (n : Nat), ∀ (z1 : Int32) (z2 : Int32) (z3 : Int32) (z4 : Int32) (σ : MST) (H : Heap) (locs : List Loc) (ls : Array Slot), w_M_writeAll_105 K51 P n z1 z2 z3 z4 σ → MH (dC, dI) A mo rf ca σ s H locs → lv_has ls 5 [(0, .ref mo), (1, .int z1), (2, .int z2), (3, .int z3), (4, .int z4)] → W p l e ({ frames := 4, cells := 0, slots := 0, locals := 91 } : Room) s m ([.ref mo, .int x1] : List Value).toArray below meth cx H locs 0 0 Q (F0 m 105 ls []) := by
    intro K51 hK51 n
    induction n with
    | zero => intro z1 z2 z3 z4 σ H locs ls hw h hl; unfold w_M_writeAll_105 at hw; exact hw.elim
    | succ n ih =>
      intro z1 z2 z3 z4 σ H locs ls hw h hl
      unfold w_M_writeAll_105 at hw
      refine lv_iload hx hb e_M_writeAll_105 (lv_at hl 4 rfl) ?_
      refine lv_aload_n hx hb e_M_writeAll_107 rfl (lv_at hl 0 rfl) ?_
      refine M_get C h 55 (v := .int (σ.1 55)) rfl (by decide) v_280 e_M_writeAll_108 ?_
      refine lv_icmp_ge (tgt := 134) hx hb e_M_writeAll_111 (by decide) (fun c1 => ?_) (fun c1 => ?_)
      · skip
        replace hw := hw.1 c1
        exact K_134 _ hK51 z1 z2 z3 σ _ _ _ hw h (lv_sub hl [0, 1, 2, 3] rfl)
      · skip
        replace hw := hw.2 c1
        refine lv_aload_n hx hb e_M_writeAll_114 rfl (lv_at hl 0 rfl) ?_
        refine M_get C h 52 (v := .ref (rf 52)) rfl (by decide) v_282 e_M_writeAll_115 ?_
        refine lv_iload hx hb e_M_writeAll_118 (lv_at hl 4 rfl) ?_
        refine lv_aload_n hx hb e_M_writeAll_120 rfl (lv_at hl 0 rfl) ?_
        refine M_get C h 54 (v := .ref (rf 54)) rfl (by decide) v_281 e_M_writeAll_121 ?_
        refine lv_iload hx hb e_M_writeAll_124 (lv_at hl 4 rfl) ?_
        refine M_ald C h 54 (by decide) rfl hw.1 e_M_writeAll_126 ?_
        replace hw := hw.2
        refine lv_topi (fun a2 e_a2 => ?_)
        replace hw := hw a2 e_a2
        refine M_ast C h 52 (by decide) rfl hw.1 e_M_writeAll_127 (fun H locs h => ?_)
        replace hw := hw.2
        obtain ⟨σ3, e_σ3⟩ : ∃ z : MST, z = setA σ 52 (upd (σ.2.1 52) (z4 : Int32).toNatClampNeg a2) := ⟨_, rfl⟩
        rw [← e_σ3] at h
        replace hw := hw σ3 e_σ3
        refine lv_iinc (v := (z4 + 1)) (lv' := [(4, .int (z4 + 1)), (0, .ref mo), (1, .int z1), (2, .int z2), (3, .int z3)]) hx hb e_M_writeAll_128 hl (k := 4) rfl (rfl) (by decide) rfl (fun ls hl => ?_)
        refine lv_goto (tgt := 105) hx hb e_M_writeAll_131 (by decide) ?_
        exact ih z1 z2 z3 (z4 + 1) σ3 _ _ _ hw h (lv_sub hl [1, 2, 3, 4, 0] rfl)
  have K_51 : ∀ (n : Nat), ∀ (z1 : Int32) (z2 : Int32) (z3 : Int32) (σ : MST) (H : Heap) (locs : List Loc) (ls : Array Slot), w_M_writeAll_51 P n z1 z2 z3 σ → MH (dC, dI) A mo rf ca σ s H locs → lv_has ls 5 [(0, .ref mo), (1, .int z1), (2, .int z2), (3, .int z3)] → W p l e ({ frames := 4, cells := 0, slots := 0, locals := 91 } : Room) s m ([.ref mo, .int x1] : List Value).toArray below meth cx H locs 0 0 Q (F0 m 51 ls []) := by
    intro  n
    induction n with
    | zero => intro z1 z2 z3 σ H locs ls hw h hl; unfold w_M_writeAll_51 at hw; exact hw.elim
    | succ n ih =>
      intro z1 z2 z3 σ H locs ls hw h hl
      unfold w_M_writeAll_51 at hw
      refine lv_iload_n hx hb e_M_writeAll_51 rfl (lv_at hl 3 rfl) ?_
      refine lv_aload_n hx hb e_M_writeAll_52 rfl (lv_at hl 0 rfl) ?_
      refine M_get C h 12 (v := .ref (rf 12)) rfl (by decide) v_51 e_M_writeAll_53 ?_
      refine lv_iload_n hx hb e_M_writeAll_56 rfl (lv_at hl 1 rfl) ?_
      refine M_ald C h 12 (by decide) rfl hw.1 e_M_writeAll_57 ?_
      replace hw := hw.2
      refine lv_topi (fun a4 e_a4 => ?_)
      replace hw := hw a4 e_a4
      refine lv_icmp_ge (tgt := 140) hx hb e_M_writeAll_58 (by decide) (fun c5 => ?_) (fun c5 => ?_)
      · skip
        replace hw := hw.1 c5
        exact hend σ _ _ _ _ hw h e_M_writeAll_140
      · skip
        replace hw := hw.2 c5
        refine lv_aload_n hx hb e_M_writeAll_61 rfl (lv_at hl 0 rfl) ?_
        refine M_get C h 32 (v := .ref (rf 32)) rfl (by decide) v_247 e_M_writeAll_62 ?_
        refine lv_bipush (v := 120) hx hb e_M_writeAll_65 (by decide) ?_
        refine lv_iload_n hx hb e_M_writeAll_67 rfl (lv_at hl 1 rfl) ?_
        refine lv_imul hx hb e_M_writeAll_68 ?_
        refine lv_iload_n hx hb e_M_writeAll_69 rfl (lv_at hl 3 rfl) ?_
        refine lv_iadd hx hb e_M_writeAll_70 ?_
        refine M_zald C h 32 (by decide) rfl hw.1 e_M_writeAll_71 ?_
        replace hw := hw.2
        refine lv_topi (fun a6 e_a6 => ?_)
        replace hw := hw a6 e_a6
        refine lv_if_eq (tgt := 134) hx hb e_M_writeAll_72 (by decide) (fun c7 => ?_) (fun c7 => ?_)
        · skip
          replace hw := hw.1 c7
          exact K_134 _ ih z1 z2 z3 σ _ _ _ hw h (lv_sub hl [0, 1, 2, 3] rfl)
        · skip
          replace hw := hw.2 c7
          refine lv_aload_n hx hb e_M_writeAll_75 rfl (lv_at hl 0 rfl) ?_
          refine lv_iload_n hx hb e_M_writeAll_76 rfl (lv_at hl 1 rfl) ?_
          refine lv_iload_n hx hb e_M_writeAll_77 rfl (lv_at hl 3 rfl) ?_
          refine M_callv (As := [.int z1, .int z3]) (rest := []) C h hA (K_M_listLocals l dC dI mo rf ca H.size σ z1 z3 hw) (cwV 2 hts (gV hsub v_296 v_297 v_298 v_7 v_299) rfl rfl rfl (by decide +kernel) ⟨(Nat.le_of_ble_eq_true rfl), (Nat.le_of_ble_eq_true rfl)⟩) rfl hl.1 (Nat.le_of_ble_eq_true rfl) e_M_writeAll_78 ⟨(Nat.le_of_ble_eq_true rfl), (Nat.le_of_ble_eq_true rfl)⟩ (fun σ8 H locs hw h => ?_)
          refine W.eq (g2 := F0 m 81 ls []) rfl ?_
          refine lv_aload_n hx hb e_M_writeAll_81 rfl (lv_at hl 0 rfl) ?_
          refine lv_iload_n hx hb e_M_writeAll_82 rfl (lv_at hl 1 rfl) ?_
          refine lv_iload_n hx hb e_M_writeAll_83 rfl (lv_at hl 3 rfl) ?_
          refine lv_iload_n hx hb e_M_writeAll_84 rfl (lv_at hl 3 rfl) ?_
          refine lv_iload_n hx hb e_M_writeAll_85 rfl (lv_at hl 2 rfl) ?_
          refine lv_isub hx hb e_M_writeAll_86 ?_
          refine lv_iconst (v := 1) hx hb e_M_writeAll_87 (by decide) ?_
          refine lv_isub hx hb e_M_writeAll_88 ?_
          refine M_callv (As := [.int z1, .int z3, .int ((z3 - z2) - 1)]) (rest := []) C h hA (K_M_writeFrame l dC dI mo rf ca H.size σ8 z1 z3 ((z3 - z2) - 1) hw) (cwV 3 hts (gV hsub v_300 v_301 v_302 v_7 v_303) rfl rfl rfl (by decide +kernel) ⟨(Nat.le_of_ble_eq_true rfl), (Nat.le_of_ble_eq_true rfl)⟩) rfl hl.1 (Nat.le_of_ble_eq_true rfl) e_M_writeAll_89 ⟨(Nat.le_of_ble_eq_true rfl), (Nat.le_of_ble_eq_true rfl)⟩ (fun σ10 H locs hw h => ?_)
          refine W.eq (g2 := F0 m 92 ls []) rfl ?_
          refine lv_iload_n hx hb e_M_writeAll_92 rfl (lv_at hl 3 rfl) ?_
          refine lv_istore_n (lv' := [(2, .int z3), (0, .ref mo), (1, .int z1), (3, .int z3)]) hx hb e_M_writeAll_93 rfl hl (by decide) rfl (fun ls hl => ?_)
          refine lv_aload_n hx hb e_M_writeAll_94 rfl (lv_at hl 1 rfl) ?_
          refine lv_aload_n hx hb e_M_writeAll_95 rfl (lv_at hl 1 rfl) ?_
          refine M_get C h 55 (v := .int (σ10.1 55)) rfl (by decide) v_280 e_M_writeAll_96 ?_
          refine M_puti C h 53 (by decide) rfl rfl (by decide +kernel) v_283 e_M_writeAll_99 (fun H locs h => ?_)
          obtain ⟨σ12, e_σ12⟩ : ∃ z : MST, z = setI σ10 53 (σ10.1 55) := ⟨_, rfl⟩
          rw [← e_σ12] at h
          replace hw := hw σ12 e_σ12
          refine lv_iconst (v := 0) hx hb e_M_writeAll_102 (by decide) ?_
          refine lv_istore (lv' := [(4, .int 0), (2, .int z3), (0, .ref mo), (1, .int z1), (3, .int z3)]) hx hb e_M_writeAll_103 hl (by decide) rfl (fun ls hl => ?_)
          obtain ⟨n9, hw⟩ := hw
          exact K_105 _ ih n9 z1 z3 z3 0 σ12 _ _ _ hw h (lv_sub hl [2, 3, 1, 4, 0] rfl)
  have K_17 : ∀ (n : Nat), ∀ (z1 : Int32) (z2 : Int32) (σ : MST) (H : Heap) (locs : List Loc) (ls : Array Slot), w_M_writeAll_17 P n z1 z2 σ → MH (dC, dI) A mo rf ca σ s H locs → lv_has ls 5 [(0, .ref mo), (1, .int z1), (2, .int z2)] → W p l e ({ frames := 4, cells := 0, slots := 0, locals := 91 } : Room) s m ([.ref mo, .int x1] : List Value).toArray below meth cx H locs 0 0 Q (F0 m 17 ls []) := by
    intro  n
    induction n with
    | zero => intro z1 z2 σ H locs ls hw h hl; unfold w_M_writeAll_17 at hw; exact hw.elim
    | succ n ih =>
      intro z1 z2 σ H locs ls hw h hl
      unfold w_M_writeAll_17 at hw
      refine lv_iload_n hx hb e_M_writeAll_17 rfl (lv_at hl 2 rfl) ?_
      refine lv_aload_n hx hb e_M_writeAll_18 rfl (lv_at hl 0 rfl) ?_
      refine M_get C h 53 (v := .int (σ.1 53)) rfl (by decide) v_283 e_M_writeAll_19 ?_
      refine lv_icmp_ge (tgt := 47) hx hb e_M_writeAll_22 (by decide) (fun c13 => ?_) (fun c13 => ?_)
      · skip
        replace hw := hw.1 c13
        refine lv_iconst (v := (-1)) hx hb e_M_writeAll_47 (by decide) ?_
        refine lv_istore_n (lv' := [(2, .int (-1)), (0, .ref mo), (1, .int z1)]) hx hb e_M_writeAll_48 rfl hl (by decide) rfl (fun ls hl => ?_)
        refine lv_iconst (v := 0) hx hb e_M_writeAll_49 (by decide) ?_
        refine lv_istore_n (lv' := [(3, .int 0), (2, .int (-1)), (0, .ref mo), (1, .int z1)]) hx hb e_M_writeAll_50 rfl hl (by decide) rfl (fun ls hl => ?_)
        obtain ⟨n9, hw⟩ := hw
        exact K_51 n9 z1 (-1) 0 σ _ _ _ hw h (lv_sub hl [2, 3, 1, 0] rfl)
      · skip
        replace hw := hw.2 c13
        refine lv_aload_n hx hb e_M_writeAll_25 rfl (lv_at hl 0 rfl) ?_
        refine M_get C h 52 (v := .ref (rf 52)) rfl (by decide) v_282 e_M_writeAll_26 ?_
        refine lv_iload_n hx hb e_M_writeAll_29 rfl (lv_at hl 2 rfl) ?_
        refine lv_aload_n hx hb e_M_writeAll_30 rfl (lv_at hl 0 rfl) ?_
        refine M_get C h 9 (v := .ref (rf 9)) rfl (by decide) v_45 e_M_writeAll_31 ?_
        refine lv_iconst (v := 4) hx hb e_M_writeAll_34 (by decide) ?_
        refine lv_iload_n hx hb e_M_writeAll_35 rfl (lv_at hl 1 rfl) ?_
        refine lv_imul hx hb e_M_writeAll_36 ?_
        refine lv_iload_n hx hb e_M_writeAll_37 rfl (lv_at hl 2 rfl) ?_
        refine lv_iadd hx hb e_M_writeAll_38 ?_
        refine M_ald C h 9 (by decide) rfl hw.1 e_M_writeAll_39 ?_
        replace hw := hw.2
        refine lv_topi (fun a14 e_a14 => ?_)
        replace hw := hw a14 e_a14
        refine M_ast C h 52 (by decide) rfl hw.1 e_M_writeAll_40 (fun H locs h => ?_)
        replace hw := hw.2
        obtain ⟨σ15, e_σ15⟩ : ∃ z : MST, z = setA σ 52 (upd (σ.2.1 52) (z2 : Int32).toNatClampNeg a14) := ⟨_, rfl⟩
        rw [← e_σ15] at h
        replace hw := hw σ15 e_σ15
        refine lv_iinc (v := (z2 + 1)) (lv' := [(2, .int (z2 + 1)), (0, .ref mo), (1, .int z1)]) hx hb e_M_writeAll_41 hl (k := 2) rfl (rfl) (by decide) rfl (fun ls hl => ?_)
        refine lv_goto (tgt := 17) hx hb e_M_writeAll_44 (by decide) ?_
        exact ih z1 (z2 + 1) σ15 _ _ _ hw h (lv_sub hl [1, 2, 0] rfl)
  have hl : lv_has ls 5 [(0, .ref mo), (1, .int x1)] := hl
  unfold w_M_writeAll at hw
  refine lv_aload_n hx hb e_M_writeAll_0 rfl (lv_at hl 0 rfl) ?_
  refine lv_iconst (v := 0) hx hb e_M_writeAll_1 (by decide) ?_
  refine M_puti C h 50 (by decide) rfl rfl (by decide +kernel) v_271 e_M_writeAll_2 (fun H locs h => ?_)
  obtain ⟨σ16, e_σ16⟩ : ∃ z : MST, z = setI σ 50 0 := ⟨_, rfl⟩
  rw [← e_σ16] at h
  replace hw := hw σ16 e_σ16
  refine lv_aload_n hx hb e_M_writeAll_5 rfl (lv_at hl 0 rfl) ?_
  refine lv_aload_n hx hb e_M_writeAll_6 rfl (lv_at hl 0 rfl) ?_
  refine M_get C h 10 (v := .ref (rf 10)) rfl (by decide) v_42 e_M_writeAll_7 ?_
  refine lv_iload_n hx hb e_M_writeAll_10 rfl (lv_at hl 1 rfl) ?_
  refine M_ald C h 10 (by decide) rfl hw.1 e_M_writeAll_11 ?_
  replace hw := hw.2
  refine lv_topi (fun a17 e_a17 => ?_)
  replace hw := hw a17 e_a17
  refine M_puti C h 53 (by decide) rfl rfl (by decide +kernel) v_283 e_M_writeAll_12 (fun H locs h => ?_)
  obtain ⟨σ18, e_σ18⟩ : ∃ z : MST, z = setI σ16 53 a17 := ⟨_, rfl⟩
  rw [← e_σ18] at h
  replace hw := hw σ18 e_σ18
  refine lv_iconst (v := 0) hx hb e_M_writeAll_15 (by decide) ?_
  refine lv_istore_n (lv' := [(2, .int 0), (0, .ref mo), (1, .int x1)]) hx hb e_M_writeAll_16 rfl hl (by decide) rfl (fun ls hl => ?_)
  obtain ⟨n9, hw⟩ := hw
  exact K_17 n9 x1 0 σ18 _ _ _ hw h (lv_sub hl [1, 2, 0] rfl)
abbrev z_M_about : MethodName := ⟨"MapFramerModel", "about", "(II)I"⟩
theorem v_304 : (Cond.methodLink "MapFramerModel" 417 ⟨"MapFramerModel", "writeAll", "(I)V"⟩ : Cond) ∈ bigW := inB_10 50 (by decide +kernel) rfl
theorem v_305 : (Cond.instanceMethod ⟨"MapFramerModel", "writeAll", "(I)V"⟩ : Cond) ∈ bigW := inB_10 52 (by decide +kernel) rfl
theorem v_306 : (Cond.selects "MapFramerModel" ⟨"MapFramerModel", "writeAll", "(I)V"⟩ ⟨"MapFramerModel", "writeAll", "(I)V"⟩ : Cond) ∈ bigW := inS (y := ⟨"MapFramerModel", "writeAll", "(I)V"⟩) (n := 71) (List.mem_of_getElem? (i := 127) (by decide +kernel))
theorem v_307 : (Cond.code ⟨"MapFramerModel", "writeAll", "(I)V"⟩ prog_14_method_74_code 5 none : Cond) ∈ bigW := inB_10 53 rfl rfl
theorem e_M_about_0 : decode prog_14_method_75_code 0 = .ok (.aload_n 0, 1) := by decide +kernel
theorem e_M_about_1 : decode prog_14_method_75_code 1 = .ok (.iload_n 1, 1) := by decide +kernel
theorem e_M_about_2 : decode prog_14_method_75_code 2 = .ok (.invokevirtual 212, 3) := by decide +kernel
theorem e_M_about_5 : decode prog_14_method_75_code 5 = .ok (.ifCond .eq 13, 3) := by decide +kernel
theorem e_M_about_8 : decode prog_14_method_75_code 8 = .ok (.iload_n 2, 1) := by decide +kernel
theorem e_M_about_9 : decode prog_14_method_75_code 9 = .ok (.ifCond .lt 9, 3) := by decide +kernel
theorem e_M_about_12 : decode prog_14_method_75_code 12 = .ok (.iload_n 2, 1) := by decide +kernel
theorem e_M_about_13 : decode prog_14_method_75_code 13 = .ok (.bipush 8, 2) := by decide +kernel
theorem e_M_about_15 : decode prog_14_method_75_code 15 = .ok (.if_icmp .le 9, 3) := by decide +kernel
theorem e_M_about_18 : decode prog_14_method_75_code 18 = .ok (.aload_n 0, 1) := by decide +kernel
theorem e_M_about_19 : decode prog_14_method_75_code 19 = .ok (.iconst 1, 1) := by decide +kernel
theorem e_M_about_20 : decode prog_14_method_75_code 20 = .ok (.invokevirtual 196, 3) := by decide +kernel
theorem e_M_about_23 : decode prog_14_method_75_code 23 = .ok (.ireturn, 1) := by decide +kernel
theorem e_M_about_24 : decode prog_14_method_75_code 24 = .ok (.aload_n 0, 1) := by decide +kernel
theorem e_M_about_25 : decode prog_14_method_75_code 25 = .ok (.iconst 0, 1) := by decide +kernel
theorem e_M_about_26 : decode prog_14_method_75_code 26 = .ok (.putfield 169, 3) := by decide +kernel
theorem e_M_about_29 : decode prog_14_method_75_code 29 = .ok (.iconst 0, 1) := by decide +kernel
theorem e_M_about_30 : decode prog_14_method_75_code 30 = .ok (.istore_n 3, 1) := by decide +kernel
theorem e_M_about_31 : decode prog_14_method_75_code 31 = .ok (.iconst 0, 1) := by decide +kernel
theorem e_M_about_32 : decode prog_14_method_75_code 32 = .ok (.istore 4, 2) := by decide +kernel
theorem e_M_about_34 : decode prog_14_method_75_code 34 = .ok (.iload 4, 2) := by decide +kernel
theorem e_M_about_36 : decode prog_14_method_75_code 36 = .ok (.bipush 120, 2) := by decide +kernel
theorem e_M_about_38 : decode prog_14_method_75_code 38 = .ok (.if_icmp .ge 32, 3) := by decide +kernel
theorem e_M_about_41 : decode prog_14_method_75_code 41 = .ok (.iload_n 3, 1) := by decide +kernel
theorem e_M_about_42 : decode prog_14_method_75_code 42 = .ok (.aload_n 0, 1) := by decide +kernel
theorem e_M_about_43 : decode prog_14_method_75_code 43 = .ok (.getfield 96, 3) := by decide +kernel
theorem e_M_about_46 : decode prog_14_method_75_code 46 = .ok (.bipush 120, 2) := by decide +kernel
theorem e_M_about_48 : decode prog_14_method_75_code 48 = .ok (.iload_n 1, 1) := by decide +kernel
theorem e_M_about_49 : decode prog_14_method_75_code 49 = .ok (.imul, 1) := by decide +kernel
theorem e_M_about_50 : decode prog_14_method_75_code 50 = .ok (.iload 4, 2) := by decide +kernel
theorem e_M_about_52 : decode prog_14_method_75_code 52 = .ok (.iadd, 1) := by decide +kernel
theorem e_M_about_53 : decode prog_14_method_75_code 53 = .ok (.baload, 1) := by decide +kernel
theorem e_M_about_54 : decode prog_14_method_75_code 54 = .ok (.ifCond .eq 7, 3) := by decide +kernel
theorem e_M_about_57 : decode prog_14_method_75_code 57 = .ok (.iconst 1, 1) := by decide +kernel
theorem e_M_about_58 : decode prog_14_method_75_code 58 = .ok (.goto 4, 3) := by decide +kernel
theorem e_M_about_61 : decode prog_14_method_75_code 61 = .ok (.iconst 0, 1) := by decide +kernel
theorem e_M_about_62 : decode prog_14_method_75_code 62 = .ok (.iadd, 1) := by decide +kernel
theorem e_M_about_63 : decode prog_14_method_75_code 63 = .ok (.istore_n 3, 1) := by decide +kernel
theorem e_M_about_64 : decode prog_14_method_75_code 64 = .ok (.iinc 4 1, 3) := by decide +kernel
theorem e_M_about_67 : decode prog_14_method_75_code 67 = .ok (.goto (-33), 3) := by decide +kernel
theorem e_M_about_70 : decode prog_14_method_75_code 70 = .ok (.iload_n 2, 1) := by decide +kernel
theorem e_M_about_71 : decode prog_14_method_75_code 71 = .ok (.iconst 4, 1) := by decide +kernel
theorem e_M_about_72 : decode prog_14_method_75_code 72 = .ok (.if_icmp .ne 8, 3) := by decide +kernel
theorem e_M_about_75 : decode prog_14_method_75_code 75 = .ok (.aload_n 0, 1) := by decide +kernel
theorem e_M_about_76 : decode prog_14_method_75_code 76 = .ok (.iload_n 1, 1) := by decide +kernel
theorem e_M_about_77 : decode prog_14_method_75_code 77 = .ok (.invokevirtual 417, 3) := by decide +kernel
theorem e_M_about_80 : decode prog_14_method_75_code 80 = .ok (.iload_n 2, 1) := by decide +kernel
theorem e_M_about_81 : decode prog_14_method_75_code 81 = .ok (.tableswitch 109 0 7 #[47, 54, 61, 76, 83, 88, 95, 102], 47) := by decide +kernel
theorem e_M_about_128 : decode prog_14_method_75_code 128 = .ok (.aload_n 0, 1) := by decide +kernel
theorem e_M_about_129 : decode prog_14_method_75_code 129 = .ok (.getfield 69, 3) := by decide +kernel
theorem e_M_about_132 : decode prog_14_method_75_code 132 = .ok (.iload_n 1, 1) := by decide +kernel
theorem e_M_about_133 : decode prog_14_method_75_code 133 = .ok (.iaload, 1) := by decide +kernel
theorem e_M_about_134 : decode prog_14_method_75_code 134 = .ok (.ireturn, 1) := by decide +kernel
theorem e_M_about_135 : decode prog_14_method_75_code 135 = .ok (.aload_n 0, 1) := by decide +kernel
theorem e_M_about_136 : decode prog_14_method_75_code 136 = .ok (.getfield 72, 3) := by decide +kernel
theorem e_M_about_139 : decode prog_14_method_75_code 139 = .ok (.iload_n 1, 1) := by decide +kernel
theorem e_M_about_140 : decode prog_14_method_75_code 140 = .ok (.iaload, 1) := by decide +kernel
theorem e_M_about_141 : decode prog_14_method_75_code 141 = .ok (.ireturn, 1) := by decide +kernel
theorem e_M_about_142 : decode prog_14_method_75_code 142 = .ok (.aload_n 0, 1) := by decide +kernel
theorem e_M_about_143 : decode prog_14_method_75_code 143 = .ok (.getfield 66, 3) := by decide +kernel
theorem e_M_about_146 : decode prog_14_method_75_code 146 = .ok (.iload_n 1, 1) := by decide +kernel
theorem e_M_about_147 : decode prog_14_method_75_code 147 = .ok (.baload, 1) := by decide +kernel
theorem e_M_about_148 : decode prog_14_method_75_code 148 = .ok (.ifCond .eq 7, 3) := by decide +kernel
theorem e_M_about_151 : decode prog_14_method_75_code 151 = .ok (.iconst 1, 1) := by decide +kernel
theorem e_M_about_152 : decode prog_14_method_75_code 152 = .ok (.goto 4, 3) := by decide +kernel
theorem e_M_about_155 : decode prog_14_method_75_code 155 = .ok (.iconst 0, 1) := by decide +kernel
theorem e_M_about_156 : decode prog_14_method_75_code 156 = .ok (.ireturn, 1) := by decide +kernel
theorem e_M_about_157 : decode prog_14_method_75_code 157 = .ok (.aload_n 0, 1) := by decide +kernel
theorem e_M_about_158 : decode prog_14_method_75_code 158 = .ok (.getfield 39, 3) := by decide +kernel
theorem e_M_about_161 : decode prog_14_method_75_code 161 = .ok (.iload_n 1, 1) := by decide +kernel
theorem e_M_about_162 : decode prog_14_method_75_code 162 = .ok (.iaload, 1) := by decide +kernel
theorem e_M_about_163 : decode prog_14_method_75_code 163 = .ok (.ireturn, 1) := by decide +kernel
theorem e_M_about_164 : decode prog_14_method_75_code 164 = .ok (.aload_n 0, 1) := by decide +kernel
theorem e_M_about_165 : decode prog_14_method_75_code 165 = .ok (.getfield 385, 3) := by decide +kernel
theorem e_M_about_168 : decode prog_14_method_75_code 168 = .ok (.ireturn, 1) := by decide +kernel
theorem e_M_about_169 : decode prog_14_method_75_code 169 = .ok (.aload_n 0, 1) := by decide +kernel
theorem e_M_about_170 : decode prog_14_method_75_code 170 = .ok (.getfield 51, 3) := by decide +kernel
theorem e_M_about_173 : decode prog_14_method_75_code 173 = .ok (.iload_n 1, 1) := by decide +kernel
theorem e_M_about_174 : decode prog_14_method_75_code 174 = .ok (.iaload, 1) := by decide +kernel
theorem e_M_about_175 : decode prog_14_method_75_code 175 = .ok (.ireturn, 1) := by decide +kernel
theorem e_M_about_176 : decode prog_14_method_75_code 176 = .ok (.aload_n 0, 1) := by decide +kernel
theorem e_M_about_177 : decode prog_14_method_75_code 177 = .ok (.getfield 45, 3) := by decide +kernel
theorem e_M_about_180 : decode prog_14_method_75_code 180 = .ok (.iload_n 1, 1) := by decide +kernel
theorem e_M_about_181 : decode prog_14_method_75_code 181 = .ok (.iaload, 1) := by decide +kernel
theorem e_M_about_182 : decode prog_14_method_75_code 182 = .ok (.ireturn, 1) := by decide +kernel
theorem e_M_about_183 : decode prog_14_method_75_code 183 = .ok (.aload_n 0, 1) := by decide +kernel
theorem e_M_about_184 : decode prog_14_method_75_code 184 = .ok (.getfield 48, 3) := by decide +kernel
theorem e_M_about_187 : decode prog_14_method_75_code 187 = .ok (.iload_n 1, 1) := by decide +kernel
theorem e_M_about_188 : decode prog_14_method_75_code 188 = .ok (.iaload, 1) := by decide +kernel
theorem e_M_about_189 : decode prog_14_method_75_code 189 = .ok (.ireturn, 1) := by decide +kernel
theorem e_M_about_190 : decode prog_14_method_75_code 190 = .ok (.iload_n 3, 1) := by decide +kernel
theorem e_M_about_191 : decode prog_14_method_75_code 191 = .ok (.ireturn, 1) := by decide +kernel
def w_M_about_18 (P : Int32 → MST → Prop) (σ : MST) : Prop := w_M_fails (1 : Int32) σ (fun r2 σ1 => P r2 σ1)
def w_M_about_62 (K34 : Int32 → Int32 → Int32 → Int32 → MST → Prop) (P : Int32 → MST → Prop) (z1 : Int32) (z2 : Int32) (z4 : Int32) (s0 : Int32) (s1 : Int32) (σ : MST) : Prop := K34 z1 z2 (s1 + s0) (z4 + 1) σ
def w_M_about_80 (P : Int32 → MST → Prop) (z1 : Int32) (z2 : Int32) (z3 : Int32) (σ : MST) : Prop := ((z2 = 0 → vp_in z1 8 ∧ (∀ a3 : Int32, a3 = (σ.2.1 22 (z1 : Int32).toNatClampNeg) → P a3 σ)) ∧ (z2 = 1 → vp_in z1 8 ∧ (∀ a4 : Int32, a4 = (σ.2.1 23 (z1 : Int32).toNatClampNeg) → P a4 σ)) ∧ (z2 = 2 → vp_in z1 8 ∧ (∀ a5 : Int32, a5 = (σ.2.1 21 (z1 : Int32).toNatClampNeg) → ((a5 = 0 → P (0 : Int32) σ) ∧ (¬ a5 = 0 → P (1 : Int32) σ)))) ∧ (z2 = 3 → vp_in z1 8 ∧ (∀ a7 : Int32, a7 = (σ.2.1 12 (z1 : Int32).toNatClampNeg) → P a7 σ)) ∧ (z2 = 4 → P (σ.1 50) σ) ∧ (z2 = 5 → vp_in z1 8 ∧ (∀ a8 : Int32, a8 = (σ.2.1 16 (z1 : Int32).toNatClampNeg) → P a8 σ)) ∧ (z2 = 6 → vp_in z1 8 ∧ (∀ a9 : Int32, a9 = (σ.2.1 14 (z1 : Int32).toNatClampNeg) → P a9 σ)) ∧ (z2 = 7 → vp_in z1 8 ∧ (∀ a10 : Int32, a10 = (σ.2.1 15 (z1 : Int32).toNatClampNeg) → P a10 σ)) ∧ (((z2 : Int32).toInt < 0 ∨ 7 < (z2 : Int32).toInt) → P z3 σ))
def w_M_about_34 (P : Int32 → MST → Prop) : Nat → Int32 → Int32 → Int32 → Int32 → MST → Prop
  | 0, _, _, _, _, _ => False
  | n + 1, z1, z2, z3, z4, σ => ((120 ≤ z4 → ((z2 = 4 → w_M_writeAll z1 σ (fun σ13 => w_M_about_80 P z1 z2 z3 σ13)) ∧ (¬ z2 = 4 → w_M_about_80 P z1 z2 z3 σ))) ∧ (¬ 120 ≤ z4 → vp_in (((120 : Int32) * z1) + z4) 960 ∧ (∀ a15 : Int32, a15 = (σ.2.1 32 ((((120 : Int32) * z1) + z4) : Int32).toNatClampNeg) → ((a15 = 0 → w_M_about_62 (w_M_about_34 P n) P z1 z2 z4 0 z3 σ) ∧ (¬ a15 = 0 → w_M_about_62 (w_M_about_34 P n) P z1 z2 z4 1 z3 σ)))))
def w_M_about (x1 : Int32) (x2 : Int32) (σ : MST) (P : Int32 → MST → Prop) : Prop := w_M_isMethod x1 σ (fun r18 σ17 => ((r18 = 0 → w_M_about_18 P σ17) ∧ (¬ r18 = 0 → ((x2 < 0 → w_M_about_18 P σ17) ∧ (¬ x2 < 0 → ((x2 ≤ 8 → ∀ σ22 : MST, σ22 = setI σ17 0 0 → (∃ n9 : Nat, w_M_about_34 P n9 x1 x2 0 0 σ22)) ∧ (¬ x2 ≤ 8 → w_M_about_18 P σ17)))))))
set_option maxHeartbeats 4000000 in
set_option maxRecDepth 100000 in
theorem K_M_about (l : Launch) (dC : Nat → ClassId) (dI : Nat → Nat → Nat) (mo : Nat) (rf : Nat → Nat) (ca : Nat → ClassId) (sz : Nat) (σ : MST) (x1 : Int32) (x2 : Int32) {P : Int32 → MST → Prop} (hw : w_M_about x1 x2 σ P) : Met l z_M_about (mW z_M_about prog_14_method_75_code 5 (some .int)) ({ frames := 5, cells := 0, slots := 0, locals := 115 } : Room) (va_Pc [.ref mo, .int x1, .int x2] (MPre (dC, dI) mo rf ca σ sz)) (va_Qi P (MB (dC, dI) mo rf ca sz) (mA mo rf sz)) 0 0 (mA mo rf sz) := by
  refine M_ofi (by decide) rfl (Nat.le_of_ble_eq_true rfl) ?_
  intro p e s m below meth cx Q A ls C hA hend h hl
  have C0 := C
  obtain ⟨⟨hx, hb, hml, hown, hts⟩, hsub⟩ := C0
  have K_18 : ∀ (u9 : Unit), ∀ (σ : MST) (H : Heap) (locs : List Loc) (ls : Array Slot), w_M_about_18 P σ → MH (dC, dI) A mo rf ca σ s H locs → lv_has ls 5 [(0, .ref mo)] → W p l e ({ frames := 5, cells := 0, slots := 0, locals := 115 } : Room) s m ([.ref mo, .int x1, .int x2] : List Value).toArray below meth cx H locs 0 0 Q (F0 m 18 ls []) := by
    intro u9  σ H locs ls hw h hl
    unfold w_M_about_18 at hw
    refine lv_aload_n hx hb e_M_about_18 rfl (lv_at hl 0 rfl) ?_
    refine lv_iconst (v := 1) hx hb e_M_about_19 (by decide) ?_
    refine M_calli (As := [.int 1]) (rest := []) C h hA (K_M_fails l dC dI mo rf ca H.size σ (1 : Int32) hw) (cwV 1 hts (gV hsub v_26 v_27 v_28 v_7 v_29) rfl rfl rfl (by decide +kernel) ⟨(Nat.le_of_ble_eq_true rfl), (Nat.le_of_ble_eq_true rfl)⟩) rfl hl.1 (Nat.le_of_ble_eq_true rfl) e_M_about_20 ⟨(Nat.le_of_ble_eq_true rfl), (Nat.le_of_ble_eq_true rfl)⟩ (fun r2 σ1 H locs hw h => ?_)
    refine W.eq (g2 := F0 m 23 ls [.int r2]) rfl ?_
    exact hend r2 σ1 _ _ _ _ hw h e_M_about_23
  have K_62 : ∀ (K34 : Int32 → Int32 → Int32 → Int32 → MST → Prop) (hK34 : ∀ (z1 : Int32) (z2 : Int32) (z3 : Int32) (z4 : Int32) (σ : MST) (H : Heap) (locs : List Loc) (ls : Array Slot), K34 z1 z2 z3 z4 σ → MH (dC, dI) A mo rf ca σ s H locs → lv_has ls 5 [(0, .ref mo), (1, .int z1), (2, .int z2), (3, .int z3), (4, .int z4)] → W p l e ({ frames := 5, cells := 0, slots := 0, locals := 115 } : Room) s m ([.ref mo, .int x1, .int x2] : List Value).toArray below meth cx H locs 0 0 Q (F0 m 34 ls [])), ∀ (z1 : Int32) (z2 : Int32) (z4 : Int32) (s0 : Int32) (s1 : Int32) (σ : MST) (H : Heap) (locs : List Loc) (ls : Array Slot), w_M_about_62 K34 P z1 z2 z4 s0 s1 σ → MH (dC, dI) A mo rf ca σ s H locs → lv_has ls 5 [(0, .ref mo), (1, .int z1), (2, .int z2), (4, .int z4)] → W p l e ({ frames := 5, cells := 0, slots := 0, locals := 115 } : Room) s m ([.ref mo, .int x1, .int x2] : List Value).toArray below meth cx H locs 0 0 Q (F0 m 62 ls [.int s0, .int s1]) := by
    intro K34 hK34 z1 z2 z4 s0 s1 σ H locs ls hw h hl
    unfold w_M_about_62 at hw
    refine lv_iadd hx hb e_M_about_62 ?_
    refine lv_istore_n (lv' := [(3, .int (s1 + s0)), (0, .ref mo), (1, .int z1), (2, .int z2), (4, .int z4)]) hx hb e_M_about_63 rfl hl (by decide) rfl (fun ls hl => ?_)
    refine lv_iinc (v := (z4 + 1)) (lv' := [(4, .int (z4 + 1)), (3, .int (s1 + s0)), (0, .ref mo), (1, .int z1), (2, .int z2)]) hx hb e_M_about_64 hl (k := 4) rfl (rfl) (by decide) rfl (fun ls hl => ?_)
    refine lv_goto (tgt := 34) hx hb e_M_about_67 (by decide) ?_
    exact hK34 z1 z2 (s1 + s0) (z4 + 1) σ _ _ _ hw h (lv_sub hl [2, 3, 4, 1, 0] rfl)
  have K_80 : ∀ (u9 : Unit), ∀ (z1 : Int32) (z2 : Int32) (z3 : Int32) (σ : MST) (H : Heap) (locs : List Loc) (ls : Array Slot), w_M_about_80 P z1 z2 z3 σ → MH (dC, dI) A mo rf ca σ s H locs → lv_has ls 5 [(0, .ref mo), (1, .int z1), (2, .int z2), (3, .int z3)] → W p l e ({ frames := 5, cells := 0, slots := 0, locals := 115 } : Room) s m ([.ref mo, .int x1, .int x2] : List Value).toArray below meth cx H locs 0 0 Q (F0 m 80 ls []) := by
    intro u9 z1 z2 z3 σ H locs ls hw h hl
    unfold w_M_about_80 at hw
    refine lv_iload_n hx hb e_M_about_80 rfl (lv_at hl 2 rfl) ?_
    rcases sw_8 z2 with h9 | h9 | h9 | h9 | h9 | h9 | h9 | h9 | h9
    · skip
      replace hw := hw.1 h9
      refine tp_i 0 h9 ?_
      refine lv_tableIn (off := 47) (tgt := 128) hx hb e_M_about_81 (by decide) (by decide) (by decide) (by decide) ?_
      refine lv_aload_n hx hb e_M_about_128 rfl (lv_at hl 0 rfl) ?_
      refine M_get C h 22 (v := .ref (rf 22)) rfl (by decide) v_256 e_M_about_129 ?_
      refine lv_iload_n hx hb e_M_about_132 rfl (lv_at hl 1 rfl) ?_
      refine M_ald C h 22 (by decide) rfl hw.1 e_M_about_133 ?_
      replace hw := hw.2
      refine lv_topi (fun a3 e_a3 => ?_)
      replace hw := hw a3 e_a3
      exact hend a3 σ _ _ _ _ hw h e_M_about_134
    · skip
      replace hw := hw.2.1 h9
      refine tp_i 1 h9 ?_
      refine lv_tableIn (off := 54) (tgt := 135) hx hb e_M_about_81 (by decide) (by decide) (by decide) (by decide) ?_
      refine lv_aload_n hx hb e_M_about_135 rfl (lv_at hl 0 rfl) ?_
      refine M_get C h 23 (v := .ref (rf 23)) rfl (by decide) v_257 e_M_about_136 ?_
      refine lv_iload_n hx hb e_M_about_139 rfl (lv_at hl 1 rfl) ?_
      refine M_ald C h 23 (by decide) rfl hw.1 e_M_about_140 ?_
      replace hw := hw.2
      refine lv_topi (fun a4 e_a4 => ?_)
      replace hw := hw a4 e_a4
      exact hend a4 σ _ _ _ _ hw h e_M_about_141
    · skip
      replace hw := hw.2.2.1 h9
      refine tp_i 2 h9 ?_
      refine lv_tableIn (off := 61) (tgt := 142) hx hb e_M_about_81 (by decide) (by decide) (by decide) (by decide) ?_
      refine lv_aload_n hx hb e_M_about_142 rfl (lv_at hl 0 rfl) ?_
      refine M_get C h 21 (v := .ref (rf 21)) rfl (by decide) v_60 e_M_about_143 ?_
      refine lv_iload_n hx hb e_M_about_146 rfl (lv_at hl 1 rfl) ?_
      refine M_zald C h 21 (by decide) rfl hw.1 e_M_about_147 ?_
      replace hw := hw.2
      refine lv_topi (fun a5 e_a5 => ?_)
      replace hw := hw a5 e_a5
      refine lv_if_eq (tgt := 155) hx hb e_M_about_148 (by decide) (fun c6 => ?_) (fun c6 => ?_)
      · skip
        replace hw := hw.1 c6
        refine lv_iconst (v := 0) hx hb e_M_about_155 (by decide) ?_
        exact hend (0 : Int32) σ _ _ _ _ hw h e_M_about_156
      · skip
        replace hw := hw.2 c6
        refine lv_iconst (v := 1) hx hb e_M_about_151 (by decide) ?_
        refine lv_goto (tgt := 156) hx hb e_M_about_152 (by decide) ?_
        exact hend (1 : Int32) σ _ _ _ _ hw h e_M_about_156
    · skip
      replace hw := hw.2.2.2.1 h9
      refine tp_i 3 h9 ?_
      refine lv_tableIn (off := 76) (tgt := 157) hx hb e_M_about_81 (by decide) (by decide) (by decide) (by decide) ?_
      refine lv_aload_n hx hb e_M_about_157 rfl (lv_at hl 0 rfl) ?_
      refine M_get C h 12 (v := .ref (rf 12)) rfl (by decide) v_51 e_M_about_158 ?_
      refine lv_iload_n hx hb e_M_about_161 rfl (lv_at hl 1 rfl) ?_
      refine M_ald C h 12 (by decide) rfl hw.1 e_M_about_162 ?_
      replace hw := hw.2
      refine lv_topi (fun a7 e_a7 => ?_)
      replace hw := hw a7 e_a7
      exact hend a7 σ _ _ _ _ hw h e_M_about_163
    · skip
      replace hw := hw.2.2.2.2.1 h9
      refine tp_i 4 h9 ?_
      refine lv_tableIn (off := 83) (tgt := 164) hx hb e_M_about_81 (by decide) (by decide) (by decide) (by decide) ?_
      refine lv_aload_n hx hb e_M_about_164 rfl (lv_at hl 0 rfl) ?_
      refine M_get C h 50 (v := .int (σ.1 50)) rfl (by decide) v_271 e_M_about_165 ?_
      exact hend (σ.1 50) σ _ _ _ _ hw h e_M_about_168
    · skip
      replace hw := hw.2.2.2.2.2.1 h9
      refine tp_i 5 h9 ?_
      refine lv_tableIn (off := 88) (tgt := 169) hx hb e_M_about_81 (by decide) (by decide) (by decide) (by decide) ?_
      refine lv_aload_n hx hb e_M_about_169 rfl (lv_at hl 0 rfl) ?_
      refine M_get C h 16 (v := .ref (rf 16)) rfl (by decide) v_61 e_M_about_170 ?_
      refine lv_iload_n hx hb e_M_about_173 rfl (lv_at hl 1 rfl) ?_
      refine M_ald C h 16 (by decide) rfl hw.1 e_M_about_174 ?_
      replace hw := hw.2
      refine lv_topi (fun a8 e_a8 => ?_)
      replace hw := hw a8 e_a8
      exact hend a8 σ _ _ _ _ hw h e_M_about_175
    · skip
      replace hw := hw.2.2.2.2.2.2.1 h9
      refine tp_i 6 h9 ?_
      refine lv_tableIn (off := 95) (tgt := 176) hx hb e_M_about_81 (by decide) (by decide) (by decide) (by decide) ?_
      refine lv_aload_n hx hb e_M_about_176 rfl (lv_at hl 0 rfl) ?_
      refine M_get C h 14 (v := .ref (rf 14)) rfl (by decide) v_48 e_M_about_177 ?_
      refine lv_iload_n hx hb e_M_about_180 rfl (lv_at hl 1 rfl) ?_
      refine M_ald C h 14 (by decide) rfl hw.1 e_M_about_181 ?_
      replace hw := hw.2
      refine lv_topi (fun a9 e_a9 => ?_)
      replace hw := hw a9 e_a9
      exact hend a9 σ _ _ _ _ hw h e_M_about_182
    · skip
      replace hw := hw.2.2.2.2.2.2.2.1 h9
      refine tp_i 7 h9 ?_
      refine lv_tableIn (off := 102) (tgt := 183) hx hb e_M_about_81 (by decide) (by decide) (by decide) (by decide) ?_
      refine lv_aload_n hx hb e_M_about_183 rfl (lv_at hl 0 rfl) ?_
      refine M_get C h 15 (v := .ref (rf 15)) rfl (by decide) v_49 e_M_about_184 ?_
      refine lv_iload_n hx hb e_M_about_187 rfl (lv_at hl 1 rfl) ?_
      refine M_ald C h 15 (by decide) rfl hw.1 e_M_about_188 ?_
      replace hw := hw.2
      refine lv_topi (fun a10 e_a10 => ?_)
      replace hw := hw a10 e_a10
      exact hend a10 σ _ _ _ _ hw h e_M_about_189
    · skip
      replace hw := hw.2.2.2.2.2.2.2.2 h9
      refine lv_tableOut (tgt := 190) hx hb e_M_about_81 h9 (by decide) ?_
      refine lv_iload_n hx hb e_M_about_190 rfl (lv_at hl 3 rfl) ?_
      exact hend z3 σ _ _ _ _ hw h e_M_about_191
  have K_34 : ∀ (n : Nat), ∀ (z1 : Int32) (z2 : Int32) (z3 : Int32) (z4 : Int32) (σ : MST) (H : Heap) (locs : List Loc) (ls : Array Slot), w_M_about_34 P n z1 z2 z3 z4 σ → MH (dC, dI) A mo rf ca σ s H locs → lv_has ls 5 [(0, .ref mo), (1, .int z1), (2, .int z2), (3, .int z3), (4, .int z4)] → W p l e ({ frames := 5, cells := 0, slots := 0, locals := 115 } : Room) s m ([.ref mo, .int x1, .int x2] : List Value).toArray below meth cx H locs 0 0 Q (F0 m 34 ls []) := by
    intro  n
    induction n with
    | zero => intro z1 z2 z3 z4 σ H locs ls hw h hl; unfold w_M_about_34 at hw; exact hw.elim
    | succ n ih =>
      intro z1 z2 z3 z4 σ H locs ls hw h hl
      unfold w_M_about_34 at hw
      refine lv_iload hx hb e_M_about_34 (lv_at hl 4 rfl) ?_
      refine lv_bipush (v := 120) hx hb e_M_about_36 (by decide) ?_
      refine lv_icmp_ge (tgt := 70) hx hb e_M_about_38 (by decide) (fun c11 => ?_) (fun c11 => ?_)
      · skip
        replace hw := hw.1 c11
        refine lv_iload_n hx hb e_M_about_70 rfl (lv_at hl 2 rfl) ?_
        refine lv_iconst (v := 4) hx hb e_M_about_71 (by decide) ?_
        refine lv_icmp_ne (tgt := 80) hx hb e_M_about_72 (by decide) (fun c12 => ?_) (fun c12 => ?_)
        · skip
          replace hw := hw.2 c12
          exact K_80 () z1 z2 z3 σ _ _ _ hw h (lv_sub hl [0, 1, 2, 3] rfl)
        · skip
          replace hw := hw.1 c12
          refine lv_aload_n hx hb e_M_about_75 rfl (lv_at hl 0 rfl) ?_
          refine lv_iload_n hx hb e_M_about_76 rfl (lv_at hl 1 rfl) ?_
          refine M_callv (As := [.int z1]) (rest := []) C h hA (K_M_writeAll l dC dI mo rf ca H.size σ z1 hw) (cwV 1 hts (gV hsub v_304 v_305 v_306 v_7 v_307) rfl rfl rfl (by decide +kernel) ⟨(Nat.le_of_ble_eq_true rfl), (Nat.le_of_ble_eq_true rfl)⟩) rfl hl.1 (Nat.le_of_ble_eq_true rfl) e_M_about_77 ⟨(Nat.le_of_ble_eq_true rfl), (Nat.le_of_ble_eq_true rfl)⟩ (fun σ13 H locs hw h => ?_)
          refine W.eq (g2 := F0 m 80 ls []) rfl ?_
          exact K_80 () z1 z2 z3 σ13 _ _ _ hw h (lv_sub hl [0, 1, 2, 3] rfl)
      · skip
        replace hw := hw.2 c11
        refine lv_iload_n hx hb e_M_about_41 rfl (lv_at hl 3 rfl) ?_
        refine lv_aload_n hx hb e_M_about_42 rfl (lv_at hl 0 rfl) ?_
        refine M_get C h 32 (v := .ref (rf 32)) rfl (by decide) v_247 e_M_about_43 ?_
        refine lv_bipush (v := 120) hx hb e_M_about_46 (by decide) ?_
        refine lv_iload_n hx hb e_M_about_48 rfl (lv_at hl 1 rfl) ?_
        refine lv_imul hx hb e_M_about_49 ?_
        refine lv_iload hx hb e_M_about_50 (lv_at hl 4 rfl) ?_
        refine lv_iadd hx hb e_M_about_52 ?_
        refine M_zald C h 32 (by decide) rfl hw.1 e_M_about_53 ?_
        replace hw := hw.2
        refine lv_topi (fun a15 e_a15 => ?_)
        replace hw := hw a15 e_a15
        refine lv_if_eq (tgt := 61) hx hb e_M_about_54 (by decide) (fun c16 => ?_) (fun c16 => ?_)
        · skip
          replace hw := hw.1 c16
          refine lv_iconst (v := 0) hx hb e_M_about_61 (by decide) ?_
          exact K_62 _ ih z1 z2 z4 0 z3 σ _ _ _ hw h (lv_sub hl [0, 1, 2, 4] rfl)
        · skip
          replace hw := hw.2 c16
          refine lv_iconst (v := 1) hx hb e_M_about_57 (by decide) ?_
          refine lv_goto (tgt := 62) hx hb e_M_about_58 (by decide) ?_
          exact K_62 _ ih z1 z2 z4 1 z3 σ _ _ _ hw h (lv_sub hl [0, 1, 2, 4] rfl)
  have hl : lv_has ls 5 [(0, .ref mo), (1, .int x1), (2, .int x2)] := hl
  unfold w_M_about at hw
  refine lv_aload_n hx hb e_M_about_0 rfl (lv_at hl 0 rfl) ?_
  refine lv_iload_n hx hb e_M_about_1 rfl (lv_at hl 1 rfl) ?_
  refine M_calli (As := [.int x1]) (rest := []) C h hA (K_M_isMethod l dC dI mo rf ca s.heap.size σ x1 hw) (cwV 1 hts (gV hsub v_56 v_57 v_58 v_7 v_59) rfl rfl rfl (by decide +kernel) ⟨(Nat.le_of_ble_eq_true rfl), (Nat.le_of_ble_eq_true rfl)⟩) rfl hl.1 (Nat.le_of_ble_eq_true rfl) e_M_about_2 ⟨(Nat.le_of_ble_eq_true rfl), (Nat.le_of_ble_eq_true rfl)⟩ (fun r18 σ17 H locs hw h => ?_)
  refine W.eq (g2 := F0 m 5 ls [.int r18]) rfl ?_
  refine lv_if_eq (tgt := 18) hx hb e_M_about_5 (by decide) (fun c19 => ?_) (fun c19 => ?_)
  · skip
    replace hw := hw.1 c19
    exact K_18 () σ17 _ _ _ hw h (lv_sub hl [0] rfl)
  · skip
    replace hw := hw.2 c19
    refine lv_iload_n hx hb e_M_about_8 rfl (lv_at hl 2 rfl) ?_
    refine lv_if_lt (tgt := 18) hx hb e_M_about_9 (by decide) (fun c20 => ?_) (fun c20 => ?_)
    · skip
      replace hw := hw.1 c20
      exact K_18 () σ17 _ _ _ hw h (lv_sub hl [0] rfl)
    · skip
      replace hw := hw.2 c20
      refine lv_iload_n hx hb e_M_about_12 rfl (lv_at hl 2 rfl) ?_
      refine lv_bipush (v := 8) hx hb e_M_about_13 (by decide) ?_
      refine lv_icmp_le (tgt := 24) hx hb e_M_about_15 (by decide) (fun c21 => ?_) (fun c21 => ?_)
      · skip
        replace hw := hw.1 c21
        refine lv_aload_n hx hb e_M_about_24 rfl (lv_at hl 0 rfl) ?_
        refine lv_iconst (v := 0) hx hb e_M_about_25 (by decide) ?_
        refine M_puti C h 0 (by decide) rfl rfl (by decide +kernel) v_0 e_M_about_26 (fun H locs h => ?_)
        obtain ⟨σ22, e_σ22⟩ : ∃ z : MST, z = setI σ17 0 0 := ⟨_, rfl⟩
        rw [← e_σ22] at h
        replace hw := hw σ22 e_σ22
        refine lv_iconst (v := 0) hx hb e_M_about_29 (by decide) ?_
        refine lv_istore_n (lv' := [(3, .int 0), (0, .ref mo), (1, .int x1), (2, .int x2)]) hx hb e_M_about_30 rfl hl (by decide) rfl (fun ls hl => ?_)
        refine lv_iconst (v := 0) hx hb e_M_about_31 (by decide) ?_
        refine lv_istore (lv' := [(4, .int 0), (3, .int 0), (0, .ref mo), (1, .int x1), (2, .int x2)]) hx hb e_M_about_32 hl (by decide) rfl (fun ls hl => ?_)
        obtain ⟨n9, hw⟩ := hw
        exact K_34 n9 x1 x2 0 0 σ22 _ _ _ hw h (lv_sub hl [2, 3, 4, 1, 0] rfl)
      · skip
        replace hw := hw.2 c21
        exact K_18 () σ17 _ _ _ hw h (lv_sub hl [0] rfl)
abbrev z_M_codeAt : MethodName := ⟨"MapFramerModel", "codeAt", "(II)I"⟩
theorem e_M_codeAt_0 : decode prog_14_method_76_code 0 = .ok (.aload_n 0, 1) := by decide +kernel
theorem e_M_codeAt_1 : decode prog_14_method_76_code 1 = .ok (.iload_n 1, 1) := by decide +kernel
theorem e_M_codeAt_2 : decode prog_14_method_76_code 2 = .ok (.invokevirtual 212, 3) := by decide +kernel
theorem e_M_codeAt_5 : decode prog_14_method_76_code 5 = .ok (.ifCond .eq 29, 3) := by decide +kernel
theorem e_M_codeAt_8 : decode prog_14_method_76_code 8 = .ok (.iload_n 2, 1) := by decide +kernel
theorem e_M_codeAt_9 : decode prog_14_method_76_code 9 = .ok (.ifCond .lt 25, 3) := by decide +kernel
theorem e_M_codeAt_12 : decode prog_14_method_76_code 12 = .ok (.iload_n 2, 1) := by decide +kernel
theorem e_M_codeAt_13 : decode prog_14_method_76_code 13 = .ok (.aload_n 0, 1) := by decide +kernel
theorem e_M_codeAt_14 : decode prog_14_method_76_code 14 = .ok (.getfield 39, 3) := by decide +kernel
theorem e_M_codeAt_17 : decode prog_14_method_76_code 17 = .ok (.aload_n 0, 1) := by decide +kernel
theorem e_M_codeAt_18 : decode prog_14_method_76_code 18 = .ok (.iload_n 1, 1) := by decide +kernel
theorem e_M_codeAt_19 : decode prog_14_method_76_code 19 = .ok (.invokevirtual 212, 3) := by decide +kernel
theorem e_M_codeAt_22 : decode prog_14_method_76_code 22 = .ok (.ifCond .eq 7, 3) := by decide +kernel
theorem e_M_codeAt_25 : decode prog_14_method_76_code 25 = .ok (.iload_n 1, 1) := by decide +kernel
theorem e_M_codeAt_26 : decode prog_14_method_76_code 26 = .ok (.goto 4, 3) := by decide +kernel
theorem e_M_codeAt_29 : decode prog_14_method_76_code 29 = .ok (.iconst 0, 1) := by decide +kernel
theorem e_M_codeAt_30 : decode prog_14_method_76_code 30 = .ok (.iaload, 1) := by decide +kernel
theorem e_M_codeAt_31 : decode prog_14_method_76_code 31 = .ok (.if_icmp .lt 9, 3) := by decide +kernel
theorem e_M_codeAt_34 : decode prog_14_method_76_code 34 = .ok (.aload_n 0, 1) := by decide +kernel
theorem e_M_codeAt_35 : decode prog_14_method_76_code 35 = .ok (.iconst 1, 1) := by decide +kernel
theorem e_M_codeAt_36 : decode prog_14_method_76_code 36 = .ok (.invokevirtual 196, 3) := by decide +kernel
theorem e_M_codeAt_39 : decode prog_14_method_76_code 39 = .ok (.ireturn, 1) := by decide +kernel
theorem e_M_codeAt_40 : decode prog_14_method_76_code 40 = .ok (.aload_n 0, 1) := by decide +kernel
theorem e_M_codeAt_41 : decode prog_14_method_76_code 41 = .ok (.iconst 0, 1) := by decide +kernel
theorem e_M_codeAt_42 : decode prog_14_method_76_code 42 = .ok (.putfield 169, 3) := by decide +kernel
theorem e_M_codeAt_45 : decode prog_14_method_76_code 45 = .ok (.aload_n 0, 1) := by decide +kernel
theorem e_M_codeAt_46 : decode prog_14_method_76_code 46 = .ok (.iload_n 1, 1) := by decide +kernel
theorem e_M_codeAt_47 : decode prog_14_method_76_code 47 = .ok (.iload_n 2, 1) := by decide +kernel
theorem e_M_codeAt_48 : decode prog_14_method_76_code 48 = .ok (.invokevirtual 222, 3) := by decide +kernel
theorem e_M_codeAt_51 : decode prog_14_method_76_code 51 = .ok (.ireturn, 1) := by decide +kernel
def w_M_codeAt_34 (P : Int32 → MST → Prop) (σ : MST) : Prop := w_M_fails (1 : Int32) σ (fun r2 σ1 => P r2 σ1)
def w_M_codeAt_30 (P : Int32 → MST → Prop) (z1 : Int32) (z2 : Int32) (s0 : Int32) (s2 : Int32) (σ : MST) : Prop := vp_in s0 8 ∧ (∀ a3 : Int32, a3 = (σ.2.1 12 (s0 : Int32).toNatClampNeg) → ((s2 < a3 → ∀ σ5 : MST, σ5 = setI σ 0 0 → w_M_at z1 z2 σ5 (fun r7 σ6 => P r7 σ6)) ∧ (¬ s2 < a3 → w_M_codeAt_34 P σ)))
def w_M_codeAt (x1 : Int32) (x2 : Int32) (σ : MST) (P : Int32 → MST → Prop) : Prop := w_M_isMethod x1 σ (fun r9 σ8 => ((r9 = 0 → w_M_codeAt_34 P σ8) ∧ (¬ r9 = 0 → ((x2 < 0 → w_M_codeAt_34 P σ8) ∧ (¬ x2 < 0 → w_M_isMethod x1 σ8 (fun r13 σ12 => ((r13 = 0 → w_M_codeAt_30 P x1 x2 0 x2 σ12) ∧ (¬ r13 = 0 → w_M_codeAt_30 P x1 x2 x1 x2 σ12))))))))
set_option maxHeartbeats 4000000 in
set_option maxRecDepth 100000 in
theorem K_M_codeAt (l : Launch) (dC : Nat → ClassId) (dI : Nat → Nat → Nat) (mo : Nat) (rf : Nat → Nat) (ca : Nat → ClassId) (sz : Nat) (σ : MST) (x1 : Int32) (x2 : Int32) {P : Int32 → MST → Prop} (hw : w_M_codeAt x1 x2 σ P) : Met l z_M_codeAt (mW z_M_codeAt prog_14_method_76_code 3 (some .int)) ({ frames := 1, cells := 0, slots := 0, locals := 22 } : Room) (va_Pc [.ref mo, .int x1, .int x2] (MPre (dC, dI) mo rf ca σ sz)) (va_Qi P (MB (dC, dI) mo rf ca sz) (mA mo rf sz)) 0 0 (mA mo rf sz) := by
  refine M_ofi (by decide) rfl (Nat.le_of_ble_eq_true rfl) ?_
  intro p e s m below meth cx Q A ls C hA hend h hl
  have C0 := C
  obtain ⟨⟨hx, hb, hml, hown, hts⟩, hsub⟩ := C0
  have K_34 : ∀ (u9 : Unit), ∀ (σ : MST) (H : Heap) (locs : List Loc) (ls : Array Slot), w_M_codeAt_34 P σ → MH (dC, dI) A mo rf ca σ s H locs → lv_has ls 3 [(0, .ref mo)] → W p l e ({ frames := 1, cells := 0, slots := 0, locals := 22 } : Room) s m ([.ref mo, .int x1, .int x2] : List Value).toArray below meth cx H locs 0 0 Q (F0 m 34 ls []) := by
    intro u9  σ H locs ls hw h hl
    unfold w_M_codeAt_34 at hw
    refine lv_aload_n hx hb e_M_codeAt_34 rfl (lv_at hl 0 rfl) ?_
    refine lv_iconst (v := 1) hx hb e_M_codeAt_35 (by decide) ?_
    refine M_calli (As := [.int 1]) (rest := []) C h hA (K_M_fails l dC dI mo rf ca H.size σ (1 : Int32) hw) (cwV 1 hts (gV hsub v_26 v_27 v_28 v_7 v_29) rfl rfl rfl (by decide +kernel) ⟨(Nat.le_of_ble_eq_true rfl), (Nat.le_of_ble_eq_true rfl)⟩) rfl hl.1 (Nat.le_of_ble_eq_true rfl) e_M_codeAt_36 ⟨(Nat.le_of_ble_eq_true rfl), (Nat.le_of_ble_eq_true rfl)⟩ (fun r2 σ1 H locs hw h => ?_)
    refine W.eq (g2 := F0 m 39 ls [.int r2]) rfl ?_
    exact hend r2 σ1 _ _ _ _ hw h e_M_codeAt_39
  have K_30 : ∀ (u9 : Unit), ∀ (z1 : Int32) (z2 : Int32) (s0 : Int32) (s2 : Int32) (σ : MST) (H : Heap) (locs : List Loc) (ls : Array Slot), w_M_codeAt_30 P z1 z2 s0 s2 σ → MH (dC, dI) A mo rf ca σ s H locs → lv_has ls 3 [(0, .ref mo), (1, .int z1), (2, .int z2)] → W p l e ({ frames := 1, cells := 0, slots := 0, locals := 22 } : Room) s m ([.ref mo, .int x1, .int x2] : List Value).toArray below meth cx H locs 0 0 Q (F0 m 30 ls [.int s0, .ref (rf 12), .int s2]) := by
    intro u9 z1 z2 s0 s2 σ H locs ls hw h hl
    unfold w_M_codeAt_30 at hw
    refine M_ald C h 12 (by decide) rfl hw.1 e_M_codeAt_30 ?_
    replace hw := hw.2
    refine lv_topi (fun a3 e_a3 => ?_)
    replace hw := hw a3 e_a3
    refine lv_icmp_lt (tgt := 40) hx hb e_M_codeAt_31 (by decide) (fun c4 => ?_) (fun c4 => ?_)
    · skip
      replace hw := hw.1 c4
      refine lv_aload_n hx hb e_M_codeAt_40 rfl (lv_at hl 0 rfl) ?_
      refine lv_iconst (v := 0) hx hb e_M_codeAt_41 (by decide) ?_
      refine M_puti C h 0 (by decide) rfl rfl (by decide +kernel) v_0 e_M_codeAt_42 (fun H locs h => ?_)
      obtain ⟨σ5, e_σ5⟩ : ∃ z : MST, z = setI σ 0 0 := ⟨_, rfl⟩
      rw [← e_σ5] at h
      replace hw := hw σ5 e_σ5
      refine lv_aload_n hx hb e_M_codeAt_45 rfl (lv_at hl 0 rfl) ?_
      refine lv_iload_n hx hb e_M_codeAt_46 rfl (lv_at hl 1 rfl) ?_
      refine lv_iload_n hx hb e_M_codeAt_47 rfl (lv_at hl 2 rfl) ?_
      refine M_calli (As := [.int z1, .int z2]) (rest := []) C h hA (K_M_at l dC dI mo rf ca H.size σ5 z1 z2 hw) (cwV 2 hts (gV hsub v_69 v_70 v_71 v_7 v_72) rfl rfl rfl (by decide +kernel) ⟨(Nat.le_of_ble_eq_true rfl), (Nat.le_of_ble_eq_true rfl)⟩) rfl hl.1 (Nat.le_of_ble_eq_true rfl) e_M_codeAt_48 ⟨(Nat.le_of_ble_eq_true rfl), (Nat.le_of_ble_eq_true rfl)⟩ (fun r7 σ6 H locs hw h => ?_)
      refine W.eq (g2 := F0 m 51 ls [.int r7]) rfl ?_
      exact hend r7 σ6 _ _ _ _ hw h e_M_codeAt_51
    · skip
      replace hw := hw.2 c4
      exact K_34 () σ _ _ _ hw h (lv_sub hl [0] rfl)
  have hl : lv_has ls 3 [(0, .ref mo), (1, .int x1), (2, .int x2)] := hl
  unfold w_M_codeAt at hw
  refine lv_aload_n hx hb e_M_codeAt_0 rfl (lv_at hl 0 rfl) ?_
  refine lv_iload_n hx hb e_M_codeAt_1 rfl (lv_at hl 1 rfl) ?_
  refine M_calli (As := [.int x1]) (rest := []) C h hA (K_M_isMethod l dC dI mo rf ca s.heap.size σ x1 hw) (cwV 1 hts (gV hsub v_56 v_57 v_58 v_7 v_59) rfl rfl rfl (by decide +kernel) ⟨(Nat.le_of_ble_eq_true rfl), (Nat.le_of_ble_eq_true rfl)⟩) rfl hl.1 (Nat.le_of_ble_eq_true rfl) e_M_codeAt_2 ⟨(Nat.le_of_ble_eq_true rfl), (Nat.le_of_ble_eq_true rfl)⟩ (fun r9 σ8 H locs hw h => ?_)
  refine W.eq (g2 := F0 m 5 ls [.int r9]) rfl ?_
  refine lv_if_eq (tgt := 34) hx hb e_M_codeAt_5 (by decide) (fun c10 => ?_) (fun c10 => ?_)
  · skip
    replace hw := hw.1 c10
    exact K_34 () σ8 _ _ _ hw h (lv_sub hl [0] rfl)
  · skip
    replace hw := hw.2 c10
    refine lv_iload_n hx hb e_M_codeAt_8 rfl (lv_at hl 2 rfl) ?_
    refine lv_if_lt (tgt := 34) hx hb e_M_codeAt_9 (by decide) (fun c11 => ?_) (fun c11 => ?_)
    · skip
      replace hw := hw.1 c11
      exact K_34 () σ8 _ _ _ hw h (lv_sub hl [0] rfl)
    · skip
      replace hw := hw.2 c11
      refine lv_iload_n hx hb e_M_codeAt_12 rfl (lv_at hl 2 rfl) ?_
      refine lv_aload_n hx hb e_M_codeAt_13 rfl (lv_at hl 0 rfl) ?_
      refine M_get C h 12 (v := .ref (rf 12)) rfl (by decide) v_51 e_M_codeAt_14 ?_
      refine lv_aload_n hx hb e_M_codeAt_17 rfl (lv_at hl 0 rfl) ?_
      refine lv_iload_n hx hb e_M_codeAt_18 rfl (lv_at hl 1 rfl) ?_
      refine M_calli (As := [.int x1]) (rest := [.ref (rf 12), .int x2]) C h hA (K_M_isMethod l dC dI mo rf ca H.size σ8 x1 hw) (cwV 1 hts (gV hsub v_56 v_57 v_58 v_7 v_59) rfl rfl rfl (by decide +kernel) ⟨(Nat.le_of_ble_eq_true rfl), (Nat.le_of_ble_eq_true rfl)⟩) rfl hl.1 (Nat.le_of_ble_eq_true rfl) e_M_codeAt_19 ⟨(Nat.le_of_ble_eq_true rfl), (Nat.le_of_ble_eq_true rfl)⟩ (fun r13 σ12 H locs hw h => ?_)
      refine W.eq (g2 := F0 m 22 ls [.int r13, .ref (rf 12), .int x2]) rfl ?_
      refine lv_if_eq (tgt := 29) hx hb e_M_codeAt_22 (by decide) (fun c14 => ?_) (fun c14 => ?_)
      · skip
        replace hw := hw.1 c14
        refine lv_iconst (v := 0) hx hb e_M_codeAt_29 (by decide) ?_
        exact K_30 () x1 x2 0 x2 σ12 _ _ _ hw h (lv_sub hl [0, 1, 2] rfl)
      · skip
        replace hw := hw.2 c14
        refine lv_iload_n hx hb e_M_codeAt_25 rfl (lv_at hl 1 rfl) ?_
        refine lv_goto (tgt := 30) hx hb e_M_codeAt_26 (by decide) ?_
        exact K_30 () x1 x2 x1 x2 σ12 _ _ _ hw h (lv_sub hl [0, 1, 2] rfl)
abbrev z_M_frameAt : MethodName := ⟨"MapFramerModel", "frameAt", "(II)I"⟩
theorem e_M_frameAt_0 : decode prog_14_method_77_code 0 = .ok (.aload_n 0, 1) := by decide +kernel
theorem e_M_frameAt_1 : decode prog_14_method_77_code 1 = .ok (.iload_n 1, 1) := by decide +kernel
theorem e_M_frameAt_2 : decode prog_14_method_77_code 2 = .ok (.invokevirtual 212, 3) := by decide +kernel
theorem e_M_frameAt_5 : decode prog_14_method_77_code 5 = .ok (.ifCond .eq 7, 3) := by decide +kernel
theorem e_M_frameAt_8 : decode prog_14_method_77_code 8 = .ok (.iload_n 2, 1) := by decide +kernel
theorem e_M_frameAt_9 : decode prog_14_method_77_code 9 = .ok (.ifCond .ge 9, 3) := by decide +kernel
theorem e_M_frameAt_12 : decode prog_14_method_77_code 12 = .ok (.aload_n 0, 1) := by decide +kernel
theorem e_M_frameAt_13 : decode prog_14_method_77_code 13 = .ok (.iconst 1, 1) := by decide +kernel
theorem e_M_frameAt_14 : decode prog_14_method_77_code 14 = .ok (.invokevirtual 196, 3) := by decide +kernel
theorem e_M_frameAt_17 : decode prog_14_method_77_code 17 = .ok (.ireturn, 1) := by decide +kernel
theorem e_M_frameAt_18 : decode prog_14_method_77_code 18 = .ok (.aload_n 0, 1) := by decide +kernel
theorem e_M_frameAt_19 : decode prog_14_method_77_code 19 = .ok (.iload_n 1, 1) := by decide +kernel
theorem e_M_frameAt_20 : decode prog_14_method_77_code 20 = .ok (.invokevirtual 417, 3) := by decide +kernel
theorem e_M_frameAt_23 : decode prog_14_method_77_code 23 = .ok (.iload_n 2, 1) := by decide +kernel
theorem e_M_frameAt_24 : decode prog_14_method_77_code 24 = .ok (.aload_n 0, 1) := by decide +kernel
theorem e_M_frameAt_25 : decode prog_14_method_77_code 25 = .ok (.getfield 385, 3) := by decide +kernel
theorem e_M_frameAt_28 : decode prog_14_method_77_code 28 = .ok (.if_icmp .lt 9, 3) := by decide +kernel
theorem e_M_frameAt_31 : decode prog_14_method_77_code 31 = .ok (.aload_n 0, 1) := by decide +kernel
theorem e_M_frameAt_32 : decode prog_14_method_77_code 32 = .ok (.iconst 1, 1) := by decide +kernel
theorem e_M_frameAt_33 : decode prog_14_method_77_code 33 = .ok (.invokevirtual 196, 3) := by decide +kernel
theorem e_M_frameAt_36 : decode prog_14_method_77_code 36 = .ok (.ireturn, 1) := by decide +kernel
theorem e_M_frameAt_37 : decode prog_14_method_77_code 37 = .ok (.aload_n 0, 1) := by decide +kernel
theorem e_M_frameAt_38 : decode prog_14_method_77_code 38 = .ok (.iconst 0, 1) := by decide +kernel
theorem e_M_frameAt_39 : decode prog_14_method_77_code 39 = .ok (.putfield 169, 3) := by decide +kernel
theorem e_M_frameAt_42 : decode prog_14_method_77_code 42 = .ok (.aload_n 0, 1) := by decide +kernel
theorem e_M_frameAt_43 : decode prog_14_method_77_code 43 = .ok (.getfield 126, 3) := by decide +kernel
theorem e_M_frameAt_46 : decode prog_14_method_77_code 46 = .ok (.iload_n 2, 1) := by decide +kernel
theorem e_M_frameAt_47 : decode prog_14_method_77_code 47 = .ok (.iaload, 1) := by decide +kernel
theorem e_M_frameAt_48 : decode prog_14_method_77_code 48 = .ok (.ireturn, 1) := by decide +kernel
def w_M_frameAt_12 (P : Int32 → MST → Prop) (σ : MST) : Prop := w_M_fails (1 : Int32) σ (fun r2 σ1 => P r2 σ1)
def w_M_frameAt (x1 : Int32) (x2 : Int32) (σ : MST) (P : Int32 → MST → Prop) : Prop := w_M_isMethod x1 σ (fun r4 σ3 => ((r4 = 0 → w_M_frameAt_12 P σ3) ∧ (¬ r4 = 0 → ((0 ≤ x2 → w_M_writeAll x1 σ3 (fun σ7 => ((x2 < (σ7.1 50) → ∀ σ10 : MST, σ10 = setI σ7 0 0 → vp_in x2 12000 ∧ (∀ a11 : Int32, a11 = (σ10.2.1 51 (x2 : Int32).toNatClampNeg) → P a11 σ10)) ∧ (¬ x2 < (σ7.1 50) → w_M_fails (1 : Int32) σ7 (fun r13 σ12 => P r13 σ12))))) ∧ (¬ 0 ≤ x2 → w_M_frameAt_12 P σ3)))))
set_option maxHeartbeats 4000000 in
set_option maxRecDepth 100000 in
theorem K_M_frameAt (l : Launch) (dC : Nat → ClassId) (dI : Nat → Nat → Nat) (mo : Nat) (rf : Nat → Nat) (ca : Nat → ClassId) (sz : Nat) (σ : MST) (x1 : Int32) (x2 : Int32) {P : Int32 → MST → Prop} (hw : w_M_frameAt x1 x2 σ P) : Met l z_M_frameAt (mW z_M_frameAt prog_14_method_77_code 3 (some .int)) ({ frames := 5, cells := 0, slots := 0, locals := 115 } : Room) (va_Pc [.ref mo, .int x1, .int x2] (MPre (dC, dI) mo rf ca σ sz)) (va_Qi P (MB (dC, dI) mo rf ca sz) (mA mo rf sz)) 0 0 (mA mo rf sz) := by
  refine M_ofi (by decide) rfl (Nat.le_of_ble_eq_true rfl) ?_
  intro p e s m below meth cx Q A ls C hA hend h hl
  have C0 := C
  obtain ⟨⟨hx, hb, hml, hown, hts⟩, hsub⟩ := C0
  have K_12 : ∀ (u9 : Unit), ∀ (σ : MST) (H : Heap) (locs : List Loc) (ls : Array Slot), w_M_frameAt_12 P σ → MH (dC, dI) A mo rf ca σ s H locs → lv_has ls 3 [(0, .ref mo)] → W p l e ({ frames := 5, cells := 0, slots := 0, locals := 115 } : Room) s m ([.ref mo, .int x1, .int x2] : List Value).toArray below meth cx H locs 0 0 Q (F0 m 12 ls []) := by
    intro u9  σ H locs ls hw h hl
    unfold w_M_frameAt_12 at hw
    refine lv_aload_n hx hb e_M_frameAt_12 rfl (lv_at hl 0 rfl) ?_
    refine lv_iconst (v := 1) hx hb e_M_frameAt_13 (by decide) ?_
    refine M_calli (As := [.int 1]) (rest := []) C h hA (K_M_fails l dC dI mo rf ca H.size σ (1 : Int32) hw) (cwV 1 hts (gV hsub v_26 v_27 v_28 v_7 v_29) rfl rfl rfl (by decide +kernel) ⟨(Nat.le_of_ble_eq_true rfl), (Nat.le_of_ble_eq_true rfl)⟩) rfl hl.1 (Nat.le_of_ble_eq_true rfl) e_M_frameAt_14 ⟨(Nat.le_of_ble_eq_true rfl), (Nat.le_of_ble_eq_true rfl)⟩ (fun r2 σ1 H locs hw h => ?_)
    refine W.eq (g2 := F0 m 17 ls [.int r2]) rfl ?_
    exact hend r2 σ1 _ _ _ _ hw h e_M_frameAt_17
  have hl : lv_has ls 3 [(0, .ref mo), (1, .int x1), (2, .int x2)] := hl
  unfold w_M_frameAt at hw
  refine lv_aload_n hx hb e_M_frameAt_0 rfl (lv_at hl 0 rfl) ?_
  refine lv_iload_n hx hb e_M_frameAt_1 rfl (lv_at hl 1 rfl) ?_
  refine M_calli (As := [.int x1]) (rest := []) C h hA (K_M_isMethod l dC dI mo rf ca s.heap.size σ x1 hw) (cwV 1 hts (gV hsub v_56 v_57 v_58 v_7 v_59) rfl rfl rfl (by decide +kernel) ⟨(Nat.le_of_ble_eq_true rfl), (Nat.le_of_ble_eq_true rfl)⟩) rfl hl.1 (Nat.le_of_ble_eq_true rfl) e_M_frameAt_2 ⟨(Nat.le_of_ble_eq_true rfl), (Nat.le_of_ble_eq_true rfl)⟩ (fun r4 σ3 H locs hw h => ?_)
  refine W.eq (g2 := F0 m 5 ls [.int r4]) rfl ?_
  refine lv_if_eq (tgt := 12) hx hb e_M_frameAt_5 (by decide) (fun c5 => ?_) (fun c5 => ?_)
  · skip
    replace hw := hw.1 c5
    exact K_12 () σ3 _ _ _ hw h (lv_sub hl [0] rfl)
  · skip
    replace hw := hw.2 c5
    refine lv_iload_n hx hb e_M_frameAt_8 rfl (lv_at hl 2 rfl) ?_
    refine lv_if_ge (tgt := 18) hx hb e_M_frameAt_9 (by decide) (fun c6 => ?_) (fun c6 => ?_)
    · skip
      replace hw := hw.1 c6
      refine lv_aload_n hx hb e_M_frameAt_18 rfl (lv_at hl 0 rfl) ?_
      refine lv_iload_n hx hb e_M_frameAt_19 rfl (lv_at hl 1 rfl) ?_
      refine M_callv (As := [.int x1]) (rest := []) C h hA (K_M_writeAll l dC dI mo rf ca H.size σ3 x1 hw) (cwV 1 hts (gV hsub v_304 v_305 v_306 v_7 v_307) rfl rfl rfl (by decide +kernel) ⟨(Nat.le_of_ble_eq_true rfl), (Nat.le_of_ble_eq_true rfl)⟩) rfl hl.1 (Nat.le_of_ble_eq_true rfl) e_M_frameAt_20 ⟨(Nat.le_of_ble_eq_true rfl), (Nat.le_of_ble_eq_true rfl)⟩ (fun σ7 H locs hw h => ?_)
      refine W.eq (g2 := F0 m 23 ls []) rfl ?_
      refine lv_iload_n hx hb e_M_frameAt_23 rfl (lv_at hl 2 rfl) ?_
      refine lv_aload_n hx hb e_M_frameAt_24 rfl (lv_at hl 0 rfl) ?_
      refine M_get C h 50 (v := .int (σ7.1 50)) rfl (by decide) v_271 e_M_frameAt_25 ?_
      refine lv_icmp_lt (tgt := 37) hx hb e_M_frameAt_28 (by decide) (fun c9 => ?_) (fun c9 => ?_)
      · skip
        replace hw := hw.1 c9
        refine lv_aload_n hx hb e_M_frameAt_37 rfl (lv_at hl 0 rfl) ?_
        refine lv_iconst (v := 0) hx hb e_M_frameAt_38 (by decide) ?_
        refine M_puti C h 0 (by decide) rfl rfl (by decide +kernel) v_0 e_M_frameAt_39 (fun H locs h => ?_)
        obtain ⟨σ10, e_σ10⟩ : ∃ z : MST, z = setI σ7 0 0 := ⟨_, rfl⟩
        rw [← e_σ10] at h
        replace hw := hw σ10 e_σ10
        refine lv_aload_n hx hb e_M_frameAt_42 rfl (lv_at hl 0 rfl) ?_
        refine M_get C h 51 (v := .ref (rf 51)) rfl (by decide) v_270 e_M_frameAt_43 ?_
        refine lv_iload_n hx hb e_M_frameAt_46 rfl (lv_at hl 2 rfl) ?_
        refine M_ald C h 51 (by decide) rfl hw.1 e_M_frameAt_47 ?_
        replace hw := hw.2
        refine lv_topi (fun a11 e_a11 => ?_)
        replace hw := hw a11 e_a11
        exact hend a11 σ10 _ _ _ _ hw h e_M_frameAt_48
      · skip
        replace hw := hw.2 c9
        refine lv_aload_n hx hb e_M_frameAt_31 rfl (lv_at hl 0 rfl) ?_
        refine lv_iconst (v := 1) hx hb e_M_frameAt_32 (by decide) ?_
        refine M_calli (As := [.int 1]) (rest := []) C h hA (K_M_fails l dC dI mo rf ca H.size σ7 (1 : Int32) hw) (cwV 1 hts (gV hsub v_26 v_27 v_28 v_7 v_29) rfl rfl rfl (by decide +kernel) ⟨(Nat.le_of_ble_eq_true rfl), (Nat.le_of_ble_eq_true rfl)⟩) rfl hl.1 (Nat.le_of_ble_eq_true rfl) e_M_frameAt_33 ⟨(Nat.le_of_ble_eq_true rfl), (Nat.le_of_ble_eq_true rfl)⟩ (fun r13 σ12 H locs hw h => ?_)
        refine W.eq (g2 := F0 m 36 ls [.int r13]) rfl ?_
        exact hend r13 σ12 _ _ _ _ hw h e_M_frameAt_36
    · skip
      replace hw := hw.2 c6
      exact K_12 () σ3 _ _ _ hw h (lv_sub hl [0] rfl)
abbrev z_M_handlerAt : MethodName := ⟨"MapFramerModel", "handlerAt", "(III)I"⟩
theorem e_M_handlerAt_0 : decode prog_14_method_78_code 0 = .ok (.aload_n 0, 1) := by decide +kernel
theorem e_M_handlerAt_1 : decode prog_14_method_78_code 1 = .ok (.iload_n 1, 1) := by decide +kernel
theorem e_M_handlerAt_2 : decode prog_14_method_78_code 2 = .ok (.invokevirtual 212, 3) := by decide +kernel
theorem e_M_handlerAt_5 : decode prog_14_method_78_code 5 = .ok (.ifCond .eq 38, 3) := by decide +kernel
theorem e_M_handlerAt_8 : decode prog_14_method_78_code 8 = .ok (.iload_n 2, 1) := by decide +kernel
theorem e_M_handlerAt_9 : decode prog_14_method_78_code 9 = .ok (.ifCond .lt 34, 3) := by decide +kernel
theorem e_M_handlerAt_12 : decode prog_14_method_78_code 12 = .ok (.iload_n 2, 1) := by decide +kernel
theorem e_M_handlerAt_13 : decode prog_14_method_78_code 13 = .ok (.aload_n 0, 1) := by decide +kernel
theorem e_M_handlerAt_14 : decode prog_14_method_78_code 14 = .ok (.getfield 51, 3) := by decide +kernel
theorem e_M_handlerAt_17 : decode prog_14_method_78_code 17 = .ok (.aload_n 0, 1) := by decide +kernel
theorem e_M_handlerAt_18 : decode prog_14_method_78_code 18 = .ok (.iload_n 1, 1) := by decide +kernel
theorem e_M_handlerAt_19 : decode prog_14_method_78_code 19 = .ok (.invokevirtual 212, 3) := by decide +kernel
theorem e_M_handlerAt_22 : decode prog_14_method_78_code 22 = .ok (.ifCond .eq 7, 3) := by decide +kernel
theorem e_M_handlerAt_25 : decode prog_14_method_78_code 25 = .ok (.iload_n 1, 1) := by decide +kernel
theorem e_M_handlerAt_26 : decode prog_14_method_78_code 26 = .ok (.goto 4, 3) := by decide +kernel
theorem e_M_handlerAt_29 : decode prog_14_method_78_code 29 = .ok (.iconst 0, 1) := by decide +kernel
theorem e_M_handlerAt_30 : decode prog_14_method_78_code 30 = .ok (.iaload, 1) := by decide +kernel
theorem e_M_handlerAt_31 : decode prog_14_method_78_code 31 = .ok (.if_icmp .ge 12, 3) := by decide +kernel
theorem e_M_handlerAt_34 : decode prog_14_method_78_code 34 = .ok (.iload_n 3, 1) := by decide +kernel
theorem e_M_handlerAt_35 : decode prog_14_method_78_code 35 = .ok (.ifCond .lt 8, 3) := by decide +kernel
theorem e_M_handlerAt_38 : decode prog_14_method_78_code 38 = .ok (.iload_n 3, 1) := by decide +kernel
theorem e_M_handlerAt_39 : decode prog_14_method_78_code 39 = .ok (.iconst 3, 1) := by decide +kernel
theorem e_M_handlerAt_40 : decode prog_14_method_78_code 40 = .ok (.if_icmp .le 9, 3) := by decide +kernel
theorem e_M_handlerAt_43 : decode prog_14_method_78_code 43 = .ok (.aload_n 0, 1) := by decide +kernel
theorem e_M_handlerAt_44 : decode prog_14_method_78_code 44 = .ok (.iconst 1, 1) := by decide +kernel
theorem e_M_handlerAt_45 : decode prog_14_method_78_code 45 = .ok (.invokevirtual 196, 3) := by decide +kernel
theorem e_M_handlerAt_48 : decode prog_14_method_78_code 48 = .ok (.ireturn, 1) := by decide +kernel
theorem e_M_handlerAt_49 : decode prog_14_method_78_code 49 = .ok (.aload_n 0, 1) := by decide +kernel
theorem e_M_handlerAt_50 : decode prog_14_method_78_code 50 = .ok (.iconst 0, 1) := by decide +kernel
theorem e_M_handlerAt_51 : decode prog_14_method_78_code 51 = .ok (.putfield 169, 3) := by decide +kernel
theorem e_M_handlerAt_54 : decode prog_14_method_78_code 54 = .ok (.bipush 16, 2) := by decide +kernel
theorem e_M_handlerAt_56 : decode prog_14_method_78_code 56 = .ok (.iload_n 1, 1) := by decide +kernel
theorem e_M_handlerAt_57 : decode prog_14_method_78_code 57 = .ok (.imul, 1) := by decide +kernel
theorem e_M_handlerAt_58 : decode prog_14_method_78_code 58 = .ok (.iload_n 2, 1) := by decide +kernel
theorem e_M_handlerAt_59 : decode prog_14_method_78_code 59 = .ok (.iadd, 1) := by decide +kernel
theorem e_M_handlerAt_60 : decode prog_14_method_78_code 60 = .ok (.istore 4, 2) := by decide +kernel
theorem e_M_handlerAt_62 : decode prog_14_method_78_code 62 = .ok (.iload_n 3, 1) := by decide +kernel
theorem e_M_handlerAt_63 : decode prog_14_method_78_code 63 = .ok (.ifCond .ne 13, 3) := by decide +kernel
theorem e_M_handlerAt_66 : decode prog_14_method_78_code 66 = .ok (.aload_n 0, 1) := by decide +kernel
theorem e_M_handlerAt_67 : decode prog_14_method_78_code 67 = .ok (.getfield 54, 3) := by decide +kernel
theorem e_M_handlerAt_70 : decode prog_14_method_78_code 70 = .ok (.iload 4, 2) := by decide +kernel
theorem e_M_handlerAt_72 : decode prog_14_method_78_code 72 = .ok (.iaload, 1) := by decide +kernel
theorem e_M_handlerAt_73 : decode prog_14_method_78_code 73 = .ok (.goto 40, 3) := by decide +kernel
theorem e_M_handlerAt_76 : decode prog_14_method_78_code 76 = .ok (.iload_n 3, 1) := by decide +kernel
theorem e_M_handlerAt_77 : decode prog_14_method_78_code 77 = .ok (.iconst 1, 1) := by decide +kernel
theorem e_M_handlerAt_78 : decode prog_14_method_78_code 78 = .ok (.if_icmp .ne 13, 3) := by decide +kernel
theorem e_M_handlerAt_81 : decode prog_14_method_78_code 81 = .ok (.aload_n 0, 1) := by decide +kernel
theorem e_M_handlerAt_82 : decode prog_14_method_78_code 82 = .ok (.getfield 57, 3) := by decide +kernel
theorem e_M_handlerAt_85 : decode prog_14_method_78_code 85 = .ok (.iload 4, 2) := by decide +kernel
theorem e_M_handlerAt_87 : decode prog_14_method_78_code 87 = .ok (.iaload, 1) := by decide +kernel
theorem e_M_handlerAt_88 : decode prog_14_method_78_code 88 = .ok (.goto 25, 3) := by decide +kernel
theorem e_M_handlerAt_91 : decode prog_14_method_78_code 91 = .ok (.iload_n 3, 1) := by decide +kernel
theorem e_M_handlerAt_92 : decode prog_14_method_78_code 92 = .ok (.iconst 2, 1) := by decide +kernel
theorem e_M_handlerAt_93 : decode prog_14_method_78_code 93 = .ok (.if_icmp .ne 13, 3) := by decide +kernel
theorem e_M_handlerAt_96 : decode prog_14_method_78_code 96 = .ok (.aload_n 0, 1) := by decide +kernel
theorem e_M_handlerAt_97 : decode prog_14_method_78_code 97 = .ok (.getfield 60, 3) := by decide +kernel
theorem e_M_handlerAt_100 : decode prog_14_method_78_code 100 = .ok (.iload 4, 2) := by decide +kernel
theorem e_M_handlerAt_102 : decode prog_14_method_78_code 102 = .ok (.iaload, 1) := by decide +kernel
theorem e_M_handlerAt_103 : decode prog_14_method_78_code 103 = .ok (.goto 10, 3) := by decide +kernel
theorem e_M_handlerAt_106 : decode prog_14_method_78_code 106 = .ok (.aload_n 0, 1) := by decide +kernel
theorem e_M_handlerAt_107 : decode prog_14_method_78_code 107 = .ok (.getfield 63, 3) := by decide +kernel
theorem e_M_handlerAt_110 : decode prog_14_method_78_code 110 = .ok (.iload 4, 2) := by decide +kernel
theorem e_M_handlerAt_112 : decode prog_14_method_78_code 112 = .ok (.iaload, 1) := by decide +kernel
theorem e_M_handlerAt_113 : decode prog_14_method_78_code 113 = .ok (.ireturn, 1) := by decide +kernel
def w_M_handlerAt_43 (P : Int32 → MST → Prop) (σ : MST) : Prop := w_M_fails (1 : Int32) σ (fun r2 σ1 => P r2 σ1)
def w_M_handlerAt_30 (P : Int32 → MST → Prop) (z1 : Int32) (z2 : Int32) (z3 : Int32) (s0 : Int32) (s2 : Int32) (σ : MST) : Prop := vp_in s0 8 ∧ (∀ a3 : Int32, a3 = (σ.2.1 16 (s0 : Int32).toNatClampNeg) → ((a3 ≤ s2 → w_M_handlerAt_43 P σ) ∧ (¬ a3 ≤ s2 → ((z3 < 0 → w_M_handlerAt_43 P σ) ∧ (¬ z3 < 0 → ((z3 ≤ 3 → ∀ σ7 : MST, σ7 = setI σ 0 0 → ((z3 = 0 → vp_in (((16 : Int32) * z1) + z2) 128 ∧ (∀ a14 : Int32, a14 = (σ7.2.1 17 ((((16 : Int32) * z1) + z2) : Int32).toNatClampNeg) → P a14 σ7)) ∧ (¬ z3 = 0 → ((z3 = 1 → vp_in (((16 : Int32) * z1) + z2) 128 ∧ (∀ a13 : Int32, a13 = (σ7.2.1 18 ((((16 : Int32) * z1) + z2) : Int32).toNatClampNeg) → P a13 σ7)) ∧ (¬ z3 = 1 → ((z3 = 2 → vp_in (((16 : Int32) * z1) + z2) 128 ∧ (∀ a12 : Int32, a12 = (σ7.2.1 19 ((((16 : Int32) * z1) + z2) : Int32).toNatClampNeg) → P a12 σ7)) ∧ (¬ z3 = 2 → vp_in (((16 : Int32) * z1) + z2) 128 ∧ (∀ a11 : Int32, a11 = (σ7.2.1 20 ((((16 : Int32) * z1) + z2) : Int32).toNatClampNeg) → P a11 σ7)))))))) ∧ (¬ z3 ≤ 3 → w_M_handlerAt_43 P σ)))))))
def w_M_handlerAt (x1 : Int32) (x2 : Int32) (x3 : Int32) (σ : MST) (P : Int32 → MST → Prop) : Prop := w_M_isMethod x1 σ (fun r16 σ15 => ((r16 = 0 → w_M_handlerAt_43 P σ15) ∧ (¬ r16 = 0 → ((x2 < 0 → w_M_handlerAt_43 P σ15) ∧ (¬ x2 < 0 → w_M_isMethod x1 σ15 (fun r20 σ19 => ((r20 = 0 → w_M_handlerAt_30 P x1 x2 x3 0 x2 σ19) ∧ (¬ r20 = 0 → w_M_handlerAt_30 P x1 x2 x3 x1 x2 σ19))))))))
set_option maxHeartbeats 4000000 in
set_option maxRecDepth 100000 in
theorem K_M_handlerAt (l : Launch) (dC : Nat → ClassId) (dI : Nat → Nat → Nat) (mo : Nat) (rf : Nat → Nat) (ca : Nat → ClassId) (sz : Nat) (σ : MST) (x1 : Int32) (x2 : Int32) (x3 : Int32) {P : Int32 → MST → Prop} (hw : w_M_handlerAt x1 x2 x3 σ P) : Met l z_M_handlerAt (mW z_M_handlerAt prog_14_method_78_code 5 (some .int)) ({ frames := 1, cells := 0, slots := 0, locals := 21 } : Room) (va_Pc [.ref mo, .int x1, .int x2, .int x3] (MPre (dC, dI) mo rf ca σ sz)) (va_Qi P (MB (dC, dI) mo rf ca sz) (mA mo rf sz)) 0 0 (mA mo rf sz) := by
  refine M_ofi (by decide) rfl (Nat.le_of_ble_eq_true rfl) ?_
  intro p e s m below meth cx Q A ls C hA hend h hl
  have C0 := C
  obtain ⟨⟨hx, hb, hml, hown, hts⟩, hsub⟩ := C0
  have K_43 : ∀ (u9 : Unit), ∀ (σ : MST) (H : Heap) (locs : List Loc) (ls : Array Slot), w_M_handlerAt_43 P σ → MH (dC, dI) A mo rf ca σ s H locs → lv_has ls 5 [(0, .ref mo)] → W p l e ({ frames := 1, cells := 0, slots := 0, locals := 21 } : Room) s m ([.ref mo, .int x1, .int x2, .int x3] : List Value).toArray below meth cx H locs 0 0 Q (F0 m 43 ls []) := by
    intro u9  σ H locs ls hw h hl
    unfold w_M_handlerAt_43 at hw
    refine lv_aload_n hx hb e_M_handlerAt_43 rfl (lv_at hl 0 rfl) ?_
    refine lv_iconst (v := 1) hx hb e_M_handlerAt_44 (by decide) ?_
    refine M_calli (As := [.int 1]) (rest := []) C h hA (K_M_fails l dC dI mo rf ca H.size σ (1 : Int32) hw) (cwV 1 hts (gV hsub v_26 v_27 v_28 v_7 v_29) rfl rfl rfl (by decide +kernel) ⟨(Nat.le_of_ble_eq_true rfl), (Nat.le_of_ble_eq_true rfl)⟩) rfl hl.1 (Nat.le_of_ble_eq_true rfl) e_M_handlerAt_45 ⟨(Nat.le_of_ble_eq_true rfl), (Nat.le_of_ble_eq_true rfl)⟩ (fun r2 σ1 H locs hw h => ?_)
    refine W.eq (g2 := F0 m 48 ls [.int r2]) rfl ?_
    exact hend r2 σ1 _ _ _ _ hw h e_M_handlerAt_48
  have K_30 : ∀ (u9 : Unit), ∀ (z1 : Int32) (z2 : Int32) (z3 : Int32) (s0 : Int32) (s2 : Int32) (σ : MST) (H : Heap) (locs : List Loc) (ls : Array Slot), w_M_handlerAt_30 P z1 z2 z3 s0 s2 σ → MH (dC, dI) A mo rf ca σ s H locs → lv_has ls 5 [(0, .ref mo), (1, .int z1), (2, .int z2), (3, .int z3)] → W p l e ({ frames := 1, cells := 0, slots := 0, locals := 21 } : Room) s m ([.ref mo, .int x1, .int x2, .int x3] : List Value).toArray below meth cx H locs 0 0 Q (F0 m 30 ls [.int s0, .ref (rf 16), .int s2]) := by
    intro u9 z1 z2 z3 s0 s2 σ H locs ls hw h hl
    unfold w_M_handlerAt_30 at hw
    refine M_ald C h 16 (by decide) rfl hw.1 e_M_handlerAt_30 ?_
    replace hw := hw.2
    refine lv_topi (fun a3 e_a3 => ?_)
    replace hw := hw a3 e_a3
    refine lv_icmp_ge (tgt := 43) hx hb e_M_handlerAt_31 (by decide) (fun c4 => ?_) (fun c4 => ?_)
    · skip
      replace hw := hw.1 c4
      exact K_43 () σ _ _ _ hw h (lv_sub hl [0] rfl)
    · skip
      replace hw := hw.2 c4
      refine lv_iload_n hx hb e_M_handlerAt_34 rfl (lv_at hl 3 rfl) ?_
      refine lv_if_lt (tgt := 43) hx hb e_M_handlerAt_35 (by decide) (fun c5 => ?_) (fun c5 => ?_)
      · skip
        replace hw := hw.1 c5
        exact K_43 () σ _ _ _ hw h (lv_sub hl [0] rfl)
      · skip
        replace hw := hw.2 c5
        refine lv_iload_n hx hb e_M_handlerAt_38 rfl (lv_at hl 3 rfl) ?_
        refine lv_iconst (v := 3) hx hb e_M_handlerAt_39 (by decide) ?_
        refine lv_icmp_le (tgt := 49) hx hb e_M_handlerAt_40 (by decide) (fun c6 => ?_) (fun c6 => ?_)
        · skip
          replace hw := hw.1 c6
          refine lv_aload_n hx hb e_M_handlerAt_49 rfl (lv_at hl 0 rfl) ?_
          refine lv_iconst (v := 0) hx hb e_M_handlerAt_50 (by decide) ?_
          refine M_puti C h 0 (by decide) rfl rfl (by decide +kernel) v_0 e_M_handlerAt_51 (fun H locs h => ?_)
          obtain ⟨σ7, e_σ7⟩ : ∃ z : MST, z = setI σ 0 0 := ⟨_, rfl⟩
          rw [← e_σ7] at h
          replace hw := hw σ7 e_σ7
          refine lv_bipush (v := 16) hx hb e_M_handlerAt_54 (by decide) ?_
          refine lv_iload_n hx hb e_M_handlerAt_56 rfl (lv_at hl 1 rfl) ?_
          refine lv_imul hx hb e_M_handlerAt_57 ?_
          refine lv_iload_n hx hb e_M_handlerAt_58 rfl (lv_at hl 2 rfl) ?_
          refine lv_iadd hx hb e_M_handlerAt_59 ?_
          refine lv_istore (lv' := [(4, .int (((16 : Int32) * z1) + z2)), (0, .ref mo), (1, .int z1), (2, .int z2), (3, .int z3)]) hx hb e_M_handlerAt_60 hl (by decide) rfl (fun ls hl => ?_)
          refine lv_iload_n hx hb e_M_handlerAt_62 rfl (lv_at hl 4 rfl) ?_
          refine lv_if_ne (tgt := 76) hx hb e_M_handlerAt_63 (by decide) (fun c8 => ?_) (fun c8 => ?_)
          · skip
            replace hw := hw.2 c8
            refine lv_iload_n hx hb e_M_handlerAt_76 rfl (lv_at hl 4 rfl) ?_
            refine lv_iconst (v := 1) hx hb e_M_handlerAt_77 (by decide) ?_
            refine lv_icmp_ne (tgt := 91) hx hb e_M_handlerAt_78 (by decide) (fun c9 => ?_) (fun c9 => ?_)
            · skip
              replace hw := hw.2 c9
              refine lv_iload_n hx hb e_M_handlerAt_91 rfl (lv_at hl 4 rfl) ?_
              refine lv_iconst (v := 2) hx hb e_M_handlerAt_92 (by decide) ?_
              refine lv_icmp_ne (tgt := 106) hx hb e_M_handlerAt_93 (by decide) (fun c10 => ?_) (fun c10 => ?_)
              · skip
                replace hw := hw.2 c10
                refine lv_aload_n hx hb e_M_handlerAt_106 rfl (lv_at hl 1 rfl) ?_
                refine M_get C h 20 (v := .ref (rf 20)) rfl (by decide) v_65 e_M_handlerAt_107 ?_
                refine lv_iload hx hb e_M_handlerAt_110 (lv_at hl 0 rfl) ?_
                refine M_ald C h 20 (by decide) rfl hw.1 e_M_handlerAt_112 ?_
                replace hw := hw.2
                refine lv_topi (fun a11 e_a11 => ?_)
                replace hw := hw a11 e_a11
                exact hend a11 σ7 _ _ _ _ hw h e_M_handlerAt_113
              · skip
                replace hw := hw.1 c10
                refine lv_aload_n hx hb e_M_handlerAt_96 rfl (lv_at hl 1 rfl) ?_
                refine M_get C h 19 (v := .ref (rf 19)) rfl (by decide) v_64 e_M_handlerAt_97 ?_
                refine lv_iload hx hb e_M_handlerAt_100 (lv_at hl 0 rfl) ?_
                refine M_ald C h 19 (by decide) rfl hw.1 e_M_handlerAt_102 ?_
                replace hw := hw.2
                refine lv_topi (fun a12 e_a12 => ?_)
                replace hw := hw a12 e_a12
                refine lv_goto (tgt := 113) hx hb e_M_handlerAt_103 (by decide) ?_
                exact hend a12 σ7 _ _ _ _ hw h e_M_handlerAt_113
            · skip
              replace hw := hw.1 c9
              refine lv_aload_n hx hb e_M_handlerAt_81 rfl (lv_at hl 1 rfl) ?_
              refine M_get C h 18 (v := .ref (rf 18)) rfl (by decide) v_63 e_M_handlerAt_82 ?_
              refine lv_iload hx hb e_M_handlerAt_85 (lv_at hl 0 rfl) ?_
              refine M_ald C h 18 (by decide) rfl hw.1 e_M_handlerAt_87 ?_
              replace hw := hw.2
              refine lv_topi (fun a13 e_a13 => ?_)
              replace hw := hw a13 e_a13
              refine lv_goto (tgt := 113) hx hb e_M_handlerAt_88 (by decide) ?_
              exact hend a13 σ7 _ _ _ _ hw h e_M_handlerAt_113
          · skip
            replace hw := hw.1 c8
            refine lv_aload_n hx hb e_M_handlerAt_66 rfl (lv_at hl 1 rfl) ?_
            refine M_get C h 17 (v := .ref (rf 17)) rfl (by decide) v_62 e_M_handlerAt_67 ?_
            refine lv_iload hx hb e_M_handlerAt_70 (lv_at hl 0 rfl) ?_
            refine M_ald C h 17 (by decide) rfl hw.1 e_M_handlerAt_72 ?_
            replace hw := hw.2
            refine lv_topi (fun a14 e_a14 => ?_)
            replace hw := hw a14 e_a14
            refine lv_goto (tgt := 113) hx hb e_M_handlerAt_73 (by decide) ?_
            exact hend a14 σ7 _ _ _ _ hw h e_M_handlerAt_113
        · skip
          replace hw := hw.2 c6
          exact K_43 () σ _ _ _ hw h (lv_sub hl [0] rfl)
  have hl : lv_has ls 5 [(0, .ref mo), (1, .int x1), (2, .int x2), (3, .int x3)] := hl
  unfold w_M_handlerAt at hw
  refine lv_aload_n hx hb e_M_handlerAt_0 rfl (lv_at hl 0 rfl) ?_
  refine lv_iload_n hx hb e_M_handlerAt_1 rfl (lv_at hl 1 rfl) ?_
  refine M_calli (As := [.int x1]) (rest := []) C h hA (K_M_isMethod l dC dI mo rf ca s.heap.size σ x1 hw) (cwV 1 hts (gV hsub v_56 v_57 v_58 v_7 v_59) rfl rfl rfl (by decide +kernel) ⟨(Nat.le_of_ble_eq_true rfl), (Nat.le_of_ble_eq_true rfl)⟩) rfl hl.1 (Nat.le_of_ble_eq_true rfl) e_M_handlerAt_2 ⟨(Nat.le_of_ble_eq_true rfl), (Nat.le_of_ble_eq_true rfl)⟩ (fun r16 σ15 H locs hw h => ?_)
  refine W.eq (g2 := F0 m 5 ls [.int r16]) rfl ?_
  refine lv_if_eq (tgt := 43) hx hb e_M_handlerAt_5 (by decide) (fun c17 => ?_) (fun c17 => ?_)
  · skip
    replace hw := hw.1 c17
    exact K_43 () σ15 _ _ _ hw h (lv_sub hl [0] rfl)
  · skip
    replace hw := hw.2 c17
    refine lv_iload_n hx hb e_M_handlerAt_8 rfl (lv_at hl 2 rfl) ?_
    refine lv_if_lt (tgt := 43) hx hb e_M_handlerAt_9 (by decide) (fun c18 => ?_) (fun c18 => ?_)
    · skip
      replace hw := hw.1 c18
      exact K_43 () σ15 _ _ _ hw h (lv_sub hl [0] rfl)
    · skip
      replace hw := hw.2 c18
      refine lv_iload_n hx hb e_M_handlerAt_12 rfl (lv_at hl 2 rfl) ?_
      refine lv_aload_n hx hb e_M_handlerAt_13 rfl (lv_at hl 0 rfl) ?_
      refine M_get C h 16 (v := .ref (rf 16)) rfl (by decide) v_61 e_M_handlerAt_14 ?_
      refine lv_aload_n hx hb e_M_handlerAt_17 rfl (lv_at hl 0 rfl) ?_
      refine lv_iload_n hx hb e_M_handlerAt_18 rfl (lv_at hl 1 rfl) ?_
      refine M_calli (As := [.int x1]) (rest := [.ref (rf 16), .int x2]) C h hA (K_M_isMethod l dC dI mo rf ca H.size σ15 x1 hw) (cwV 1 hts (gV hsub v_56 v_57 v_58 v_7 v_59) rfl rfl rfl (by decide +kernel) ⟨(Nat.le_of_ble_eq_true rfl), (Nat.le_of_ble_eq_true rfl)⟩) rfl hl.1 (Nat.le_of_ble_eq_true rfl) e_M_handlerAt_19 ⟨(Nat.le_of_ble_eq_true rfl), (Nat.le_of_ble_eq_true rfl)⟩ (fun r20 σ19 H locs hw h => ?_)
      refine W.eq (g2 := F0 m 22 ls [.int r20, .ref (rf 16), .int x2]) rfl ?_
      refine lv_if_eq (tgt := 29) hx hb e_M_handlerAt_22 (by decide) (fun c21 => ?_) (fun c21 => ?_)
      · skip
        replace hw := hw.1 c21
        refine lv_iconst (v := 0) hx hb e_M_handlerAt_29 (by decide) ?_
        exact K_30 () x1 x2 x3 0 x2 σ19 _ _ _ hw h (lv_sub hl [0, 1, 2, 3] rfl)
      · skip
        replace hw := hw.2 c21
        refine lv_iload_n hx hb e_M_handlerAt_25 rfl (lv_at hl 1 rfl) ?_
        refine lv_goto (tgt := 30) hx hb e_M_handlerAt_26 (by decide) ?_
        exact K_30 () x1 x2 x3 x1 x2 σ19 _ _ _ hw h (lv_sub hl [0, 1, 2, 3] rfl)
abbrev z_M_typeAt : MethodName := ⟨"MapFramerModel", "typeAt", "(III)I"⟩
theorem e_M_typeAt_0 : decode prog_14_method_79_code 0 = .ok (.aload_n 0, 1) := by decide +kernel
theorem e_M_typeAt_1 : decode prog_14_method_79_code 1 = .ok (.iload_n 1, 1) := by decide +kernel
theorem e_M_typeAt_2 : decode prog_14_method_79_code 2 = .ok (.invokevirtual 212, 3) := by decide +kernel
theorem e_M_typeAt_5 : decode prog_14_method_79_code 5 = .ok (.ifCond .eq 49, 3) := by decide +kernel
theorem e_M_typeAt_8 : decode prog_14_method_79_code 8 = .ok (.aload_n 0, 1) := by decide +kernel
theorem e_M_typeAt_9 : decode prog_14_method_79_code 9 = .ok (.getfield 66, 3) := by decide +kernel
theorem e_M_typeAt_12 : decode prog_14_method_79_code 12 = .ok (.aload_n 0, 1) := by decide +kernel
theorem e_M_typeAt_13 : decode prog_14_method_79_code 13 = .ok (.iload_n 1, 1) := by decide +kernel
theorem e_M_typeAt_14 : decode prog_14_method_79_code 14 = .ok (.invokevirtual 212, 3) := by decide +kernel
theorem e_M_typeAt_17 : decode prog_14_method_79_code 17 = .ok (.ifCond .eq 7, 3) := by decide +kernel
theorem e_M_typeAt_20 : decode prog_14_method_79_code 20 = .ok (.iload_n 1, 1) := by decide +kernel
theorem e_M_typeAt_21 : decode prog_14_method_79_code 21 = .ok (.goto 4, 3) := by decide +kernel
theorem e_M_typeAt_24 : decode prog_14_method_79_code 24 = .ok (.iconst 0, 1) := by decide +kernel
theorem e_M_typeAt_25 : decode prog_14_method_79_code 25 = .ok (.baload, 1) := by decide +kernel
theorem e_M_typeAt_26 : decode prog_14_method_79_code 26 = .ok (.ifCond .eq 28, 3) := by decide +kernel
theorem e_M_typeAt_29 : decode prog_14_method_79_code 29 = .ok (.aload_n 0, 1) := by decide +kernel
theorem e_M_typeAt_30 : decode prog_14_method_79_code 30 = .ok (.getfield 69, 3) := by decide +kernel
theorem e_M_typeAt_33 : decode prog_14_method_79_code 33 = .ok (.aload_n 0, 1) := by decide +kernel
theorem e_M_typeAt_34 : decode prog_14_method_79_code 34 = .ok (.iload_n 1, 1) := by decide +kernel
theorem e_M_typeAt_35 : decode prog_14_method_79_code 35 = .ok (.invokevirtual 212, 3) := by decide +kernel
theorem e_M_typeAt_38 : decode prog_14_method_79_code 38 = .ok (.ifCond .eq 7, 3) := by decide +kernel
theorem e_M_typeAt_41 : decode prog_14_method_79_code 41 = .ok (.iload_n 1, 1) := by decide +kernel
theorem e_M_typeAt_42 : decode prog_14_method_79_code 42 = .ok (.goto 4, 3) := by decide +kernel
theorem e_M_typeAt_45 : decode prog_14_method_79_code 45 = .ok (.iconst 0, 1) := by decide +kernel
theorem e_M_typeAt_46 : decode prog_14_method_79_code 46 = .ok (.iaload, 1) := by decide +kernel
theorem e_M_typeAt_47 : decode prog_14_method_79_code 47 = .ok (.ifCond .ne 7, 3) := by decide +kernel
theorem e_M_typeAt_50 : decode prog_14_method_79_code 50 = .ok (.iconst 1, 1) := by decide +kernel
theorem e_M_typeAt_51 : decode prog_14_method_79_code 51 = .ok (.goto 4, 3) := by decide +kernel
theorem e_M_typeAt_54 : decode prog_14_method_79_code 54 = .ok (.iconst 0, 1) := by decide +kernel
theorem e_M_typeAt_55 : decode prog_14_method_79_code 55 = .ok (.istore 4, 2) := by decide +kernel
theorem e_M_typeAt_57 : decode prog_14_method_79_code 57 = .ok (.iload 4, 2) := by decide +kernel
theorem e_M_typeAt_59 : decode prog_14_method_79_code 59 = .ok (.ifCond .eq 26, 3) := by decide +kernel
theorem e_M_typeAt_62 : decode prog_14_method_79_code 62 = .ok (.aload_n 0, 1) := by decide +kernel
theorem e_M_typeAt_63 : decode prog_14_method_79_code 63 = .ok (.iload_n 1, 1) := by decide +kernel
theorem e_M_typeAt_64 : decode prog_14_method_79_code 64 = .ok (.iload_n 2, 1) := by decide +kernel
theorem e_M_typeAt_65 : decode prog_14_method_79_code 65 = .ok (.invokevirtual 246, 3) := by decide +kernel
theorem e_M_typeAt_68 : decode prog_14_method_79_code 68 = .ok (.ifCond .eq 17, 3) := by decide +kernel
theorem e_M_typeAt_71 : decode prog_14_method_79_code 71 = .ok (.aload_n 0, 1) := by decide +kernel
theorem e_M_typeAt_72 : decode prog_14_method_79_code 72 = .ok (.getfield 81, 3) := by decide +kernel
theorem e_M_typeAt_75 : decode prog_14_method_79_code 75 = .ok (.bipush 120, 2) := by decide +kernel
theorem e_M_typeAt_77 : decode prog_14_method_79_code 77 = .ok (.iload_n 1, 1) := by decide +kernel
theorem e_M_typeAt_78 : decode prog_14_method_79_code 78 = .ok (.imul, 1) := by decide +kernel
theorem e_M_typeAt_79 : decode prog_14_method_79_code 79 = .ok (.iload_n 2, 1) := by decide +kernel
theorem e_M_typeAt_80 : decode prog_14_method_79_code 80 = .ok (.iadd, 1) := by decide +kernel
theorem e_M_typeAt_81 : decode prog_14_method_79_code 81 = .ok (.iaload, 1) := by decide +kernel
theorem e_M_typeAt_82 : decode prog_14_method_79_code 82 = .ok (.ifCond .ge 9, 3) := by decide +kernel
theorem e_M_typeAt_85 : decode prog_14_method_79_code 85 = .ok (.aload_n 0, 1) := by decide +kernel
theorem e_M_typeAt_86 : decode prog_14_method_79_code 86 = .ok (.iconst 1, 1) := by decide +kernel
theorem e_M_typeAt_87 : decode prog_14_method_79_code 87 = .ok (.invokevirtual 196, 3) := by decide +kernel
theorem e_M_typeAt_90 : decode prog_14_method_79_code 90 = .ok (.ireturn, 1) := by decide +kernel
theorem e_M_typeAt_91 : decode prog_14_method_79_code 91 = .ok (.bipush 120, 2) := by decide +kernel
theorem e_M_typeAt_93 : decode prog_14_method_79_code 93 = .ok (.iload_n 1, 1) := by decide +kernel
theorem e_M_typeAt_94 : decode prog_14_method_79_code 94 = .ok (.imul, 1) := by decide +kernel
theorem e_M_typeAt_95 : decode prog_14_method_79_code 95 = .ok (.iload_n 2, 1) := by decide +kernel
theorem e_M_typeAt_96 : decode prog_14_method_79_code 96 = .ok (.iadd, 1) := by decide +kernel
theorem e_M_typeAt_97 : decode prog_14_method_79_code 97 = .ok (.istore 5, 2) := by decide +kernel
theorem e_M_typeAt_99 : decode prog_14_method_79_code 99 = .ok (.iload_n 3, 1) := by decide +kernel
theorem e_M_typeAt_100 : decode prog_14_method_79_code 100 = .ok (.ifCond .lt 13, 3) := by decide +kernel
theorem e_M_typeAt_103 : decode prog_14_method_79_code 103 = .ok (.iload_n 3, 1) := by decide +kernel
theorem e_M_typeAt_104 : decode prog_14_method_79_code 104 = .ok (.aload_n 0, 1) := by decide +kernel
theorem e_M_typeAt_105 : decode prog_14_method_79_code 105 = .ok (.getfield 48, 3) := by decide +kernel
theorem e_M_typeAt_108 : decode prog_14_method_79_code 108 = .ok (.iload_n 1, 1) := by decide +kernel
theorem e_M_typeAt_109 : decode prog_14_method_79_code 109 = .ok (.iaload, 1) := by decide +kernel
theorem e_M_typeAt_110 : decode prog_14_method_79_code 110 = .ok (.if_icmp .lt 23, 3) := by decide +kernel
theorem e_M_typeAt_113 : decode prog_14_method_79_code 113 = .ok (.iload_n 3, 1) := by decide +kernel
theorem e_M_typeAt_114 : decode prog_14_method_79_code 114 = .ok (.bipush 100, 2) := by decide +kernel
theorem e_M_typeAt_116 : decode prog_14_method_79_code 116 = .ok (.if_icmp .lt 21, 3) := by decide +kernel
theorem e_M_typeAt_119 : decode prog_14_method_79_code 119 = .ok (.iload_n 3, 1) := by decide +kernel
theorem e_M_typeAt_120 : decode prog_14_method_79_code 120 = .ok (.bipush 100, 2) := by decide +kernel
theorem e_M_typeAt_122 : decode prog_14_method_79_code 122 = .ok (.isub, 1) := by decide +kernel
theorem e_M_typeAt_123 : decode prog_14_method_79_code 123 = .ok (.aload_n 0, 1) := by decide +kernel
theorem e_M_typeAt_124 : decode prog_14_method_79_code 124 = .ok (.getfield 81, 3) := by decide +kernel
theorem e_M_typeAt_127 : decode prog_14_method_79_code 127 = .ok (.iload 5, 2) := by decide +kernel
theorem e_M_typeAt_129 : decode prog_14_method_79_code 129 = .ok (.iaload, 1) := by decide +kernel
theorem e_M_typeAt_130 : decode prog_14_method_79_code 130 = .ok (.if_icmp .ge 7, 3) := by decide +kernel
theorem e_M_typeAt_133 : decode prog_14_method_79_code 133 = .ok (.iconst 1, 1) := by decide +kernel
theorem e_M_typeAt_134 : decode prog_14_method_79_code 134 = .ok (.goto 4, 3) := by decide +kernel
theorem e_M_typeAt_137 : decode prog_14_method_79_code 137 = .ok (.iconst 0, 1) := by decide +kernel
theorem e_M_typeAt_138 : decode prog_14_method_79_code 138 = .ok (.istore 6, 2) := by decide +kernel
theorem e_M_typeAt_140 : decode prog_14_method_79_code 140 = .ok (.iload 6, 2) := by decide +kernel
theorem e_M_typeAt_142 : decode prog_14_method_79_code 142 = .ok (.ifCond .ne 9, 3) := by decide +kernel
theorem e_M_typeAt_145 : decode prog_14_method_79_code 145 = .ok (.aload_n 0, 1) := by decide +kernel
theorem e_M_typeAt_146 : decode prog_14_method_79_code 146 = .ok (.iconst 1, 1) := by decide +kernel
theorem e_M_typeAt_147 : decode prog_14_method_79_code 147 = .ok (.invokevirtual 196, 3) := by decide +kernel
theorem e_M_typeAt_150 : decode prog_14_method_79_code 150 = .ok (.ireturn, 1) := by decide +kernel
theorem e_M_typeAt_151 : decode prog_14_method_79_code 151 = .ok (.aload_n 0, 1) := by decide +kernel
theorem e_M_typeAt_152 : decode prog_14_method_79_code 152 = .ok (.iconst 0, 1) := by decide +kernel
theorem e_M_typeAt_153 : decode prog_14_method_79_code 153 = .ok (.putfield 169, 3) := by decide +kernel
theorem e_M_typeAt_156 : decode prog_14_method_79_code 156 = .ok (.iload_n 3, 1) := by decide +kernel
theorem e_M_typeAt_157 : decode prog_14_method_79_code 157 = .ok (.bipush 100, 2) := by decide +kernel
theorem e_M_typeAt_159 : decode prog_14_method_79_code 159 = .ok (.if_icmp .ge 18, 3) := by decide +kernel
theorem e_M_typeAt_162 : decode prog_14_method_79_code 162 = .ok (.aload_n 0, 1) := by decide +kernel
theorem e_M_typeAt_163 : decode prog_14_method_79_code 163 = .ok (.getfield 84, 3) := by decide +kernel
theorem e_M_typeAt_166 : decode prog_14_method_79_code 166 = .ok (.bipush 12, 2) := by decide +kernel
theorem e_M_typeAt_168 : decode prog_14_method_79_code 168 = .ok (.iload 5, 2) := by decide +kernel
theorem e_M_typeAt_170 : decode prog_14_method_79_code 170 = .ok (.imul, 1) := by decide +kernel
theorem e_M_typeAt_171 : decode prog_14_method_79_code 171 = .ok (.iload_n 3, 1) := by decide +kernel
theorem e_M_typeAt_172 : decode prog_14_method_79_code 172 = .ok (.iadd, 1) := by decide +kernel
theorem e_M_typeAt_173 : decode prog_14_method_79_code 173 = .ok (.iaload, 1) := by decide +kernel
theorem e_M_typeAt_174 : decode prog_14_method_79_code 174 = .ok (.goto 18, 3) := by decide +kernel
theorem e_M_typeAt_177 : decode prog_14_method_79_code 177 = .ok (.aload_n 0, 1) := by decide +kernel
theorem e_M_typeAt_178 : decode prog_14_method_79_code 178 = .ok (.getfield 87, 3) := by decide +kernel
theorem e_M_typeAt_181 : decode prog_14_method_79_code 181 = .ok (.bipush 12, 2) := by decide +kernel
theorem e_M_typeAt_183 : decode prog_14_method_79_code 183 = .ok (.iload 5, 2) := by decide +kernel
theorem e_M_typeAt_185 : decode prog_14_method_79_code 185 = .ok (.imul, 1) := by decide +kernel
theorem e_M_typeAt_186 : decode prog_14_method_79_code 186 = .ok (.iload_n 3, 1) := by decide +kernel
theorem e_M_typeAt_187 : decode prog_14_method_79_code 187 = .ok (.iadd, 1) := by decide +kernel
theorem e_M_typeAt_188 : decode prog_14_method_79_code 188 = .ok (.bipush 100, 2) := by decide +kernel
theorem e_M_typeAt_190 : decode prog_14_method_79_code 190 = .ok (.isub, 1) := by decide +kernel
theorem e_M_typeAt_191 : decode prog_14_method_79_code 191 = .ok (.iaload, 1) := by decide +kernel
theorem e_M_typeAt_192 : decode prog_14_method_79_code 192 = .ok (.ireturn, 1) := by decide +kernel
def w_M_typeAt_85 (P : Int32 → MST → Prop) (σ : MST) : Prop := w_M_fails (1 : Int32) σ (fun r2 σ1 => P r2 σ1)
def w_M_typeAt_138 (P : Int32 → MST → Prop) (z3 : Int32) (z5 : Int32) (s0 : Int32) (σ : MST) : Prop := ((s0 = 0 → w_M_fails (1 : Int32) σ (fun r9 σ8 => P r9 σ8)) ∧ (¬ s0 = 0 → ∀ σ4 : MST, σ4 = setI σ 0 0 → ((100 ≤ z3 → vp_in ((((12 : Int32) * z5) + z3) - 100) 11520 ∧ (∀ a6 : Int32, a6 = (σ4.2.1 29 (((((12 : Int32) * z5) + z3) - 100) : Int32).toNatClampNeg) → P a6 σ4)) ∧ (¬ 100 ≤ z3 → vp_in (((12 : Int32) * z5) + z3) 11520 ∧ (∀ a7 : Int32, a7 = (σ4.2.1 28 ((((12 : Int32) * z5) + z3) : Int32).toNatClampNeg) → P a7 σ4)))))
def w_M_typeAt_137 (P : Int32 → MST → Prop) (z3 : Int32) (z5 : Int32) (σ : MST) : Prop := w_M_typeAt_138 P z3 z5 0 σ
def w_M_typeAt_133 (P : Int32 → MST → Prop) (z3 : Int32) (z5 : Int32) (σ : MST) : Prop := w_M_typeAt_138 P z3 z5 1 σ
def w_M_typeAt_113 (P : Int32 → MST → Prop) (z3 : Int32) (z5 : Int32) (σ : MST) : Prop := ((z3 < 100 → w_M_typeAt_137 P z3 z5 σ) ∧ (¬ z3 < 100 → vp_in z5 960 ∧ (∀ a11 : Int32, a11 = (σ.2.1 27 (z5 : Int32).toNatClampNeg) → ((a11 ≤ (z3 - 100) → w_M_typeAt_137 P z3 z5 σ) ∧ (¬ a11 ≤ (z3 - 100) → w_M_typeAt_133 P z3 z5 σ)))))
def w_M_typeAt_55 (P : Int32 → MST → Prop) (z1 : Int32) (z2 : Int32) (z3 : Int32) (s0 : Int32) (σ : MST) : Prop := ((s0 = 0 → w_M_typeAt_85 P σ) ∧ (¬ s0 = 0 → w_M_isBeginning z1 z2 σ (fun r15 σ14 => ((r15 = 0 → w_M_typeAt_85 P σ14) ∧ (¬ r15 = 0 → vp_in (((120 : Int32) * z1) + z2) 960 ∧ (∀ a17 : Int32, a17 = (σ14.2.1 27 ((((120 : Int32) * z1) + z2) : Int32).toNatClampNeg) → ((0 ≤ a17 → ((z3 < 0 → w_M_typeAt_113 P z3 (((120 : Int32) * z1) + z2) σ14) ∧ (¬ z3 < 0 → vp_in z1 8 ∧ (∀ a20 : Int32, a20 = (σ14.2.1 15 (z1 : Int32).toNatClampNeg) → ((z3 < a20 → w_M_typeAt_133 P z3 (((120 : Int32) * z1) + z2) σ14) ∧ (¬ z3 < a20 → w_M_typeAt_113 P z3 (((120 : Int32) * z1) + z2) σ14)))))) ∧ (¬ 0 ≤ a17 → w_M_typeAt_85 P σ14))))))))
def w_M_typeAt_54 (P : Int32 → MST → Prop) (z1 : Int32) (z2 : Int32) (z3 : Int32) (σ : MST) : Prop := w_M_typeAt_55 P z1 z2 z3 0 σ
def w_M_typeAt_46 (P : Int32 → MST → Prop) (z1 : Int32) (z2 : Int32) (z3 : Int32) (s0 : Int32) (σ : MST) : Prop := vp_in s0 8 ∧ (∀ a22 : Int32, a22 = (σ.2.1 22 (s0 : Int32).toNatClampNeg) → ((a22 = 0 → w_M_typeAt_55 P z1 z2 z3 1 σ) ∧ (¬ a22 = 0 → w_M_typeAt_54 P z1 z2 z3 σ)))
def w_M_typeAt_25 (P : Int32 → MST → Prop) (z1 : Int32) (z2 : Int32) (z3 : Int32) (s0 : Int32) (σ : MST) : Prop := vp_in s0 8 ∧ (∀ a24 : Int32, a24 = (σ.2.1 21 (s0 : Int32).toNatClampNeg) → ((a24 = 0 → w_M_typeAt_54 P z1 z2 z3 σ) ∧ (¬ a24 = 0 → w_M_isMethod z1 σ (fun r27 σ26 => ((r27 = 0 → w_M_typeAt_46 P z1 z2 z3 0 σ26) ∧ (¬ r27 = 0 → w_M_typeAt_46 P z1 z2 z3 z1 σ26))))))
def w_M_typeAt (x1 : Int32) (x2 : Int32) (x3 : Int32) (σ : MST) (P : Int32 → MST → Prop) : Prop := w_M_isMethod x1 σ (fun r30 σ29 => ((r30 = 0 → w_M_typeAt_54 P x1 x2 x3 σ29) ∧ (¬ r30 = 0 → w_M_isMethod x1 σ29 (fun r33 σ32 => ((r33 = 0 → w_M_typeAt_25 P x1 x2 x3 0 σ32) ∧ (¬ r33 = 0 → w_M_typeAt_25 P x1 x2 x3 x1 σ32))))))
set_option maxHeartbeats 4000000 in
set_option maxRecDepth 100000 in
theorem K_M_typeAt (l : Launch) (dC : Nat → ClassId) (dI : Nat → Nat → Nat) (mo : Nat) (rf : Nat → Nat) (ca : Nat → ClassId) (sz : Nat) (σ : MST) (x1 : Int32) (x2 : Int32) (x3 : Int32) {P : Int32 → MST → Prop} (hw : w_M_typeAt x1 x2 x3 σ P) : Met l z_M_typeAt (mW z_M_typeAt prog_14_method_79_code 7 (some .int)) ({ frames := 1, cells := 0, slots := 0, locals := 22 } : Room) (va_Pc [.ref mo, .int x1, .int x2, .int x3] (MPre (dC, dI) mo rf ca σ sz)) (va_Qi P (MB (dC, dI) mo rf ca sz) (mA mo rf sz)) 0 0 (mA mo rf sz) := by
  refine M_ofi (by decide) rfl (Nat.le_of_ble_eq_true rfl) ?_
  intro p e s m below meth cx Q A ls C hA hend h hl
  have C0 := C
  obtain ⟨⟨hx, hb, hml, hown, hts⟩, hsub⟩ := C0
  have K_85 : ∀ (u9 : Unit), ∀ (σ : MST) (H : Heap) (locs : List Loc) (ls : Array Slot), w_M_typeAt_85 P σ → MH (dC, dI) A mo rf ca σ s H locs → lv_has ls 7 [(0, .ref mo)] → W p l e ({ frames := 1, cells := 0, slots := 0, locals := 22 } : Room) s m ([.ref mo, .int x1, .int x2, .int x3] : List Value).toArray below meth cx H locs 0 0 Q (F0 m 85 ls []) := by
    intro u9  σ H locs ls hw h hl
    unfold w_M_typeAt_85 at hw
    refine lv_aload_n hx hb e_M_typeAt_85 rfl (lv_at hl 0 rfl) ?_
    refine lv_iconst (v := 1) hx hb e_M_typeAt_86 (by decide) ?_
    refine M_calli (As := [.int 1]) (rest := []) C h hA (K_M_fails l dC dI mo rf ca H.size σ (1 : Int32) hw) (cwV 1 hts (gV hsub v_26 v_27 v_28 v_7 v_29) rfl rfl rfl (by decide +kernel) ⟨(Nat.le_of_ble_eq_true rfl), (Nat.le_of_ble_eq_true rfl)⟩) rfl hl.1 (Nat.le_of_ble_eq_true rfl) e_M_typeAt_87 ⟨(Nat.le_of_ble_eq_true rfl), (Nat.le_of_ble_eq_true rfl)⟩ (fun r2 σ1 H locs hw h => ?_)
    refine W.eq (g2 := F0 m 90 ls [.int r2]) rfl ?_
    exact hend r2 σ1 _ _ _ _ hw h e_M_typeAt_90
  have K_138 : ∀ (u9 : Unit), ∀ (z3 : Int32) (z5 : Int32) (s0 : Int32) (σ : MST) (H : Heap) (locs : List Loc) (ls : Array Slot), w_M_typeAt_138 P z3 z5 s0 σ → MH (dC, dI) A mo rf ca σ s H locs → lv_has ls 7 [(0, .ref mo), (3, .int z3), (5, .int z5)] → W p l e ({ frames := 1, cells := 0, slots := 0, locals := 22 } : Room) s m ([.ref mo, .int x1, .int x2, .int x3] : List Value).toArray below meth cx H locs 0 0 Q (F0 m 138 ls [.int s0]) := by
    intro u9 z3 z5 s0 σ H locs ls hw h hl
    unfold w_M_typeAt_138 at hw
    refine lv_istore (lv' := [(6, .int s0), (0, .ref mo), (3, .int z3), (5, .int z5)]) hx hb e_M_typeAt_138 hl (by decide) rfl (fun ls hl => ?_)
    refine lv_iload hx hb e_M_typeAt_140 (lv_at hl 0 rfl) ?_
    refine lv_if_ne (tgt := 151) hx hb e_M_typeAt_142 (by decide) (fun c3 => ?_) (fun c3 => ?_)
    · skip
      replace hw := hw.2 c3
      refine lv_aload_n hx hb e_M_typeAt_151 rfl (lv_at hl 1 rfl) ?_
      refine lv_iconst (v := 0) hx hb e_M_typeAt_152 (by decide) ?_
      refine M_puti C h 0 (by decide) rfl rfl (by decide +kernel) v_0 e_M_typeAt_153 (fun H locs h => ?_)
      obtain ⟨σ4, e_σ4⟩ : ∃ z : MST, z = setI σ 0 0 := ⟨_, rfl⟩
      rw [← e_σ4] at h
      replace hw := hw σ4 e_σ4
      refine lv_iload_n hx hb e_M_typeAt_156 rfl (lv_at hl 2 rfl) ?_
      refine lv_bipush (v := 100) hx hb e_M_typeAt_157 (by decide) ?_
      refine lv_icmp_ge (tgt := 177) hx hb e_M_typeAt_159 (by decide) (fun c5 => ?_) (fun c5 => ?_)
      · skip
        replace hw := hw.1 c5
        refine lv_aload_n hx hb e_M_typeAt_177 rfl (lv_at hl 1 rfl) ?_
        refine M_get C h 29 (v := .ref (rf 29)) rfl (by decide) v_192 e_M_typeAt_178 ?_
        refine lv_bipush (v := 12) hx hb e_M_typeAt_181 (by decide) ?_
        refine lv_iload hx hb e_M_typeAt_183 (lv_at hl 3 rfl) ?_
        refine lv_imul hx hb e_M_typeAt_185 ?_
        refine lv_iload_n hx hb e_M_typeAt_186 rfl (lv_at hl 2 rfl) ?_
        refine lv_iadd hx hb e_M_typeAt_187 ?_
        refine lv_bipush (v := 100) hx hb e_M_typeAt_188 (by decide) ?_
        refine lv_isub hx hb e_M_typeAt_190 ?_
        refine M_ald C h 29 (by decide) rfl hw.1 e_M_typeAt_191 ?_
        replace hw := hw.2
        refine lv_topi (fun a6 e_a6 => ?_)
        replace hw := hw a6 e_a6
        exact hend a6 σ4 _ _ _ _ hw h e_M_typeAt_192
      · skip
        replace hw := hw.2 c5
        refine lv_aload_n hx hb e_M_typeAt_162 rfl (lv_at hl 1 rfl) ?_
        refine M_get C h 28 (v := .ref (rf 28)) rfl (by decide) v_194 e_M_typeAt_163 ?_
        refine lv_bipush (v := 12) hx hb e_M_typeAt_166 (by decide) ?_
        refine lv_iload hx hb e_M_typeAt_168 (lv_at hl 3 rfl) ?_
        refine lv_imul hx hb e_M_typeAt_170 ?_
        refine lv_iload_n hx hb e_M_typeAt_171 rfl (lv_at hl 2 rfl) ?_
        refine lv_iadd hx hb e_M_typeAt_172 ?_
        refine M_ald C h 28 (by decide) rfl hw.1 e_M_typeAt_173 ?_
        replace hw := hw.2
        refine lv_topi (fun a7 e_a7 => ?_)
        replace hw := hw a7 e_a7
        refine lv_goto (tgt := 192) hx hb e_M_typeAt_174 (by decide) ?_
        exact hend a7 σ4 _ _ _ _ hw h e_M_typeAt_192
    · skip
      replace hw := hw.1 c3
      refine lv_aload_n hx hb e_M_typeAt_145 rfl (lv_at hl 1 rfl) ?_
      refine lv_iconst (v := 1) hx hb e_M_typeAt_146 (by decide) ?_
      refine M_calli (As := [.int 1]) (rest := []) C h hA (K_M_fails l dC dI mo rf ca H.size σ (1 : Int32) hw) (cwV 1 hts (gV hsub v_26 v_27 v_28 v_7 v_29) rfl rfl rfl (by decide +kernel) ⟨(Nat.le_of_ble_eq_true rfl), (Nat.le_of_ble_eq_true rfl)⟩) rfl hl.1 (Nat.le_of_ble_eq_true rfl) e_M_typeAt_147 ⟨(Nat.le_of_ble_eq_true rfl), (Nat.le_of_ble_eq_true rfl)⟩ (fun r9 σ8 H locs hw h => ?_)
      refine W.eq (g2 := F0 m 150 ls [.int r9]) rfl ?_
      exact hend r9 σ8 _ _ _ _ hw h e_M_typeAt_150
  have K_137 : ∀ (u9 : Unit), ∀ (z3 : Int32) (z5 : Int32) (σ : MST) (H : Heap) (locs : List Loc) (ls : Array Slot), w_M_typeAt_137 P z3 z5 σ → MH (dC, dI) A mo rf ca σ s H locs → lv_has ls 7 [(0, .ref mo), (3, .int z3), (5, .int z5)] → W p l e ({ frames := 1, cells := 0, slots := 0, locals := 22 } : Room) s m ([.ref mo, .int x1, .int x2, .int x3] : List Value).toArray below meth cx H locs 0 0 Q (F0 m 137 ls []) := by
    intro u9 z3 z5 σ H locs ls hw h hl
    unfold w_M_typeAt_137 at hw
    refine lv_iconst (v := 0) hx hb e_M_typeAt_137 (by decide) ?_
    exact K_138 () z3 z5 0 σ _ _ _ hw h (lv_sub hl [0, 1, 2] rfl)
  have K_133 : ∀ (u9 : Unit), ∀ (z3 : Int32) (z5 : Int32) (σ : MST) (H : Heap) (locs : List Loc) (ls : Array Slot), w_M_typeAt_133 P z3 z5 σ → MH (dC, dI) A mo rf ca σ s H locs → lv_has ls 7 [(0, .ref mo), (3, .int z3), (5, .int z5)] → W p l e ({ frames := 1, cells := 0, slots := 0, locals := 22 } : Room) s m ([.ref mo, .int x1, .int x2, .int x3] : List Value).toArray below meth cx H locs 0 0 Q (F0 m 133 ls []) := by
    intro u9 z3 z5 σ H locs ls hw h hl
    unfold w_M_typeAt_133 at hw
    refine lv_iconst (v := 1) hx hb e_M_typeAt_133 (by decide) ?_
    refine lv_goto (tgt := 138) hx hb e_M_typeAt_134 (by decide) ?_
    exact K_138 () z3 z5 1 σ _ _ _ hw h (lv_sub hl [0, 1, 2] rfl)
  have K_113 : ∀ (u9 : Unit), ∀ (z3 : Int32) (z5 : Int32) (σ : MST) (H : Heap) (locs : List Loc) (ls : Array Slot), w_M_typeAt_113 P z3 z5 σ → MH (dC, dI) A mo rf ca σ s H locs → lv_has ls 7 [(0, .ref mo), (3, .int z3), (5, .int z5)] → W p l e ({ frames := 1, cells := 0, slots := 0, locals := 22 } : Room) s m ([.ref mo, .int x1, .int x2, .int x3] : List Value).toArray below meth cx H locs 0 0 Q (F0 m 113 ls []) := by
    intro u9 z3 z5 σ H locs ls hw h hl
    unfold w_M_typeAt_113 at hw
    refine lv_iload_n hx hb e_M_typeAt_113 rfl (lv_at hl 1 rfl) ?_
    refine lv_bipush (v := 100) hx hb e_M_typeAt_114 (by decide) ?_
    refine lv_icmp_lt (tgt := 137) hx hb e_M_typeAt_116 (by decide) (fun c10 => ?_) (fun c10 => ?_)
    · skip
      replace hw := hw.1 c10
      exact K_137 () z3 z5 σ _ _ _ hw h (lv_sub hl [0, 1, 2] rfl)
    · skip
      replace hw := hw.2 c10
      refine lv_iload_n hx hb e_M_typeAt_119 rfl (lv_at hl 1 rfl) ?_
      refine lv_bipush (v := 100) hx hb e_M_typeAt_120 (by decide) ?_
      refine lv_isub hx hb e_M_typeAt_122 ?_
      refine lv_aload_n hx hb e_M_typeAt_123 rfl (lv_at hl 0 rfl) ?_
      refine M_get C h 27 (v := .ref (rf 27)) rfl (by decide) v_200 e_M_typeAt_124 ?_
      refine lv_iload hx hb e_M_typeAt_127 (lv_at hl 2 rfl) ?_
      refine M_ald C h 27 (by decide) rfl hw.1 e_M_typeAt_129 ?_
      replace hw := hw.2
      refine lv_topi (fun a11 e_a11 => ?_)
      replace hw := hw a11 e_a11
      refine lv_icmp_ge (tgt := 137) hx hb e_M_typeAt_130 (by decide) (fun c12 => ?_) (fun c12 => ?_)
      · skip
        replace hw := hw.1 c12
        exact K_137 () z3 z5 σ _ _ _ hw h (lv_sub hl [0, 1, 2] rfl)
      · skip
        replace hw := hw.2 c12
        exact K_133 () z3 z5 σ _ _ _ hw h (lv_sub hl [0, 1, 2] rfl)
  have K_55 : ∀ (u9 : Unit), ∀ (z1 : Int32) (z2 : Int32) (z3 : Int32) (s0 : Int32) (σ : MST) (H : Heap) (locs : List Loc) (ls : Array Slot), w_M_typeAt_55 P z1 z2 z3 s0 σ → MH (dC, dI) A mo rf ca σ s H locs → lv_has ls 7 [(0, .ref mo), (1, .int z1), (2, .int z2), (3, .int z3)] → W p l e ({ frames := 1, cells := 0, slots := 0, locals := 22 } : Room) s m ([.ref mo, .int x1, .int x2, .int x3] : List Value).toArray below meth cx H locs 0 0 Q (F0 m 55 ls [.int s0]) := by
    intro u9 z1 z2 z3 s0 σ H locs ls hw h hl
    unfold w_M_typeAt_55 at hw
    refine lv_istore (lv' := [(4, .int s0), (0, .ref mo), (1, .int z1), (2, .int z2), (3, .int z3)]) hx hb e_M_typeAt_55 hl (by decide) rfl (fun ls hl => ?_)
    refine lv_iload hx hb e_M_typeAt_57 (lv_at hl 0 rfl) ?_
    refine lv_if_eq (tgt := 85) hx hb e_M_typeAt_59 (by decide) (fun c13 => ?_) (fun c13 => ?_)
    · skip
      replace hw := hw.1 c13
      exact K_85 () σ _ _ _ hw h (lv_sub hl [1] rfl)
    · skip
      replace hw := hw.2 c13
      refine lv_aload_n hx hb e_M_typeAt_62 rfl (lv_at hl 1 rfl) ?_
      refine lv_iload_n hx hb e_M_typeAt_63 rfl (lv_at hl 2 rfl) ?_
      refine lv_iload_n hx hb e_M_typeAt_64 rfl (lv_at hl 3 rfl) ?_
      refine M_calli (As := [.int z1, .int z2]) (rest := []) C h hA (K_M_isBeginning l dC dI mo rf ca H.size σ z1 z2 hw) (cwV 2 hts (gV hsub v_83 v_84 v_85 v_7 v_86) rfl rfl rfl (by decide +kernel) ⟨(Nat.le_of_ble_eq_true rfl), (Nat.le_of_ble_eq_true rfl)⟩) rfl hl.1 (Nat.le_of_ble_eq_true rfl) e_M_typeAt_65 ⟨(Nat.le_of_ble_eq_true rfl), (Nat.le_of_ble_eq_true rfl)⟩ (fun r15 σ14 H locs hw h => ?_)
      refine W.eq (g2 := F0 m 68 ls [.int r15]) rfl ?_
      refine lv_if_eq (tgt := 85) hx hb e_M_typeAt_68 (by decide) (fun c16 => ?_) (fun c16 => ?_)
      · skip
        replace hw := hw.1 c16
        exact K_85 () σ14 _ _ _ hw h (lv_sub hl [1] rfl)
      · skip
        replace hw := hw.2 c16
        refine lv_aload_n hx hb e_M_typeAt_71 rfl (lv_at hl 1 rfl) ?_
        refine M_get C h 27 (v := .ref (rf 27)) rfl (by decide) v_200 e_M_typeAt_72 ?_
        refine lv_bipush (v := 120) hx hb e_M_typeAt_75 (by decide) ?_
        refine lv_iload_n hx hb e_M_typeAt_77 rfl (lv_at hl 2 rfl) ?_
        refine lv_imul hx hb e_M_typeAt_78 ?_
        refine lv_iload_n hx hb e_M_typeAt_79 rfl (lv_at hl 3 rfl) ?_
        refine lv_iadd hx hb e_M_typeAt_80 ?_
        refine M_ald C h 27 (by decide) rfl hw.1 e_M_typeAt_81 ?_
        replace hw := hw.2
        refine lv_topi (fun a17 e_a17 => ?_)
        replace hw := hw a17 e_a17
        refine lv_if_ge (tgt := 91) hx hb e_M_typeAt_82 (by decide) (fun c18 => ?_) (fun c18 => ?_)
        · skip
          replace hw := hw.1 c18
          refine lv_bipush (v := 120) hx hb e_M_typeAt_91 (by decide) ?_
          refine lv_iload_n hx hb e_M_typeAt_93 rfl (lv_at hl 2 rfl) ?_
          refine lv_imul hx hb e_M_typeAt_94 ?_
          refine lv_iload_n hx hb e_M_typeAt_95 rfl (lv_at hl 3 rfl) ?_
          refine lv_iadd hx hb e_M_typeAt_96 ?_
          refine lv_istore (lv' := [(5, .int (((120 : Int32) * z1) + z2)), (4, .int s0), (0, .ref mo), (1, .int z1), (2, .int z2), (3, .int z3)]) hx hb e_M_typeAt_97 hl (by decide) rfl (fun ls hl => ?_)
          refine lv_iload_n hx hb e_M_typeAt_99 rfl (lv_at hl 5 rfl) ?_
          refine lv_if_lt (tgt := 113) hx hb e_M_typeAt_100 (by decide) (fun c19 => ?_) (fun c19 => ?_)
          · skip
            replace hw := hw.1 c19
            exact K_113 () z3 (((120 : Int32) * z1) + z2) σ14 _ _ _ hw h (lv_sub hl [2, 5, 0] rfl)
          · skip
            replace hw := hw.2 c19
            refine lv_iload_n hx hb e_M_typeAt_103 rfl (lv_at hl 5 rfl) ?_
            refine lv_aload_n hx hb e_M_typeAt_104 rfl (lv_at hl 2 rfl) ?_
            refine M_get C h 15 (v := .ref (rf 15)) rfl (by decide) v_49 e_M_typeAt_105 ?_
            refine lv_iload_n hx hb e_M_typeAt_108 rfl (lv_at hl 3 rfl) ?_
            refine M_ald C h 15 (by decide) rfl hw.1 e_M_typeAt_109 ?_
            replace hw := hw.2
            refine lv_topi (fun a20 e_a20 => ?_)
            replace hw := hw a20 e_a20
            refine lv_icmp_lt (tgt := 133) hx hb e_M_typeAt_110 (by decide) (fun c21 => ?_) (fun c21 => ?_)
            · skip
              replace hw := hw.1 c21
              exact K_133 () z3 (((120 : Int32) * z1) + z2) σ14 _ _ _ hw h (lv_sub hl [2, 5, 0] rfl)
            · skip
              replace hw := hw.2 c21
              exact K_113 () z3 (((120 : Int32) * z1) + z2) σ14 _ _ _ hw h (lv_sub hl [2, 5, 0] rfl)
        · skip
          replace hw := hw.2 c18
          exact K_85 () σ14 _ _ _ hw h (lv_sub hl [1] rfl)
  have K_54 : ∀ (u9 : Unit), ∀ (z1 : Int32) (z2 : Int32) (z3 : Int32) (σ : MST) (H : Heap) (locs : List Loc) (ls : Array Slot), w_M_typeAt_54 P z1 z2 z3 σ → MH (dC, dI) A mo rf ca σ s H locs → lv_has ls 7 [(0, .ref mo), (1, .int z1), (2, .int z2), (3, .int z3)] → W p l e ({ frames := 1, cells := 0, slots := 0, locals := 22 } : Room) s m ([.ref mo, .int x1, .int x2, .int x3] : List Value).toArray below meth cx H locs 0 0 Q (F0 m 54 ls []) := by
    intro u9 z1 z2 z3 σ H locs ls hw h hl
    unfold w_M_typeAt_54 at hw
    refine lv_iconst (v := 0) hx hb e_M_typeAt_54 (by decide) ?_
    exact K_55 () z1 z2 z3 0 σ _ _ _ hw h (lv_sub hl [0, 1, 2, 3] rfl)
  have K_46 : ∀ (u9 : Unit), ∀ (z1 : Int32) (z2 : Int32) (z3 : Int32) (s0 : Int32) (σ : MST) (H : Heap) (locs : List Loc) (ls : Array Slot), w_M_typeAt_46 P z1 z2 z3 s0 σ → MH (dC, dI) A mo rf ca σ s H locs → lv_has ls 7 [(0, .ref mo), (1, .int z1), (2, .int z2), (3, .int z3)] → W p l e ({ frames := 1, cells := 0, slots := 0, locals := 22 } : Room) s m ([.ref mo, .int x1, .int x2, .int x3] : List Value).toArray below meth cx H locs 0 0 Q (F0 m 46 ls [.int s0, .ref (rf 22)]) := by
    intro u9 z1 z2 z3 s0 σ H locs ls hw h hl
    unfold w_M_typeAt_46 at hw
    refine M_ald C h 22 (by decide) rfl hw.1 e_M_typeAt_46 ?_
    replace hw := hw.2
    refine lv_topi (fun a22 e_a22 => ?_)
    replace hw := hw a22 e_a22
    refine lv_if_ne (tgt := 54) hx hb e_M_typeAt_47 (by decide) (fun c23 => ?_) (fun c23 => ?_)
    · skip
      replace hw := hw.2 c23
      exact K_54 () z1 z2 z3 σ _ _ _ hw h (lv_sub hl [0, 1, 2, 3] rfl)
    · skip
      replace hw := hw.1 c23
      refine lv_iconst (v := 1) hx hb e_M_typeAt_50 (by decide) ?_
      refine lv_goto (tgt := 55) hx hb e_M_typeAt_51 (by decide) ?_
      exact K_55 () z1 z2 z3 1 σ _ _ _ hw h (lv_sub hl [0, 1, 2, 3] rfl)
  have K_25 : ∀ (u9 : Unit), ∀ (z1 : Int32) (z2 : Int32) (z3 : Int32) (s0 : Int32) (σ : MST) (H : Heap) (locs : List Loc) (ls : Array Slot), w_M_typeAt_25 P z1 z2 z3 s0 σ → MH (dC, dI) A mo rf ca σ s H locs → lv_has ls 7 [(0, .ref mo), (1, .int z1), (2, .int z2), (3, .int z3)] → W p l e ({ frames := 1, cells := 0, slots := 0, locals := 22 } : Room) s m ([.ref mo, .int x1, .int x2, .int x3] : List Value).toArray below meth cx H locs 0 0 Q (F0 m 25 ls [.int s0, .ref (rf 21)]) := by
    intro u9 z1 z2 z3 s0 σ H locs ls hw h hl
    unfold w_M_typeAt_25 at hw
    refine M_zald C h 21 (by decide) rfl hw.1 e_M_typeAt_25 ?_
    replace hw := hw.2
    refine lv_topi (fun a24 e_a24 => ?_)
    replace hw := hw a24 e_a24
    refine lv_if_eq (tgt := 54) hx hb e_M_typeAt_26 (by decide) (fun c25 => ?_) (fun c25 => ?_)
    · skip
      replace hw := hw.1 c25
      exact K_54 () z1 z2 z3 σ _ _ _ hw h (lv_sub hl [0, 1, 2, 3] rfl)
    · skip
      replace hw := hw.2 c25
      refine lv_aload_n hx hb e_M_typeAt_29 rfl (lv_at hl 0 rfl) ?_
      refine M_get C h 22 (v := .ref (rf 22)) rfl (by decide) v_256 e_M_typeAt_30 ?_
      refine lv_aload_n hx hb e_M_typeAt_33 rfl (lv_at hl 0 rfl) ?_
      refine lv_iload_n hx hb e_M_typeAt_34 rfl (lv_at hl 1 rfl) ?_
      refine M_calli (As := [.int z1]) (rest := [.ref (rf 22)]) C h hA (K_M_isMethod l dC dI mo rf ca H.size σ z1 hw) (cwV 1 hts (gV hsub v_56 v_57 v_58 v_7 v_59) rfl rfl rfl (by decide +kernel) ⟨(Nat.le_of_ble_eq_true rfl), (Nat.le_of_ble_eq_true rfl)⟩) rfl hl.1 (Nat.le_of_ble_eq_true rfl) e_M_typeAt_35 ⟨(Nat.le_of_ble_eq_true rfl), (Nat.le_of_ble_eq_true rfl)⟩ (fun r27 σ26 H locs hw h => ?_)
      refine W.eq (g2 := F0 m 38 ls [.int r27, .ref (rf 22)]) rfl ?_
      refine lv_if_eq (tgt := 45) hx hb e_M_typeAt_38 (by decide) (fun c28 => ?_) (fun c28 => ?_)
      · skip
        replace hw := hw.1 c28
        refine lv_iconst (v := 0) hx hb e_M_typeAt_45 (by decide) ?_
        exact K_46 () z1 z2 z3 0 σ26 _ _ _ hw h (lv_sub hl [0, 1, 2, 3] rfl)
      · skip
        replace hw := hw.2 c28
        refine lv_iload_n hx hb e_M_typeAt_41 rfl (lv_at hl 1 rfl) ?_
        refine lv_goto (tgt := 46) hx hb e_M_typeAt_42 (by decide) ?_
        exact K_46 () z1 z2 z3 z1 σ26 _ _ _ hw h (lv_sub hl [0, 1, 2, 3] rfl)
  have hl : lv_has ls 7 [(0, .ref mo), (1, .int x1), (2, .int x2), (3, .int x3)] := hl
  unfold w_M_typeAt at hw
  refine lv_aload_n hx hb e_M_typeAt_0 rfl (lv_at hl 0 rfl) ?_
  refine lv_iload_n hx hb e_M_typeAt_1 rfl (lv_at hl 1 rfl) ?_
  refine M_calli (As := [.int x1]) (rest := []) C h hA (K_M_isMethod l dC dI mo rf ca s.heap.size σ x1 hw) (cwV 1 hts (gV hsub v_56 v_57 v_58 v_7 v_59) rfl rfl rfl (by decide +kernel) ⟨(Nat.le_of_ble_eq_true rfl), (Nat.le_of_ble_eq_true rfl)⟩) rfl hl.1 (Nat.le_of_ble_eq_true rfl) e_M_typeAt_2 ⟨(Nat.le_of_ble_eq_true rfl), (Nat.le_of_ble_eq_true rfl)⟩ (fun r30 σ29 H locs hw h => ?_)
  refine W.eq (g2 := F0 m 5 ls [.int r30]) rfl ?_
  refine lv_if_eq (tgt := 54) hx hb e_M_typeAt_5 (by decide) (fun c31 => ?_) (fun c31 => ?_)
  · skip
    replace hw := hw.1 c31
    exact K_54 () x1 x2 x3 σ29 _ _ _ hw h (lv_sub hl [0, 1, 2, 3] rfl)
  · skip
    replace hw := hw.2 c31
    refine lv_aload_n hx hb e_M_typeAt_8 rfl (lv_at hl 0 rfl) ?_
    refine M_get C h 21 (v := .ref (rf 21)) rfl (by decide) v_60 e_M_typeAt_9 ?_
    refine lv_aload_n hx hb e_M_typeAt_12 rfl (lv_at hl 0 rfl) ?_
    refine lv_iload_n hx hb e_M_typeAt_13 rfl (lv_at hl 1 rfl) ?_
    refine M_calli (As := [.int x1]) (rest := [.ref (rf 21)]) C h hA (K_M_isMethod l dC dI mo rf ca H.size σ29 x1 hw) (cwV 1 hts (gV hsub v_56 v_57 v_58 v_7 v_59) rfl rfl rfl (by decide +kernel) ⟨(Nat.le_of_ble_eq_true rfl), (Nat.le_of_ble_eq_true rfl)⟩) rfl hl.1 (Nat.le_of_ble_eq_true rfl) e_M_typeAt_14 ⟨(Nat.le_of_ble_eq_true rfl), (Nat.le_of_ble_eq_true rfl)⟩ (fun r33 σ32 H locs hw h => ?_)
    refine W.eq (g2 := F0 m 17 ls [.int r33, .ref (rf 21)]) rfl ?_
    refine lv_if_eq (tgt := 24) hx hb e_M_typeAt_17 (by decide) (fun c34 => ?_) (fun c34 => ?_)
    · skip
      replace hw := hw.1 c34
      refine lv_iconst (v := 0) hx hb e_M_typeAt_24 (by decide) ?_
      exact K_25 () x1 x2 x3 0 σ32 _ _ _ hw h (lv_sub hl [0, 1, 2, 3] rfl)
    · skip
      replace hw := hw.2 c34
      refine lv_iload_n hx hb e_M_typeAt_20 rfl (lv_at hl 1 rfl) ?_
      refine lv_goto (tgt := 25) hx hb e_M_typeAt_21 (by decide) ?_
      exact K_25 () x1 x2 x3 x1 σ32 _ _ _ hw h (lv_sub hl [0, 1, 2, 3] rfl)
abbrev z_M_take : MethodName := ⟨"MapFramerModel", "take", "()J"⟩
theorem v_308 : (Cond.fieldLink "MapFramerModel" 160 "MapFramerModel" "callHigh" "[I" : Cond) ∈ bigW := inB_8 126 (by decide +kernel) rfl
theorem v_309 : (Cond.fieldLink "MapFramerModel" 420 "MapFramerModel" "deep" "I" : Cond) ∈ bigW := inB_8 123 (by decide +kernel) rfl
theorem v_310 : (Cond.fieldLink "MapFramerModel" 166 "MapFramerModel" "piles" "[J" : Cond) ∈ bigW := inB_8 128 (by decide +kernel) rfl
theorem e_M_take_0 : decode prog_14_method_80_code 0 = .ok (.aload_n 0, 1) := by decide +kernel
theorem e_M_take_1 : decode prog_14_method_80_code 1 = .ok (.getfield 160, 3) := by decide +kernel
theorem e_M_take_4 : decode prog_14_method_80_code 4 = .ok (.aload_n 0, 1) := by decide +kernel
theorem e_M_take_5 : decode prog_14_method_80_code 5 = .ok (.getfield 420, 3) := by decide +kernel
theorem e_M_take_8 : decode prog_14_method_80_code 8 = .ok (.iconst 1, 1) := by decide +kernel
theorem e_M_take_9 : decode prog_14_method_80_code 9 = .ok (.isub, 1) := by decide +kernel
theorem e_M_take_10 : decode prog_14_method_80_code 10 = .ok (.dup2, 1) := by decide +kernel
theorem e_M_take_11 : decode prog_14_method_80_code 11 = .ok (.iaload, 1) := by decide +kernel
theorem e_M_take_12 : decode prog_14_method_80_code 12 = .ok (.iconst 1, 1) := by decide +kernel
theorem e_M_take_13 : decode prog_14_method_80_code 13 = .ok (.isub, 1) := by decide +kernel
theorem e_M_take_14 : decode prog_14_method_80_code 14 = .ok (.iastore, 1) := by decide +kernel
theorem e_M_take_15 : decode prog_14_method_80_code 15 = .ok (.aload_n 0, 1) := by decide +kernel
theorem e_M_take_16 : decode prog_14_method_80_code 16 = .ok (.getfield 166, 3) := by decide +kernel
theorem e_M_take_19 : decode prog_14_method_80_code 19 = .ok (.bipush 20, 2) := by decide +kernel
theorem e_M_take_21 : decode prog_14_method_80_code 21 = .ok (.aload_n 0, 1) := by decide +kernel
theorem e_M_take_22 : decode prog_14_method_80_code 22 = .ok (.getfield 420, 3) := by decide +kernel
theorem e_M_take_25 : decode prog_14_method_80_code 25 = .ok (.iconst 1, 1) := by decide +kernel
theorem e_M_take_26 : decode prog_14_method_80_code 26 = .ok (.isub, 1) := by decide +kernel
theorem e_M_take_27 : decode prog_14_method_80_code 27 = .ok (.imul, 1) := by decide +kernel
theorem e_M_take_28 : decode prog_14_method_80_code 28 = .ok (.aload_n 0, 1) := by decide +kernel
theorem e_M_take_29 : decode prog_14_method_80_code 29 = .ok (.getfield 160, 3) := by decide +kernel
theorem e_M_take_32 : decode prog_14_method_80_code 32 = .ok (.aload_n 0, 1) := by decide +kernel
theorem e_M_take_33 : decode prog_14_method_80_code 33 = .ok (.getfield 420, 3) := by decide +kernel
theorem e_M_take_36 : decode prog_14_method_80_code 36 = .ok (.iconst 1, 1) := by decide +kernel
theorem e_M_take_37 : decode prog_14_method_80_code 37 = .ok (.isub, 1) := by decide +kernel
theorem e_M_take_38 : decode prog_14_method_80_code 38 = .ok (.iaload, 1) := by decide +kernel
theorem e_M_take_39 : decode prog_14_method_80_code 39 = .ok (.iadd, 1) := by decide +kernel
theorem e_M_take_40 : decode prog_14_method_80_code 40 = .ok (.laload, 1) := by decide +kernel
theorem e_M_take_41 : decode prog_14_method_80_code 41 = .ok (.lreturn, 1) := by decide +kernel
def w_M_take (σ : MST) (P : Int64 → MST → Prop) : Prop := vp_in ((σ.1 63) - 1) 24 ∧ (∀ a1 : Int32, a1 = (σ.2.1 66 (((σ.1 63) - 1) : Int32).toNatClampNeg) → vp_in ((σ.1 63) - 1) 24 ∧ (∀ σ2 : MST, σ2 = setA σ 66 (upd (σ.2.1 66) (((σ.1 63) - 1) : Int32).toNatClampNeg (a1 - 1)) → vp_in ((σ2.1 63) - 1) 24 ∧ (∀ a3 : Int32, a3 = (σ2.2.1 66 (((σ2.1 63) - 1) : Int32).toNatClampNeg) → vp_in (((20 : Int32) * ((σ2.1 63) - 1)) + a3) 480 ∧ (∀ a4 : Int64, a4 = (σ2.2.2.1 68 ((((20 : Int32) * ((σ2.1 63) - 1)) + a3) : Int32).toNatClampNeg) → P a4 σ2))))
set_option maxHeartbeats 4000000 in
set_option maxRecDepth 100000 in
theorem K_M_take (l : Launch) (dC : Nat → ClassId) (dI : Nat → Nat → Nat) (mo : Nat) (rf : Nat → Nat) (ca : Nat → ClassId) (sz : Nat) (σ : MST) {P : Int64 → MST → Prop} (hw : w_M_take σ P) : Met l z_M_take (mW z_M_take prog_14_method_80_code 1 (some .long)) ({ frames := 0, cells := 0, slots := 0, locals := 0 } : Room) (va_Pc [.ref mo] (MPre (dC, dI) mo rf ca σ sz)) (va_Ql P (MB (dC, dI) mo rf ca sz) (mA mo rf sz)) 0 0 (mA mo rf sz) := by
  refine M_ofl (by decide) rfl (Nat.le_of_ble_eq_true rfl) ?_
  intro p e s m below meth cx Q A ls C hA hend h hl
  have C0 := C
  obtain ⟨⟨hx, hb, hml, hown, hts⟩, hsub⟩ := C0
  have hl : lv_has ls 1 [(0, .ref mo)] := hl
  unfold w_M_take at hw
  refine lv_aload_n hx hb e_M_take_0 rfl (lv_at hl 0 rfl) ?_
  refine M_get C h 66 (v := .ref (rf 66)) rfl (by decide) v_308 e_M_take_1 ?_
  refine lv_aload_n hx hb e_M_take_4 rfl (lv_at hl 0 rfl) ?_
  refine M_get C h 63 (v := .int (σ.1 63)) rfl (by decide) v_309 e_M_take_5 ?_
  refine lv_iconst (v := 1) hx hb e_M_take_8 (by decide) ?_
  refine lv_isub hx hb e_M_take_9 ?_
  refine lv_dup2_11 hx hb e_M_take_10 rfl rfl ?_
  refine M_ald C h 66 (by decide) rfl hw.1 e_M_take_11 ?_
  replace hw := hw.2
  refine lv_topi (fun a1 e_a1 => ?_)
  replace hw := hw a1 e_a1
  refine lv_iconst (v := 1) hx hb e_M_take_12 (by decide) ?_
  refine lv_isub hx hb e_M_take_13 ?_
  refine M_ast C h 66 (by decide) rfl hw.1 e_M_take_14 (fun H locs h => ?_)
  replace hw := hw.2
  obtain ⟨σ2, e_σ2⟩ : ∃ z : MST, z = setA σ 66 (upd (σ.2.1 66) (((σ.1 63) - 1) : Int32).toNatClampNeg (a1 - 1)) := ⟨_, rfl⟩
  rw [← e_σ2] at h
  replace hw := hw σ2 e_σ2
  refine lv_aload_n hx hb e_M_take_15 rfl (lv_at hl 0 rfl) ?_
  refine M_get C h 68 (v := .ref (rf 68)) rfl (by decide) v_310 e_M_take_16 ?_
  refine lv_bipush (v := 20) hx hb e_M_take_19 (by decide) ?_
  refine lv_aload_n hx hb e_M_take_21 rfl (lv_at hl 0 rfl) ?_
  refine M_get C h 63 (v := .int (σ2.1 63)) rfl (by decide) v_309 e_M_take_22 ?_
  refine lv_iconst (v := 1) hx hb e_M_take_25 (by decide) ?_
  refine lv_isub hx hb e_M_take_26 ?_
  refine lv_imul hx hb e_M_take_27 ?_
  refine lv_aload_n hx hb e_M_take_28 rfl (lv_at hl 0 rfl) ?_
  refine M_get C h 66 (v := .ref (rf 66)) rfl (by decide) v_308 e_M_take_29 ?_
  refine lv_aload_n hx hb e_M_take_32 rfl (lv_at hl 0 rfl) ?_
  refine M_get C h 63 (v := .int (σ2.1 63)) rfl (by decide) v_309 e_M_take_33 ?_
  refine lv_iconst (v := 1) hx hb e_M_take_36 (by decide) ?_
  refine lv_isub hx hb e_M_take_37 ?_
  refine M_ald C h 66 (by decide) rfl hw.1 e_M_take_38 ?_
  replace hw := hw.2
  refine lv_topi (fun a3 e_a3 => ?_)
  replace hw := hw a3 e_a3
  refine lv_iadd hx hb e_M_take_39 ?_
  refine M_lald C h 68 (by decide) rfl hw.1 e_M_take_40 ?_
  replace hw := hw.2
  refine lv_topl (fun a4 e_a4 => ?_)
  replace hw := hw a4 e_a4
  exact hend a4 σ2 _ _ _ _ hw h e_M_take_41
abbrev z_M_lay : MethodName := ⟨"MapFramerModel", "lay", "(J)V"⟩
theorem e_M_lay_0 : decode prog_14_method_81_code 0 = .ok (.aload_n 0, 1) := by decide +kernel
theorem e_M_lay_1 : decode prog_14_method_81_code 1 = .ok (.getfield 166, 3) := by decide +kernel
theorem e_M_lay_4 : decode prog_14_method_81_code 4 = .ok (.bipush 20, 2) := by decide +kernel
theorem e_M_lay_6 : decode prog_14_method_81_code 6 = .ok (.aload_n 0, 1) := by decide +kernel
theorem e_M_lay_7 : decode prog_14_method_81_code 7 = .ok (.getfield 420, 3) := by decide +kernel
theorem e_M_lay_10 : decode prog_14_method_81_code 10 = .ok (.iconst 1, 1) := by decide +kernel
theorem e_M_lay_11 : decode prog_14_method_81_code 11 = .ok (.isub, 1) := by decide +kernel
theorem e_M_lay_12 : decode prog_14_method_81_code 12 = .ok (.imul, 1) := by decide +kernel
theorem e_M_lay_13 : decode prog_14_method_81_code 13 = .ok (.aload_n 0, 1) := by decide +kernel
theorem e_M_lay_14 : decode prog_14_method_81_code 14 = .ok (.getfield 160, 3) := by decide +kernel
theorem e_M_lay_17 : decode prog_14_method_81_code 17 = .ok (.aload_n 0, 1) := by decide +kernel
theorem e_M_lay_18 : decode prog_14_method_81_code 18 = .ok (.getfield 420, 3) := by decide +kernel
theorem e_M_lay_21 : decode prog_14_method_81_code 21 = .ok (.iconst 1, 1) := by decide +kernel
theorem e_M_lay_22 : decode prog_14_method_81_code 22 = .ok (.isub, 1) := by decide +kernel
theorem e_M_lay_23 : decode prog_14_method_81_code 23 = .ok (.iaload, 1) := by decide +kernel
theorem e_M_lay_24 : decode prog_14_method_81_code 24 = .ok (.iadd, 1) := by decide +kernel
theorem e_M_lay_25 : decode prog_14_method_81_code 25 = .ok (.lload_n 1, 1) := by decide +kernel
theorem e_M_lay_26 : decode prog_14_method_81_code 26 = .ok (.lastore, 1) := by decide +kernel
theorem e_M_lay_27 : decode prog_14_method_81_code 27 = .ok (.aload_n 0, 1) := by decide +kernel
theorem e_M_lay_28 : decode prog_14_method_81_code 28 = .ok (.getfield 160, 3) := by decide +kernel
theorem e_M_lay_31 : decode prog_14_method_81_code 31 = .ok (.aload_n 0, 1) := by decide +kernel
theorem e_M_lay_32 : decode prog_14_method_81_code 32 = .ok (.getfield 420, 3) := by decide +kernel
theorem e_M_lay_35 : decode prog_14_method_81_code 35 = .ok (.iconst 1, 1) := by decide +kernel
theorem e_M_lay_36 : decode prog_14_method_81_code 36 = .ok (.isub, 1) := by decide +kernel
theorem e_M_lay_37 : decode prog_14_method_81_code 37 = .ok (.dup2, 1) := by decide +kernel
theorem e_M_lay_38 : decode prog_14_method_81_code 38 = .ok (.iaload, 1) := by decide +kernel
theorem e_M_lay_39 : decode prog_14_method_81_code 39 = .ok (.iconst 1, 1) := by decide +kernel
theorem e_M_lay_40 : decode prog_14_method_81_code 40 = .ok (.iadd, 1) := by decide +kernel
theorem e_M_lay_41 : decode prog_14_method_81_code 41 = .ok (.iastore, 1) := by decide +kernel
theorem e_M_lay_42 : decode prog_14_method_81_code 42 = .ok (.return_, 1) := by decide +kernel
def w_M_lay (x1 : Int64) (σ : MST) (P : MST → Prop) : Prop := vp_in ((σ.1 63) - 1) 24 ∧ (∀ a1 : Int32, a1 = (σ.2.1 66 (((σ.1 63) - 1) : Int32).toNatClampNeg) → vp_in (((20 : Int32) * ((σ.1 63) - 1)) + a1) 480 ∧ (∀ σ2 : MST, σ2 = setL σ 68 (vp_updL (σ.2.2.1 68) ((((20 : Int32) * ((σ.1 63) - 1)) + a1) : Int32).toNatClampNeg x1) → vp_in ((σ2.1 63) - 1) 24 ∧ (∀ a3 : Int32, a3 = (σ2.2.1 66 (((σ2.1 63) - 1) : Int32).toNatClampNeg) → vp_in ((σ2.1 63) - 1) 24 ∧ (∀ σ4 : MST, σ4 = setA σ2 66 (upd (σ2.2.1 66) (((σ2.1 63) - 1) : Int32).toNatClampNeg (a3 + 1)) → P σ4))))
set_option maxHeartbeats 4000000 in
set_option maxRecDepth 100000 in
theorem K_M_lay (l : Launch) (dC : Nat → ClassId) (dI : Nat → Nat → Nat) (mo : Nat) (rf : Nat → Nat) (ca : Nat → ClassId) (sz : Nat) (σ : MST) (x1 : Int64) {P : MST → Prop} (hw : w_M_lay x1 σ P) : Met l z_M_lay (mW z_M_lay prog_14_method_81_code 3 none) ({ frames := 0, cells := 0, slots := 0, locals := 0 } : Room) (va_Pc [.ref mo, .long x1] (MPre (dC, dI) mo rf ca σ sz)) (va_Qv P (MB (dC, dI) mo rf ca sz) (mA mo rf sz)) 0 0 (mA mo rf sz) := by
  refine M_ofv (by decide) rfl (Nat.le_of_ble_eq_true rfl) ?_
  intro p e s m below meth cx Q A ls C hA hend h hl
  have C0 := C
  obtain ⟨⟨hx, hb, hml, hown, hts⟩, hsub⟩ := C0
  have hl : lv_has ls 3 [(0, .ref mo), (1, .long x1)] := hl
  unfold w_M_lay at hw
  refine lv_aload_n hx hb e_M_lay_0 rfl (lv_at hl 0 rfl) ?_
  refine M_get C h 68 (v := .ref (rf 68)) rfl (by decide) v_310 e_M_lay_1 ?_
  refine lv_bipush (v := 20) hx hb e_M_lay_4 (by decide) ?_
  refine lv_aload_n hx hb e_M_lay_6 rfl (lv_at hl 0 rfl) ?_
  refine M_get C h 63 (v := .int (σ.1 63)) rfl (by decide) v_309 e_M_lay_7 ?_
  refine lv_iconst (v := 1) hx hb e_M_lay_10 (by decide) ?_
  refine lv_isub hx hb e_M_lay_11 ?_
  refine lv_imul hx hb e_M_lay_12 ?_
  refine lv_aload_n hx hb e_M_lay_13 rfl (lv_at hl 0 rfl) ?_
  refine M_get C h 66 (v := .ref (rf 66)) rfl (by decide) v_308 e_M_lay_14 ?_
  refine lv_aload_n hx hb e_M_lay_17 rfl (lv_at hl 0 rfl) ?_
  refine M_get C h 63 (v := .int (σ.1 63)) rfl (by decide) v_309 e_M_lay_18 ?_
  refine lv_iconst (v := 1) hx hb e_M_lay_21 (by decide) ?_
  refine lv_isub hx hb e_M_lay_22 ?_
  refine M_ald C h 66 (by decide) rfl hw.1 e_M_lay_23 ?_
  replace hw := hw.2
  refine lv_topi (fun a1 e_a1 => ?_)
  replace hw := hw a1 e_a1
  refine lv_iadd hx hb e_M_lay_24 ?_
  refine lv_lload_n hx hb e_M_lay_25 rfl (lv_at hl 1 rfl) ?_
  refine M_last C h 68 (by decide) rfl hw.1 e_M_lay_26 (fun H locs h => ?_)
  replace hw := hw.2
  obtain ⟨σ2, e_σ2⟩ : ∃ z : MST, z = setL σ 68 (vp_updL (σ.2.2.1 68) ((((20 : Int32) * ((σ.1 63) - 1)) + a1) : Int32).toNatClampNeg x1) := ⟨_, rfl⟩
  rw [← e_σ2] at h
  replace hw := hw σ2 e_σ2
  refine lv_aload_n hx hb e_M_lay_27 rfl (lv_at hl 0 rfl) ?_
  refine M_get C h 66 (v := .ref (rf 66)) rfl (by decide) v_308 e_M_lay_28 ?_
  refine lv_aload_n hx hb e_M_lay_31 rfl (lv_at hl 0 rfl) ?_
  refine M_get C h 63 (v := .int (σ2.1 63)) rfl (by decide) v_309 e_M_lay_32 ?_
  refine lv_iconst (v := 1) hx hb e_M_lay_35 (by decide) ?_
  refine lv_isub hx hb e_M_lay_36 ?_
  refine lv_dup2_11 hx hb e_M_lay_37 rfl rfl ?_
  refine M_ald C h 66 (by decide) rfl hw.1 e_M_lay_38 ?_
  replace hw := hw.2
  refine lv_topi (fun a3 e_a3 => ?_)
  replace hw := hw a3 e_a3
  refine lv_iconst (v := 1) hx hb e_M_lay_39 (by decide) ?_
  refine lv_iadd hx hb e_M_lay_40 ?_
  refine M_ast C h 66 (by decide) rfl hw.1 e_M_lay_41 (fun H locs h => ?_)
  replace hw := hw.2
  obtain ⟨σ4, e_σ4⟩ : ∃ z : MST, z = setA σ2 66 (upd (σ2.2.1 66) (((σ2.1 63) - 1) : Int32).toNatClampNeg (a3 + 1)) := ⟨_, rfl⟩
  rw [← e_σ4] at h
  replace hw := hw σ4 e_σ4
  exact hend σ4 _ _ _ _ hw h e_M_lay_42
abbrev z_M_over : MethodName := ⟨"MapFramerModel", "over", "(I)V"⟩
theorem v_311 : (Cond.fieldLink "MapFramerModel" 423 "MapFramerModel" "running" "Z" : Cond) ∈ bigW := inB_8 129 (by decide +kernel) rfl
theorem v_312 : (Cond.fieldLink "MapFramerModel" 135 "MapFramerModel" "ends" "[I" : Cond) ∈ bigW := inB_8 116 (by decide +kernel) rfl
theorem e_M_over_0 : decode prog_14_method_82_code 0 = .ok (.aload_n 0, 1) := by decide +kernel
theorem e_M_over_1 : decode prog_14_method_82_code 1 = .ok (.iconst 0, 1) := by decide +kernel
theorem e_M_over_2 : decode prog_14_method_82_code 2 = .ok (.putfield 423, 3) := by decide +kernel
theorem e_M_over_5 : decode prog_14_method_82_code 5 = .ok (.aload_n 0, 1) := by decide +kernel
theorem e_M_over_6 : decode prog_14_method_82_code 6 = .ok (.getfield 135, 3) := by decide +kernel
theorem e_M_over_9 : decode prog_14_method_82_code 9 = .ok (.iconst 0, 1) := by decide +kernel
theorem e_M_over_10 : decode prog_14_method_82_code 10 = .ok (.iload_n 1, 1) := by decide +kernel
theorem e_M_over_11 : decode prog_14_method_82_code 11 = .ok (.iastore, 1) := by decide +kernel
theorem e_M_over_12 : decode prog_14_method_82_code 12 = .ok (.return_, 1) := by decide +kernel
def w_M_over (x1 : Int32) (σ : MST) (P : MST → Prop) : Prop := ∀ σ1 : MST, σ1 = setI σ 69 0 → ∀ σ2 : MST, σ2 = setA σ1 56 (upd (σ1.2.1 56) (0 : Int32).toNatClampNeg x1) → P σ2
set_option maxHeartbeats 4000000 in
set_option maxRecDepth 100000 in
theorem K_M_over (l : Launch) (dC : Nat → ClassId) (dI : Nat → Nat → Nat) (mo : Nat) (rf : Nat → Nat) (ca : Nat → ClassId) (sz : Nat) (σ : MST) (x1 : Int32) {P : MST → Prop} (hw : w_M_over x1 σ P) : Met l z_M_over (mW z_M_over prog_14_method_82_code 2 none) ({ frames := 0, cells := 0, slots := 0, locals := 0 } : Room) (va_Pc [.ref mo, .int x1] (MPre (dC, dI) mo rf ca σ sz)) (va_Qv P (MB (dC, dI) mo rf ca sz) (mA mo rf sz)) 0 0 (mA mo rf sz) := by
  refine M_ofv (by decide) rfl (Nat.le_of_ble_eq_true rfl) ?_
  intro p e s m below meth cx Q A ls C hA hend h hl
  have C0 := C
  obtain ⟨⟨hx, hb, hml, hown, hts⟩, hsub⟩ := C0
  have hl : lv_has ls 2 [(0, .ref mo), (1, .int x1)] := hl
  unfold w_M_over at hw
  refine lv_aload_n hx hb e_M_over_0 rfl (lv_at hl 0 rfl) ?_
  refine lv_iconst (v := 0) hx hb e_M_over_1 (by decide) ?_
  refine M_putz C h 69 (by decide) rfl rfl (by decide +kernel) rfl rfl v_311 e_M_over_2 (fun H locs h => ?_)
  obtain ⟨σ1, e_σ1⟩ : ∃ z : MST, z = setI σ 69 0 := ⟨_, rfl⟩
  rw [← e_σ1] at h
  replace hw := hw σ1 e_σ1
  refine lv_aload_n hx hb e_M_over_5 rfl (lv_at hl 0 rfl) ?_
  refine M_get C h 56 (v := .ref (rf 56)) rfl (by decide) v_312 e_M_over_6 ?_
  refine lv_iconst (v := 0) hx hb e_M_over_9 (by decide) ?_
  refine lv_iload_n hx hb e_M_over_10 rfl (lv_at hl 1 rfl) ?_
  refine M_ast C h 56 (by decide) rfl (vp_in_iff.mpr (by decide)) e_M_over_11 (fun H locs h => ?_)
  obtain ⟨σ2, e_σ2⟩ : ∃ z : MST, z = setA σ1 56 (upd (σ1.2.1 56) (0 : Int32).toNatClampNeg x1) := ⟨_, rfl⟩
  rw [← e_σ2] at h
  replace hw := hw σ2 e_σ2
  exact hend σ2 _ _ _ _ hw h e_M_over_12
abbrev z_M_zero : MethodName := ⟨"MapFramerModel", "zero", "(I)J"⟩
theorem v_313 : (Cond.constantLong "MapFramerModel" 433 (-1) : Cond) ∈ bigW := inB_10 109 (by decide +kernel) rfl
theorem e_M_zero_0 : decode prog_14_method_84_code 0 = .ok (.iload_n 0, 1) := by decide +kernel
theorem e_M_zero_1 : decode prog_14_method_84_code 1 = .ok (.iconst 1, 1) := by decide +kernel
theorem e_M_zero_2 : decode prog_14_method_84_code 2 = .ok (.if_icmp .eq 12, 3) := by decide +kernel
theorem e_M_zero_5 : decode prog_14_method_84_code 5 = .ok (.iload_n 0, 1) := by decide +kernel
theorem e_M_zero_6 : decode prog_14_method_84_code 6 = .ok (.iconst 2, 1) := by decide +kernel
theorem e_M_zero_7 : decode prog_14_method_84_code 7 = .ok (.if_icmp .eq 7, 3) := by decide +kernel
theorem e_M_zero_10 : decode prog_14_method_84_code 10 = .ok (.iload_n 0, 1) := by decide +kernel
theorem e_M_zero_11 : decode prog_14_method_84_code 11 = .ok (.ifCond .ne 7, 3) := by decide +kernel
theorem e_M_zero_14 : decode prog_14_method_84_code 14 = .ok (.lconst 0, 1) := by decide +kernel
theorem e_M_zero_15 : decode prog_14_method_84_code 15 = .ok (.goto 6, 3) := by decide +kernel
theorem e_M_zero_18 : decode prog_14_method_84_code 18 = .ok (.ldc2_w 433, 3) := by decide +kernel
theorem e_M_zero_21 : decode prog_14_method_84_code 21 = .ok (.lreturn, 1) := by decide +kernel
def w_M_zero_14 (P : Int64 → MST → Prop) (σ : MST) : Prop := P 0 σ
def w_M_zero (x0 : Int32) (σ : MST) (P : Int64 → MST → Prop) : Prop := ((x0 = 1 → w_M_zero_14 P σ) ∧ (¬ x0 = 1 → ((x0 = 2 → w_M_zero_14 P σ) ∧ (¬ x0 = 2 → ((x0 = 0 → w_M_zero_14 P σ) ∧ (¬ x0 = 0 → P (-1) σ))))))
set_option maxHeartbeats 4000000 in
set_option maxRecDepth 100000 in
theorem K_M_zero (l : Launch) (dC : Nat → ClassId) (dI : Nat → Nat → Nat) (mo : Nat) (rf : Nat → Nat) (ca : Nat → ClassId) (sz : Nat) (σ : MST) (x0 : Int32) {P : Int64 → MST → Prop} (hw : w_M_zero x0 σ P) : Met l z_M_zero (mW z_M_zero prog_14_method_84_code 1 (some .long)) ({ frames := 0, cells := 0, slots := 0, locals := 0 } : Room) (va_Pc [.int x0] (MPre (dC, dI) mo rf ca σ sz)) (va_Ql P (MB (dC, dI) mo rf ca sz) (mA mo rf sz)) 0 0 (mA mo rf sz) := by
  refine M_ofl (by decide) rfl (Nat.le_of_ble_eq_true rfl) ?_
  intro p e s m below meth cx Q A ls C hA hend h hl
  have C0 := C
  obtain ⟨⟨hx, hb, hml, hown, hts⟩, hsub⟩ := C0
  have K_14 : ∀ (u9 : Unit), ∀ (σ : MST) (H : Heap) (locs : List Loc) (ls : Array Slot), w_M_zero_14 P σ → MH (dC, dI) A mo rf ca σ s H locs → lv_has ls 1 [] → W p l e ({ frames := 0, cells := 0, slots := 0, locals := 0 } : Room) s m ([.int x0] : List Value).toArray below meth cx H locs 0 0 Q (F0 m 14 ls []) := by
    intro u9  σ H locs ls hw h hl
    unfold w_M_zero_14 at hw
    refine lv_lconst (v := 0) hx hb e_M_zero_14 (by decide) ?_
    refine lv_goto (tgt := 21) hx hb e_M_zero_15 (by decide) ?_
    exact hend 0 σ _ _ _ _ hw h e_M_zero_21
  have hl : lv_has ls 1 [(0, .int x0)] := hl
  unfold w_M_zero at hw
  refine lv_iload_n hx hb e_M_zero_0 rfl (lv_at hl 0 rfl) ?_
  refine lv_iconst (v := 1) hx hb e_M_zero_1 (by decide) ?_
  refine lv_icmp_eq (tgt := 14) hx hb e_M_zero_2 (by decide) (fun c1 => ?_) (fun c1 => ?_)
  · skip
    replace hw := hw.1 c1
    exact K_14 () σ _ _ _ hw h (lv_sub hl [] rfl)
  · skip
    replace hw := hw.2 c1
    refine lv_iload_n hx hb e_M_zero_5 rfl (lv_at hl 0 rfl) ?_
    refine lv_iconst (v := 2) hx hb e_M_zero_6 (by decide) ?_
    refine lv_icmp_eq (tgt := 14) hx hb e_M_zero_7 (by decide) (fun c2 => ?_) (fun c2 => ?_)
    · skip
      replace hw := hw.1 c2
      exact K_14 () σ _ _ _ hw h (lv_sub hl [] rfl)
    · skip
      replace hw := hw.2 c2
      refine lv_iload_n hx hb e_M_zero_10 rfl (lv_at hl 0 rfl) ?_
      refine lv_if_ne (tgt := 18) hx hb e_M_zero_11 (by decide) (fun c3 => ?_) (fun c3 => ?_)
      · skip
        replace hw := hw.2 c3
        refine lv_ldc2 (v := (-1)) hx hb hown (hts _ (hsub _ v_313)) e_M_zero_18 ?_
        exact hend (-1) σ _ _ _ _ hw h e_M_zero_21
      · skip
        replace hw := hw.1 c3
        exact K_14 () σ _ _ _ hw h (lv_sub hl [] rfl)
abbrev z_M_thing : MethodName := ⟨"MapFramerModel", "thing", "(II)I"⟩
theorem v_314 : (Cond.fieldLink "MapFramerModel" 427 "MapFramerModel" "things" "I" : Cond) ∈ bigW := inB_8 118 (by decide +kernel) rfl
theorem v_315 : (Cond.fieldLink "MapFramerModel" 151 "MapFramerModel" "slots" "[J" : Cond) ∈ bigW := inB_8 122 (by decide +kernel) rfl
theorem v_316 : (Cond.methodLink "MapFramerModel" 435 ⟨"MapFramerModel", "zero", "(I)J"⟩ : Cond) ∈ bigW := inB_10 106 (by decide +kernel) rfl
theorem v_317 : (Cond.static ⟨"MapFramerModel", "zero", "(I)J"⟩ : Cond) ∈ bigW := inB_10 107 (by decide +kernel) rfl
theorem v_318 : (Cond.code ⟨"MapFramerModel", "zero", "(I)J"⟩ prog_14_method_84_code 1 (some .long) : Cond) ∈ bigW := inB_10 108 rfl rfl
theorem v_319 : (Cond.fieldLink "MapFramerModel" 148 "MapFramerModel" "elements" "[J" : Cond) ∈ bigW := inB_8 121 (by decide +kernel) rfl
theorem v_320 : (Cond.fieldLink "MapFramerModel" 142 "MapFramerModel" "thingType" "[I" : Cond) ∈ bigW := inB_8 119 (by decide +kernel) rfl
theorem v_321 : (Cond.fieldLink "MapFramerModel" 145 "MapFramerModel" "thingSize" "[I" : Cond) ∈ bigW := inB_8 120 (by decide +kernel) rfl
theorem v_322 : (Cond.methodLink "MapFramerModel" 430 ⟨"MapFramerModel", "over", "(I)V"⟩ : Cond) ∈ bigW := inB_10 138 (by decide +kernel) rfl
theorem v_323 : (Cond.instanceMethod ⟨"MapFramerModel", "over", "(I)V"⟩ : Cond) ∈ bigW := inB_10 140 (by decide +kernel) rfl
theorem v_324 : (Cond.selects "MapFramerModel" ⟨"MapFramerModel", "over", "(I)V"⟩ ⟨"MapFramerModel", "over", "(I)V"⟩ : Cond) ∈ bigW := inS (y := ⟨"MapFramerModel", "over", "(I)V"⟩) (n := 71) (List.mem_of_getElem? (i := 143) (by decide +kernel))
theorem v_325 : (Cond.code ⟨"MapFramerModel", "over", "(I)V"⟩ prog_14_method_82_code 2 none : Cond) ∈ bigW := inB_10 141 rfl rfl
theorem e_M_thing_0 : decode prog_14_method_83_code 0 = .ok (.aload_n 0, 1) := by decide +kernel
theorem e_M_thing_1 : decode prog_14_method_83_code 1 = .ok (.getfield 427, 3) := by decide +kernel
theorem e_M_thing_4 : decode prog_14_method_83_code 4 = .ok (.sipush 150, 3) := by decide +kernel
theorem e_M_thing_7 : decode prog_14_method_83_code 7 = .ok (.if_icmp .ne 10, 3) := by decide +kernel
theorem e_M_thing_10 : decode prog_14_method_83_code 10 = .ok (.aload_n 0, 1) := by decide +kernel
theorem e_M_thing_11 : decode prog_14_method_83_code 11 = .ok (.iconst 4, 1) := by decide +kernel
theorem e_M_thing_12 : decode prog_14_method_83_code 12 = .ok (.invokevirtual 430, 3) := by decide +kernel
theorem e_M_thing_15 : decode prog_14_method_83_code 15 = .ok (.iconst (-1), 1) := by decide +kernel
theorem e_M_thing_16 : decode prog_14_method_83_code 16 = .ok (.ireturn, 1) := by decide +kernel
theorem e_M_thing_17 : decode prog_14_method_83_code 17 = .ok (.aload_n 0, 1) := by decide +kernel
theorem e_M_thing_18 : decode prog_14_method_83_code 18 = .ok (.getfield 142, 3) := by decide +kernel
theorem e_M_thing_21 : decode prog_14_method_83_code 21 = .ok (.aload_n 0, 1) := by decide +kernel
theorem e_M_thing_22 : decode prog_14_method_83_code 22 = .ok (.getfield 427, 3) := by decide +kernel
theorem e_M_thing_25 : decode prog_14_method_83_code 25 = .ok (.iload_n 1, 1) := by decide +kernel
theorem e_M_thing_26 : decode prog_14_method_83_code 26 = .ok (.iastore, 1) := by decide +kernel
theorem e_M_thing_27 : decode prog_14_method_83_code 27 = .ok (.aload_n 0, 1) := by decide +kernel
theorem e_M_thing_28 : decode prog_14_method_83_code 28 = .ok (.getfield 145, 3) := by decide +kernel
theorem e_M_thing_31 : decode prog_14_method_83_code 31 = .ok (.aload_n 0, 1) := by decide +kernel
theorem e_M_thing_32 : decode prog_14_method_83_code 32 = .ok (.getfield 427, 3) := by decide +kernel
theorem e_M_thing_35 : decode prog_14_method_83_code 35 = .ok (.iload_n 2, 1) := by decide +kernel
theorem e_M_thing_36 : decode prog_14_method_83_code 36 = .ok (.iastore, 1) := by decide +kernel
theorem e_M_thing_37 : decode prog_14_method_83_code 37 = .ok (.iconst 0, 1) := by decide +kernel
theorem e_M_thing_38 : decode prog_14_method_83_code 38 = .ok (.istore_n 3, 1) := by decide +kernel
theorem e_M_thing_39 : decode prog_14_method_83_code 39 = .ok (.iload_n 3, 1) := by decide +kernel
theorem e_M_thing_40 : decode prog_14_method_83_code 40 = .ok (.bipush 24, 2) := by decide +kernel
theorem e_M_thing_42 : decode prog_14_method_83_code 42 = .ok (.if_icmp .ge 40, 3) := by decide +kernel
theorem e_M_thing_45 : decode prog_14_method_83_code 45 = .ok (.aload_n 0, 1) := by decide +kernel
theorem e_M_thing_46 : decode prog_14_method_83_code 46 = .ok (.getfield 148, 3) := by decide +kernel
theorem e_M_thing_49 : decode prog_14_method_83_code 49 = .ok (.bipush 24, 2) := by decide +kernel
theorem e_M_thing_51 : decode prog_14_method_83_code 51 = .ok (.aload_n 0, 1) := by decide +kernel
theorem e_M_thing_52 : decode prog_14_method_83_code 52 = .ok (.getfield 427, 3) := by decide +kernel
theorem e_M_thing_55 : decode prog_14_method_83_code 55 = .ok (.imul, 1) := by decide +kernel
theorem e_M_thing_56 : decode prog_14_method_83_code 56 = .ok (.iload_n 3, 1) := by decide +kernel
theorem e_M_thing_57 : decode prog_14_method_83_code 57 = .ok (.iadd, 1) := by decide +kernel
theorem e_M_thing_58 : decode prog_14_method_83_code 58 = .ok (.iload_n 1, 1) := by decide +kernel
theorem e_M_thing_59 : decode prog_14_method_83_code 59 = .ok (.iconst 3, 1) := by decide +kernel
theorem e_M_thing_60 : decode prog_14_method_83_code 60 = .ok (.if_icmp .eq 8, 3) := by decide +kernel
theorem e_M_thing_63 : decode prog_14_method_83_code 63 = .ok (.iload_n 1, 1) := by decide +kernel
theorem e_M_thing_64 : decode prog_14_method_83_code 64 = .ok (.iconst 4, 1) := by decide +kernel
theorem e_M_thing_65 : decode prog_14_method_83_code 65 = .ok (.if_icmp .ne 7, 3) := by decide +kernel
theorem e_M_thing_68 : decode prog_14_method_83_code 68 = .ok (.lconst 0, 1) := by decide +kernel
theorem e_M_thing_69 : decode prog_14_method_83_code 69 = .ok (.goto 6, 3) := by decide +kernel
theorem e_M_thing_72 : decode prog_14_method_83_code 72 = .ok (.ldc2_w 433, 3) := by decide +kernel
theorem e_M_thing_75 : decode prog_14_method_83_code 75 = .ok (.lastore, 1) := by decide +kernel
theorem e_M_thing_76 : decode prog_14_method_83_code 76 = .ok (.iinc 3 1, 3) := by decide +kernel
theorem e_M_thing_79 : decode prog_14_method_83_code 79 = .ok (.goto (-40), 3) := by decide +kernel
theorem e_M_thing_82 : decode prog_14_method_83_code 82 = .ok (.iconst 0, 1) := by decide +kernel
theorem e_M_thing_83 : decode prog_14_method_83_code 83 = .ok (.istore_n 3, 1) := by decide +kernel
theorem e_M_thing_84 : decode prog_14_method_83_code 84 = .ok (.iload_n 3, 1) := by decide +kernel
theorem e_M_thing_85 : decode prog_14_method_83_code 85 = .ok (.bipush 16, 2) := by decide +kernel
theorem e_M_thing_87 : decode prog_14_method_83_code 87 = .ok (.if_icmp .ge 32, 3) := by decide +kernel
theorem e_M_thing_90 : decode prog_14_method_83_code 90 = .ok (.aload_n 0, 1) := by decide +kernel
theorem e_M_thing_91 : decode prog_14_method_83_code 91 = .ok (.getfield 151, 3) := by decide +kernel
theorem e_M_thing_94 : decode prog_14_method_83_code 94 = .ok (.bipush 16, 2) := by decide +kernel
theorem e_M_thing_96 : decode prog_14_method_83_code 96 = .ok (.aload_n 0, 1) := by decide +kernel
theorem e_M_thing_97 : decode prog_14_method_83_code 97 = .ok (.getfield 427, 3) := by decide +kernel
theorem e_M_thing_100 : decode prog_14_method_83_code 100 = .ok (.imul, 1) := by decide +kernel
theorem e_M_thing_101 : decode prog_14_method_83_code 101 = .ok (.iload_n 3, 1) := by decide +kernel
theorem e_M_thing_102 : decode prog_14_method_83_code 102 = .ok (.iadd, 1) := by decide +kernel
theorem e_M_thing_103 : decode prog_14_method_83_code 103 = .ok (.aload_n 0, 1) := by decide +kernel
theorem e_M_thing_104 : decode prog_14_method_83_code 104 = .ok (.getfield 24, 3) := by decide +kernel
theorem e_M_thing_107 : decode prog_14_method_83_code 107 = .ok (.iload_n 3, 1) := by decide +kernel
theorem e_M_thing_108 : decode prog_14_method_83_code 108 = .ok (.iaload, 1) := by decide +kernel
theorem e_M_thing_109 : decode prog_14_method_83_code 109 = .ok (.invokestatic 435, 3) := by decide +kernel
theorem e_M_thing_112 : decode prog_14_method_83_code 112 = .ok (.lastore, 1) := by decide +kernel
theorem e_M_thing_113 : decode prog_14_method_83_code 113 = .ok (.iinc 3 1, 3) := by decide +kernel
theorem e_M_thing_116 : decode prog_14_method_83_code 116 = .ok (.goto (-32), 3) := by decide +kernel
theorem e_M_thing_119 : decode prog_14_method_83_code 119 = .ok (.aload_n 0, 1) := by decide +kernel
theorem e_M_thing_120 : decode prog_14_method_83_code 120 = .ok (.dup, 1) := by decide +kernel
theorem e_M_thing_121 : decode prog_14_method_83_code 121 = .ok (.getfield 427, 3) := by decide +kernel
theorem e_M_thing_124 : decode prog_14_method_83_code 124 = .ok (.iconst 1, 1) := by decide +kernel
theorem e_M_thing_125 : decode prog_14_method_83_code 125 = .ok (.iadd, 1) := by decide +kernel
theorem e_M_thing_126 : decode prog_14_method_83_code 126 = .ok (.putfield 427, 3) := by decide +kernel
theorem e_M_thing_129 : decode prog_14_method_83_code 129 = .ok (.aload_n 0, 1) := by decide +kernel
theorem e_M_thing_130 : decode prog_14_method_83_code 130 = .ok (.getfield 427, 3) := by decide +kernel
theorem e_M_thing_133 : decode prog_14_method_83_code 133 = .ok (.iconst 1, 1) := by decide +kernel
theorem e_M_thing_134 : decode prog_14_method_83_code 134 = .ok (.isub, 1) := by decide +kernel
theorem e_M_thing_135 : decode prog_14_method_83_code 135 = .ok (.ireturn, 1) := by decide +kernel
def w_M_thing_75 (K39 : Int32 → Int32 → MST → Prop) (P : Int32 → MST → Prop) (z1 : Int32) (z3 : Int32) (s0 : Int64) (s1 : Int32) (σ : MST) : Prop := vp_in s1 3600 ∧ (∀ σ1 : MST, σ1 = setL σ 61 (vp_updL (σ.2.2.1 61) (s1 : Int32).toNatClampNeg s0) → K39 z1 (z3 + 1) σ1)
def w_M_thing_68 (K39 : Int32 → Int32 → MST → Prop) (P : Int32 → MST → Prop) (z1 : Int32) (z3 : Int32) (s0 : Int32) (σ : MST) : Prop := w_M_thing_75 K39 P z1 z3 0 s0 σ
def w_M_thing_84 (P : Int32 → MST → Prop) : Nat → Int32 → MST → Prop
  | 0, _, _ => False
  | n + 1, z3, σ => ((16 ≤ z3 → ∀ σ3 : MST, σ3 = setI σ 58 ((σ.1 58) + 1) → P ((σ3.1 58) - 1) σ3) ∧ (¬ 16 ≤ z3 → vp_in z3 16 ∧ (∀ a4 : Int32, a4 = (σ.2.1 6 (z3 : Int32).toNatClampNeg) → w_M_zero a4 σ (fun r6 σ5 => vp_in (((16 : Int32) * (σ.1 58)) + z3) 2400 ∧ (∀ σ7 : MST, σ7 = setL σ5 62 (vp_updL (σ5.2.2.1 62) ((((16 : Int32) * (σ.1 58)) + z3) : Int32).toNatClampNeg r6) → w_M_thing_84 P n (z3 + 1) σ7)))))
def w_M_thing_39 (P : Int32 → MST → Prop) : Nat → Int32 → Int32 → MST → Prop
  | 0, _, _, _ => False
  | n + 1, z1, z3, σ => ((24 ≤ z3 → (∃ n9 : Nat, w_M_thing_84 P n9 0 σ)) ∧ (¬ 24 ≤ z3 → ((z1 = 3 → w_M_thing_68 (w_M_thing_39 P n) P z1 z3 (((24 : Int32) * (σ.1 58)) + z3) σ) ∧ (¬ z1 = 3 → ((z1 = 4 → w_M_thing_68 (w_M_thing_39 P n) P z1 z3 (((24 : Int32) * (σ.1 58)) + z3) σ) ∧ (¬ z1 = 4 → w_M_thing_75 (w_M_thing_39 P n) P z1 z3 (-1) (((24 : Int32) * (σ.1 58)) + z3) σ))))))
def w_M_thing (x1 : Int32) (x2 : Int32) (σ : MST) (P : Int32 → MST → Prop) : Prop := (((σ.1 58) = 150 → w_M_over (4 : Int32) σ (fun σ14 => P ((-1) : Int32) σ14)) ∧ (¬ (σ.1 58) = 150 → vp_in (σ.1 58) 150 ∧ (∀ σ12 : MST, σ12 = setA σ 59 (upd (σ.2.1 59) ((σ.1 58) : Int32).toNatClampNeg x1) → vp_in (σ12.1 58) 150 ∧ (∀ σ13 : MST, σ13 = setA σ12 60 (upd (σ12.2.1 60) ((σ12.1 58) : Int32).toNatClampNeg x2) → (∃ n9 : Nat, w_M_thing_39 P n9 x1 0 σ13)))))
set_option maxHeartbeats 4000000 in
set_option maxRecDepth 100000 in
theorem K_M_thing (l : Launch) (dC : Nat → ClassId) (dI : Nat → Nat → Nat) (mo : Nat) (rf : Nat → Nat) (ca : Nat → ClassId) (sz : Nat) (σ : MST) (x1 : Int32) (x2 : Int32) {P : Int32 → MST → Prop} (hw : w_M_thing x1 x2 σ P) : Met l z_M_thing (mW z_M_thing prog_14_method_83_code 4 (some .int)) ({ frames := 1, cells := 0, slots := 0, locals := 21 } : Room) (va_Pc [.ref mo, .int x1, .int x2] (MPre (dC, dI) mo rf ca σ sz)) (va_Qi P (MB (dC, dI) mo rf ca sz) (mA mo rf sz)) 0 0 (mA mo rf sz) := by
  refine M_ofi (by decide) rfl (Nat.le_of_ble_eq_true rfl) ?_
  intro p e s m below meth cx Q A ls C hA hend h hl
  have C0 := C
  obtain ⟨⟨hx, hb, hml, hown, hts⟩, hsub⟩ := C0
  have K_75 : ∀ (K39 : Int32 → Int32 → MST → Prop) (hK39 : ∀ (z1 : Int32) (z3 : Int32) (σ : MST) (H : Heap) (locs : List Loc) (ls : Array Slot), K39 z1 z3 σ → MH (dC, dI) A mo rf ca σ s H locs → lv_has ls 4 [(0, .ref mo), (1, .int z1), (3, .int z3)] → W p l e ({ frames := 1, cells := 0, slots := 0, locals := 21 } : Room) s m ([.ref mo, .int x1, .int x2] : List Value).toArray below meth cx H locs 0 0 Q (F0 m 39 ls [])), ∀ (z1 : Int32) (z3 : Int32) (s0 : Int64) (s1 : Int32) (σ : MST) (H : Heap) (locs : List Loc) (ls : Array Slot), w_M_thing_75 K39 P z1 z3 s0 s1 σ → MH (dC, dI) A mo rf ca σ s H locs → lv_has ls 4 [(0, .ref mo), (1, .int z1), (3, .int z3)] → W p l e ({ frames := 1, cells := 0, slots := 0, locals := 21 } : Room) s m ([.ref mo, .int x1, .int x2] : List Value).toArray below meth cx H locs 0 0 Q (F0 m 75 ls [.long s0, .int s1, .ref (rf 61)]) := by
    intro K39 hK39 z1 z3 s0 s1 σ H locs ls hw h hl
    unfold w_M_thing_75 at hw
    refine M_last C h 61 (by decide) rfl hw.1 e_M_thing_75 (fun H locs h => ?_)
    replace hw := hw.2
    obtain ⟨σ1, e_σ1⟩ : ∃ z : MST, z = setL σ 61 (vp_updL (σ.2.2.1 61) (s1 : Int32).toNatClampNeg s0) := ⟨_, rfl⟩
    rw [← e_σ1] at h
    replace hw := hw σ1 e_σ1
    refine lv_iinc (v := (z3 + 1)) (lv' := [(3, .int (z3 + 1)), (0, .ref mo), (1, .int z1)]) hx hb e_M_thing_76 hl (k := 2) rfl (rfl) (by decide) rfl (fun ls hl => ?_)
    refine lv_goto (tgt := 39) hx hb e_M_thing_79 (by decide) ?_
    exact hK39 z1 (z3 + 1) σ1 _ _ _ hw h (lv_sub hl [1, 2, 0] rfl)
  have K_68 : ∀ (K39 : Int32 → Int32 → MST → Prop) (hK39 : ∀ (z1 : Int32) (z3 : Int32) (σ : MST) (H : Heap) (locs : List Loc) (ls : Array Slot), K39 z1 z3 σ → MH (dC, dI) A mo rf ca σ s H locs → lv_has ls 4 [(0, .ref mo), (1, .int z1), (3, .int z3)] → W p l e ({ frames := 1, cells := 0, slots := 0, locals := 21 } : Room) s m ([.ref mo, .int x1, .int x2] : List Value).toArray below meth cx H locs 0 0 Q (F0 m 39 ls [])), ∀ (z1 : Int32) (z3 : Int32) (s0 : Int32) (σ : MST) (H : Heap) (locs : List Loc) (ls : Array Slot), w_M_thing_68 K39 P z1 z3 s0 σ → MH (dC, dI) A mo rf ca σ s H locs → lv_has ls 4 [(0, .ref mo), (1, .int z1), (3, .int z3)] → W p l e ({ frames := 1, cells := 0, slots := 0, locals := 21 } : Room) s m ([.ref mo, .int x1, .int x2] : List Value).toArray below meth cx H locs 0 0 Q (F0 m 68 ls [.int s0, .ref (rf 61)]) := by
    intro K39 hK39 z1 z3 s0 σ H locs ls hw h hl
    unfold w_M_thing_68 at hw
    refine lv_lconst (v := 0) hx hb e_M_thing_68 (by decide) ?_
    refine lv_goto (tgt := 75) hx hb e_M_thing_69 (by decide) ?_
    exact K_75 _ hK39 z1 z3 0 s0 σ _ _ _ hw h (lv_sub hl [0, 1, 2] rfl)
  have K_84 : ∀ (n : Nat), ∀ (z3 : Int32) (σ : MST) (H : Heap) (locs : List Loc) (ls : Array Slot), w_M_thing_84 P n z3 σ → MH (dC, dI) A mo rf ca σ s H locs → lv_has ls 4 [(0, .ref mo), (3, .int z3)] → W p l e ({ frames := 1, cells := 0, slots := 0, locals := 21 } : Room) s m ([.ref mo, .int x1, .int x2] : List Value).toArray below meth cx H locs 0 0 Q (F0 m 84 ls []) := by
    intro  n
    induction n with
    | zero => intro z3 σ H locs ls hw h hl; unfold w_M_thing_84 at hw; exact hw.elim
    | succ n ih =>
      intro z3 σ H locs ls hw h hl
      unfold w_M_thing_84 at hw
      refine lv_iload_n hx hb e_M_thing_84 rfl (lv_at hl 1 rfl) ?_
      refine lv_bipush (v := 16) hx hb e_M_thing_85 (by decide) ?_
      refine lv_icmp_ge (tgt := 119) hx hb e_M_thing_87 (by decide) (fun c2 => ?_) (fun c2 => ?_)
      · skip
        replace hw := hw.1 c2
        refine lv_aload_n hx hb e_M_thing_119 rfl (lv_at hl 0 rfl) ?_
        refine lv_dup hx hb e_M_thing_120 rfl ?_
        refine M_get C h 58 (v := .int (σ.1 58)) rfl (by decide) v_314 e_M_thing_121 ?_
        refine lv_iconst (v := 1) hx hb e_M_thing_124 (by decide) ?_
        refine lv_iadd hx hb e_M_thing_125 ?_
        refine M_puti C h 58 (by decide) rfl rfl (by decide +kernel) v_314 e_M_thing_126 (fun H locs h => ?_)
        obtain ⟨σ3, e_σ3⟩ : ∃ z : MST, z = setI σ 58 ((σ.1 58) + 1) := ⟨_, rfl⟩
        rw [← e_σ3] at h
        replace hw := hw σ3 e_σ3
        refine lv_aload_n hx hb e_M_thing_129 rfl (lv_at hl 0 rfl) ?_
        refine M_get C h 58 (v := .int (σ3.1 58)) rfl (by decide) v_314 e_M_thing_130 ?_
        refine lv_iconst (v := 1) hx hb e_M_thing_133 (by decide) ?_
        refine lv_isub hx hb e_M_thing_134 ?_
        exact hend ((σ3.1 58) - 1) σ3 _ _ _ _ hw h e_M_thing_135
      · skip
        replace hw := hw.2 c2
        refine lv_aload_n hx hb e_M_thing_90 rfl (lv_at hl 0 rfl) ?_
        refine M_get C h 62 (v := .ref (rf 62)) rfl (by decide) v_315 e_M_thing_91 ?_
        refine lv_bipush (v := 16) hx hb e_M_thing_94 (by decide) ?_
        refine lv_aload_n hx hb e_M_thing_96 rfl (lv_at hl 0 rfl) ?_
        refine M_get C h 58 (v := .int (σ.1 58)) rfl (by decide) v_314 e_M_thing_97 ?_
        refine lv_imul hx hb e_M_thing_100 ?_
        refine lv_iload_n hx hb e_M_thing_101 rfl (lv_at hl 1 rfl) ?_
        refine lv_iadd hx hb e_M_thing_102 ?_
        refine lv_aload_n hx hb e_M_thing_103 rfl (lv_at hl 0 rfl) ?_
        refine M_get C h 6 (v := .ref (rf 6)) rfl (by decide) v_36 e_M_thing_104 ?_
        refine lv_iload_n hx hb e_M_thing_107 rfl (lv_at hl 1 rfl) ?_
        refine M_ald C h 6 (by decide) rfl hw.1 e_M_thing_108 ?_
        replace hw := hw.2
        refine lv_topi (fun a4 e_a4 => ?_)
        replace hw := hw a4 e_a4
        refine M_scalll (As := [.int a4]) (rest := [.int (((16 : Int32) * (σ.1 58)) + z3), .ref (rf 62)]) C h hA (K_M_zero l dC dI mo rf ca H.size σ a4 hw) (va_cwS 1 hts (gS hsub v_316 v_317 v_7 v_318) rfl rfl rfl (by decide +kernel) ⟨(Nat.le_of_ble_eq_true rfl), (Nat.le_of_ble_eq_true rfl)⟩) rfl hl.1 (Nat.le_of_ble_eq_true rfl) e_M_thing_109 ⟨(Nat.le_of_ble_eq_true rfl), (Nat.le_of_ble_eq_true rfl)⟩ (fun r6 σ5 H locs hw h => ?_)
        refine W.eq (g2 := F0 m 112 ls [.long r6, .int (((16 : Int32) * (σ.1 58)) + z3), .ref (rf 62)]) rfl ?_
        refine M_last C h 62 (by decide) rfl hw.1 e_M_thing_112 (fun H locs h => ?_)
        replace hw := hw.2
        obtain ⟨σ7, e_σ7⟩ : ∃ z : MST, z = setL σ5 62 (vp_updL (σ5.2.2.1 62) ((((16 : Int32) * (σ.1 58)) + z3) : Int32).toNatClampNeg r6) := ⟨_, rfl⟩
        rw [← e_σ7] at h
        replace hw := hw σ7 e_σ7
        refine lv_iinc (v := (z3 + 1)) (lv' := [(3, .int (z3 + 1)), (0, .ref mo)]) hx hb e_M_thing_113 hl (k := 1) rfl (rfl) (by decide) rfl (fun ls hl => ?_)
        refine lv_goto (tgt := 84) hx hb e_M_thing_116 (by decide) ?_
        exact ih (z3 + 1) σ7 _ _ _ hw h (lv_sub hl [1, 0] rfl)
  have K_39 : ∀ (n : Nat), ∀ (z1 : Int32) (z3 : Int32) (σ : MST) (H : Heap) (locs : List Loc) (ls : Array Slot), w_M_thing_39 P n z1 z3 σ → MH (dC, dI) A mo rf ca σ s H locs → lv_has ls 4 [(0, .ref mo), (1, .int z1), (3, .int z3)] → W p l e ({ frames := 1, cells := 0, slots := 0, locals := 21 } : Room) s m ([.ref mo, .int x1, .int x2] : List Value).toArray below meth cx H locs 0 0 Q (F0 m 39 ls []) := by
    intro  n
    induction n with
    | zero => intro z1 z3 σ H locs ls hw h hl; unfold w_M_thing_39 at hw; exact hw.elim
    | succ n ih =>
      intro z1 z3 σ H locs ls hw h hl
      unfold w_M_thing_39 at hw
      refine lv_iload_n hx hb e_M_thing_39 rfl (lv_at hl 2 rfl) ?_
      refine lv_bipush (v := 24) hx hb e_M_thing_40 (by decide) ?_
      refine lv_icmp_ge (tgt := 82) hx hb e_M_thing_42 (by decide) (fun c8 => ?_) (fun c8 => ?_)
      · skip
        replace hw := hw.1 c8
        refine lv_iconst (v := 0) hx hb e_M_thing_82 (by decide) ?_
        refine lv_istore_n (lv' := [(3, .int 0), (0, .ref mo), (1, .int z1)]) hx hb e_M_thing_83 rfl hl (by decide) rfl (fun ls hl => ?_)
        obtain ⟨n9, hw⟩ := hw
        exact K_84 n9 0 σ _ _ _ hw h (lv_sub hl [1, 0] rfl)
      · skip
        replace hw := hw.2 c8
        refine lv_aload_n hx hb e_M_thing_45 rfl (lv_at hl 0 rfl) ?_
        refine M_get C h 61 (v := .ref (rf 61)) rfl (by decide) v_319 e_M_thing_46 ?_
        refine lv_bipush (v := 24) hx hb e_M_thing_49 (by decide) ?_
        refine lv_aload_n hx hb e_M_thing_51 rfl (lv_at hl 0 rfl) ?_
        refine M_get C h 58 (v := .int (σ.1 58)) rfl (by decide) v_314 e_M_thing_52 ?_
        refine lv_imul hx hb e_M_thing_55 ?_
        refine lv_iload_n hx hb e_M_thing_56 rfl (lv_at hl 2 rfl) ?_
        refine lv_iadd hx hb e_M_thing_57 ?_
        refine lv_iload_n hx hb e_M_thing_58 rfl (lv_at hl 1 rfl) ?_
        refine lv_iconst (v := 3) hx hb e_M_thing_59 (by decide) ?_
        refine lv_icmp_eq (tgt := 68) hx hb e_M_thing_60 (by decide) (fun c9 => ?_) (fun c9 => ?_)
        · skip
          replace hw := hw.1 c9
          exact K_68 _ ih z1 z3 (((24 : Int32) * (σ.1 58)) + z3) σ _ _ _ hw h (lv_sub hl [0, 1, 2] rfl)
        · skip
          replace hw := hw.2 c9
          refine lv_iload_n hx hb e_M_thing_63 rfl (lv_at hl 1 rfl) ?_
          refine lv_iconst (v := 4) hx hb e_M_thing_64 (by decide) ?_
          refine lv_icmp_ne (tgt := 72) hx hb e_M_thing_65 (by decide) (fun c10 => ?_) (fun c10 => ?_)
          · skip
            replace hw := hw.2 c10
            refine lv_ldc2 (v := (-1)) hx hb hown (hts _ (hsub _ v_313)) e_M_thing_72 ?_
            exact K_75 _ ih z1 z3 (-1) (((24 : Int32) * (σ.1 58)) + z3) σ _ _ _ hw h (lv_sub hl [0, 1, 2] rfl)
          · skip
            replace hw := hw.1 c10
            exact K_68 _ ih z1 z3 (((24 : Int32) * (σ.1 58)) + z3) σ _ _ _ hw h (lv_sub hl [0, 1, 2] rfl)
  have hl : lv_has ls 4 [(0, .ref mo), (1, .int x1), (2, .int x2)] := hl
  unfold w_M_thing at hw
  refine lv_aload_n hx hb e_M_thing_0 rfl (lv_at hl 0 rfl) ?_
  refine M_get C h 58 (v := .int (σ.1 58)) rfl (by decide) v_314 e_M_thing_1 ?_
  refine lv_sipush (v := 150) hx hb e_M_thing_4 (by decide) ?_
  refine lv_icmp_ne (tgt := 17) hx hb e_M_thing_7 (by decide) (fun c11 => ?_) (fun c11 => ?_)
  · skip
    replace hw := hw.2 c11
    refine lv_aload_n hx hb e_M_thing_17 rfl (lv_at hl 0 rfl) ?_
    refine M_get C h 59 (v := .ref (rf 59)) rfl (by decide) v_320 e_M_thing_18 ?_
    refine lv_aload_n hx hb e_M_thing_21 rfl (lv_at hl 0 rfl) ?_
    refine M_get C h 58 (v := .int (σ.1 58)) rfl (by decide) v_314 e_M_thing_22 ?_
    refine lv_iload_n hx hb e_M_thing_25 rfl (lv_at hl 1 rfl) ?_
    refine M_ast C h 59 (by decide) rfl hw.1 e_M_thing_26 (fun H locs h => ?_)
    replace hw := hw.2
    obtain ⟨σ12, e_σ12⟩ : ∃ z : MST, z = setA σ 59 (upd (σ.2.1 59) ((σ.1 58) : Int32).toNatClampNeg x1) := ⟨_, rfl⟩
    rw [← e_σ12] at h
    replace hw := hw σ12 e_σ12
    refine lv_aload_n hx hb e_M_thing_27 rfl (lv_at hl 0 rfl) ?_
    refine M_get C h 60 (v := .ref (rf 60)) rfl (by decide) v_321 e_M_thing_28 ?_
    refine lv_aload_n hx hb e_M_thing_31 rfl (lv_at hl 0 rfl) ?_
    refine M_get C h 58 (v := .int (σ12.1 58)) rfl (by decide) v_314 e_M_thing_32 ?_
    refine lv_iload_n hx hb e_M_thing_35 rfl (lv_at hl 2 rfl) ?_
    refine M_ast C h 60 (by decide) rfl hw.1 e_M_thing_36 (fun H locs h => ?_)
    replace hw := hw.2
    obtain ⟨σ13, e_σ13⟩ : ∃ z : MST, z = setA σ12 60 (upd (σ12.2.1 60) ((σ12.1 58) : Int32).toNatClampNeg x2) := ⟨_, rfl⟩
    rw [← e_σ13] at h
    replace hw := hw σ13 e_σ13
    refine lv_iconst (v := 0) hx hb e_M_thing_37 (by decide) ?_
    refine lv_istore_n (lv' := [(3, .int 0), (0, .ref mo), (1, .int x1), (2, .int x2)]) hx hb e_M_thing_38 rfl hl (by decide) rfl (fun ls hl => ?_)
    obtain ⟨n9, hw⟩ := hw
    exact K_39 n9 x1 0 σ13 _ _ _ hw h (lv_sub hl [1, 2, 0] rfl)
  · skip
    replace hw := hw.1 c11
    refine lv_aload_n hx hb e_M_thing_10 rfl (lv_at hl 0 rfl) ?_
    refine lv_iconst (v := 4) hx hb e_M_thing_11 (by decide) ?_
    refine M_callv (As := [.int 4]) (rest := []) C h hA (K_M_over l dC dI mo rf ca s.heap.size σ (4 : Int32) hw) (cwV 1 hts (gV hsub v_322 v_323 v_324 v_7 v_325) rfl rfl rfl (by decide +kernel) ⟨(Nat.le_of_ble_eq_true rfl), (Nat.le_of_ble_eq_true rfl)⟩) rfl hl.1 (Nat.le_of_ble_eq_true rfl) e_M_thing_12 ⟨(Nat.le_of_ble_eq_true rfl), (Nat.le_of_ble_eq_true rfl)⟩ (fun σ14 H locs hw h => ?_)
    refine W.eq (g2 := F0 m 15 ls []) rfl ?_
    refine lv_iconst (v := (-1)) hx hb e_M_thing_15 (by decide) ?_
    exact hend ((-1) : Int32) σ14 _ _ _ _ hw h e_M_thing_16
abbrev z_M_raise : MethodName := ⟨"MapFramerModel", "raise", "(I)V"⟩
theorem v_326 : (Cond.methodLink "MapFramerModel" 439 ⟨"MapFramerModel", "lay", "(J)V"⟩ : Cond) ∈ bigW := inB_10 146 (by decide +kernel) rfl
theorem v_327 : (Cond.instanceMethod ⟨"MapFramerModel", "lay", "(J)V"⟩ : Cond) ∈ bigW := inB_10 148 (by decide +kernel) rfl
theorem v_328 : (Cond.selects "MapFramerModel" ⟨"MapFramerModel", "lay", "(J)V"⟩ ⟨"MapFramerModel", "lay", "(J)V"⟩ : Cond) ∈ bigW := inS (y := ⟨"MapFramerModel", "lay", "(J)V"⟩) (n := 71) (List.mem_of_getElem? (i := 145) (by decide +kernel))
theorem v_329 : (Cond.code ⟨"MapFramerModel", "lay", "(J)V"⟩ prog_14_method_81_code 3 none : Cond) ∈ bigW := inB_10 149 rfl rfl
theorem v_330 : (Cond.fieldLink "MapFramerModel" 157 "MapFramerModel" "callPlace" "[I" : Cond) ∈ bigW := inB_8 125 (by decide +kernel) rfl
theorem v_331 : (Cond.fieldLink "MapFramerModel" 154 "MapFramerModel" "callMethod" "[I" : Cond) ∈ bigW := inB_8 124 (by decide +kernel) rfl
theorem e_M_raise_0 : decode prog_14_method_85_code 0 = .ok (.aload_n 0, 1) := by decide +kernel
theorem e_M_raise_1 : decode prog_14_method_85_code 1 = .ok (.getfield 423, 3) := by decide +kernel
theorem e_M_raise_4 : decode prog_14_method_85_code 4 = .ok (.ifCond .eq 204, 3) := by decide +kernel
theorem e_M_raise_7 : decode prog_14_method_85_code 7 = .ok (.aload_n 0, 1) := by decide +kernel
theorem e_M_raise_8 : decode prog_14_method_85_code 8 = .ok (.getfield 154, 3) := by decide +kernel
theorem e_M_raise_11 : decode prog_14_method_85_code 11 = .ok (.aload_n 0, 1) := by decide +kernel
theorem e_M_raise_12 : decode prog_14_method_85_code 12 = .ok (.getfield 420, 3) := by decide +kernel
theorem e_M_raise_15 : decode prog_14_method_85_code 15 = .ok (.iconst 1, 1) := by decide +kernel
theorem e_M_raise_16 : decode prog_14_method_85_code 16 = .ok (.isub, 1) := by decide +kernel
theorem e_M_raise_17 : decode prog_14_method_85_code 17 = .ok (.iaload, 1) := by decide +kernel
theorem e_M_raise_18 : decode prog_14_method_85_code 18 = .ok (.istore_n 2, 1) := by decide +kernel
theorem e_M_raise_19 : decode prog_14_method_85_code 19 = .ok (.aload_n 0, 1) := by decide +kernel
theorem e_M_raise_20 : decode prog_14_method_85_code 20 = .ok (.getfield 157, 3) := by decide +kernel
theorem e_M_raise_23 : decode prog_14_method_85_code 23 = .ok (.aload_n 0, 1) := by decide +kernel
theorem e_M_raise_24 : decode prog_14_method_85_code 24 = .ok (.getfield 420, 3) := by decide +kernel
theorem e_M_raise_27 : decode prog_14_method_85_code 27 = .ok (.iconst 1, 1) := by decide +kernel
theorem e_M_raise_28 : decode prog_14_method_85_code 28 = .ok (.isub, 1) := by decide +kernel
theorem e_M_raise_29 : decode prog_14_method_85_code 29 = .ok (.iaload, 1) := by decide +kernel
theorem e_M_raise_30 : decode prog_14_method_85_code 30 = .ok (.istore_n 3, 1) := by decide +kernel
theorem e_M_raise_31 : decode prog_14_method_85_code 31 = .ok (.bipush 16, 2) := by decide +kernel
theorem e_M_raise_33 : decode prog_14_method_85_code 33 = .ok (.iload_n 2, 1) := by decide +kernel
theorem e_M_raise_34 : decode prog_14_method_85_code 34 = .ok (.imul, 1) := by decide +kernel
theorem e_M_raise_35 : decode prog_14_method_85_code 35 = .ok (.istore 4, 2) := by decide +kernel
theorem e_M_raise_37 : decode prog_14_method_85_code 37 = .ok (.iload 4, 2) := by decide +kernel
theorem e_M_raise_39 : decode prog_14_method_85_code 39 = .ok (.bipush 16, 2) := by decide +kernel
theorem e_M_raise_41 : decode prog_14_method_85_code 41 = .ok (.iload_n 2, 1) := by decide +kernel
theorem e_M_raise_42 : decode prog_14_method_85_code 42 = .ok (.imul, 1) := by decide +kernel
theorem e_M_raise_43 : decode prog_14_method_85_code 43 = .ok (.aload_n 0, 1) := by decide +kernel
theorem e_M_raise_44 : decode prog_14_method_85_code 44 = .ok (.getfield 51, 3) := by decide +kernel
theorem e_M_raise_47 : decode prog_14_method_85_code 47 = .ok (.iload_n 2, 1) := by decide +kernel
theorem e_M_raise_48 : decode prog_14_method_85_code 48 = .ok (.iaload, 1) := by decide +kernel
theorem e_M_raise_49 : decode prog_14_method_85_code 49 = .ok (.iadd, 1) := by decide +kernel
theorem e_M_raise_50 : decode prog_14_method_85_code 50 = .ok (.if_icmp .ge 118, 3) := by decide +kernel
theorem e_M_raise_53 : decode prog_14_method_85_code 53 = .ok (.aload_n 0, 1) := by decide +kernel
theorem e_M_raise_54 : decode prog_14_method_85_code 54 = .ok (.getfield 54, 3) := by decide +kernel
theorem e_M_raise_57 : decode prog_14_method_85_code 57 = .ok (.iload 4, 2) := by decide +kernel
theorem e_M_raise_59 : decode prog_14_method_85_code 59 = .ok (.iaload, 1) := by decide +kernel
theorem e_M_raise_60 : decode prog_14_method_85_code 60 = .ok (.iload_n 3, 1) := by decide +kernel
theorem e_M_raise_61 : decode prog_14_method_85_code 61 = .ok (.if_icmp .gt 56, 3) := by decide +kernel
theorem e_M_raise_64 : decode prog_14_method_85_code 64 = .ok (.iload_n 3, 1) := by decide +kernel
theorem e_M_raise_65 : decode prog_14_method_85_code 65 = .ok (.aload_n 0, 1) := by decide +kernel
theorem e_M_raise_66 : decode prog_14_method_85_code 66 = .ok (.getfield 57, 3) := by decide +kernel
theorem e_M_raise_69 : decode prog_14_method_85_code 69 = .ok (.iload 4, 2) := by decide +kernel
theorem e_M_raise_71 : decode prog_14_method_85_code 71 = .ok (.iaload, 1) := by decide +kernel
theorem e_M_raise_72 : decode prog_14_method_85_code 72 = .ok (.if_icmp .ge 45, 3) := by decide +kernel
theorem e_M_raise_75 : decode prog_14_method_85_code 75 = .ok (.aload_n 0, 1) := by decide +kernel
theorem e_M_raise_76 : decode prog_14_method_85_code 76 = .ok (.aload_n 0, 1) := by decide +kernel
theorem e_M_raise_77 : decode prog_14_method_85_code 77 = .ok (.getfield 142, 3) := by decide +kernel
theorem e_M_raise_80 : decode prog_14_method_85_code 80 = .ok (.iload_n 1, 1) := by decide +kernel
theorem e_M_raise_81 : decode prog_14_method_85_code 81 = .ok (.iaload, 1) := by decide +kernel
theorem e_M_raise_82 : decode prog_14_method_85_code 82 = .ok (.bipush 32, 2) := by decide +kernel
theorem e_M_raise_84 : decode prog_14_method_85_code 84 = .ok (.isub, 1) := by decide +kernel
theorem e_M_raise_85 : decode prog_14_method_85_code 85 = .ok (.aload_n 0, 1) := by decide +kernel
theorem e_M_raise_86 : decode prog_14_method_85_code 86 = .ok (.getfield 63, 3) := by decide +kernel
theorem e_M_raise_89 : decode prog_14_method_85_code 89 = .ok (.iload 4, 2) := by decide +kernel
theorem e_M_raise_91 : decode prog_14_method_85_code 91 = .ok (.iaload, 1) := by decide +kernel
theorem e_M_raise_92 : decode prog_14_method_85_code 92 = .ok (.iconst (-1), 1) := by decide +kernel
theorem e_M_raise_93 : decode prog_14_method_85_code 93 = .ok (.if_icmp .ne 7, 3) := by decide +kernel
theorem e_M_raise_96 : decode prog_14_method_85_code 96 = .ok (.iconst 1, 1) := by decide +kernel
theorem e_M_raise_97 : decode prog_14_method_85_code 97 = .ok (.goto 10, 3) := by decide +kernel
theorem e_M_raise_100 : decode prog_14_method_85_code 100 = .ok (.aload_n 0, 1) := by decide +kernel
theorem e_M_raise_101 : decode prog_14_method_85_code 101 = .ok (.getfield 63, 3) := by decide +kernel
theorem e_M_raise_104 : decode prog_14_method_85_code 104 = .ok (.iload 4, 2) := by decide +kernel
theorem e_M_raise_106 : decode prog_14_method_85_code 106 = .ok (.iaload, 1) := by decide +kernel
theorem e_M_raise_107 : decode prog_14_method_85_code 107 = .ok (.invokevirtual 179, 3) := by decide +kernel
theorem e_M_raise_110 : decode prog_14_method_85_code 110 = .ok (.ifCond .eq 7, 3) := by decide +kernel
theorem e_M_raise_113 : decode prog_14_method_85_code 113 = .ok (.iconst 1, 1) := by decide +kernel
theorem e_M_raise_114 : decode prog_14_method_85_code 114 = .ok (.goto 4, 3) := by decide +kernel
theorem e_M_raise_117 : decode prog_14_method_85_code 117 = .ok (.iconst 0, 1) := by decide +kernel
theorem e_M_raise_118 : decode prog_14_method_85_code 118 = .ok (.istore 5, 2) := by decide +kernel
theorem e_M_raise_120 : decode prog_14_method_85_code 120 = .ok (.iload 5, 2) := by decide +kernel
theorem e_M_raise_122 : decode prog_14_method_85_code 122 = .ok (.ifCond .eq 40, 3) := by decide +kernel
theorem e_M_raise_125 : decode prog_14_method_85_code 125 = .ok (.aload_n 0, 1) := by decide +kernel
theorem e_M_raise_126 : decode prog_14_method_85_code 126 = .ok (.getfield 160, 3) := by decide +kernel
theorem e_M_raise_129 : decode prog_14_method_85_code 129 = .ok (.aload_n 0, 1) := by decide +kernel
theorem e_M_raise_130 : decode prog_14_method_85_code 130 = .ok (.getfield 420, 3) := by decide +kernel
theorem e_M_raise_133 : decode prog_14_method_85_code 133 = .ok (.iconst 1, 1) := by decide +kernel
theorem e_M_raise_134 : decode prog_14_method_85_code 134 = .ok (.isub, 1) := by decide +kernel
theorem e_M_raise_135 : decode prog_14_method_85_code 135 = .ok (.iconst 0, 1) := by decide +kernel
theorem e_M_raise_136 : decode prog_14_method_85_code 136 = .ok (.iastore, 1) := by decide +kernel
theorem e_M_raise_137 : decode prog_14_method_85_code 137 = .ok (.aload_n 0, 1) := by decide +kernel
theorem e_M_raise_138 : decode prog_14_method_85_code 138 = .ok (.iload_n 1, 1) := by decide +kernel
theorem e_M_raise_139 : decode prog_14_method_85_code 139 = .ok (.i2l, 1) := by decide +kernel
theorem e_M_raise_140 : decode prog_14_method_85_code 140 = .ok (.invokevirtual 439, 3) := by decide +kernel
theorem e_M_raise_143 : decode prog_14_method_85_code 143 = .ok (.aload_n 0, 1) := by decide +kernel
theorem e_M_raise_144 : decode prog_14_method_85_code 144 = .ok (.getfield 157, 3) := by decide +kernel
theorem e_M_raise_147 : decode prog_14_method_85_code 147 = .ok (.aload_n 0, 1) := by decide +kernel
theorem e_M_raise_148 : decode prog_14_method_85_code 148 = .ok (.getfield 420, 3) := by decide +kernel
theorem e_M_raise_151 : decode prog_14_method_85_code 151 = .ok (.iconst 1, 1) := by decide +kernel
theorem e_M_raise_152 : decode prog_14_method_85_code 152 = .ok (.isub, 1) := by decide +kernel
theorem e_M_raise_153 : decode prog_14_method_85_code 153 = .ok (.aload_n 0, 1) := by decide +kernel
theorem e_M_raise_154 : decode prog_14_method_85_code 154 = .ok (.getfield 60, 3) := by decide +kernel
theorem e_M_raise_157 : decode prog_14_method_85_code 157 = .ok (.iload 4, 2) := by decide +kernel
theorem e_M_raise_159 : decode prog_14_method_85_code 159 = .ok (.iaload, 1) := by decide +kernel
theorem e_M_raise_160 : decode prog_14_method_85_code 160 = .ok (.iastore, 1) := by decide +kernel
theorem e_M_raise_161 : decode prog_14_method_85_code 161 = .ok (.return_, 1) := by decide +kernel
theorem e_M_raise_162 : decode prog_14_method_85_code 162 = .ok (.iinc 4 1, 3) := by decide +kernel
theorem e_M_raise_165 : decode prog_14_method_85_code 165 = .ok (.goto (-128), 3) := by decide +kernel
theorem e_M_raise_168 : decode prog_14_method_85_code 168 = .ok (.aload_n 0, 1) := by decide +kernel
theorem e_M_raise_169 : decode prog_14_method_85_code 169 = .ok (.dup, 1) := by decide +kernel
theorem e_M_raise_170 : decode prog_14_method_85_code 170 = .ok (.getfield 420, 3) := by decide +kernel
theorem e_M_raise_173 : decode prog_14_method_85_code 173 = .ok (.iconst 1, 1) := by decide +kernel
theorem e_M_raise_174 : decode prog_14_method_85_code 174 = .ok (.isub, 1) := by decide +kernel
theorem e_M_raise_175 : decode prog_14_method_85_code 175 = .ok (.putfield 420, 3) := by decide +kernel
theorem e_M_raise_178 : decode prog_14_method_85_code 178 = .ok (.aload_n 0, 1) := by decide +kernel
theorem e_M_raise_179 : decode prog_14_method_85_code 179 = .ok (.getfield 420, 3) := by decide +kernel
theorem e_M_raise_182 : decode prog_14_method_85_code 182 = .ok (.ifCond .ne 23, 3) := by decide +kernel
theorem e_M_raise_185 : decode prog_14_method_85_code 185 = .ok (.aload_n 0, 1) := by decide +kernel
theorem e_M_raise_186 : decode prog_14_method_85_code 186 = .ok (.iconst 1, 1) := by decide +kernel
theorem e_M_raise_187 : decode prog_14_method_85_code 187 = .ok (.invokevirtual 430, 3) := by decide +kernel
theorem e_M_raise_190 : decode prog_14_method_85_code 190 = .ok (.aload_n 0, 1) := by decide +kernel
theorem e_M_raise_191 : decode prog_14_method_85_code 191 = .ok (.getfield 135, 3) := by decide +kernel
theorem e_M_raise_194 : decode prog_14_method_85_code 194 = .ok (.iconst 2, 1) := by decide +kernel
theorem e_M_raise_195 : decode prog_14_method_85_code 195 = .ok (.aload_n 0, 1) := by decide +kernel
theorem e_M_raise_196 : decode prog_14_method_85_code 196 = .ok (.getfield 142, 3) := by decide +kernel
theorem e_M_raise_199 : decode prog_14_method_85_code 199 = .ok (.iload_n 1, 1) := by decide +kernel
theorem e_M_raise_200 : decode prog_14_method_85_code 200 = .ok (.iaload, 1) := by decide +kernel
theorem e_M_raise_201 : decode prog_14_method_85_code 201 = .ok (.bipush 32, 2) := by decide +kernel
theorem e_M_raise_203 : decode prog_14_method_85_code 203 = .ok (.isub, 1) := by decide +kernel
theorem e_M_raise_204 : decode prog_14_method_85_code 204 = .ok (.iastore, 1) := by decide +kernel
theorem e_M_raise_205 : decode prog_14_method_85_code 205 = .ok (.goto (-205), 3) := by decide +kernel
theorem e_M_raise_208 : decode prog_14_method_85_code 208 = .ok (.return_, 1) := by decide +kernel
def w_M_raise_118 (K37 : Int32 → Int32 → Int32 → Int32 → MST → Prop) (P : MST → Prop) (z1 : Int32) (z2 : Int32) (z3 : Int32) (z4 : Int32) (s0 : Int32) (σ : MST) : Prop := ((s0 = 0 → K37 z1 z2 z3 (z4 + 1) σ) ∧ (¬ s0 = 0 → vp_in ((σ.1 63) - 1) 24 ∧ (∀ σ2 : MST, σ2 = setA σ 66 (upd (σ.2.1 66) (((σ.1 63) - 1) : Int32).toNatClampNeg 0) → w_M_lay ((z1 : Int32).toInt64) σ2 (fun σ3 => vp_in z4 128 ∧ (∀ a5 : Int32, a5 = (σ3.2.1 19 (z4 : Int32).toNatClampNeg) → vp_in ((σ3.1 63) - 1) 24 ∧ (∀ σ6 : MST, σ6 = setA σ3 65 (upd (σ3.2.1 65) (((σ3.1 63) - 1) : Int32).toNatClampNeg a5) → P σ6))))))
def w_M_raise_117 (K37 : Int32 → Int32 → Int32 → Int32 → MST → Prop) (P : MST → Prop) (z1 : Int32) (z2 : Int32) (z3 : Int32) (z4 : Int32) (σ : MST) : Prop := w_M_raise_118 K37 P z1 z2 z3 z4 0 σ
def w_M_raise_107 (K37 : Int32 → Int32 → Int32 → Int32 → MST → Prop) (P : MST → Prop) (z1 : Int32) (z2 : Int32) (z3 : Int32) (z4 : Int32) (s0 : Int32) (s1 : Int32) (σ : MST) : Prop := w_M_subs s1 s0 σ (fun r8 σ7 => ((r8 = 0 → w_M_raise_117 K37 P z1 z2 z3 z4 σ7) ∧ (¬ r8 = 0 → w_M_raise_118 K37 P z1 z2 z3 z4 1 σ7)))
def w_M_raise_37 (K0 : Int32 → MST → Prop) (P : MST → Prop) : Nat → Int32 → Int32 → Int32 → Int32 → MST → Prop
  | 0, _, _, _, _, _ => False
  | n + 1, z1, z2, z3, z4, σ => vp_in z2 8 ∧ (∀ a10 : Int32, a10 = (σ.2.1 16 (z2 : Int32).toNatClampNeg) → (((((16 : Int32) * z2) + a10) ≤ z4 → ∀ σ12 : MST, σ12 = setI σ 63 ((σ.1 63) - 1) → (((σ12.1 63) = 0 → w_M_over (1 : Int32) σ12 (fun σ14 => vp_in z1 150 ∧ (∀ a16 : Int32, a16 = (σ14.2.1 59 (z1 : Int32).toNatClampNeg) → ∀ σ17 : MST, σ17 = setA σ14 56 (upd (σ14.2.1 56) (2 : Int32).toNatClampNeg (a16 - 32)) → K0 z1 σ17))) ∧ (¬ (σ12.1 63) = 0 → K0 z1 σ12))) ∧ (¬ (((16 : Int32) * z2) + a10) ≤ z4 → vp_in z4 128 ∧ (∀ a18 : Int32, a18 = (σ.2.1 17 (z4 : Int32).toNatClampNeg) → ((z3 < a18 → w_M_raise_117 (w_M_raise_37 K0 P n) P z1 z2 z3 z4 σ) ∧ (¬ z3 < a18 → vp_in z4 128 ∧ (∀ a20 : Int32, a20 = (σ.2.1 18 (z4 : Int32).toNatClampNeg) → ((a20 ≤ z3 → w_M_raise_117 (w_M_raise_37 K0 P n) P z1 z2 z3 z4 σ) ∧ (¬ a20 ≤ z3 → vp_in z1 150 ∧ (∀ a22 : Int32, a22 = (σ.2.1 59 (z1 : Int32).toNatClampNeg) → vp_in z4 128 ∧ (∀ a23 : Int32, a23 = (σ.2.1 20 (z4 : Int32).toNatClampNeg) → ((a23 = (-1) → w_M_raise_107 (w_M_raise_37 K0 P n) P z1 z2 z3 z4 1 (a22 - 32) σ) ∧ (¬ a23 = (-1) → vp_in z4 128 ∧ (∀ a25 : Int32, a25 = (σ.2.1 20 (z4 : Int32).toNatClampNeg) → w_M_raise_107 (w_M_raise_37 K0 P n) P z1 z2 z3 z4 a25 (a22 - 32) σ))))))))))))))
def w_M_raise_0 (P : MST → Prop) : Nat → Int32 → MST → Prop
  | 0, _, _ => False
  | n + 1, z1, σ => (((σ.1 69) = 0 → P σ) ∧ (¬ (σ.1 69) = 0 → vp_in ((σ.1 63) - 1) 24 ∧ (∀ a27 : Int32, a27 = (σ.2.1 64 (((σ.1 63) - 1) : Int32).toNatClampNeg) → vp_in ((σ.1 63) - 1) 24 ∧ (∀ a28 : Int32, a28 = (σ.2.1 65 (((σ.1 63) - 1) : Int32).toNatClampNeg) → (∃ n9 : Nat, w_M_raise_37 (w_M_raise_0 P n) P n9 z1 a27 a28 ((16 : Int32) * a27) σ)))))
def w_M_raise (x1 : Int32) (σ : MST) (P : MST → Prop) : Prop := (∃ n9 : Nat, w_M_raise_0 P n9 x1 σ)
set_option maxHeartbeats 4000000 in
set_option maxRecDepth 100000 in
theorem K_M_raise (l : Launch) (dC : Nat → ClassId) (dI : Nat → Nat → Nat) (mo : Nat) (rf : Nat → Nat) (ca : Nat → ClassId) (sz : Nat) (σ : MST) (x1 : Int32) {P : MST → Prop} (hw : w_M_raise x1 σ P) : Met l z_M_raise (mW z_M_raise prog_14_method_85_code 6 none) ({ frames := 1, cells := 0, slots := 0, locals := 23 } : Room) (va_Pc [.ref mo, .int x1] (MPre (dC, dI) mo rf ca σ sz)) (va_Qv P (MB (dC, dI) mo rf ca sz) (mA mo rf sz)) 0 0 (mA mo rf sz) := by
  refine M_ofv (by decide) rfl (Nat.le_of_ble_eq_true rfl) ?_
  intro p e s m below meth cx Q A ls C hA hend h hl
  have C0 := C
  obtain ⟨⟨hx, hb, hml, hown, hts⟩, hsub⟩ := C0
  have K_118 : ∀ (K37 : Int32 → Int32 → Int32 → Int32 → MST → Prop) (hK37 : ∀ (z1 : Int32) (z2 : Int32) (z3 : Int32) (z4 : Int32) (σ : MST) (H : Heap) (locs : List Loc) (ls : Array Slot), K37 z1 z2 z3 z4 σ → MH (dC, dI) A mo rf ca σ s H locs → lv_has ls 6 [(0, .ref mo), (1, .int z1), (2, .int z2), (3, .int z3), (4, .int z4)] → W p l e ({ frames := 1, cells := 0, slots := 0, locals := 23 } : Room) s m ([.ref mo, .int x1] : List Value).toArray below meth cx H locs 0 0 Q (F0 m 37 ls [])), ∀ (z1 : Int32) (z2 : Int32) (z3 : Int32) (z4 : Int32) (s0 : Int32) (σ : MST) (H : Heap) (locs : List Loc) (ls : Array Slot), w_M_raise_118 K37 P z1 z2 z3 z4 s0 σ → MH (dC, dI) A mo rf ca σ s H locs → lv_has ls 6 [(0, .ref mo), (1, .int z1), (2, .int z2), (3, .int z3), (4, .int z4)] → W p l e ({ frames := 1, cells := 0, slots := 0, locals := 23 } : Room) s m ([.ref mo, .int x1] : List Value).toArray below meth cx H locs 0 0 Q (F0 m 118 ls [.int s0]) := by
    intro K37 hK37 z1 z2 z3 z4 s0 σ H locs ls hw h hl
    unfold w_M_raise_118 at hw
    refine lv_istore (lv' := [(5, .int s0), (0, .ref mo), (1, .int z1), (2, .int z2), (3, .int z3), (4, .int z4)]) hx hb e_M_raise_118 hl (by decide) rfl (fun ls hl => ?_)
    refine lv_iload hx hb e_M_raise_120 (lv_at hl 0 rfl) ?_
    refine lv_if_eq (tgt := 162) hx hb e_M_raise_122 (by decide) (fun c1 => ?_) (fun c1 => ?_)
    · skip
      replace hw := hw.1 c1
      refine lv_iinc (v := (z4 + 1)) (lv' := [(4, .int (z4 + 1)), (5, .int s0), (0, .ref mo), (1, .int z1), (2, .int z2), (3, .int z3)]) hx hb e_M_raise_162 hl (k := 5) rfl (rfl) (by decide) rfl (fun ls hl => ?_)
      refine lv_goto (tgt := 37) hx hb e_M_raise_165 (by decide) ?_
      exact hK37 z1 z2 z3 (z4 + 1) σ _ _ _ hw h (lv_sub hl [2, 3, 4, 5, 0] rfl)
    · skip
      replace hw := hw.2 c1
      refine lv_aload_n hx hb e_M_raise_125 rfl (lv_at hl 1 rfl) ?_
      refine M_get C h 66 (v := .ref (rf 66)) rfl (by decide) v_308 e_M_raise_126 ?_
      refine lv_aload_n hx hb e_M_raise_129 rfl (lv_at hl 1 rfl) ?_
      refine M_get C h 63 (v := .int (σ.1 63)) rfl (by decide) v_309 e_M_raise_130 ?_
      refine lv_iconst (v := 1) hx hb e_M_raise_133 (by decide) ?_
      refine lv_isub hx hb e_M_raise_134 ?_
      refine lv_iconst (v := 0) hx hb e_M_raise_135 (by decide) ?_
      refine M_ast C h 66 (by decide) rfl hw.1 e_M_raise_136 (fun H locs h => ?_)
      replace hw := hw.2
      obtain ⟨σ2, e_σ2⟩ : ∃ z : MST, z = setA σ 66 (upd (σ.2.1 66) (((σ.1 63) - 1) : Int32).toNatClampNeg 0) := ⟨_, rfl⟩
      rw [← e_σ2] at h
      replace hw := hw σ2 e_σ2
      refine lv_aload_n hx hb e_M_raise_137 rfl (lv_at hl 1 rfl) ?_
      refine lv_iload_n hx hb e_M_raise_138 rfl (lv_at hl 2 rfl) ?_
      refine lv_i2l (v := (z1 : Int32).toInt64) hx hb e_M_raise_139 rfl ?_
      refine M_callv (As := [.long ((z1 : Int32).toInt64)]) (rest := []) C h hA (K_M_lay l dC dI mo rf ca H.size σ2 ((z1 : Int32).toInt64) hw) (cwV 1 hts (gV hsub v_326 v_327 v_328 v_7 v_329) rfl rfl rfl (by decide +kernel) ⟨(Nat.le_of_ble_eq_true rfl), (Nat.le_of_ble_eq_true rfl)⟩) rfl hl.1 (Nat.le_of_ble_eq_true rfl) e_M_raise_140 ⟨(Nat.le_of_ble_eq_true rfl), (Nat.le_of_ble_eq_true rfl)⟩ (fun σ3 H locs hw h => ?_)
      refine W.eq (g2 := F0 m 143 ls []) rfl ?_
      refine lv_aload_n hx hb e_M_raise_143 rfl (lv_at hl 1 rfl) ?_
      refine M_get C h 65 (v := .ref (rf 65)) rfl (by decide) v_330 e_M_raise_144 ?_
      refine lv_aload_n hx hb e_M_raise_147 rfl (lv_at hl 1 rfl) ?_
      refine M_get C h 63 (v := .int (σ3.1 63)) rfl (by decide) v_309 e_M_raise_148 ?_
      refine lv_iconst (v := 1) hx hb e_M_raise_151 (by decide) ?_
      refine lv_isub hx hb e_M_raise_152 ?_
      refine lv_aload_n hx hb e_M_raise_153 rfl (lv_at hl 1 rfl) ?_
      refine M_get C h 19 (v := .ref (rf 19)) rfl (by decide) v_64 e_M_raise_154 ?_
      refine lv_iload hx hb e_M_raise_157 (lv_at hl 5 rfl) ?_
      refine M_ald C h 19 (by decide) rfl hw.1 e_M_raise_159 ?_
      replace hw := hw.2
      refine lv_topi (fun a5 e_a5 => ?_)
      replace hw := hw a5 e_a5
      refine M_ast C h 65 (by decide) rfl hw.1 e_M_raise_160 (fun H locs h => ?_)
      replace hw := hw.2
      obtain ⟨σ6, e_σ6⟩ : ∃ z : MST, z = setA σ3 65 (upd (σ3.2.1 65) (((σ3.1 63) - 1) : Int32).toNatClampNeg a5) := ⟨_, rfl⟩
      rw [← e_σ6] at h
      replace hw := hw σ6 e_σ6
      exact hend σ6 _ _ _ _ hw h e_M_raise_161
  have K_117 : ∀ (K37 : Int32 → Int32 → Int32 → Int32 → MST → Prop) (hK37 : ∀ (z1 : Int32) (z2 : Int32) (z3 : Int32) (z4 : Int32) (σ : MST) (H : Heap) (locs : List Loc) (ls : Array Slot), K37 z1 z2 z3 z4 σ → MH (dC, dI) A mo rf ca σ s H locs → lv_has ls 6 [(0, .ref mo), (1, .int z1), (2, .int z2), (3, .int z3), (4, .int z4)] → W p l e ({ frames := 1, cells := 0, slots := 0, locals := 23 } : Room) s m ([.ref mo, .int x1] : List Value).toArray below meth cx H locs 0 0 Q (F0 m 37 ls [])), ∀ (z1 : Int32) (z2 : Int32) (z3 : Int32) (z4 : Int32) (σ : MST) (H : Heap) (locs : List Loc) (ls : Array Slot), w_M_raise_117 K37 P z1 z2 z3 z4 σ → MH (dC, dI) A mo rf ca σ s H locs → lv_has ls 6 [(0, .ref mo), (1, .int z1), (2, .int z2), (3, .int z3), (4, .int z4)] → W p l e ({ frames := 1, cells := 0, slots := 0, locals := 23 } : Room) s m ([.ref mo, .int x1] : List Value).toArray below meth cx H locs 0 0 Q (F0 m 117 ls []) := by
    intro K37 hK37 z1 z2 z3 z4 σ H locs ls hw h hl
    unfold w_M_raise_117 at hw
    refine lv_iconst (v := 0) hx hb e_M_raise_117 (by decide) ?_
    exact K_118 _ hK37 z1 z2 z3 z4 0 σ _ _ _ hw h (lv_sub hl [0, 1, 2, 3, 4] rfl)
  have K_107 : ∀ (K37 : Int32 → Int32 → Int32 → Int32 → MST → Prop) (hK37 : ∀ (z1 : Int32) (z2 : Int32) (z3 : Int32) (z4 : Int32) (σ : MST) (H : Heap) (locs : List Loc) (ls : Array Slot), K37 z1 z2 z3 z4 σ → MH (dC, dI) A mo rf ca σ s H locs → lv_has ls 6 [(0, .ref mo), (1, .int z1), (2, .int z2), (3, .int z3), (4, .int z4)] → W p l e ({ frames := 1, cells := 0, slots := 0, locals := 23 } : Room) s m ([.ref mo, .int x1] : List Value).toArray below meth cx H locs 0 0 Q (F0 m 37 ls [])), ∀ (z1 : Int32) (z2 : Int32) (z3 : Int32) (z4 : Int32) (s0 : Int32) (s1 : Int32) (σ : MST) (H : Heap) (locs : List Loc) (ls : Array Slot), w_M_raise_107 K37 P z1 z2 z3 z4 s0 s1 σ → MH (dC, dI) A mo rf ca σ s H locs → lv_has ls 6 [(0, .ref mo), (1, .int z1), (2, .int z2), (3, .int z3), (4, .int z4)] → W p l e ({ frames := 1, cells := 0, slots := 0, locals := 23 } : Room) s m ([.ref mo, .int x1] : List Value).toArray below meth cx H locs 0 0 Q (F0 m 107 ls [.int s0, .int s1, .ref mo]) := by
    intro K37 hK37 z1 z2 z3 z4 s0 s1 σ H locs ls hw h hl
    unfold w_M_raise_107 at hw
    refine M_calli (As := [.int s1, .int s0]) (rest := []) C h hA (K_M_subs l dC dI mo rf ca H.size σ s1 s0 hw) (cwV 2 hts (gV hsub v_4 v_5 v_6 v_7 v_8) rfl rfl rfl (by decide +kernel) ⟨(Nat.le_of_ble_eq_true rfl), (Nat.le_of_ble_eq_true rfl)⟩) rfl hl.1 (Nat.le_of_ble_eq_true rfl) e_M_raise_107 ⟨(Nat.le_of_ble_eq_true rfl), (Nat.le_of_ble_eq_true rfl)⟩ (fun r8 σ7 H locs hw h => ?_)
    refine W.eq (g2 := F0 m 110 ls [.int r8]) rfl ?_
    refine lv_if_eq (tgt := 117) hx hb e_M_raise_110 (by decide) (fun c9 => ?_) (fun c9 => ?_)
    · skip
      replace hw := hw.1 c9
      exact K_117 _ hK37 z1 z2 z3 z4 σ7 _ _ _ hw h (lv_sub hl [0, 1, 2, 3, 4] rfl)
    · skip
      replace hw := hw.2 c9
      refine lv_iconst (v := 1) hx hb e_M_raise_113 (by decide) ?_
      refine lv_goto (tgt := 118) hx hb e_M_raise_114 (by decide) ?_
      exact K_118 _ hK37 z1 z2 z3 z4 1 σ7 _ _ _ hw h (lv_sub hl [0, 1, 2, 3, 4] rfl)
  have K_37 : ∀ (K0 : Int32 → MST → Prop) (hK0 : ∀ (z1 : Int32) (σ : MST) (H : Heap) (locs : List Loc) (ls : Array Slot), K0 z1 σ → MH (dC, dI) A mo rf ca σ s H locs → lv_has ls 6 [(0, .ref mo), (1, .int z1)] → W p l e ({ frames := 1, cells := 0, slots := 0, locals := 23 } : Room) s m ([.ref mo, .int x1] : List Value).toArray below meth cx H locs 0 0 Q (F0 m 0 ls [])) (n : Nat), ∀ (z1 : Int32) (z2 : Int32) (z3 : Int32) (z4 : Int32) (σ : MST) (H : Heap) (locs : List Loc) (ls : Array Slot), w_M_raise_37 K0 P n z1 z2 z3 z4 σ → MH (dC, dI) A mo rf ca σ s H locs → lv_has ls 6 [(0, .ref mo), (1, .int z1), (2, .int z2), (3, .int z3), (4, .int z4)] → W p l e ({ frames := 1, cells := 0, slots := 0, locals := 23 } : Room) s m ([.ref mo, .int x1] : List Value).toArray below meth cx H locs 0 0 Q (F0 m 37 ls []) := by
    intro K0 hK0 n
    induction n with
    | zero => intro z1 z2 z3 z4 σ H locs ls hw h hl; unfold w_M_raise_37 at hw; exact hw.elim
    | succ n ih =>
      intro z1 z2 z3 z4 σ H locs ls hw h hl
      unfold w_M_raise_37 at hw
      refine lv_iload hx hb e_M_raise_37 (lv_at hl 4 rfl) ?_
      refine lv_bipush (v := 16) hx hb e_M_raise_39 (by decide) ?_
      refine lv_iload_n hx hb e_M_raise_41 rfl (lv_at hl 2 rfl) ?_
      refine lv_imul hx hb e_M_raise_42 ?_
      refine lv_aload_n hx hb e_M_raise_43 rfl (lv_at hl 0 rfl) ?_
      refine M_get C h 16 (v := .ref (rf 16)) rfl (by decide) v_61 e_M_raise_44 ?_
      refine lv_iload_n hx hb e_M_raise_47 rfl (lv_at hl 2 rfl) ?_
      refine M_ald C h 16 (by decide) rfl hw.1 e_M_raise_48 ?_
      replace hw := hw.2
      refine lv_topi (fun a10 e_a10 => ?_)
      replace hw := hw a10 e_a10
      refine lv_iadd hx hb e_M_raise_49 ?_
      refine lv_icmp_ge (tgt := 168) hx hb e_M_raise_50 (by decide) (fun c11 => ?_) (fun c11 => ?_)
      · skip
        replace hw := hw.1 c11
        refine lv_aload_n hx hb e_M_raise_168 rfl (lv_at hl 0 rfl) ?_
        refine lv_dup hx hb e_M_raise_169 rfl ?_
        refine M_get C h 63 (v := .int (σ.1 63)) rfl (by decide) v_309 e_M_raise_170 ?_
        refine lv_iconst (v := 1) hx hb e_M_raise_173 (by decide) ?_
        refine lv_isub hx hb e_M_raise_174 ?_
        refine M_puti C h 63 (by decide) rfl rfl (by decide +kernel) v_309 e_M_raise_175 (fun H locs h => ?_)
        obtain ⟨σ12, e_σ12⟩ : ∃ z : MST, z = setI σ 63 ((σ.1 63) - 1) := ⟨_, rfl⟩
        rw [← e_σ12] at h
        replace hw := hw σ12 e_σ12
        refine lv_aload_n hx hb e_M_raise_178 rfl (lv_at hl 0 rfl) ?_
        refine M_get C h 63 (v := .int (σ12.1 63)) rfl (by decide) v_309 e_M_raise_179 ?_
        refine lv_if_ne (tgt := 205) hx hb e_M_raise_182 (by decide) (fun c13 => ?_) (fun c13 => ?_)
        · skip
          replace hw := hw.2 c13
          refine lv_goto (tgt := 0) hx hb e_M_raise_205 (by decide) ?_
          exact hK0 z1 σ12 _ _ _ hw h (lv_sub hl [0, 1] rfl)
        · skip
          replace hw := hw.1 c13
          refine lv_aload_n hx hb e_M_raise_185 rfl (lv_at hl 0 rfl) ?_
          refine lv_iconst (v := 1) hx hb e_M_raise_186 (by decide) ?_
          refine M_callv (As := [.int 1]) (rest := []) C h hA (K_M_over l dC dI mo rf ca H.size σ12 (1 : Int32) hw) (cwV 1 hts (gV hsub v_322 v_323 v_324 v_7 v_325) rfl rfl rfl (by decide +kernel) ⟨(Nat.le_of_ble_eq_true rfl), (Nat.le_of_ble_eq_true rfl)⟩) rfl hl.1 (Nat.le_of_ble_eq_true rfl) e_M_raise_187 ⟨(Nat.le_of_ble_eq_true rfl), (Nat.le_of_ble_eq_true rfl)⟩ (fun σ14 H locs hw h => ?_)
          refine W.eq (g2 := F0 m 190 ls []) rfl ?_
          refine lv_aload_n hx hb e_M_raise_190 rfl (lv_at hl 0 rfl) ?_
          refine M_get C h 56 (v := .ref (rf 56)) rfl (by decide) v_312 e_M_raise_191 ?_
          refine lv_iconst (v := 2) hx hb e_M_raise_194 (by decide) ?_
          refine lv_aload_n hx hb e_M_raise_195 rfl (lv_at hl 0 rfl) ?_
          refine M_get C h 59 (v := .ref (rf 59)) rfl (by decide) v_320 e_M_raise_196 ?_
          refine lv_iload_n hx hb e_M_raise_199 rfl (lv_at hl 1 rfl) ?_
          refine M_ald C h 59 (by decide) rfl hw.1 e_M_raise_200 ?_
          replace hw := hw.2
          refine lv_topi (fun a16 e_a16 => ?_)
          replace hw := hw a16 e_a16
          refine lv_bipush (v := 32) hx hb e_M_raise_201 (by decide) ?_
          refine lv_isub hx hb e_M_raise_203 ?_
          refine M_ast C h 56 (by decide) rfl (vp_in_iff.mpr (by decide)) e_M_raise_204 (fun H locs h => ?_)
          obtain ⟨σ17, e_σ17⟩ : ∃ z : MST, z = setA σ14 56 (upd (σ14.2.1 56) (2 : Int32).toNatClampNeg (a16 - 32)) := ⟨_, rfl⟩
          rw [← e_σ17] at h
          replace hw := hw σ17 e_σ17
          refine lv_goto (tgt := 0) hx hb e_M_raise_205 (by decide) ?_
          exact hK0 z1 σ17 _ _ _ hw h (lv_sub hl [0, 1] rfl)
      · skip
        replace hw := hw.2 c11
        refine lv_aload_n hx hb e_M_raise_53 rfl (lv_at hl 0 rfl) ?_
        refine M_get C h 17 (v := .ref (rf 17)) rfl (by decide) v_62 e_M_raise_54 ?_
        refine lv_iload hx hb e_M_raise_57 (lv_at hl 4 rfl) ?_
        refine M_ald C h 17 (by decide) rfl hw.1 e_M_raise_59 ?_
        replace hw := hw.2
        refine lv_topi (fun a18 e_a18 => ?_)
        replace hw := hw a18 e_a18
        refine lv_iload_n hx hb e_M_raise_60 rfl (lv_at hl 3 rfl) ?_
        refine lv_icmp_gt (tgt := 117) hx hb e_M_raise_61 (by decide) (fun c19 => ?_) (fun c19 => ?_)
        · skip
          replace hw := hw.1 c19
          exact K_117 _ ih z1 z2 z3 z4 σ _ _ _ hw h (lv_sub hl [0, 1, 2, 3, 4] rfl)
        · skip
          replace hw := hw.2 c19
          refine lv_iload_n hx hb e_M_raise_64 rfl (lv_at hl 3 rfl) ?_
          refine lv_aload_n hx hb e_M_raise_65 rfl (lv_at hl 0 rfl) ?_
          refine M_get C h 18 (v := .ref (rf 18)) rfl (by decide) v_63 e_M_raise_66 ?_
          refine lv_iload hx hb e_M_raise_69 (lv_at hl 4 rfl) ?_
          refine M_ald C h 18 (by decide) rfl hw.1 e_M_raise_71 ?_
          replace hw := hw.2
          refine lv_topi (fun a20 e_a20 => ?_)
          replace hw := hw a20 e_a20
          refine lv_icmp_ge (tgt := 117) hx hb e_M_raise_72 (by decide) (fun c21 => ?_) (fun c21 => ?_)
          · skip
            replace hw := hw.1 c21
            exact K_117 _ ih z1 z2 z3 z4 σ _ _ _ hw h (lv_sub hl [0, 1, 2, 3, 4] rfl)
          · skip
            replace hw := hw.2 c21
            refine lv_aload_n hx hb e_M_raise_75 rfl (lv_at hl 0 rfl) ?_
            refine lv_aload_n hx hb e_M_raise_76 rfl (lv_at hl 0 rfl) ?_
            refine M_get C h 59 (v := .ref (rf 59)) rfl (by decide) v_320 e_M_raise_77 ?_
            refine lv_iload_n hx hb e_M_raise_80 rfl (lv_at hl 1 rfl) ?_
            refine M_ald C h 59 (by decide) rfl hw.1 e_M_raise_81 ?_
            replace hw := hw.2
            refine lv_topi (fun a22 e_a22 => ?_)
            replace hw := hw a22 e_a22
            refine lv_bipush (v := 32) hx hb e_M_raise_82 (by decide) ?_
            refine lv_isub hx hb e_M_raise_84 ?_
            refine lv_aload_n hx hb e_M_raise_85 rfl (lv_at hl 0 rfl) ?_
            refine M_get C h 20 (v := .ref (rf 20)) rfl (by decide) v_65 e_M_raise_86 ?_
            refine lv_iload hx hb e_M_raise_89 (lv_at hl 4 rfl) ?_
            refine M_ald C h 20 (by decide) rfl hw.1 e_M_raise_91 ?_
            replace hw := hw.2
            refine lv_topi (fun a23 e_a23 => ?_)
            replace hw := hw a23 e_a23
            refine lv_iconst (v := (-1)) hx hb e_M_raise_92 (by decide) ?_
            refine lv_icmp_ne (tgt := 100) hx hb e_M_raise_93 (by decide) (fun c24 => ?_) (fun c24 => ?_)
            · skip
              replace hw := hw.2 c24
              refine lv_aload_n hx hb e_M_raise_100 rfl (lv_at hl 0 rfl) ?_
              refine M_get C h 20 (v := .ref (rf 20)) rfl (by decide) v_65 e_M_raise_101 ?_
              refine lv_iload hx hb e_M_raise_104 (lv_at hl 4 rfl) ?_
              refine M_ald C h 20 (by decide) rfl hw.1 e_M_raise_106 ?_
              replace hw := hw.2
              refine lv_topi (fun a25 e_a25 => ?_)
              replace hw := hw a25 e_a25
              exact K_107 _ ih z1 z2 z3 z4 a25 (a22 - 32) σ _ _ _ hw h (lv_sub hl [0, 1, 2, 3, 4] rfl)
            · skip
              replace hw := hw.1 c24
              refine lv_iconst (v := 1) hx hb e_M_raise_96 (by decide) ?_
              refine lv_goto (tgt := 107) hx hb e_M_raise_97 (by decide) ?_
              exact K_107 _ ih z1 z2 z3 z4 1 (a22 - 32) σ _ _ _ hw h (lv_sub hl [0, 1, 2, 3, 4] rfl)
  have K_0 : ∀ (n : Nat), ∀ (z1 : Int32) (σ : MST) (H : Heap) (locs : List Loc) (ls : Array Slot), w_M_raise_0 P n z1 σ → MH (dC, dI) A mo rf ca σ s H locs → lv_has ls 6 [(0, .ref mo), (1, .int z1)] → W p l e ({ frames := 1, cells := 0, slots := 0, locals := 23 } : Room) s m ([.ref mo, .int x1] : List Value).toArray below meth cx H locs 0 0 Q (F0 m 0 ls []) := by
    intro  n
    induction n with
    | zero => intro z1 σ H locs ls hw h hl; unfold w_M_raise_0 at hw; exact hw.elim
    | succ n ih =>
      intro z1 σ H locs ls hw h hl
      unfold w_M_raise_0 at hw
      refine lv_aload_n hx hb e_M_raise_0 rfl (lv_at hl 0 rfl) ?_
      refine M_get C h 69 (v := .int (σ.1 69)) rfl (by decide) v_311 e_M_raise_1 ?_
      refine lv_if_eq (tgt := 208) hx hb e_M_raise_4 (by decide) (fun c26 => ?_) (fun c26 => ?_)
      · skip
        replace hw := hw.1 c26
        exact hend σ _ _ _ _ hw h e_M_raise_208
      · skip
        replace hw := hw.2 c26
        refine lv_aload_n hx hb e_M_raise_7 rfl (lv_at hl 0 rfl) ?_
        refine M_get C h 64 (v := .ref (rf 64)) rfl (by decide) v_331 e_M_raise_8 ?_
        refine lv_aload_n hx hb e_M_raise_11 rfl (lv_at hl 0 rfl) ?_
        refine M_get C h 63 (v := .int (σ.1 63)) rfl (by decide) v_309 e_M_raise_12 ?_
        refine lv_iconst (v := 1) hx hb e_M_raise_15 (by decide) ?_
        refine lv_isub hx hb e_M_raise_16 ?_
        refine M_ald C h 64 (by decide) rfl hw.1 e_M_raise_17 ?_
        replace hw := hw.2
        refine lv_topi (fun a27 e_a27 => ?_)
        replace hw := hw a27 e_a27
        refine lv_istore_n (lv' := [(2, .int a27), (0, .ref mo), (1, .int z1)]) hx hb e_M_raise_18 rfl hl (by decide) rfl (fun ls hl => ?_)
        refine lv_aload_n hx hb e_M_raise_19 rfl (lv_at hl 1 rfl) ?_
        refine M_get C h 65 (v := .ref (rf 65)) rfl (by decide) v_330 e_M_raise_20 ?_
        refine lv_aload_n hx hb e_M_raise_23 rfl (lv_at hl 1 rfl) ?_
        refine M_get C h 63 (v := .int (σ.1 63)) rfl (by decide) v_309 e_M_raise_24 ?_
        refine lv_iconst (v := 1) hx hb e_M_raise_27 (by decide) ?_
        refine lv_isub hx hb e_M_raise_28 ?_
        refine M_ald C h 65 (by decide) rfl hw.1 e_M_raise_29 ?_
        replace hw := hw.2
        refine lv_topi (fun a28 e_a28 => ?_)
        replace hw := hw a28 e_a28
        refine lv_istore_n (lv' := [(3, .int a28), (2, .int a27), (0, .ref mo), (1, .int z1)]) hx hb e_M_raise_30 rfl hl (by decide) rfl (fun ls hl => ?_)
        refine lv_bipush (v := 16) hx hb e_M_raise_31 (by decide) ?_
        refine lv_iload_n hx hb e_M_raise_33 rfl (lv_at hl 1 rfl) ?_
        refine lv_imul hx hb e_M_raise_34 ?_
        refine lv_istore (lv' := [(4, .int ((16 : Int32) * a27)), (3, .int a28), (2, .int a27), (0, .ref mo), (1, .int z1)]) hx hb e_M_raise_35 hl (by decide) rfl (fun ls hl => ?_)
        obtain ⟨n9, hw⟩ := hw
        exact K_37 _ ih n9 z1 a27 a28 ((16 : Int32) * a27) σ _ _ _ hw h (lv_sub hl [3, 4, 2, 1, 0] rfl)
  have hl : lv_has ls 6 [(0, .ref mo), (1, .int x1)] := hl
  unfold w_M_raise at hw
  obtain ⟨n9, hw⟩ := hw
  exact K_0 n9 x1 σ _ _ _ hw h (lv_sub hl [0, 1] rfl)
