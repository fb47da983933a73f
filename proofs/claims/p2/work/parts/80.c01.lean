abbrev g_Fw_putTypes : MethodName := ⟨"MapFramer$FrameWriter", "putTypes", "([III)V"⟩
theorem u_72 : (Cond.methodLink "MapFramer$FrameWriter" 102 ⟨"MapFramer$FrameWriter", "putType", "(I)V"⟩ : Cond) ∈ bigW := inB_7 4 (by decide +kernel) rfl
theorem u_73 : (Cond.instanceMethod ⟨"MapFramer$FrameWriter", "putType", "(I)V"⟩ : Cond) ∈ bigW := inB_7 6 (by decide +kernel) rfl
theorem u_74 : (Cond.selects "MapFramer$FrameWriter" ⟨"MapFramer$FrameWriter", "putType", "(I)V"⟩ ⟨"MapFramer$FrameWriter", "putType", "(I)V"⟩ : Cond) ∈ bigW := inS (y := ⟨"MapFramer$FrameWriter", "putType", "(I)V"⟩) (n := 9) (List.mem_of_getElem? (i := 52) (by decide +kernel))
theorem u_75 : (Cond.code ⟨"MapFramer$FrameWriter", "putType", "(I)V"⟩ prog_3_method_9_code 2 none : Cond) ∈ bigW := inB_7 7 rfl rfl
theorem h_Fw_putTypes_0 : decode prog_3_method_8_code 0 = .ok (.iload_n 2, 1) := by decide +kernel
theorem h_Fw_putTypes_1 : decode prog_3_method_8_code 1 = .ok (.istore 4, 2) := by decide +kernel
theorem h_Fw_putTypes_3 : decode prog_3_method_8_code 3 = .ok (.iload 4, 2) := by decide +kernel
theorem h_Fw_putTypes_5 : decode prog_3_method_8_code 5 = .ok (.iload_n 3, 1) := by decide +kernel
theorem h_Fw_putTypes_6 : decode prog_3_method_8_code 6 = .ok (.if_icmp .ge 17, 3) := by decide +kernel
theorem h_Fw_putTypes_9 : decode prog_3_method_8_code 9 = .ok (.aload_n 0, 1) := by decide +kernel
theorem h_Fw_putTypes_10 : decode prog_3_method_8_code 10 = .ok (.aload_n 1, 1) := by decide +kernel
theorem h_Fw_putTypes_11 : decode prog_3_method_8_code 11 = .ok (.iload 4, 2) := by decide +kernel
theorem h_Fw_putTypes_13 : decode prog_3_method_8_code 13 = .ok (.iaload, 1) := by decide +kernel
theorem h_Fw_putTypes_14 : decode prog_3_method_8_code 14 = .ok (.invokevirtual 102, 3) := by decide +kernel
theorem h_Fw_putTypes_17 : decode prog_3_method_8_code 17 = .ok (.iinc 4 1, 3) := by decide +kernel
theorem h_Fw_putTypes_20 : decode prog_3_method_8_code 20 = .ok (.goto (-17), 3) := by decide +kernel
theorem h_Fw_putTypes_23 : decode prog_3_method_8_code 23 = .ok (.return_, 1) := by decide +kernel
def x_Fw_putTypes_3 (a0 : Nat) (a1 : Nat) (P : CST → Prop) : Nat → Int32 → Int32 → CST → Prop
  | 0, _, _, _ => False
  | n + 1, z3, z4, σ => ((z3 ≤ z4 → P σ) ∧ (¬ z3 ≤ z4 → (∃ n3 : Nat, σ.1 a1 = some (20, n3) ∧ (vp_in z4 n3 ∧ (∀ b5 : Int32, b5 = (σ.2.1 a1 (z4 : Int32).toNatClampNeg) → σ.1 a0 = some (11, 0) ∧ (x_Fw_putType a0 b5 σ (fun σ7 => x_Fw_putTypes_3 a0 a1 P n z3 (z4 + 1) σ7)))))))
def x_Fw_putTypes (a0 : Nat) (a1 : Nat) (x2 : Int32) (x3 : Int32) (σ0 : CST) (P : CST → Prop) : Prop := (∃ n9 : Nat, x_Fw_putTypes_3 a0 a1 P n9 x3 x2 σ0)
set_option maxHeartbeats 4000000 in
set_option maxRecDepth 100000 in
theorem X_Fw_putTypes (l : Launch) (dC : Nat → ClassId) (dI : Nat → Nat → Nat) (ca : Nat → ClassId) (H0 : Heap) (σ0 : CST) (a0 : Nat) (a1 : Nat) (x2 : Int32) (x3 : Int32) {P : CST → Prop} (hw : x_Fw_putTypes a0 a1 x2 x3 σ0 P) : Met l g_Fw_putTypes (mW g_Fw_putTypes prog_3_method_8_code 5 none) ({ frames := 4, cells := σ0.2.2.2.2.1, slots := σ0.2.2.2.2.2.1, locals := 164 } : Room) (va_Pc [.ref a0, .ref a1, .int x2, .int x3] (CPre (dC, dI) ca σ0 H0)) (va_Qv P (CB (dC, dI) ca σ0 H0) (cA σ0 H0.size)) σ0.2.2.2.2.1 σ0.2.2.2.2.2.1 (cA σ0 H0.size) := by
  refine C_ofv (by decide +kernel) rfl rfl rfl (Nat.le_of_ble_eq_true rfl) ?_
  intro p e s m below meth cx Q A ls C hnm hend hH0 h hl
  subst hH0
  have C0 := C
  obtain ⟨⟨hx, hb, hml, hown, hts⟩, hsub⟩ := C0
  obtain ⟨cells, e_cells⟩ : ∃ z : Nat, z = 0 := ⟨_, rfl⟩
  obtain ⟨slots, e_slots⟩ : ∃ z : Nat, z = 0 := ⟨_, rfl⟩
  have h : CH (dC, dI) A ca ({ frames := 4, cells := σ0.2.2.2.2.1, slots := σ0.2.2.2.2.2.1, locals := 164 } : Room) σ0.2.2.2.2.2.2 σ0 s s.heap [] cells slots := by rw [e_cells, e_slots]; exact h
  show W p l e ({ frames := 4, cells := σ0.2.2.2.2.1, slots := σ0.2.2.2.2.2.1, locals := 164 } : Room) s m ([.ref a0, .ref a1, .int x2, .int x3] : List Value).toArray below meth cx s.heap [] 0 0 Q (F0 m 0 ls [])
  rw [show W p l e ({ frames := 4, cells := σ0.2.2.2.2.1, slots := σ0.2.2.2.2.2.1, locals := 164 } : Room) s m ([.ref a0, .ref a1, .int x2, .int x3] : List Value).toArray below meth cx s.heap [] 0 0 Q (F0 m 0 ls []) = W p l e ({ frames := 4, cells := σ0.2.2.2.2.1, slots := σ0.2.2.2.2.2.1, locals := 164 } : Room) s m ([.ref a0, .ref a1, .int x2, .int x3] : List Value).toArray below meth cx s.heap [] cells slots Q (F0 m 0 ls []) by rw [e_cells, e_slots]]
  have K_3 : ∀ (n : Nat), ∀ (z3 : Int32) (z4 : Int32) (σ : CST) (H : Heap) (locs : List Loc) (cells slots : Nat) (ls : Array Slot), x_Fw_putTypes_3 a0 a1 P n z3 z4 σ → CH (dC, dI) A ca ({ frames := 4, cells := σ0.2.2.2.2.1, slots := σ0.2.2.2.2.2.1, locals := 164 } : Room) σ0.2.2.2.2.2.2 σ s H locs cells slots → lv_has ls 5 [(0, .ref a0), (1, .ref a1), (3, .int z3), (4, .int z4)] → W p l e ({ frames := 4, cells := σ0.2.2.2.2.1, slots := σ0.2.2.2.2.2.1, locals := 164 } : Room) s m ([.ref a0, .ref a1, .int x2, .int x3] : List Value).toArray below meth cx H locs cells slots Q (F0 m 3 ls []) := by
    intro  n
    induction n with
    | zero => intro z3 z4 σ H locs cells slots ls hw h hl; unfold x_Fw_putTypes_3 at hw; exact hw.elim
    | succ n ih =>
      intro z3 z4 σ H locs cells slots ls hw h hl
      unfold x_Fw_putTypes_3 at hw
      refine lv_iload hx hb h_Fw_putTypes_3 (lv_at hl 3 rfl) ?_
      refine lv_iload_n hx hb h_Fw_putTypes_5 rfl (lv_at hl 2 rfl) ?_
      refine lv_icmp_ge (tgt := 23) hx hb h_Fw_putTypes_6 (by decide) (fun c1 => ?_) (fun c1 => ?_)
      · skip
        replace hw := hw.1 c1
        exact hend σ _ _ _ _ _ _ hw h h_Fw_putTypes_23
      · skip
        replace hw := hw.2 c1
        refine lv_aload_n hx hb h_Fw_putTypes_9 rfl (lv_at hl 0 rfl) ?_
        refine lv_aload_n hx hb h_Fw_putTypes_10 rfl (lv_at hl 1 rfl) ?_
        refine lv_iload hx hb h_Fw_putTypes_11 (lv_at hl 3 rfl) ?_
        obtain ⟨n3, g2, hw⟩ := hw
        obtain ⟨g4, hw⟩ := hw
        refine C_iald C h g2 g4 h_Fw_putTypes_13 ?_
        refine lv_topi (fun b5 e_b5 => ?_)
        replace hw := hw b5 e_b5
        obtain ⟨g6, hw⟩ := hw
        refine C_callVv (As := [.int b5]) (rest := []) C h (ci := 11) (Cn := R_Fw) (T := T_Fw) (N := 9) g6 rfl (by decide) (X_Fw_putType l dC dI ca H σ a0 b5 hw) (cwV 1 hts (gV hsub u_72 u_73 u_74 u_57 u_75) rfl rfl rfl (by decide +kernel) ⟨(Nat.le_of_ble_eq_true rfl), (Nat.le_of_ble_eq_true rfl)⟩) rfl hl.1 (Nat.le_of_ble_eq_true rfl) h_Fw_putTypes_14 (fun σ7 H locs cells slots hw9 h9 => ?_)
        clear hw h; have hw := hw9; have h := h9; clear hw9 h9
        refine W.eq (g2 := F0 m 17 ls []) rfl ?_
        refine lv_iinc (v := (z4 + 1)) (lv' := [(4, .int (z4 + 1)), (0, .ref a0), (1, .ref a1), (3, .int z3)]) hx hb h_Fw_putTypes_17 hl (k := 3) rfl (rfl) (by decide) rfl (fun ls hl => ?_)
        refine lv_goto (tgt := 3) hx hb h_Fw_putTypes_20 (by decide) ?_
        exact ih z3 (z4 + 1) σ7 _ _ _ _ _ hw h (lv_sub hl [1, 2, 3, 0] rfl)
  have hl : lv_has ls 5 [(0, .ref a0), (1, .ref a1), (2, .int x2), (3, .int x3)] := hl
  unfold x_Fw_putTypes at hw
  refine lv_iload_n hx hb h_Fw_putTypes_0 rfl (lv_at hl 2 rfl) ?_
  refine lv_istore (lv' := [(4, .int x2), (0, .ref a0), (1, .ref a1), (2, .int x2), (3, .int x3)]) hx hb h_Fw_putTypes_1 hl (by decide) rfl (fun ls hl => ?_)
  obtain ⟨n9, hw⟩ := hw
  exact K_3 n9 x3 x2 σ0 _ _ _ _ _ hw h (lv_sub hl [1, 2, 4, 0] rfl)
abbrev g_Fw_writeShortest : MethodName := ⟨"MapFramer$FrameWriter", "writeShortest", "(I)V"⟩
theorem u_76 : (Cond.methodLink "MapFramer$FrameWriter" 88 ⟨"MapFramer$FrameWriter", "putKind", "(II)V"⟩ : Cond) ∈ bigW := inB_6 227 (by decide +kernel) rfl
theorem u_77 : (Cond.instanceMethod ⟨"MapFramer$FrameWriter", "putKind", "(II)V"⟩ : Cond) ∈ bigW := inB_6 229 (by decide +kernel) rfl
theorem u_78 : (Cond.selects "MapFramer$FrameWriter" ⟨"MapFramer$FrameWriter", "putKind", "(II)V"⟩ ⟨"MapFramer$FrameWriter", "putKind", "(II)V"⟩ : Cond) ∈ bigW := inS (y := ⟨"MapFramer$FrameWriter", "putKind", "(II)V"⟩) (n := 9) (List.mem_of_getElem? (i := 48) (by decide +kernel))
theorem u_79 : (Cond.code ⟨"MapFramer$FrameWriter", "putKind", "(II)V"⟩ prog_3_method_7_code 3 none : Cond) ∈ bigW := inB_6 230 rfl rfl
theorem u_80 : (Cond.methodLink "MapFramer$FrameWriter" 92 ⟨"MapFramer$FrameWriter", "putTypes", "([III)V"⟩ : Cond) ∈ bigW := inB_7 0 (by decide +kernel) rfl
theorem u_81 : (Cond.instanceMethod ⟨"MapFramer$FrameWriter", "putTypes", "([III)V"⟩ : Cond) ∈ bigW := inB_7 2 (by decide +kernel) rfl
theorem u_82 : (Cond.selects "MapFramer$FrameWriter" ⟨"MapFramer$FrameWriter", "putTypes", "([III)V"⟩ ⟨"MapFramer$FrameWriter", "putTypes", "([III)V"⟩ : Cond) ∈ bigW := inS (y := ⟨"MapFramer$FrameWriter", "putTypes", "([III)V"⟩) (n := 9) (List.mem_of_getElem? (i := 51) (by decide +kernel))
theorem u_83 : (Cond.code ⟨"MapFramer$FrameWriter", "putTypes", "([III)V"⟩ prog_3_method_8_code 5 none : Cond) ∈ bigW := inB_7 3 rfl rfl
theorem u_84 : (Cond.fieldLink "MapFramer$FrameWriter" 62 "MapFramer$FrameWriter" "stackCount" "I" : Cond) ∈ bigW := inB_6 190 (by decide +kernel) rfl
theorem u_85 : (Cond.methodLink "MapFramer$FrameWriter" 84 ⟨"MapFramer$FrameWriter", "isOnePartOfOther", "()Z"⟩ : Cond) ∈ bigW := inB_6 223 (by decide +kernel) rfl
theorem u_86 : (Cond.instanceMethod ⟨"MapFramer$FrameWriter", "isOnePartOfOther", "()Z"⟩ : Cond) ∈ bigW := inB_6 225 (by decide +kernel) rfl
theorem u_87 : (Cond.selects "MapFramer$FrameWriter" ⟨"MapFramer$FrameWriter", "isOnePartOfOther", "()Z"⟩ ⟨"MapFramer$FrameWriter", "isOnePartOfOther", "()Z"⟩ : Cond) ∈ bigW := inS (y := ⟨"MapFramer$FrameWriter", "isOnePartOfOther", "()Z"⟩) (n := 9) (List.mem_of_getElem? (i := 47) (by decide +kernel))
theorem u_88 : (Cond.code ⟨"MapFramer$FrameWriter", "isOnePartOfOther", "()Z"⟩ prog_3_method_6_code 2 (some .boolean) : Cond) ∈ bigW := inB_6 226 rfl rfl
theorem h_Fw_writeShortest_0 : decode prog_3_method_5_code 0 = .ok (.aload_n 0, 1) := by decide +kernel
theorem h_Fw_writeShortest_1 : decode prog_3_method_5_code 1 = .ok (.getfield 57, 3) := by decide +kernel
theorem h_Fw_writeShortest_4 : decode prog_3_method_5_code 4 = .ok (.aload_n 0, 1) := by decide +kernel
theorem h_Fw_writeShortest_5 : decode prog_3_method_5_code 5 = .ok (.getfield 39, 3) := by decide +kernel
theorem h_Fw_writeShortest_8 : decode prog_3_method_5_code 8 = .ok (.isub, 1) := by decide +kernel
theorem h_Fw_writeShortest_9 : decode prog_3_method_5_code 9 = .ok (.istore_n 2, 1) := by decide +kernel
theorem h_Fw_writeShortest_10 : decode prog_3_method_5_code 10 = .ok (.aload_n 0, 1) := by decide +kernel
theorem h_Fw_writeShortest_11 : decode prog_3_method_5_code 11 = .ok (.invokevirtual 84, 3) := by decide +kernel
theorem h_Fw_writeShortest_14 : decode prog_3_method_5_code 14 = .ok (.istore_n 3, 1) := by decide +kernel
theorem h_Fw_writeShortest_15 : decode prog_3_method_5_code 15 = .ok (.iload_n 3, 1) := by decide +kernel
theorem h_Fw_writeShortest_16 : decode prog_3_method_5_code 16 = .ok (.ifCond .eq 35, 3) := by decide +kernel
theorem h_Fw_writeShortest_19 : decode prog_3_method_5_code 19 = .ok (.iload_n 2, 1) := by decide +kernel
theorem h_Fw_writeShortest_20 : decode prog_3_method_5_code 20 = .ok (.ifCond .ne 31, 3) := by decide +kernel
theorem h_Fw_writeShortest_23 : decode prog_3_method_5_code 23 = .ok (.aload_n 0, 1) := by decide +kernel
theorem h_Fw_writeShortest_24 : decode prog_3_method_5_code 24 = .ok (.getfield 62, 3) := by decide +kernel
theorem h_Fw_writeShortest_27 : decode prog_3_method_5_code 27 = .ok (.ifCond .ne 24, 3) := by decide +kernel
theorem h_Fw_writeShortest_30 : decode prog_3_method_5_code 30 = .ok (.aload_n 0, 1) := by decide +kernel
theorem h_Fw_writeShortest_31 : decode prog_3_method_5_code 31 = .ok (.iload_n 1, 1) := by decide +kernel
theorem h_Fw_writeShortest_32 : decode prog_3_method_5_code 32 = .ok (.bipush 64, 2) := by decide +kernel
theorem h_Fw_writeShortest_34 : decode prog_3_method_5_code 34 = .ok (.if_icmp .ge 7, 3) := by decide +kernel
theorem h_Fw_writeShortest_37 : decode prog_3_method_5_code 37 = .ok (.iload_n 1, 1) := by decide +kernel
theorem h_Fw_writeShortest_38 : decode prog_3_method_5_code 38 = .ok (.goto 6, 3) := by decide +kernel
theorem h_Fw_writeShortest_41 : decode prog_3_method_5_code 41 = .ok (.sipush 251, 3) := by decide +kernel
theorem h_Fw_writeShortest_44 : decode prog_3_method_5_code 44 = .ok (.iload_n 1, 1) := by decide +kernel
theorem h_Fw_writeShortest_45 : decode prog_3_method_5_code 45 = .ok (.invokevirtual 88, 3) := by decide +kernel
theorem h_Fw_writeShortest_48 : decode prog_3_method_5_code 48 = .ok (.goto 154, 3) := by decide +kernel
theorem h_Fw_writeShortest_51 : decode prog_3_method_5_code 51 = .ok (.iload_n 3, 1) := by decide +kernel
theorem h_Fw_writeShortest_52 : decode prog_3_method_5_code 52 = .ok (.ifCond .eq 49, 3) := by decide +kernel
theorem h_Fw_writeShortest_55 : decode prog_3_method_5_code 55 = .ok (.iload_n 2, 1) := by decide +kernel
theorem h_Fw_writeShortest_56 : decode prog_3_method_5_code 56 = .ok (.ifCond .ne 45, 3) := by decide +kernel
theorem h_Fw_writeShortest_59 : decode prog_3_method_5_code 59 = .ok (.aload_n 0, 1) := by decide +kernel
theorem h_Fw_writeShortest_60 : decode prog_3_method_5_code 60 = .ok (.getfield 62, 3) := by decide +kernel
theorem h_Fw_writeShortest_63 : decode prog_3_method_5_code 63 = .ok (.iconst 1, 1) := by decide +kernel
theorem h_Fw_writeShortest_64 : decode prog_3_method_5_code 64 = .ok (.if_icmp .ne 37, 3) := by decide +kernel
theorem h_Fw_writeShortest_67 : decode prog_3_method_5_code 67 = .ok (.aload_n 0, 1) := by decide +kernel
theorem h_Fw_writeShortest_68 : decode prog_3_method_5_code 68 = .ok (.iload_n 1, 1) := by decide +kernel
theorem h_Fw_writeShortest_69 : decode prog_3_method_5_code 69 = .ok (.bipush 64, 2) := by decide +kernel
theorem h_Fw_writeShortest_71 : decode prog_3_method_5_code 71 = .ok (.if_icmp .ge 10, 3) := by decide +kernel
theorem h_Fw_writeShortest_74 : decode prog_3_method_5_code 74 = .ok (.bipush 64, 2) := by decide +kernel
theorem h_Fw_writeShortest_76 : decode prog_3_method_5_code 76 = .ok (.iload_n 1, 1) := by decide +kernel
theorem h_Fw_writeShortest_77 : decode prog_3_method_5_code 77 = .ok (.iadd, 1) := by decide +kernel
theorem h_Fw_writeShortest_78 : decode prog_3_method_5_code 78 = .ok (.goto 6, 3) := by decide +kernel
theorem h_Fw_writeShortest_81 : decode prog_3_method_5_code 81 = .ok (.sipush 247, 3) := by decide +kernel
theorem h_Fw_writeShortest_84 : decode prog_3_method_5_code 84 = .ok (.iload_n 1, 1) := by decide +kernel
theorem h_Fw_writeShortest_85 : decode prog_3_method_5_code 85 = .ok (.invokevirtual 88, 3) := by decide +kernel
theorem h_Fw_writeShortest_88 : decode prog_3_method_5_code 88 = .ok (.aload_n 0, 1) := by decide +kernel
theorem h_Fw_writeShortest_89 : decode prog_3_method_5_code 89 = .ok (.aload_n 0, 1) := by decide +kernel
theorem h_Fw_writeShortest_90 : decode prog_3_method_5_code 90 = .ok (.getfield 25, 3) := by decide +kernel
theorem h_Fw_writeShortest_93 : decode prog_3_method_5_code 93 = .ok (.iconst 0, 1) := by decide +kernel
theorem h_Fw_writeShortest_94 : decode prog_3_method_5_code 94 = .ok (.iconst 1, 1) := by decide +kernel
theorem h_Fw_writeShortest_95 : decode prog_3_method_5_code 95 = .ok (.invokevirtual 92, 3) := by decide +kernel
theorem h_Fw_writeShortest_98 : decode prog_3_method_5_code 98 = .ok (.goto 104, 3) := by decide +kernel
theorem h_Fw_writeShortest_101 : decode prog_3_method_5_code 101 = .ok (.iload_n 3, 1) := by decide +kernel
theorem h_Fw_writeShortest_102 : decode prog_3_method_5_code 102 = .ok (.ifCond .eq 50, 3) := by decide +kernel
theorem h_Fw_writeShortest_105 : decode prog_3_method_5_code 105 = .ok (.iload_n 2, 1) := by decide +kernel
theorem h_Fw_writeShortest_106 : decode prog_3_method_5_code 106 = .ok (.bipush (-3), 2) := by decide +kernel
theorem h_Fw_writeShortest_108 : decode prog_3_method_5_code 108 = .ok (.if_icmp .lt 44, 3) := by decide +kernel
theorem h_Fw_writeShortest_111 : decode prog_3_method_5_code 111 = .ok (.iload_n 2, 1) := by decide +kernel
theorem h_Fw_writeShortest_112 : decode prog_3_method_5_code 112 = .ok (.iconst 3, 1) := by decide +kernel
theorem h_Fw_writeShortest_113 : decode prog_3_method_5_code 113 = .ok (.if_icmp .gt 39, 3) := by decide +kernel
theorem h_Fw_writeShortest_116 : decode prog_3_method_5_code 116 = .ok (.aload_n 0, 1) := by decide +kernel
theorem h_Fw_writeShortest_117 : decode prog_3_method_5_code 117 = .ok (.getfield 62, 3) := by decide +kernel
theorem h_Fw_writeShortest_120 : decode prog_3_method_5_code 120 = .ok (.ifCond .ne 32, 3) := by decide +kernel
theorem h_Fw_writeShortest_123 : decode prog_3_method_5_code 123 = .ok (.aload_n 0, 1) := by decide +kernel
theorem h_Fw_writeShortest_124 : decode prog_3_method_5_code 124 = .ok (.sipush 251, 3) := by decide +kernel
theorem h_Fw_writeShortest_127 : decode prog_3_method_5_code 127 = .ok (.iload_n 2, 1) := by decide +kernel
theorem h_Fw_writeShortest_128 : decode prog_3_method_5_code 128 = .ok (.iadd, 1) := by decide +kernel
theorem h_Fw_writeShortest_129 : decode prog_3_method_5_code 129 = .ok (.iload_n 1, 1) := by decide +kernel
theorem h_Fw_writeShortest_130 : decode prog_3_method_5_code 130 = .ok (.invokevirtual 88, 3) := by decide +kernel
theorem h_Fw_writeShortest_133 : decode prog_3_method_5_code 133 = .ok (.aload_n 0, 1) := by decide +kernel
theorem h_Fw_writeShortest_134 : decode prog_3_method_5_code 134 = .ok (.aload_n 0, 1) := by decide +kernel
theorem h_Fw_writeShortest_135 : decode prog_3_method_5_code 135 = .ok (.getfield 22, 3) := by decide +kernel
theorem h_Fw_writeShortest_138 : decode prog_3_method_5_code 138 = .ok (.aload_n 0, 1) := by decide +kernel
theorem h_Fw_writeShortest_139 : decode prog_3_method_5_code 139 = .ok (.getfield 39, 3) := by decide +kernel
theorem h_Fw_writeShortest_142 : decode prog_3_method_5_code 142 = .ok (.aload_n 0, 1) := by decide +kernel
theorem h_Fw_writeShortest_143 : decode prog_3_method_5_code 143 = .ok (.getfield 57, 3) := by decide +kernel
theorem h_Fw_writeShortest_146 : decode prog_3_method_5_code 146 = .ok (.invokevirtual 92, 3) := by decide +kernel
theorem h_Fw_writeShortest_149 : decode prog_3_method_5_code 149 = .ok (.goto 53, 3) := by decide +kernel
theorem h_Fw_writeShortest_152 : decode prog_3_method_5_code 152 = .ok (.aload_n 0, 1) := by decide +kernel
theorem h_Fw_writeShortest_153 : decode prog_3_method_5_code 153 = .ok (.sipush 255, 3) := by decide +kernel
theorem h_Fw_writeShortest_156 : decode prog_3_method_5_code 156 = .ok (.iload_n 1, 1) := by decide +kernel
theorem h_Fw_writeShortest_157 : decode prog_3_method_5_code 157 = .ok (.invokevirtual 88, 3) := by decide +kernel
theorem h_Fw_writeShortest_160 : decode prog_3_method_5_code 160 = .ok (.aload_n 0, 1) := by decide +kernel
theorem h_Fw_writeShortest_161 : decode prog_3_method_5_code 161 = .ok (.aload_n 0, 1) := by decide +kernel
theorem h_Fw_writeShortest_162 : decode prog_3_method_5_code 162 = .ok (.getfield 57, 3) := by decide +kernel
theorem h_Fw_writeShortest_165 : decode prog_3_method_5_code 165 = .ok (.invokevirtual 96, 3) := by decide +kernel
theorem h_Fw_writeShortest_168 : decode prog_3_method_5_code 168 = .ok (.aload_n 0, 1) := by decide +kernel
theorem h_Fw_writeShortest_169 : decode prog_3_method_5_code 169 = .ok (.aload_n 0, 1) := by decide +kernel
theorem h_Fw_writeShortest_170 : decode prog_3_method_5_code 170 = .ok (.getfield 22, 3) := by decide +kernel
theorem h_Fw_writeShortest_173 : decode prog_3_method_5_code 173 = .ok (.iconst 0, 1) := by decide +kernel
theorem h_Fw_writeShortest_174 : decode prog_3_method_5_code 174 = .ok (.aload_n 0, 1) := by decide +kernel
theorem h_Fw_writeShortest_175 : decode prog_3_method_5_code 175 = .ok (.getfield 57, 3) := by decide +kernel
theorem h_Fw_writeShortest_178 : decode prog_3_method_5_code 178 = .ok (.invokevirtual 92, 3) := by decide +kernel
theorem h_Fw_writeShortest_181 : decode prog_3_method_5_code 181 = .ok (.aload_n 0, 1) := by decide +kernel
theorem h_Fw_writeShortest_182 : decode prog_3_method_5_code 182 = .ok (.aload_n 0, 1) := by decide +kernel
theorem h_Fw_writeShortest_183 : decode prog_3_method_5_code 183 = .ok (.getfield 62, 3) := by decide +kernel
theorem h_Fw_writeShortest_186 : decode prog_3_method_5_code 186 = .ok (.invokevirtual 96, 3) := by decide +kernel
theorem h_Fw_writeShortest_189 : decode prog_3_method_5_code 189 = .ok (.aload_n 0, 1) := by decide +kernel
theorem h_Fw_writeShortest_190 : decode prog_3_method_5_code 190 = .ok (.aload_n 0, 1) := by decide +kernel
theorem h_Fw_writeShortest_191 : decode prog_3_method_5_code 191 = .ok (.getfield 25, 3) := by decide +kernel
theorem h_Fw_writeShortest_194 : decode prog_3_method_5_code 194 = .ok (.iconst 0, 1) := by decide +kernel
theorem h_Fw_writeShortest_195 : decode prog_3_method_5_code 195 = .ok (.aload_n 0, 1) := by decide +kernel
theorem h_Fw_writeShortest_196 : decode prog_3_method_5_code 196 = .ok (.getfield 62, 3) := by decide +kernel
theorem h_Fw_writeShortest_199 : decode prog_3_method_5_code 199 = .ok (.invokevirtual 92, 3) := by decide +kernel
theorem h_Fw_writeShortest_202 : decode prog_3_method_5_code 202 = .ok (.return_, 1) := by decide +kernel
def x_Fw_writeShortest_152 (a0 : Nat) (P : CST → Prop) (z1 : Int32) (σ : CST) : Prop := σ.1 a0 = some (11, 0) ∧ (x_Fw_putKind a0 (255 : Int32) z1 σ (fun σ2 => σ2.1 a0 = some (11, 0) ∧ (x_Fw_putPair a0 (σ2.2.1 a0 6) σ2 (fun σ5 => σ5.1 a0 = some (11, 0) ∧ (∀ b8 : Option Nat, b8 = (σ5.2.2.2.1 a0 5) → (∃ r9 : Nat, b8 = some r9 ∧ (x_Fw_putTypes a0 r9 (0 : Int32) (σ5.2.1 a0 6) σ5 (fun σ10 => σ10.1 a0 = some (11, 0) ∧ (x_Fw_putPair a0 (σ10.2.1 a0 8) σ10 (fun σ13 => σ13.1 a0 = some (11, 0) ∧ (∀ b16 : Option Nat, b16 = (σ13.2.2.2.1 a0 7) → (∃ r17 : Nat, b16 = some r17 ∧ (x_Fw_putTypes a0 r17 (0 : Int32) (σ13.2.1 a0 8) σ13 (fun σ18 => P σ18))))))))))))))
def x_Fw_writeShortest_101 (a0 : Nat) (P : CST → Prop) (z1 : Int32) (z2 : Int32) (z3 : Int32) (σ : CST) : Prop := ((z3 = 0 → x_Fw_writeShortest_152 a0 P z1 σ) ∧ (¬ z3 = 0 → ((z2 < (-3) → x_Fw_writeShortest_152 a0 P z1 σ) ∧ (¬ z2 < (-3) → ((3 < z2 → x_Fw_writeShortest_152 a0 P z1 σ) ∧ (¬ 3 < z2 → σ.1 a0 = some (11, 0) ∧ ((((σ.2.1 a0 8) = 0 → x_Fw_putKind a0 ((251 : Int32) + z2) z1 σ (fun σ25 => σ25.1 a0 = some (11, 0) ∧ (∀ b28 : Option Nat, b28 = (σ25.2.2.2.1 a0 5) → (∃ r29 : Nat, b28 = some r29 ∧ (x_Fw_putTypes a0 r29 (σ25.2.1 a0 4) (σ25.2.1 a0 6) σ25 (fun σ30 => P σ30)))))) ∧ (¬ (σ.2.1 a0 8) = 0 → x_Fw_writeShortest_152 a0 P z1 σ)))))))))
def x_Fw_writeShortest_84 (a0 : Nat) (P : CST → Prop) (z1 : Int32) (s0 : Int32) (σ : CST) : Prop := σ.1 a0 = some (11, 0) ∧ (x_Fw_putKind a0 s0 z1 σ (fun σ33 => σ33.1 a0 = some (11, 0) ∧ (∀ b36 : Option Nat, b36 = (σ33.2.2.2.1 a0 7) → (∃ r37 : Nat, b36 = some r37 ∧ (x_Fw_putTypes a0 r37 (0 : Int32) (1 : Int32) σ33 (fun σ38 => P σ38))))))
def x_Fw_writeShortest_51 (a0 : Nat) (P : CST → Prop) (z1 : Int32) (z2 : Int32) (z3 : Int32) (σ : CST) : Prop := ((z3 = 0 → x_Fw_writeShortest_101 a0 P z1 z2 z3 σ) ∧ (¬ z3 = 0 → ((z2 = 0 → σ.1 a0 = some (11, 0) ∧ ((((σ.2.1 a0 8) = 1 → ((64 ≤ z1 → x_Fw_writeShortest_84 a0 P z1 247 σ) ∧ (¬ 64 ≤ z1 → x_Fw_writeShortest_84 a0 P z1 ((64 : Int32) + z1) σ))) ∧ (¬ (σ.2.1 a0 8) = 1 → x_Fw_writeShortest_101 a0 P z1 z2 z3 σ)))) ∧ (¬ z2 = 0 → x_Fw_writeShortest_101 a0 P z1 z2 z3 σ))))
def x_Fw_writeShortest_44 (a0 : Nat) (P : CST → Prop) (z1 : Int32) (s0 : Int32) (σ : CST) : Prop := σ.1 a0 = some (11, 0) ∧ (x_Fw_putKind a0 s0 z1 σ (fun σ46 => P σ46))
def x_Fw_writeShortest (a0 : Nat) (x1 : Int32) (σ0 : CST) (P : CST → Prop) : Prop := σ0.1 a0 = some (11, 0) ∧ (x_Fw_isOnePartOfOther a0 σ0 (fun r50 σ49 => ((r50 = 0 → x_Fw_writeShortest_51 a0 P x1 ((σ0.2.1 a0 6) - (σ0.2.1 a0 4)) r50 σ49) ∧ (¬ r50 = 0 → ((((σ0.2.1 a0 6) - (σ0.2.1 a0 4)) = 0 → σ49.1 a0 = some (11, 0) ∧ ((((σ49.2.1 a0 8) = 0 → ((64 ≤ x1 → x_Fw_writeShortest_44 a0 P x1 251 σ49) ∧ (¬ 64 ≤ x1 → x_Fw_writeShortest_44 a0 P x1 x1 σ49))) ∧ (¬ (σ49.2.1 a0 8) = 0 → x_Fw_writeShortest_51 a0 P x1 ((σ0.2.1 a0 6) - (σ0.2.1 a0 4)) r50 σ49)))) ∧ (¬ ((σ0.2.1 a0 6) - (σ0.2.1 a0 4)) = 0 → x_Fw_writeShortest_51 a0 P x1 ((σ0.2.1 a0 6) - (σ0.2.1 a0 4)) r50 σ49))))))
set_option maxHeartbeats 4000000 in
set_option maxRecDepth 100000 in
theorem X_Fw_writeShortest (l : Launch) (dC : Nat → ClassId) (dI : Nat → Nat → Nat) (ca : Nat → ClassId) (H0 : Heap) (σ0 : CST) (a0 : Nat) (x1 : Int32) {P : CST → Prop} (hw : x_Fw_writeShortest a0 x1 σ0 P) : Met l g_Fw_writeShortest (mW g_Fw_writeShortest prog_3_method_5_code 4 none) ({ frames := 5, cells := σ0.2.2.2.2.1, slots := σ0.2.2.2.2.2.1, locals := 188 } : Room) (va_Pc [.ref a0, .int x1] (CPre (dC, dI) ca σ0 H0)) (va_Qv P (CB (dC, dI) ca σ0 H0) (cA σ0 H0.size)) σ0.2.2.2.2.1 σ0.2.2.2.2.2.1 (cA σ0 H0.size) := by
  refine C_ofv (by decide +kernel) rfl rfl rfl (Nat.le_of_ble_eq_true rfl) ?_
  intro p e s m below meth cx Q A ls C hnm hend hH0 h hl
  subst hH0
  have C0 := C
  obtain ⟨⟨hx, hb, hml, hown, hts⟩, hsub⟩ := C0
  obtain ⟨cells, e_cells⟩ : ∃ z : Nat, z = 0 := ⟨_, rfl⟩
  obtain ⟨slots, e_slots⟩ : ∃ z : Nat, z = 0 := ⟨_, rfl⟩
  have h : CH (dC, dI) A ca ({ frames := 5, cells := σ0.2.2.2.2.1, slots := σ0.2.2.2.2.2.1, locals := 188 } : Room) σ0.2.2.2.2.2.2 σ0 s s.heap [] cells slots := by rw [e_cells, e_slots]; exact h
  show W p l e ({ frames := 5, cells := σ0.2.2.2.2.1, slots := σ0.2.2.2.2.2.1, locals := 188 } : Room) s m ([.ref a0, .int x1] : List Value).toArray below meth cx s.heap [] 0 0 Q (F0 m 0 ls [])
  rw [show W p l e ({ frames := 5, cells := σ0.2.2.2.2.1, slots := σ0.2.2.2.2.2.1, locals := 188 } : Room) s m ([.ref a0, .int x1] : List Value).toArray below meth cx s.heap [] 0 0 Q (F0 m 0 ls []) = W p l e ({ frames := 5, cells := σ0.2.2.2.2.1, slots := σ0.2.2.2.2.2.1, locals := 188 } : Room) s m ([.ref a0, .int x1] : List Value).toArray below meth cx s.heap [] cells slots Q (F0 m 0 ls []) by rw [e_cells, e_slots]]
  have K_152 : ∀ (u9 : Unit), ∀ (z1 : Int32) (σ : CST) (H : Heap) (locs : List Loc) (cells slots : Nat) (ls : Array Slot), x_Fw_writeShortest_152 a0 P z1 σ → CH (dC, dI) A ca ({ frames := 5, cells := σ0.2.2.2.2.1, slots := σ0.2.2.2.2.2.1, locals := 188 } : Room) σ0.2.2.2.2.2.2 σ s H locs cells slots → lv_has ls 4 [(0, .ref a0), (1, .int z1)] → W p l e ({ frames := 5, cells := σ0.2.2.2.2.1, slots := σ0.2.2.2.2.2.1, locals := 188 } : Room) s m ([.ref a0, .int x1] : List Value).toArray below meth cx H locs cells slots Q (F0 m 152 ls []) := by
    intro u9 z1 σ H locs cells slots ls hw h hl
    unfold x_Fw_writeShortest_152 at hw
    refine lv_aload_n hx hb h_Fw_writeShortest_152 rfl (lv_at hl 0 rfl) ?_
    refine lv_sipush (v := 255) hx hb h_Fw_writeShortest_153 (by decide) ?_
    refine lv_iload_n hx hb h_Fw_writeShortest_156 rfl (lv_at hl 1 rfl) ?_
    obtain ⟨g1, hw⟩ := hw
    refine C_callVv (As := [.int 255, .int z1]) (rest := []) C h (ci := 11) (Cn := R_Fw) (T := T_Fw) (N := 9) g1 rfl (by decide) (X_Fw_putKind l dC dI ca H σ a0 (255 : Int32) z1 hw) (cwV 2 hts (gV hsub u_76 u_77 u_78 u_57 u_79) rfl rfl rfl (by decide +kernel) ⟨(Nat.le_of_ble_eq_true rfl), (Nat.le_of_ble_eq_true rfl)⟩) rfl hl.1 (Nat.le_of_ble_eq_true rfl) h_Fw_writeShortest_157 (fun σ2 H locs cells slots hw9 h9 => ?_)
    clear hw h; have hw := hw9; have h := h9; clear hw9 h9
    refine W.eq (g2 := F0 m 160 ls []) rfl ?_
    refine lv_aload_n hx hb h_Fw_writeShortest_160 rfl (lv_at hl 0 rfl) ?_
    refine lv_aload_n hx hb h_Fw_writeShortest_161 rfl (lv_at hl 0 rfl) ?_
    obtain ⟨g4, hw⟩ := hw
    refine C_get C h 11 6 (v := .int (σ2.2.1 a0 6)) g4 rfl (Cn := R_Fw) (T := T_Fw) (N := 9) rfl (by decide) rfl uw_Fw (by decide) u_53 (fun _ q => q) h_Fw_writeShortest_162 ?_
    refine C_callVv (As := [.int (σ2.2.1 a0 6)]) (rest := []) C h (ci := 11) (Cn := R_Fw) (T := T_Fw) (N := 9) g4 rfl (by decide) (X_Fw_putPair l dC dI ca H σ2 a0 (σ2.2.1 a0 6) hw) (cwV 1 hts (gV hsub u_59 u_60 u_61 u_57 u_62) rfl rfl rfl (by decide +kernel) ⟨(Nat.le_of_ble_eq_true rfl), (Nat.le_of_ble_eq_true rfl)⟩) rfl hl.1 (Nat.le_of_ble_eq_true rfl) h_Fw_writeShortest_165 (fun σ5 H locs cells slots hw9 h9 => ?_)
    clear hw h; have hw := hw9; have h := h9; clear hw9 h9
    refine W.eq (g2 := F0 m 168 ls []) rfl ?_
    refine lv_aload_n hx hb h_Fw_writeShortest_168 rfl (lv_at hl 0 rfl) ?_
    refine lv_aload_n hx hb h_Fw_writeShortest_169 rfl (lv_at hl 0 rfl) ?_
    obtain ⟨g7, hw⟩ := hw
    refine C_get C h 11 5 (v := va_rf (σ5.2.2.2.1 a0 5)) g7 rfl (Cn := R_Fw) (T := T_Fw) (N := 9) rfl (by decide) rfl uw_Fw (by decide) u_23 (fun _ q => q) h_Fw_writeShortest_170 ?_
    refine lv_topq (fun b8 e_b8 => ?_)
    replace hw := hw b8 e_b8
    refine lv_iconst (v := 0) hx hb h_Fw_writeShortest_173 (by decide) ?_
    refine lv_aload_n hx hb h_Fw_writeShortest_174 rfl (lv_at hl 0 rfl) ?_
    refine C_get C h 11 6 (v := .int (σ5.2.1 a0 6)) g7 rfl (Cn := R_Fw) (T := T_Fw) (N := 9) rfl (by decide) rfl uw_Fw (by decide) u_53 (fun _ q => q) h_Fw_writeShortest_175 ?_
    obtain ⟨r9, e_r9, hw⟩ := hw
    subst e_r9
    have hl : lv_has ls 4 [(0, .ref a0), (1, .int z1)] := hl
    refine W.eq (g2 := F0 m 178 ls [.int (σ5.2.1 a0 6), .int 0, .ref r9, .ref a0]) rfl ?_
    refine C_callVv (As := [.ref r9, .int 0, .int (σ5.2.1 a0 6)]) (rest := []) C h (ci := 11) (Cn := R_Fw) (T := T_Fw) (N := 9) g7 rfl (by decide) (X_Fw_putTypes l dC dI ca H σ5 a0 r9 (0 : Int32) (σ5.2.1 a0 6) hw) (cwV 3 hts (gV hsub u_80 u_81 u_82 u_57 u_83) rfl rfl rfl (by decide +kernel) ⟨(Nat.le_of_ble_eq_true rfl), (Nat.le_of_ble_eq_true rfl)⟩) rfl hl.1 (Nat.le_of_ble_eq_true rfl) h_Fw_writeShortest_178 (fun σ10 H locs cells slots hw9 h9 => ?_)
    clear hw h; have hw := hw9; have h := h9; clear hw9 h9
    refine W.eq (g2 := F0 m 181 ls []) rfl ?_
    refine lv_aload_n hx hb h_Fw_writeShortest_181 rfl (lv_at hl 0 rfl) ?_
    refine lv_aload_n hx hb h_Fw_writeShortest_182 rfl (lv_at hl 0 rfl) ?_
    obtain ⟨g12, hw⟩ := hw
    refine C_get C h 11 8 (v := .int (σ10.2.1 a0 8)) g12 rfl (Cn := R_Fw) (T := T_Fw) (N := 9) rfl (by decide) rfl uw_Fw (by decide) u_84 (fun _ q => q) h_Fw_writeShortest_183 ?_
    refine C_callVv (As := [.int (σ10.2.1 a0 8)]) (rest := []) C h (ci := 11) (Cn := R_Fw) (T := T_Fw) (N := 9) g12 rfl (by decide) (X_Fw_putPair l dC dI ca H σ10 a0 (σ10.2.1 a0 8) hw) (cwV 1 hts (gV hsub u_59 u_60 u_61 u_57 u_62) rfl rfl rfl (by decide +kernel) ⟨(Nat.le_of_ble_eq_true rfl), (Nat.le_of_ble_eq_true rfl)⟩) rfl hl.1 (Nat.le_of_ble_eq_true rfl) h_Fw_writeShortest_186 (fun σ13 H locs cells slots hw9 h9 => ?_)
    clear hw h; have hw := hw9; have h := h9; clear hw9 h9
    refine W.eq (g2 := F0 m 189 ls []) rfl ?_
    refine lv_aload_n hx hb h_Fw_writeShortest_189 rfl (lv_at hl 0 rfl) ?_
    refine lv_aload_n hx hb h_Fw_writeShortest_190 rfl (lv_at hl 0 rfl) ?_
    obtain ⟨g15, hw⟩ := hw
    refine C_get C h 11 7 (v := va_rf (σ13.2.2.2.1 a0 7)) g15 rfl (Cn := R_Fw) (T := T_Fw) (N := 9) rfl (by decide) rfl uw_Fw (by decide) u_24 (fun _ q => q) h_Fw_writeShortest_191 ?_
    refine lv_topq (fun b16 e_b16 => ?_)
    replace hw := hw b16 e_b16
    refine lv_iconst (v := 0) hx hb h_Fw_writeShortest_194 (by decide) ?_
    refine lv_aload_n hx hb h_Fw_writeShortest_195 rfl (lv_at hl 0 rfl) ?_
    refine C_get C h 11 8 (v := .int (σ13.2.1 a0 8)) g15 rfl (Cn := R_Fw) (T := T_Fw) (N := 9) rfl (by decide) rfl uw_Fw (by decide) u_84 (fun _ q => q) h_Fw_writeShortest_196 ?_
    obtain ⟨r17, e_r17, hw⟩ := hw
    subst e_r17
    have hl : lv_has ls 4 [(0, .ref a0), (1, .int z1)] := hl
    refine W.eq (g2 := F0 m 199 ls [.int (σ13.2.1 a0 8), .int 0, .ref r17, .ref a0]) rfl ?_
    refine C_callVv (As := [.ref r17, .int 0, .int (σ13.2.1 a0 8)]) (rest := []) C h (ci := 11) (Cn := R_Fw) (T := T_Fw) (N := 9) g15 rfl (by decide) (X_Fw_putTypes l dC dI ca H σ13 a0 r17 (0 : Int32) (σ13.2.1 a0 8) hw) (cwV 3 hts (gV hsub u_80 u_81 u_82 u_57 u_83) rfl rfl rfl (by decide +kernel) ⟨(Nat.le_of_ble_eq_true rfl), (Nat.le_of_ble_eq_true rfl)⟩) rfl hl.1 (Nat.le_of_ble_eq_true rfl) h_Fw_writeShortest_199 (fun σ18 H locs cells slots hw9 h9 => ?_)
    clear hw h; have hw := hw9; have h := h9; clear hw9 h9
    refine W.eq (g2 := F0 m 202 ls []) rfl ?_
    exact hend σ18 _ _ _ _ _ _ hw h h_Fw_writeShortest_202
  have K_101 : ∀ (u9 : Unit), ∀ (z1 : Int32) (z2 : Int32) (z3 : Int32) (σ : CST) (H : Heap) (locs : List Loc) (cells slots : Nat) (ls : Array Slot), x_Fw_writeShortest_101 a0 P z1 z2 z3 σ → CH (dC, dI) A ca ({ frames := 5, cells := σ0.2.2.2.2.1, slots := σ0.2.2.2.2.2.1, locals := 188 } : Room) σ0.2.2.2.2.2.2 σ s H locs cells slots → lv_has ls 4 [(0, .ref a0), (1, .int z1), (2, .int z2), (3, .int z3)] → W p l e ({ frames := 5, cells := σ0.2.2.2.2.1, slots := σ0.2.2.2.2.2.1, locals := 188 } : Room) s m ([.ref a0, .int x1] : List Value).toArray below meth cx H locs cells slots Q (F0 m 101 ls []) := by
    intro u9 z1 z2 z3 σ H locs cells slots ls hw h hl
    unfold x_Fw_writeShortest_101 at hw
    refine lv_iload_n hx hb h_Fw_writeShortest_101 rfl (lv_at hl 3 rfl) ?_
    refine lv_if_eq (tgt := 152) hx hb h_Fw_writeShortest_102 (by decide) (fun c20 => ?_) (fun c20 => ?_)
    · skip
      replace hw := hw.1 c20
      exact K_152 () z1 σ _ _ _ _ _ hw h (lv_sub hl [0, 1] rfl)
    · skip
      replace hw := hw.2 c20
      refine lv_iload_n hx hb h_Fw_writeShortest_105 rfl (lv_at hl 2 rfl) ?_
      refine lv_bipush (v := (-3)) hx hb h_Fw_writeShortest_106 (by decide) ?_
      refine lv_icmp_lt (tgt := 152) hx hb h_Fw_writeShortest_108 (by decide) (fun c21 => ?_) (fun c21 => ?_)
      · skip
        replace hw := hw.1 c21
        exact K_152 () z1 σ _ _ _ _ _ hw h (lv_sub hl [0, 1] rfl)
      · skip
        replace hw := hw.2 c21
        refine lv_iload_n hx hb h_Fw_writeShortest_111 rfl (lv_at hl 2 rfl) ?_
        refine lv_iconst (v := 3) hx hb h_Fw_writeShortest_112 (by decide) ?_
        refine lv_icmp_gt (tgt := 152) hx hb h_Fw_writeShortest_113 (by decide) (fun c22 => ?_) (fun c22 => ?_)
        · skip
          replace hw := hw.1 c22
          exact K_152 () z1 σ _ _ _ _ _ hw h (lv_sub hl [0, 1] rfl)
        · skip
          replace hw := hw.2 c22
          refine lv_aload_n hx hb h_Fw_writeShortest_116 rfl (lv_at hl 0 rfl) ?_
          obtain ⟨g23, hw⟩ := hw
          refine C_get C h 11 8 (v := .int (σ.2.1 a0 8)) g23 rfl (Cn := R_Fw) (T := T_Fw) (N := 9) rfl (by decide) rfl uw_Fw (by decide) u_84 (fun _ q => q) h_Fw_writeShortest_117 ?_
          refine lv_if_ne (tgt := 152) hx hb h_Fw_writeShortest_120 (by decide) (fun c24 => ?_) (fun c24 => ?_)
          · skip
            replace hw := hw.2 c24
            exact K_152 () z1 σ _ _ _ _ _ hw h (lv_sub hl [0, 1] rfl)
          · skip
            replace hw := hw.1 c24
            refine lv_aload_n hx hb h_Fw_writeShortest_123 rfl (lv_at hl 0 rfl) ?_
            refine lv_sipush (v := 251) hx hb h_Fw_writeShortest_124 (by decide) ?_
            refine lv_iload_n hx hb h_Fw_writeShortest_127 rfl (lv_at hl 2 rfl) ?_
            refine lv_iadd hx hb h_Fw_writeShortest_128 ?_
            refine lv_iload_n hx hb h_Fw_writeShortest_129 rfl (lv_at hl 1 rfl) ?_
            refine C_callVv (As := [.int ((251 : Int32) + z2), .int z1]) (rest := []) C h (ci := 11) (Cn := R_Fw) (T := T_Fw) (N := 9) g23 rfl (by decide) (X_Fw_putKind l dC dI ca H σ a0 ((251 : Int32) + z2) z1 hw) (cwV 2 hts (gV hsub u_76 u_77 u_78 u_57 u_79) rfl rfl rfl (by decide +kernel) ⟨(Nat.le_of_ble_eq_true rfl), (Nat.le_of_ble_eq_true rfl)⟩) rfl hl.1 (Nat.le_of_ble_eq_true rfl) h_Fw_writeShortest_130 (fun σ25 H locs cells slots hw9 h9 => ?_)
            clear hw h; have hw := hw9; have h := h9; clear hw9 h9
            refine W.eq (g2 := F0 m 133 ls []) rfl ?_
            refine lv_aload_n hx hb h_Fw_writeShortest_133 rfl (lv_at hl 0 rfl) ?_
            refine lv_aload_n hx hb h_Fw_writeShortest_134 rfl (lv_at hl 0 rfl) ?_
            obtain ⟨g27, hw⟩ := hw
            refine C_get C h 11 5 (v := va_rf (σ25.2.2.2.1 a0 5)) g27 rfl (Cn := R_Fw) (T := T_Fw) (N := 9) rfl (by decide) rfl uw_Fw (by decide) u_23 (fun _ q => q) h_Fw_writeShortest_135 ?_
            refine lv_topq (fun b28 e_b28 => ?_)
            replace hw := hw b28 e_b28
            refine lv_aload_n hx hb h_Fw_writeShortest_138 rfl (lv_at hl 0 rfl) ?_
            refine C_get C h 11 4 (v := .int (σ25.2.1 a0 4)) g27 rfl (Cn := R_Fw) (T := T_Fw) (N := 9) rfl (by decide) rfl uw_Fw (by decide) u_30 (fun _ q => q) h_Fw_writeShortest_139 ?_
            refine lv_aload_n hx hb h_Fw_writeShortest_142 rfl (lv_at hl 0 rfl) ?_
            refine C_get C h 11 6 (v := .int (σ25.2.1 a0 6)) g27 rfl (Cn := R_Fw) (T := T_Fw) (N := 9) rfl (by decide) rfl uw_Fw (by decide) u_53 (fun _ q => q) h_Fw_writeShortest_143 ?_
            obtain ⟨r29, e_r29, hw⟩ := hw
            subst e_r29
            have hl : lv_has ls 4 [(0, .ref a0), (1, .int z1), (2, .int z2), (3, .int z3)] := hl
            refine W.eq (g2 := F0 m 146 ls [.int (σ25.2.1 a0 6), .int (σ25.2.1 a0 4), .ref r29, .ref a0]) rfl ?_
            refine C_callVv (As := [.ref r29, .int (σ25.2.1 a0 4), .int (σ25.2.1 a0 6)]) (rest := []) C h (ci := 11) (Cn := R_Fw) (T := T_Fw) (N := 9) g27 rfl (by decide) (X_Fw_putTypes l dC dI ca H σ25 a0 r29 (σ25.2.1 a0 4) (σ25.2.1 a0 6) hw) (cwV 3 hts (gV hsub u_80 u_81 u_82 u_57 u_83) rfl rfl rfl (by decide +kernel) ⟨(Nat.le_of_ble_eq_true rfl), (Nat.le_of_ble_eq_true rfl)⟩) rfl hl.1 (Nat.le_of_ble_eq_true rfl) h_Fw_writeShortest_146 (fun σ30 H locs cells slots hw9 h9 => ?_)
            clear hw h; have hw := hw9; have h := h9; clear hw9 h9
            refine W.eq (g2 := F0 m 149 ls []) rfl ?_
            refine lv_goto (tgt := 202) hx hb h_Fw_writeShortest_149 (by decide) ?_
            exact hend σ30 _ _ _ _ _ _ hw h h_Fw_writeShortest_202
  have K_84 : ∀ (u9 : Unit), ∀ (z1 : Int32) (s0 : Int32) (σ : CST) (H : Heap) (locs : List Loc) (cells slots : Nat) (ls : Array Slot), x_Fw_writeShortest_84 a0 P z1 s0 σ → CH (dC, dI) A ca ({ frames := 5, cells := σ0.2.2.2.2.1, slots := σ0.2.2.2.2.2.1, locals := 188 } : Room) σ0.2.2.2.2.2.2 σ s H locs cells slots → lv_has ls 4 [(0, .ref a0), (1, .int z1)] → W p l e ({ frames := 5, cells := σ0.2.2.2.2.1, slots := σ0.2.2.2.2.2.1, locals := 188 } : Room) s m ([.ref a0, .int x1] : List Value).toArray below meth cx H locs cells slots Q (F0 m 84 ls [.int s0, .ref a0]) := by
    intro u9 z1 s0 σ H locs cells slots ls hw h hl
    unfold x_Fw_writeShortest_84 at hw
    refine lv_iload_n hx hb h_Fw_writeShortest_84 rfl (lv_at hl 1 rfl) ?_
    obtain ⟨g32, hw⟩ := hw
    refine C_callVv (As := [.int s0, .int z1]) (rest := []) C h (ci := 11) (Cn := R_Fw) (T := T_Fw) (N := 9) g32 rfl (by decide) (X_Fw_putKind l dC dI ca H σ a0 s0 z1 hw) (cwV 2 hts (gV hsub u_76 u_77 u_78 u_57 u_79) rfl rfl rfl (by decide +kernel) ⟨(Nat.le_of_ble_eq_true rfl), (Nat.le_of_ble_eq_true rfl)⟩) rfl hl.1 (Nat.le_of_ble_eq_true rfl) h_Fw_writeShortest_85 (fun σ33 H locs cells slots hw9 h9 => ?_)
    clear hw h; have hw := hw9; have h := h9; clear hw9 h9
    refine W.eq (g2 := F0 m 88 ls []) rfl ?_
    refine lv_aload_n hx hb h_Fw_writeShortest_88 rfl (lv_at hl 0 rfl) ?_
    refine lv_aload_n hx hb h_Fw_writeShortest_89 rfl (lv_at hl 0 rfl) ?_
    obtain ⟨g35, hw⟩ := hw
    refine C_get C h 11 7 (v := va_rf (σ33.2.2.2.1 a0 7)) g35 rfl (Cn := R_Fw) (T := T_Fw) (N := 9) rfl (by decide) rfl uw_Fw (by decide) u_24 (fun _ q => q) h_Fw_writeShortest_90 ?_
    refine lv_topq (fun b36 e_b36 => ?_)
    replace hw := hw b36 e_b36
    refine lv_iconst (v := 0) hx hb h_Fw_writeShortest_93 (by decide) ?_
    refine lv_iconst (v := 1) hx hb h_Fw_writeShortest_94 (by decide) ?_
    obtain ⟨r37, e_r37, hw⟩ := hw
    subst e_r37
    have hl : lv_has ls 4 [(0, .ref a0), (1, .int z1)] := hl
    refine W.eq (g2 := F0 m 95 ls [.int 1, .int 0, .ref r37, .ref a0]) rfl ?_
    refine C_callVv (As := [.ref r37, .int 0, .int 1]) (rest := []) C h (ci := 11) (Cn := R_Fw) (T := T_Fw) (N := 9) g35 rfl (by decide) (X_Fw_putTypes l dC dI ca H σ33 a0 r37 (0 : Int32) (1 : Int32) hw) (cwV 3 hts (gV hsub u_80 u_81 u_82 u_57 u_83) rfl rfl rfl (by decide +kernel) ⟨(Nat.le_of_ble_eq_true rfl), (Nat.le_of_ble_eq_true rfl)⟩) rfl hl.1 (Nat.le_of_ble_eq_true rfl) h_Fw_writeShortest_95 (fun σ38 H locs cells slots hw9 h9 => ?_)
    clear hw h; have hw := hw9; have h := h9; clear hw9 h9
    refine W.eq (g2 := F0 m 98 ls []) rfl ?_
    refine lv_goto (tgt := 202) hx hb h_Fw_writeShortest_98 (by decide) ?_
    exact hend σ38 _ _ _ _ _ _ hw h h_Fw_writeShortest_202
  have K_51 : ∀ (u9 : Unit), ∀ (z1 : Int32) (z2 : Int32) (z3 : Int32) (σ : CST) (H : Heap) (locs : List Loc) (cells slots : Nat) (ls : Array Slot), x_Fw_writeShortest_51 a0 P z1 z2 z3 σ → CH (dC, dI) A ca ({ frames := 5, cells := σ0.2.2.2.2.1, slots := σ0.2.2.2.2.2.1, locals := 188 } : Room) σ0.2.2.2.2.2.2 σ s H locs cells slots → lv_has ls 4 [(0, .ref a0), (1, .int z1), (2, .int z2), (3, .int z3)] → W p l e ({ frames := 5, cells := σ0.2.2.2.2.1, slots := σ0.2.2.2.2.2.1, locals := 188 } : Room) s m ([.ref a0, .int x1] : List Value).toArray below meth cx H locs cells slots Q (F0 m 51 ls []) := by
    intro u9 z1 z2 z3 σ H locs cells slots ls hw h hl
    unfold x_Fw_writeShortest_51 at hw
    refine lv_iload_n hx hb h_Fw_writeShortest_51 rfl (lv_at hl 3 rfl) ?_
    refine lv_if_eq (tgt := 101) hx hb h_Fw_writeShortest_52 (by decide) (fun c40 => ?_) (fun c40 => ?_)
    · skip
      replace hw := hw.1 c40
      exact K_101 () z1 z2 z3 σ _ _ _ _ _ hw h (lv_sub hl [0, 1, 2, 3] rfl)
    · skip
      replace hw := hw.2 c40
      refine lv_iload_n hx hb h_Fw_writeShortest_55 rfl (lv_at hl 2 rfl) ?_
      refine lv_if_ne (tgt := 101) hx hb h_Fw_writeShortest_56 (by decide) (fun c41 => ?_) (fun c41 => ?_)
      · skip
        replace hw := hw.2 c41
        exact K_101 () z1 z2 z3 σ _ _ _ _ _ hw h (lv_sub hl [0, 1, 2, 3] rfl)
      · skip
        replace hw := hw.1 c41
        refine lv_aload_n hx hb h_Fw_writeShortest_59 rfl (lv_at hl 0 rfl) ?_
        obtain ⟨g42, hw⟩ := hw
        refine C_get C h 11 8 (v := .int (σ.2.1 a0 8)) g42 rfl (Cn := R_Fw) (T := T_Fw) (N := 9) rfl (by decide) rfl uw_Fw (by decide) u_84 (fun _ q => q) h_Fw_writeShortest_60 ?_
        refine lv_iconst (v := 1) hx hb h_Fw_writeShortest_63 (by decide) ?_
        refine lv_icmp_ne (tgt := 101) hx hb h_Fw_writeShortest_64 (by decide) (fun c43 => ?_) (fun c43 => ?_)
        · skip
          replace hw := hw.2 c43
          exact K_101 () z1 z2 z3 σ _ _ _ _ _ hw h (lv_sub hl [0, 1, 2, 3] rfl)
        · skip
          replace hw := hw.1 c43
          refine lv_aload_n hx hb h_Fw_writeShortest_67 rfl (lv_at hl 0 rfl) ?_
          refine lv_iload_n hx hb h_Fw_writeShortest_68 rfl (lv_at hl 1 rfl) ?_
          refine lv_bipush (v := 64) hx hb h_Fw_writeShortest_69 (by decide) ?_
          refine lv_icmp_ge (tgt := 81) hx hb h_Fw_writeShortest_71 (by decide) (fun c44 => ?_) (fun c44 => ?_)
          · skip
            replace hw := hw.1 c44
            refine lv_sipush (v := 247) hx hb h_Fw_writeShortest_81 (by decide) ?_
            exact K_84 () z1 247 σ _ _ _ _ _ hw h (lv_sub hl [0, 1] rfl)
          · skip
            replace hw := hw.2 c44
            refine lv_bipush (v := 64) hx hb h_Fw_writeShortest_74 (by decide) ?_
            refine lv_iload_n hx hb h_Fw_writeShortest_76 rfl (lv_at hl 1 rfl) ?_
            refine lv_iadd hx hb h_Fw_writeShortest_77 ?_
            refine lv_goto (tgt := 84) hx hb h_Fw_writeShortest_78 (by decide) ?_
            exact K_84 () z1 ((64 : Int32) + z1) σ _ _ _ _ _ hw h (lv_sub hl [0, 1] rfl)
  have K_44 : ∀ (u9 : Unit), ∀ (z1 : Int32) (s0 : Int32) (σ : CST) (H : Heap) (locs : List Loc) (cells slots : Nat) (ls : Array Slot), x_Fw_writeShortest_44 a0 P z1 s0 σ → CH (dC, dI) A ca ({ frames := 5, cells := σ0.2.2.2.2.1, slots := σ0.2.2.2.2.2.1, locals := 188 } : Room) σ0.2.2.2.2.2.2 σ s H locs cells slots → lv_has ls 4 [(1, .int z1)] → W p l e ({ frames := 5, cells := σ0.2.2.2.2.1, slots := σ0.2.2.2.2.2.1, locals := 188 } : Room) s m ([.ref a0, .int x1] : List Value).toArray below meth cx H locs cells slots Q (F0 m 44 ls [.int s0, .ref a0]) := by
    intro u9 z1 s0 σ H locs cells slots ls hw h hl
    unfold x_Fw_writeShortest_44 at hw
    refine lv_iload_n hx hb h_Fw_writeShortest_44 rfl (lv_at hl 0 rfl) ?_
    obtain ⟨g45, hw⟩ := hw
    refine C_callVv (As := [.int s0, .int z1]) (rest := []) C h (ci := 11) (Cn := R_Fw) (T := T_Fw) (N := 9) g45 rfl (by decide) (X_Fw_putKind l dC dI ca H σ a0 s0 z1 hw) (cwV 2 hts (gV hsub u_76 u_77 u_78 u_57 u_79) rfl rfl rfl (by decide +kernel) ⟨(Nat.le_of_ble_eq_true rfl), (Nat.le_of_ble_eq_true rfl)⟩) rfl hl.1 (Nat.le_of_ble_eq_true rfl) h_Fw_writeShortest_45 (fun σ46 H locs cells slots hw9 h9 => ?_)
    clear hw h; have hw := hw9; have h := h9; clear hw9 h9
    refine W.eq (g2 := F0 m 48 ls []) rfl ?_
    refine lv_goto (tgt := 202) hx hb h_Fw_writeShortest_48 (by decide) ?_
    exact hend σ46 _ _ _ _ _ _ hw h h_Fw_writeShortest_202
  have hl : lv_has ls 4 [(0, .ref a0), (1, .int x1)] := hl
  unfold x_Fw_writeShortest at hw
  refine lv_aload_n hx hb h_Fw_writeShortest_0 rfl (lv_at hl 0 rfl) ?_
  obtain ⟨g48, hw⟩ := hw
  refine C_get C h 11 6 (v := .int (σ0.2.1 a0 6)) g48 rfl (Cn := R_Fw) (T := T_Fw) (N := 9) rfl (by decide) rfl uw_Fw (by decide) u_53 (fun _ q => q) h_Fw_writeShortest_1 ?_
  refine lv_aload_n hx hb h_Fw_writeShortest_4 rfl (lv_at hl 0 rfl) ?_
  refine C_get C h 11 4 (v := .int (σ0.2.1 a0 4)) g48 rfl (Cn := R_Fw) (T := T_Fw) (N := 9) rfl (by decide) rfl uw_Fw (by decide) u_30 (fun _ q => q) h_Fw_writeShortest_5 ?_
  refine lv_isub hx hb h_Fw_writeShortest_8 ?_
  refine lv_istore_n (i := 2) (lv' := [(2, .int ((σ0.2.1 a0 6) - (σ0.2.1 a0 4))), (0, .ref a0), (1, .int x1)]) hx hb h_Fw_writeShortest_9 rfl hl (by decide) rfl (fun ls hl => ?_)
  refine lv_aload_n hx hb h_Fw_writeShortest_10 rfl (lv_at hl 1 rfl) ?_
  refine C_callVi (As := []) (rest := []) C h (ci := 11) (Cn := R_Fw) (T := T_Fw) (N := 9) g48 rfl (by decide) (X_Fw_isOnePartOfOther l dC dI ca s.heap σ0 a0 hw) (cwV 0 hts (gV hsub u_85 u_86 u_87 u_57 u_88) rfl rfl rfl (by decide +kernel) ⟨(Nat.le_of_ble_eq_true rfl), (Nat.le_of_ble_eq_true rfl)⟩) rfl hl.1 (Nat.le_of_ble_eq_true rfl) h_Fw_writeShortest_11 (fun r50 σ49 H locs cells slots hw9 h9 => ?_)
  clear hw h; have hw := hw9; have h := h9; clear hw9 h9
  refine W.eq (g2 := F0 m 14 ls [.int r50]) rfl ?_
  refine lv_istore_n (i := 3) (lv' := [(3, .int r50), (2, .int ((σ0.2.1 a0 6) - (σ0.2.1 a0 4))), (0, .ref a0), (1, .int x1)]) hx hb h_Fw_writeShortest_14 rfl hl (by decide) rfl (fun ls hl => ?_)
  refine lv_iload_n hx hb h_Fw_writeShortest_15 rfl (lv_at hl 0 rfl) ?_
  refine lv_if_eq (tgt := 51) hx hb h_Fw_writeShortest_16 (by decide) (fun c51 => ?_) (fun c51 => ?_)
  · skip
    replace hw := hw.1 c51
    exact K_51 () x1 ((σ0.2.1 a0 6) - (σ0.2.1 a0 4)) r50 σ49 _ _ _ _ _ hw h (lv_sub hl [2, 3, 1, 0] rfl)
  · skip
    replace hw := hw.2 c51
    refine lv_iload_n hx hb h_Fw_writeShortest_19 rfl (lv_at hl 1 rfl) ?_
    refine lv_if_ne (tgt := 51) hx hb h_Fw_writeShortest_20 (by decide) (fun c52 => ?_) (fun c52 => ?_)
    · skip
      replace hw := hw.2 c52
      exact K_51 () x1 ((σ0.2.1 a0 6) - (σ0.2.1 a0 4)) r50 σ49 _ _ _ _ _ hw h (lv_sub hl [2, 3, 1, 0] rfl)
    · skip
      replace hw := hw.1 c52
      refine lv_aload_n hx hb h_Fw_writeShortest_23 rfl (lv_at hl 2 rfl) ?_
      obtain ⟨g53, hw⟩ := hw
      refine C_get C h 11 8 (v := .int (σ49.2.1 a0 8)) g53 rfl (Cn := R_Fw) (T := T_Fw) (N := 9) rfl (by decide) rfl uw_Fw (by decide) u_84 (fun _ q => q) h_Fw_writeShortest_24 ?_
      refine lv_if_ne (tgt := 51) hx hb h_Fw_writeShortest_27 (by decide) (fun c54 => ?_) (fun c54 => ?_)
      · skip
        replace hw := hw.2 c54
        exact K_51 () x1 ((σ0.2.1 a0 6) - (σ0.2.1 a0 4)) r50 σ49 _ _ _ _ _ hw h (lv_sub hl [2, 3, 1, 0] rfl)
      · skip
        replace hw := hw.1 c54
        refine lv_aload_n hx hb h_Fw_writeShortest_30 rfl (lv_at hl 2 rfl) ?_
        refine lv_iload_n hx hb h_Fw_writeShortest_31 rfl (lv_at hl 3 rfl) ?_
        refine lv_bipush (v := 64) hx hb h_Fw_writeShortest_32 (by decide) ?_
        refine lv_icmp_ge (tgt := 41) hx hb h_Fw_writeShortest_34 (by decide) (fun c55 => ?_) (fun c55 => ?_)
        · skip
          replace hw := hw.1 c55
          refine lv_sipush (v := 251) hx hb h_Fw_writeShortest_41 (by decide) ?_
          exact K_44 () x1 251 σ49 _ _ _ _ _ hw h (lv_sub hl [3] rfl)
        · skip
          replace hw := hw.2 c55
          refine lv_iload_n hx hb h_Fw_writeShortest_37 rfl (lv_at hl 3 rfl) ?_
          refine lv_goto (tgt := 44) hx hb h_Fw_writeShortest_38 (by decide) ?_
          exact K_44 () x1 x1 σ49 _ _ _ _ _ hw h (lv_sub hl [3] rfl)
abbrev g_Fw_write : MethodName := ⟨"MapFramer$FrameWriter", "write", "(ILMapFramer$State;)V"⟩
theorem u_89 : (Cond.methodLink "MapFramer$FrameWriter" 75 ⟨"MapFramer$FrameWriter", "writeShortest", "(I)V"⟩ : Cond) ∈ bigW := inB_6 219 (by decide +kernel) rfl
theorem u_90 : (Cond.instanceMethod ⟨"MapFramer$FrameWriter", "writeShortest", "(I)V"⟩ : Cond) ∈ bigW := inB_6 221 (by decide +kernel) rfl
theorem u_91 : (Cond.selects "MapFramer$FrameWriter" ⟨"MapFramer$FrameWriter", "writeShortest", "(I)V"⟩ ⟨"MapFramer$FrameWriter", "writeShortest", "(I)V"⟩ : Cond) ∈ bigW := inS (y := ⟨"MapFramer$FrameWriter", "writeShortest", "(I)V"⟩) (n := 9) (List.mem_of_getElem? (i := 46) (by decide +kernel))
theorem u_92 : (Cond.code ⟨"MapFramer$FrameWriter", "writeShortest", "(I)V"⟩ prog_3_method_5_code 4 none : Cond) ∈ bigW := inB_6 222 rfl rfl
theorem u_93 : (Cond.methodLink "MapFramer$FrameWriter" 65 ⟨"MapFramer$FrameWriter", "listLocals", "(LMapFramer$State;)V"⟩ : Cond) ∈ bigW := inB_6 214 (by decide +kernel) rfl
theorem u_94 : (Cond.instanceMethod ⟨"MapFramer$FrameWriter", "listLocals", "(LMapFramer$State;)V"⟩ : Cond) ∈ bigW := inB_6 216 (by decide +kernel) rfl
theorem u_95 : (Cond.selects "MapFramer$FrameWriter" ⟨"MapFramer$FrameWriter", "listLocals", "(LMapFramer$State;)V"⟩ ⟨"MapFramer$FrameWriter", "listLocals", "(LMapFramer$State;)V"⟩ : Cond) ∈ bigW := inS (y := ⟨"MapFramer$FrameWriter", "listLocals", "(LMapFramer$State;)V"⟩) (n := 9) (List.mem_of_getElem? (i := 45) (by decide +kernel))
theorem u_96 : (Cond.code ⟨"MapFramer$FrameWriter", "listLocals", "(LMapFramer$State;)V"⟩ prog_3_method_4_code 4 none : Cond) ∈ bigW := inB_6 217 rfl rfl
theorem u_97 : (Cond.fieldLink "MapFramer$FrameWriter" 69 "MapFramer$State" "size" "I" : Cond) ∈ bigW := inB_3 183 (by decide +kernel) rfl
theorem u_98 : (Cond.fieldLink "MapFramer$FrameWriter" 74 "MapFramer$State" "stack" "[I" : Cond) ∈ bigW := inB_3 180 (by decide +kernel) rfl
theorem h_Fw_write_0 : decode prog_3_method_3_code 0 = .ok (.aload_n 2, 1) := by decide +kernel
theorem h_Fw_write_1 : decode prog_3_method_3_code 1 = .ok (.ifnonnull 24, 3) := by decide +kernel
theorem h_Fw_write_25 : decode prog_3_method_3_code 25 = .ok (.aload_n 0, 1) := by decide +kernel
theorem h_Fw_write_26 : decode prog_3_method_3_code 26 = .ok (.aload_n 2, 1) := by decide +kernel
theorem h_Fw_write_27 : decode prog_3_method_3_code 27 = .ok (.invokevirtual 65, 3) := by decide +kernel
theorem h_Fw_write_30 : decode prog_3_method_3_code 30 = .ok (.aload_n 0, 1) := by decide +kernel
theorem h_Fw_write_31 : decode prog_3_method_3_code 31 = .ok (.aload_n 2, 1) := by decide +kernel
theorem h_Fw_write_32 : decode prog_3_method_3_code 32 = .ok (.getfield 69, 3) := by decide +kernel
theorem h_Fw_write_35 : decode prog_3_method_3_code 35 = .ok (.bipush 12, 2) := by decide +kernel
theorem h_Fw_write_37 : decode prog_3_method_3_code 37 = .ok (.invokestatic 33, 3) := by decide +kernel
theorem h_Fw_write_40 : decode prog_3_method_3_code 40 = .ok (.putfield 62, 3) := by decide +kernel
theorem h_Fw_write_43 : decode prog_3_method_3_code 43 = .ok (.aload_n 2, 1) := by decide +kernel
theorem h_Fw_write_44 : decode prog_3_method_3_code 44 = .ok (.getfield 74, 3) := by decide +kernel
theorem h_Fw_write_47 : decode prog_3_method_3_code 47 = .ok (.iconst 0, 1) := by decide +kernel
theorem h_Fw_write_48 : decode prog_3_method_3_code 48 = .ok (.aload_n 0, 1) := by decide +kernel
theorem h_Fw_write_49 : decode prog_3_method_3_code 49 = .ok (.getfield 25, 3) := by decide +kernel
theorem h_Fw_write_52 : decode prog_3_method_3_code 52 = .ok (.iconst 0, 1) := by decide +kernel
theorem h_Fw_write_53 : decode prog_3_method_3_code 53 = .ok (.aload_n 0, 1) := by decide +kernel
theorem h_Fw_write_54 : decode prog_3_method_3_code 54 = .ok (.getfield 62, 3) := by decide +kernel
theorem h_Fw_write_57 : decode prog_3_method_3_code 57 = .ok (.invokestatic 42, 3) := by decide +kernel
theorem h_Fw_write_60 : decode prog_3_method_3_code 60 = .ok (.aload_n 0, 1) := by decide +kernel
theorem h_Fw_write_61 : decode prog_3_method_3_code 61 = .ok (.iload_n 1, 1) := by decide +kernel
theorem h_Fw_write_62 : decode prog_3_method_3_code 62 = .ok (.aload_n 0, 1) := by decide +kernel
theorem h_Fw_write_63 : decode prog_3_method_3_code 63 = .ok (.getfield 15, 3) := by decide +kernel
theorem h_Fw_write_66 : decode prog_3_method_3_code 66 = .ok (.isub, 1) := by decide +kernel
theorem h_Fw_write_67 : decode prog_3_method_3_code 67 = .ok (.iconst 1, 1) := by decide +kernel
theorem h_Fw_write_68 : decode prog_3_method_3_code 68 = .ok (.isub, 1) := by decide +kernel
theorem h_Fw_write_69 : decode prog_3_method_3_code 69 = .ok (.invokevirtual 75, 3) := by decide +kernel
theorem h_Fw_write_72 : decode prog_3_method_3_code 72 = .ok (.aload_n 0, 1) := by decide +kernel
theorem h_Fw_write_73 : decode prog_3_method_3_code 73 = .ok (.iload_n 1, 1) := by decide +kernel
theorem h_Fw_write_74 : decode prog_3_method_3_code 74 = .ok (.putfield 15, 3) := by decide +kernel
theorem h_Fw_write_77 : decode prog_3_method_3_code 77 = .ok (.aload_n 0, 1) := by decide +kernel
theorem h_Fw_write_78 : decode prog_3_method_3_code 78 = .ok (.getfield 19, 3) := by decide +kernel
theorem h_Fw_write_81 : decode prog_3_method_3_code 81 = .ok (.astore_n 3, 1) := by decide +kernel
theorem h_Fw_write_82 : decode prog_3_method_3_code 82 = .ok (.aload_n 0, 1) := by decide +kernel
theorem h_Fw_write_83 : decode prog_3_method_3_code 83 = .ok (.aload_n 0, 1) := by decide +kernel
theorem h_Fw_write_84 : decode prog_3_method_3_code 84 = .ok (.getfield 22, 3) := by decide +kernel
theorem h_Fw_write_87 : decode prog_3_method_3_code 87 = .ok (.putfield 19, 3) := by decide +kernel
theorem h_Fw_write_90 : decode prog_3_method_3_code 90 = .ok (.aload_n 0, 1) := by decide +kernel
theorem h_Fw_write_91 : decode prog_3_method_3_code 91 = .ok (.aload_n 0, 1) := by decide +kernel
theorem h_Fw_write_92 : decode prog_3_method_3_code 92 = .ok (.getfield 57, 3) := by decide +kernel
theorem h_Fw_write_95 : decode prog_3_method_3_code 95 = .ok (.putfield 39, 3) := by decide +kernel
theorem h_Fw_write_98 : decode prog_3_method_3_code 98 = .ok (.aload_n 0, 1) := by decide +kernel
theorem h_Fw_write_99 : decode prog_3_method_3_code 99 = .ok (.aload_n 3, 1) := by decide +kernel
theorem h_Fw_write_100 : decode prog_3_method_3_code 100 = .ok (.putfield 22, 3) := by decide +kernel
theorem h_Fw_write_103 : decode prog_3_method_3_code 103 = .ok (.return_, 1) := by decide +kernel
def x_Fw_write_60 (a0 : Nat) (a2 : Nat) (P : CST → Prop) (z1 : Int32) (σ : CST) : Prop := σ.1 a0 = some (11, 0) ∧ (x_Fw_writeShortest a0 ((z1 - (σ.2.1 a0 2)) - 1) σ (fun σ2 => σ2.1 a0 = some (11, 0) ∧ (∀ σ5 : CST, σ5 = sI σ2 a0 2 z1 → σ5.1 a0 = some (11, 0) ∧ (∀ b7 : Option Nat, b7 = (σ5.2.2.2.1 a0 3) → ∀ b8 : Option Nat, b8 = (σ5.2.2.2.1 a0 5) → ∀ σ9 : CST, σ9 = sR σ5 a0 3 b8 → σ9.1 a0 = some (11, 0) ∧ (∀ σ11 : CST, σ11 = sI σ9 a0 4 (σ9.2.1 a0 6) → σ11.1 a0 = some (11, 0) ∧ (∀ σ13 : CST, σ13 = sR σ11 a0 5 b7 → P σ13))))))
def x_Fw_write (a0 : Nat) (x1 : Int32) (a2 : Nat) (σ0 : CST) (P : CST → Prop) : Prop := σ0.1 a0 = some (11, 0) ∧ (x_Fw_listLocals a0 a2 σ0 (fun σ15 => σ15.1 a2 = some (8, 0) ∧ (x_BMath_min (σ15.2.1 a2 2) (12 : Int32) σ15 (fun r19 σ18 => σ18.1 a0 = some (11, 0) ∧ (∀ σ21 : CST, σ21 = sI σ18 a0 8 r19 → σ21.1 a2 = some (8, 0) ∧ (∀ b23 : Option Nat, b23 = (σ21.2.2.2.1 a2 1) → σ21.1 a0 = some (11, 0) ∧ (∀ b25 : Option Nat, b25 = (σ21.2.2.2.1 a0 7) → (∃ r26 : Nat, b23 = some r26 ∧ ((∃ r27 : Nat, b25 = some r27 ∧ ((∃ n29 : Nat, σ21.1 r26 = some (20, n29) ∧ ((∃ n31 : Nat, σ21.1 r27 = some (20, n31) ∧ ((¬ (0 : Int32) < 0 ∧ ¬ (0 : Int32) < 0 ∧ ¬ ((σ21.2.1 a0 8) : Int32) < 0 ∧ (0 : Int32).toNatClampNeg + ((σ21.2.1 a0 8) : Int32).toNatClampNeg ≤ n29 ∧ (0 : Int32).toNatClampNeg + ((σ21.2.1 a0 8) : Int32).toNatClampNeg ≤ n31 ∧ ∀ σ37 : CST, σ37 = sA σ21 r27 (va_cpy (σ21.2.1 r26) (σ21.2.1 r27) (0 : Int32).toNatClampNeg (0 : Int32).toNatClampNeg ((σ21.2.1 a0 8) : Int32).toNatClampNeg) → x_Fw_write_60 a0 a2 P x1 σ37))))))))))))))))
set_option maxHeartbeats 4000000 in
set_option maxRecDepth 100000 in
theorem X_Fw_write (l : Launch) (dC : Nat → ClassId) (dI : Nat → Nat → Nat) (ca : Nat → ClassId) (H0 : Heap) (σ0 : CST) (a0 : Nat) (x1 : Int32) (a2 : Nat) {P : CST → Prop} (hw : x_Fw_write a0 x1 a2 σ0 P) : Met l g_Fw_write (mW g_Fw_write prog_3_method_3_code 4 none) ({ frames := 6, cells := σ0.2.2.2.2.1, slots := σ0.2.2.2.2.2.1, locals := 211 } : Room) (va_Pc [.ref a0, .int x1, .ref a2] (CPre (dC, dI) ca σ0 H0)) (va_Qv P (CB (dC, dI) ca σ0 H0) (cA σ0 H0.size)) σ0.2.2.2.2.1 σ0.2.2.2.2.2.1 (cA σ0 H0.size) := by
  refine C_ofv (by decide +kernel) rfl rfl rfl (Nat.le_of_ble_eq_true rfl) ?_
  intro p e s m below meth cx Q A ls C hnm hend hH0 h hl
  subst hH0
  have C0 := C
  obtain ⟨⟨hx, hb, hml, hown, hts⟩, hsub⟩ := C0
  obtain ⟨cells, e_cells⟩ : ∃ z : Nat, z = 0 := ⟨_, rfl⟩
  obtain ⟨slots, e_slots⟩ : ∃ z : Nat, z = 0 := ⟨_, rfl⟩
  have h : CH (dC, dI) A ca ({ frames := 6, cells := σ0.2.2.2.2.1, slots := σ0.2.2.2.2.2.1, locals := 211 } : Room) σ0.2.2.2.2.2.2 σ0 s s.heap [] cells slots := by rw [e_cells, e_slots]; exact h
  show W p l e ({ frames := 6, cells := σ0.2.2.2.2.1, slots := σ0.2.2.2.2.2.1, locals := 211 } : Room) s m ([.ref a0, .int x1, .ref a2] : List Value).toArray below meth cx s.heap [] 0 0 Q (F0 m 0 ls [])
  rw [show W p l e ({ frames := 6, cells := σ0.2.2.2.2.1, slots := σ0.2.2.2.2.2.1, locals := 211 } : Room) s m ([.ref a0, .int x1, .ref a2] : List Value).toArray below meth cx s.heap [] 0 0 Q (F0 m 0 ls []) = W p l e ({ frames := 6, cells := σ0.2.2.2.2.1, slots := σ0.2.2.2.2.2.1, locals := 211 } : Room) s m ([.ref a0, .int x1, .ref a2] : List Value).toArray below meth cx s.heap [] cells slots Q (F0 m 0 ls []) by rw [e_cells, e_slots]]
  have K_60 : ∀ (u9 : Unit), ∀ (z1 : Int32) (σ : CST) (H : Heap) (locs : List Loc) (cells slots : Nat) (ls : Array Slot), x_Fw_write_60 a0 a2 P z1 σ → CH (dC, dI) A ca ({ frames := 6, cells := σ0.2.2.2.2.1, slots := σ0.2.2.2.2.2.1, locals := 211 } : Room) σ0.2.2.2.2.2.2 σ s H locs cells slots → lv_has ls 4 [(0, .ref a0), (1, .int z1)] → W p l e ({ frames := 6, cells := σ0.2.2.2.2.1, slots := σ0.2.2.2.2.2.1, locals := 211 } : Room) s m ([.ref a0, .int x1, .ref a2] : List Value).toArray below meth cx H locs cells slots Q (F0 m 60 ls []) := by
    intro u9 z1 σ H locs cells slots ls hw h hl
    unfold x_Fw_write_60 at hw
    refine lv_aload_n hx hb h_Fw_write_60 rfl (lv_at hl 0 rfl) ?_
    refine lv_iload_n hx hb h_Fw_write_61 rfl (lv_at hl 1 rfl) ?_
    refine lv_aload_n hx hb h_Fw_write_62 rfl (lv_at hl 0 rfl) ?_
    obtain ⟨g1, hw⟩ := hw
    refine C_get C h 11 2 (v := .int (σ.2.1 a0 2)) g1 rfl (Cn := R_Fw) (T := T_Fw) (N := 9) rfl (by decide) rfl uw_Fw (by decide) u_21 (fun _ q => q) h_Fw_write_63 ?_
    refine lv_isub hx hb h_Fw_write_66 ?_
    refine lv_iconst (v := 1) hx hb h_Fw_write_67 (by decide) ?_
    refine lv_isub hx hb h_Fw_write_68 ?_
    refine C_callVv (As := [.int ((z1 - (σ.2.1 a0 2)) - 1)]) (rest := []) C h (ci := 11) (Cn := R_Fw) (T := T_Fw) (N := 9) g1 rfl (by decide) (X_Fw_writeShortest l dC dI ca H σ a0 ((z1 - (σ.2.1 a0 2)) - 1) hw) (cwV 1 hts (gV hsub u_89 u_90 u_91 u_57 u_92) rfl rfl rfl (by decide +kernel) ⟨(Nat.le_of_ble_eq_true rfl), (Nat.le_of_ble_eq_true rfl)⟩) rfl hl.1 (Nat.le_of_ble_eq_true rfl) h_Fw_write_69 (fun σ2 H locs cells slots hw9 h9 => ?_)
    clear hw h; have hw := hw9; have h := h9; clear hw9 h9
    refine W.eq (g2 := F0 m 72 ls []) rfl ?_
    refine lv_aload_n hx hb h_Fw_write_72 rfl (lv_at hl 0 rfl) ?_
    refine lv_iload_n hx hb h_Fw_write_73 rfl (lv_at hl 1 rfl) ?_
    obtain ⟨g4, hw⟩ := hw
    refine C_puti C h 11 2 g4 (Cn := R_Fw) (T := T_Fw) (N := 9) rfl (by decide) rfl uw_Fw tok_Fw nm_Fw (by decide) rfl u_21 (fun _ q => q) (Or.inl rfl) (by decide +kernel) h_Fw_write_74 (fun H locs h => ?_)
    obtain ⟨σ5, e_σ5⟩ : ∃ z : CST, z = sI σ2 a0 2 z1 := ⟨_, rfl⟩
    rw [← e_σ5] at h
    replace hw := hw σ5 e_σ5
    refine lv_aload_n hx hb h_Fw_write_77 rfl (lv_at hl 0 rfl) ?_
    obtain ⟨g6, hw⟩ := hw
    refine C_get C h 11 3 (v := va_rf (σ5.2.2.2.1 a0 3)) g6 rfl (Cn := R_Fw) (T := T_Fw) (N := 9) rfl (by decide) rfl uw_Fw (by decide) u_22 (fun _ q => q) h_Fw_write_78 ?_
    refine lv_topq (fun b7 e_b7 => ?_)
    replace hw := hw b7 e_b7
    refine cq_astore_n (i := 3) (lv' := [(3, va_rf b7), (0, .ref a0), (1, .int z1)]) hx hb h_Fw_write_81 rfl hl (by decide) rfl (fun ls hl => ?_)
    refine lv_aload_n hx hb h_Fw_write_82 rfl (lv_at hl 1 rfl) ?_
    refine lv_aload_n hx hb h_Fw_write_83 rfl (lv_at hl 1 rfl) ?_
    refine C_get C h 11 5 (v := va_rf (σ5.2.2.2.1 a0 5)) g6 rfl (Cn := R_Fw) (T := T_Fw) (N := 9) rfl (by decide) rfl uw_Fw (by decide) u_23 (fun _ q => q) h_Fw_write_84 ?_
    refine lv_topq (fun b8 e_b8 => ?_)
    replace hw := hw b8 e_b8
    refine C_putr C h 11 3 (v := b8) (ty := (.array .int)) g6 (Cn := R_Fw) (T := T_Fw) (N := 9) rfl (by decide) rfl uw_Fw tok_Fw nm_Fw (by decide) rfl u_22 (fun _ q => q) (Or.inl rfl) (by decide +kernel) ck_a h_Fw_write_87 (fun H locs h => ?_)
    obtain ⟨σ9, e_σ9⟩ : ∃ z : CST, z = sR σ5 a0 3 b8 := ⟨_, rfl⟩
    rw [← e_σ9] at h
    replace hw := hw σ9 e_σ9
    refine lv_aload_n hx hb h_Fw_write_90 rfl (lv_at hl 1 rfl) ?_
    refine lv_aload_n hx hb h_Fw_write_91 rfl (lv_at hl 1 rfl) ?_
    obtain ⟨g10, hw⟩ := hw
    refine C_get C h 11 6 (v := .int (σ9.2.1 a0 6)) g10 rfl (Cn := R_Fw) (T := T_Fw) (N := 9) rfl (by decide) rfl uw_Fw (by decide) u_53 (fun _ q => q) h_Fw_write_92 ?_
    refine C_puti C h 11 4 g10 (Cn := R_Fw) (T := T_Fw) (N := 9) rfl (by decide) rfl uw_Fw tok_Fw nm_Fw (by decide) rfl u_30 (fun _ q => q) (Or.inl rfl) (by decide +kernel) h_Fw_write_95 (fun H locs h => ?_)
    obtain ⟨σ11, e_σ11⟩ : ∃ z : CST, z = sI σ9 a0 4 (σ9.2.1 a0 6) := ⟨_, rfl⟩
    rw [← e_σ11] at h
    replace hw := hw σ11 e_σ11
    refine lv_aload_n hx hb h_Fw_write_98 rfl (lv_at hl 1 rfl) ?_
    refine cq_aload_n hx hb h_Fw_write_99 rfl (lv_at hl 0 rfl) ?_
    obtain ⟨g12, hw⟩ := hw
    refine C_putr C h 11 5 (v := b7) (ty := (.array .int)) g12 (Cn := R_Fw) (T := T_Fw) (N := 9) rfl (by decide) rfl uw_Fw tok_Fw nm_Fw (by decide) rfl u_23 (fun _ q => q) (Or.inl rfl) (by decide +kernel) ck_a h_Fw_write_100 (fun H locs h => ?_)
    obtain ⟨σ13, e_σ13⟩ : ∃ z : CST, z = sR σ11 a0 5 b7 := ⟨_, rfl⟩
    rw [← e_σ13] at h
    replace hw := hw σ13 e_σ13
    exact hend σ13 _ _ _ _ _ _ hw h h_Fw_write_103
  have hl : lv_has ls 4 [(0, .ref a0), (1, .int x1), (2, .ref a2)] := hl
  unfold x_Fw_write at hw
  refine lv_aload_n hx hb h_Fw_write_0 rfl (lv_at hl 2 rfl) ?_
  refine lv_ifnonnull (tgt := 25) hx hb h_Fw_write_1 (by decide) ?_
  refine lv_aload_n hx hb h_Fw_write_25 rfl (lv_at hl 0 rfl) ?_
  refine lv_aload_n hx hb h_Fw_write_26 rfl (lv_at hl 2 rfl) ?_
  obtain ⟨g14, hw⟩ := hw
  refine C_callVv (As := [.ref a2]) (rest := []) C h (ci := 11) (Cn := R_Fw) (T := T_Fw) (N := 9) g14 rfl (by decide) (X_Fw_listLocals l dC dI ca s.heap σ0 a0 a2 hw) (cwV 1 hts (gV hsub u_93 u_94 u_95 u_57 u_96) rfl rfl rfl (by decide +kernel) ⟨(Nat.le_of_ble_eq_true rfl), (Nat.le_of_ble_eq_true rfl)⟩) rfl hl.1 (Nat.le_of_ble_eq_true rfl) h_Fw_write_27 (fun σ15 H locs cells slots hw9 h9 => ?_)
  clear hw h; have hw := hw9; have h := h9; clear hw9 h9
  refine W.eq (g2 := F0 m 30 ls []) rfl ?_
  refine lv_aload_n hx hb h_Fw_write_30 rfl (lv_at hl 0 rfl) ?_
  refine lv_aload_n hx hb h_Fw_write_31 rfl (lv_at hl 2 rfl) ?_
  obtain ⟨g17, hw⟩ := hw
  refine C_get C h 8 2 (v := .int (σ15.2.1 a2 2)) g17 rfl (Cn := R_St) (T := T_St) (N := 4) rfl (by decide) rfl uw_St (by decide) u_97 (fun _ q => q) h_Fw_write_32 ?_
  refine lv_bipush (v := 12) hx hb h_Fw_write_35 (by decide) ?_
  refine C_callSi (As := [.int (σ15.2.1 a2 2), .int 12]) (rest := [.ref a0]) C h (X_BMath_min l dC dI ca H σ15 (σ15.2.1 a2 2) (12 : Int32) hw) (va_cwS 2 hts (gS hsub u_26 u_27 u_28 u_29) rfl rfl rfl (by decide +kernel) ⟨(Nat.le_of_ble_eq_true rfl), (Nat.le_of_ble_eq_true rfl)⟩) rfl hl.1 (Nat.le_of_ble_eq_true rfl) h_Fw_write_37 (fun r19 σ18 H locs cells slots hw9 h9 => ?_)
  clear hw h; have hw := hw9; have h := h9; clear hw9 h9
  refine W.eq (g2 := F0 m 40 ls [.int r19, .ref a0]) rfl ?_
  obtain ⟨g20, hw⟩ := hw
  refine C_puti C h 11 8 g20 (Cn := R_Fw) (T := T_Fw) (N := 9) rfl (by decide) rfl uw_Fw tok_Fw nm_Fw (by decide) rfl u_84 (fun _ q => q) (Or.inl rfl) (by decide +kernel) h_Fw_write_40 (fun H locs h => ?_)
  obtain ⟨σ21, e_σ21⟩ : ∃ z : CST, z = sI σ18 a0 8 r19 := ⟨_, rfl⟩
  rw [← e_σ21] at h
  replace hw := hw σ21 e_σ21
  refine lv_aload_n hx hb h_Fw_write_43 rfl (lv_at hl 2 rfl) ?_
  obtain ⟨g22, hw⟩ := hw
  refine C_get C h 8 1 (v := va_rf (σ21.2.2.2.1 a2 1)) g22 rfl (Cn := R_St) (T := T_St) (N := 4) rfl (by decide) rfl uw_St (by decide) u_98 (fun _ q => q) h_Fw_write_44 ?_
  refine lv_topq (fun b23 e_b23 => ?_)
  replace hw := hw b23 e_b23
  refine lv_iconst (v := 0) hx hb h_Fw_write_47 (by decide) ?_
  refine lv_aload_n hx hb h_Fw_write_48 rfl (lv_at hl 0 rfl) ?_
  obtain ⟨g24, hw⟩ := hw
  refine C_get C h 11 7 (v := va_rf (σ21.2.2.2.1 a0 7)) g24 rfl (Cn := R_Fw) (T := T_Fw) (N := 9) rfl (by decide) rfl uw_Fw (by decide) u_24 (fun _ q => q) h_Fw_write_49 ?_
  refine lv_topq (fun b25 e_b25 => ?_)
  replace hw := hw b25 e_b25
  refine lv_iconst (v := 0) hx hb h_Fw_write_52 (by decide) ?_
  refine lv_aload_n hx hb h_Fw_write_53 rfl (lv_at hl 0 rfl) ?_
  refine C_get C h 11 8 (v := .int (σ21.2.1 a0 8)) g24 rfl (Cn := R_Fw) (T := T_Fw) (N := 9) rfl (by decide) rfl uw_Fw (by decide) u_84 (fun _ q => q) h_Fw_write_54 ?_
  obtain ⟨r26, e_r26, hw⟩ := hw
  subst e_r26
  have hl : lv_has ls 4 [(0, .ref a0), (1, .int x1), (2, .ref a2)] := hl
  refine W.eq (g2 := F0 m 57 ls [.int (σ21.2.1 a0 8), .int 0, va_rf b25, .int 0, .ref r26]) rfl ?_
  obtain ⟨r27, e_r27, hw⟩ := hw
  subst e_r27
  have hl : lv_has ls 4 [(0, .ref a0), (1, .int x1), (2, .ref a2)] := hl
  refine W.eq (g2 := F0 m 57 ls [.int (σ21.2.1 a0 8), .int 0, .ref r27, .int 0, .ref r26]) rfl ?_
  obtain ⟨n29, g28, hw⟩ := hw
  obtain ⟨n31, g30, hw⟩ := hw
  obtain ⟨g32, g33, g34, g35, g36, hw⟩ := hw
  refine C_copyi C h hl.1 u_31 u_32 u_33 u_34 g28 g30 g32 g33 g34 g35 g36 (Nat.le_of_ble_eq_true rfl) (Nat.le_of_ble_eq_true rfl) h_Fw_write_57 (fun H locs h => ?_)
  obtain ⟨σ37, e_σ37⟩ : ∃ z : CST, z = sA σ21 r27 (va_cpy (σ21.2.1 r26) (σ21.2.1 r27) (0 : Int32).toNatClampNeg (0 : Int32).toNatClampNeg ((σ21.2.1 a0 8) : Int32).toNatClampNeg) := ⟨_, rfl⟩
  rw [← e_σ37] at h
  replace hw := hw σ37 e_σ37
  exact K_60 () x1 σ37 _ _ _ _ _ hw h (lv_sub hl [0, 1] rfl)
theorem h_Fw_write_4 : decode prog_3_method_3_code 4 = .ok (.aload_n 0, 1) := by decide +kernel
theorem h_Fw_write_5 : decode prog_3_method_3_code 5 = .ok (.iconst 0, 1) := by decide +kernel
theorem h_Fw_write_6 : decode prog_3_method_3_code 6 = .ok (.putfield 57, 3) := by decide +kernel
theorem h_Fw_write_9 : decode prog_3_method_3_code 9 = .ok (.aload_n 0, 1) := by decide +kernel
theorem h_Fw_write_10 : decode prog_3_method_3_code 10 = .ok (.getfield 25, 3) := by decide +kernel
theorem h_Fw_write_13 : decode prog_3_method_3_code 13 = .ok (.iconst 0, 1) := by decide +kernel
theorem h_Fw_write_14 : decode prog_3_method_3_code 14 = .ok (.bipush 33, 2) := by decide +kernel
theorem h_Fw_write_16 : decode prog_3_method_3_code 16 = .ok (.iastore, 1) := by decide +kernel
theorem h_Fw_write_17 : decode prog_3_method_3_code 17 = .ok (.aload_n 0, 1) := by decide +kernel
theorem h_Fw_write_18 : decode prog_3_method_3_code 18 = .ok (.iconst 1, 1) := by decide +kernel
theorem h_Fw_write_19 : decode prog_3_method_3_code 19 = .ok (.putfield 62, 3) := by decide +kernel
theorem h_Fw_write_22 : decode prog_3_method_3_code 22 = .ok (.goto 38, 3) := by decide +kernel
def x_Fw_write_n_60 (a0 : Nat) (P : CST → Prop) (z1 : Int32) (σ : CST) : Prop := σ.1 a0 = some (11, 0) ∧ (x_Fw_writeShortest a0 ((z1 - (σ.2.1 a0 2)) - 1) σ (fun σ2 => σ2.1 a0 = some (11, 0) ∧ (∀ σ5 : CST, σ5 = sI σ2 a0 2 z1 → σ5.1 a0 = some (11, 0) ∧ (∀ b7 : Option Nat, b7 = (σ5.2.2.2.1 a0 3) → ∀ b8 : Option Nat, b8 = (σ5.2.2.2.1 a0 5) → ∀ σ9 : CST, σ9 = sR σ5 a0 3 b8 → σ9.1 a0 = some (11, 0) ∧ (∀ σ11 : CST, σ11 = sI σ9 a0 4 (σ9.2.1 a0 6) → σ11.1 a0 = some (11, 0) ∧ (∀ σ13 : CST, σ13 = sR σ11 a0 5 b7 → P σ13))))))
def x_Fw_write_n (a0 : Nat) (x1 : Int32) (σ0 : CST) (P : CST → Prop) : Prop := σ0.1 a0 = some (11, 0) ∧ (∀ σ15 : CST, σ15 = sI σ0 a0 6 (0 : Int32) → σ15.1 a0 = some (11, 0) ∧ (∀ b17 : Option Nat, b17 = (σ15.2.2.2.1 a0 7) → (∃ r18 : Nat, b17 = some r18 ∧ ((∃ n20 : Nat, σ15.1 r18 = some (20, n20) ∧ (vp_in 0 n20 ∧ (∀ σ22 : CST, σ22 = sI σ15 r18 (0 : Int32).toNatClampNeg (33 : Int32) → σ22.1 a0 = some (11, 0) ∧ (∀ σ24 : CST, σ24 = sI σ22 a0 8 (1 : Int32) → x_Fw_write_n_60 a0 P x1 σ24))))))))
set_option maxHeartbeats 4000000 in
set_option maxRecDepth 100000 in
theorem X_Fw_write_n (l : Launch) (dC : Nat → ClassId) (dI : Nat → Nat → Nat) (ca : Nat → ClassId) (H0 : Heap) (σ0 : CST) (a0 : Nat) (x1 : Int32) {P : CST → Prop} (hw : x_Fw_write_n a0 x1 σ0 P) : Met l g_Fw_write (mW g_Fw_write prog_3_method_3_code 4 none) ({ frames := 6, cells := σ0.2.2.2.2.1, slots := σ0.2.2.2.2.2.1, locals := 211 } : Room) (va_Pc [.ref a0, .int x1, .null] (CPre (dC, dI) ca σ0 H0)) (va_Qv P (CB (dC, dI) ca σ0 H0) (cA σ0 H0.size)) σ0.2.2.2.2.1 σ0.2.2.2.2.2.1 (cA σ0 H0.size) := by
  refine C_ofv (by decide +kernel) rfl rfl rfl (Nat.le_of_ble_eq_true rfl) ?_
  intro p e s m below meth cx Q A ls C hnm hend hH0 h hl
  subst hH0
  have C0 := C
  obtain ⟨⟨hx, hb, hml, hown, hts⟩, hsub⟩ := C0
  obtain ⟨cells, e_cells⟩ : ∃ z : Nat, z = 0 := ⟨_, rfl⟩
  obtain ⟨slots, e_slots⟩ : ∃ z : Nat, z = 0 := ⟨_, rfl⟩
  have h : CH (dC, dI) A ca ({ frames := 6, cells := σ0.2.2.2.2.1, slots := σ0.2.2.2.2.2.1, locals := 211 } : Room) σ0.2.2.2.2.2.2 σ0 s s.heap [] cells slots := by rw [e_cells, e_slots]; exact h
  show W p l e ({ frames := 6, cells := σ0.2.2.2.2.1, slots := σ0.2.2.2.2.2.1, locals := 211 } : Room) s m ([.ref a0, .int x1, .null] : List Value).toArray below meth cx s.heap [] 0 0 Q (F0 m 0 ls [])
  rw [show W p l e ({ frames := 6, cells := σ0.2.2.2.2.1, slots := σ0.2.2.2.2.2.1, locals := 211 } : Room) s m ([.ref a0, .int x1, .null] : List Value).toArray below meth cx s.heap [] 0 0 Q (F0 m 0 ls []) = W p l e ({ frames := 6, cells := σ0.2.2.2.2.1, slots := σ0.2.2.2.2.2.1, locals := 211 } : Room) s m ([.ref a0, .int x1, .null] : List Value).toArray below meth cx s.heap [] cells slots Q (F0 m 0 ls []) by rw [e_cells, e_slots]]
  have K_60 : ∀ (u9 : Unit), ∀ (z1 : Int32) (σ : CST) (H : Heap) (locs : List Loc) (cells slots : Nat) (ls : Array Slot), x_Fw_write_n_60 a0 P z1 σ → CH (dC, dI) A ca ({ frames := 6, cells := σ0.2.2.2.2.1, slots := σ0.2.2.2.2.2.1, locals := 211 } : Room) σ0.2.2.2.2.2.2 σ s H locs cells slots → lv_has ls 4 [(0, .ref a0), (1, .int z1)] → W p l e ({ frames := 6, cells := σ0.2.2.2.2.1, slots := σ0.2.2.2.2.2.1, locals := 211 } : Room) s m ([.ref a0, .int x1, .null] : List Value).toArray below meth cx H locs cells slots Q (F0 m 60 ls []) := by
    intro u9 z1 σ H locs cells slots ls hw h hl
    unfold x_Fw_write_n_60 at hw
    refine lv_aload_n hx hb h_Fw_write_60 rfl (lv_at hl 0 rfl) ?_
    refine lv_iload_n hx hb h_Fw_write_61 rfl (lv_at hl 1 rfl) ?_
    refine lv_aload_n hx hb h_Fw_write_62 rfl (lv_at hl 0 rfl) ?_
    obtain ⟨g1, hw⟩ := hw
    refine C_get C h 11 2 (v := .int (σ.2.1 a0 2)) g1 rfl (Cn := R_Fw) (T := T_Fw) (N := 9) rfl (by decide) rfl uw_Fw (by decide) u_21 (fun _ q => q) h_Fw_write_63 ?_
    refine lv_isub hx hb h_Fw_write_66 ?_
    refine lv_iconst (v := 1) hx hb h_Fw_write_67 (by decide) ?_
    refine lv_isub hx hb h_Fw_write_68 ?_
    refine C_callVv (As := [.int ((z1 - (σ.2.1 a0 2)) - 1)]) (rest := []) C h (ci := 11) (Cn := R_Fw) (T := T_Fw) (N := 9) g1 rfl (by decide) (X_Fw_writeShortest l dC dI ca H σ a0 ((z1 - (σ.2.1 a0 2)) - 1) hw) (cwV 1 hts (gV hsub u_89 u_90 u_91 u_57 u_92) rfl rfl rfl (by decide +kernel) ⟨(Nat.le_of_ble_eq_true rfl), (Nat.le_of_ble_eq_true rfl)⟩) rfl hl.1 (Nat.le_of_ble_eq_true rfl) h_Fw_write_69 (fun σ2 H locs cells slots hw9 h9 => ?_)
    clear hw h; have hw := hw9; have h := h9; clear hw9 h9
    refine W.eq (g2 := F0 m 72 ls []) rfl ?_
    refine lv_aload_n hx hb h_Fw_write_72 rfl (lv_at hl 0 rfl) ?_
    refine lv_iload_n hx hb h_Fw_write_73 rfl (lv_at hl 1 rfl) ?_
    obtain ⟨g4, hw⟩ := hw
    refine C_puti C h 11 2 g4 (Cn := R_Fw) (T := T_Fw) (N := 9) rfl (by decide) rfl uw_Fw tok_Fw nm_Fw (by decide) rfl u_21 (fun _ q => q) (Or.inl rfl) (by decide +kernel) h_Fw_write_74 (fun H locs h => ?_)
    obtain ⟨σ5, e_σ5⟩ : ∃ z : CST, z = sI σ2 a0 2 z1 := ⟨_, rfl⟩
    rw [← e_σ5] at h
    replace hw := hw σ5 e_σ5
    refine lv_aload_n hx hb h_Fw_write_77 rfl (lv_at hl 0 rfl) ?_
    obtain ⟨g6, hw⟩ := hw
    refine C_get C h 11 3 (v := va_rf (σ5.2.2.2.1 a0 3)) g6 rfl (Cn := R_Fw) (T := T_Fw) (N := 9) rfl (by decide) rfl uw_Fw (by decide) u_22 (fun _ q => q) h_Fw_write_78 ?_
    refine lv_topq (fun b7 e_b7 => ?_)
    replace hw := hw b7 e_b7
    refine cq_astore_n (i := 3) (lv' := [(3, va_rf b7), (0, .ref a0), (1, .int z1)]) hx hb h_Fw_write_81 rfl hl (by decide) rfl (fun ls hl => ?_)
    refine lv_aload_n hx hb h_Fw_write_82 rfl (lv_at hl 1 rfl) ?_
    refine lv_aload_n hx hb h_Fw_write_83 rfl (lv_at hl 1 rfl) ?_
    refine C_get C h 11 5 (v := va_rf (σ5.2.2.2.1 a0 5)) g6 rfl (Cn := R_Fw) (T := T_Fw) (N := 9) rfl (by decide) rfl uw_Fw (by decide) u_23 (fun _ q => q) h_Fw_write_84 ?_
    refine lv_topq (fun b8 e_b8 => ?_)
    replace hw := hw b8 e_b8
    refine C_putr C h 11 3 (v := b8) (ty := (.array .int)) g6 (Cn := R_Fw) (T := T_Fw) (N := 9) rfl (by decide) rfl uw_Fw tok_Fw nm_Fw (by decide) rfl u_22 (fun _ q => q) (Or.inl rfl) (by decide +kernel) ck_a h_Fw_write_87 (fun H locs h => ?_)
    obtain ⟨σ9, e_σ9⟩ : ∃ z : CST, z = sR σ5 a0 3 b8 := ⟨_, rfl⟩
    rw [← e_σ9] at h
    replace hw := hw σ9 e_σ9
    refine lv_aload_n hx hb h_Fw_write_90 rfl (lv_at hl 1 rfl) ?_
    refine lv_aload_n hx hb h_Fw_write_91 rfl (lv_at hl 1 rfl) ?_
    obtain ⟨g10, hw⟩ := hw
    refine C_get C h 11 6 (v := .int (σ9.2.1 a0 6)) g10 rfl (Cn := R_Fw) (T := T_Fw) (N := 9) rfl (by decide) rfl uw_Fw (by decide) u_53 (fun _ q => q) h_Fw_write_92 ?_
    refine C_puti C h 11 4 g10 (Cn := R_Fw) (T := T_Fw) (N := 9) rfl (by decide) rfl uw_Fw tok_Fw nm_Fw (by decide) rfl u_30 (fun _ q => q) (Or.inl rfl) (by decide +kernel) h_Fw_write_95 (fun H locs h => ?_)
    obtain ⟨σ11, e_σ11⟩ : ∃ z : CST, z = sI σ9 a0 4 (σ9.2.1 a0 6) := ⟨_, rfl⟩
    rw [← e_σ11] at h
    replace hw := hw σ11 e_σ11
    refine lv_aload_n hx hb h_Fw_write_98 rfl (lv_at hl 1 rfl) ?_
    refine cq_aload_n hx hb h_Fw_write_99 rfl (lv_at hl 0 rfl) ?_
    obtain ⟨g12, hw⟩ := hw
    refine C_putr C h 11 5 (v := b7) (ty := (.array .int)) g12 (Cn := R_Fw) (T := T_Fw) (N := 9) rfl (by decide) rfl uw_Fw tok_Fw nm_Fw (by decide) rfl u_23 (fun _ q => q) (Or.inl rfl) (by decide +kernel) ck_a h_Fw_write_100 (fun H locs h => ?_)
    obtain ⟨σ13, e_σ13⟩ : ∃ z : CST, z = sR σ11 a0 5 b7 := ⟨_, rfl⟩
    rw [← e_σ13] at h
    replace hw := hw σ13 e_σ13
    exact hend σ13 _ _ _ _ _ _ hw h h_Fw_write_103
  have hl : lv_has ls 4 [(0, .ref a0), (1, .int x1), (2, .null)] := hl
  unfold x_Fw_write_n at hw
  refine lv_aload_nN hx hb h_Fw_write_0 rfl (lv_at hl 2 rfl) ?_
  refine lv_ifnonnullN hx hb h_Fw_write_1 ?_
  refine lv_aload_n hx hb h_Fw_write_4 rfl (lv_at hl 0 rfl) ?_
  refine lv_iconst (v := 0) hx hb h_Fw_write_5 (by decide) ?_
  obtain ⟨g14, hw⟩ := hw
  refine C_puti C h 11 6 g14 (Cn := R_Fw) (T := T_Fw) (N := 9) rfl (by decide) rfl uw_Fw tok_Fw nm_Fw (by decide) rfl u_53 (fun _ q => q) (Or.inl rfl) (by decide +kernel) h_Fw_write_6 (fun H locs h => ?_)
  obtain ⟨σ15, e_σ15⟩ : ∃ z : CST, z = sI σ0 a0 6 (0 : Int32) := ⟨_, rfl⟩
  rw [← e_σ15] at h
  replace hw := hw σ15 e_σ15
  refine lv_aload_n hx hb h_Fw_write_9 rfl (lv_at hl 0 rfl) ?_
  obtain ⟨g16, hw⟩ := hw
  refine C_get C h 11 7 (v := va_rf (σ15.2.2.2.1 a0 7)) g16 rfl (Cn := R_Fw) (T := T_Fw) (N := 9) rfl (by decide) rfl uw_Fw (by decide) u_24 (fun _ q => q) h_Fw_write_10 ?_
  refine lv_topq (fun b17 e_b17 => ?_)
  replace hw := hw b17 e_b17
  refine lv_iconst (v := 0) hx hb h_Fw_write_13 (by decide) ?_
  refine lv_bipush (v := 33) hx hb h_Fw_write_14 (by decide) ?_
  obtain ⟨r18, e_r18, hw⟩ := hw
  subst e_r18
  have hl : lv_has ls 4 [(0, .ref a0), (1, .int x1), (2, .null)] := hl
  refine W.eq (g2 := F0 m 16 ls [.int 33, .int 0, .ref r18]) rfl ?_
  obtain ⟨n20, g19, hw⟩ := hw
  obtain ⟨g21, hw⟩ := hw
  refine C_iast C h g19 g21 h_Fw_write_16 (fun H locs h => ?_)
  obtain ⟨σ22, e_σ22⟩ : ∃ z : CST, z = sI σ15 r18 (0 : Int32).toNatClampNeg (33 : Int32) := ⟨_, rfl⟩
  rw [← e_σ22] at h
  replace hw := hw σ22 e_σ22
  refine lv_aload_n hx hb h_Fw_write_17 rfl (lv_at hl 0 rfl) ?_
  refine lv_iconst (v := 1) hx hb h_Fw_write_18 (by decide) ?_
  obtain ⟨g23, hw⟩ := hw
  refine C_puti C h 11 8 g23 (Cn := R_Fw) (T := T_Fw) (N := 9) rfl (by decide) rfl uw_Fw tok_Fw nm_Fw (by decide) rfl u_84 (fun _ q => q) (Or.inl rfl) (by decide +kernel) h_Fw_write_19 (fun H locs h => ?_)
  obtain ⟨σ24, e_σ24⟩ : ∃ z : CST, z = sI σ22 a0 8 (1 : Int32) := ⟨_, rfl⟩
  rw [← e_σ24] at h
  replace hw := hw σ24 e_σ24
  refine lv_goto (tgt := 60) hx hb h_Fw_write_22 (by decide) ?_
  exact K_60 () x1 σ24 _ _ _ _ _ hw h (lv_sub hl [0, 1] rfl)
abbrev g_Ha_init : MethodName := ⟨"MapFramer$Handler", "<init>", "(IIII)V"⟩
theorem u_99 : (Cond.methodLink "MapFramer$Handler" 1 ⟨"java/lang/Object", "<init>", "()V"⟩ : Cond) ∈ bigW := inB_3 47 (by decide +kernel) rfl
theorem u_100 : (Cond.fieldLink "MapFramer$Handler" 7 "MapFramer$Handler" "from" "I" : Cond) ∈ bigW := inB_3 48 (by decide +kernel) rfl
theorem u_101 : (Cond.fieldLink "MapFramer$Handler" 13 "MapFramer$Handler" "to" "I" : Cond) ∈ bigW := inB_3 51 (by decide +kernel) rfl
theorem u_102 : (Cond.fieldLink "MapFramer$Handler" 16 "MapFramer$Handler" "place" "I" : Cond) ∈ bigW := inB_3 54 (by decide +kernel) rfl
theorem u_103 : (Cond.fieldLink "MapFramer$Handler" 19 "MapFramer$Handler" "caught" "I" : Cond) ∈ bigW := inB_3 58 (by decide +kernel) rfl
theorem h_Ha_init_0 : decode prog_4_method_1_code 0 = .ok (.aload_n 0, 1) := by decide +kernel
theorem h_Ha_init_1 : decode prog_4_method_1_code 1 = .ok (.invokespecial 1, 3) := by decide +kernel
theorem h_Ha_init_4 : decode prog_4_method_1_code 4 = .ok (.aload_n 0, 1) := by decide +kernel
theorem h_Ha_init_5 : decode prog_4_method_1_code 5 = .ok (.iload_n 1, 1) := by decide +kernel
theorem h_Ha_init_6 : decode prog_4_method_1_code 6 = .ok (.putfield 7, 3) := by decide +kernel
theorem h_Ha_init_9 : decode prog_4_method_1_code 9 = .ok (.aload_n 0, 1) := by decide +kernel
theorem h_Ha_init_10 : decode prog_4_method_1_code 10 = .ok (.iload_n 2, 1) := by decide +kernel
theorem h_Ha_init_11 : decode prog_4_method_1_code 11 = .ok (.putfield 13, 3) := by decide +kernel
theorem h_Ha_init_14 : decode prog_4_method_1_code 14 = .ok (.aload_n 0, 1) := by decide +kernel
theorem h_Ha_init_15 : decode prog_4_method_1_code 15 = .ok (.iload_n 3, 1) := by decide +kernel
theorem h_Ha_init_16 : decode prog_4_method_1_code 16 = .ok (.putfield 16, 3) := by decide +kernel
theorem h_Ha_init_19 : decode prog_4_method_1_code 19 = .ok (.aload_n 0, 1) := by decide +kernel
theorem h_Ha_init_20 : decode prog_4_method_1_code 20 = .ok (.iload 4, 2) := by decide +kernel
theorem h_Ha_init_22 : decode prog_4_method_1_code 22 = .ok (.putfield 19, 3) := by decide +kernel
theorem h_Ha_init_25 : decode prog_4_method_1_code 25 = .ok (.return_, 1) := by decide +kernel
def x_Ha_init (a0 : Nat) (x1 : Int32) (x2 : Int32) (x3 : Int32) (x4 : Int32) (σ0 : CST) (P : CST → Prop) : Prop := σ0.1 a0 = some (7, 0) ∧ (∀ σ2 : CST, σ2 = sI σ0 a0 0 x1 → σ2.1 a0 = some (7, 0) ∧ (∀ σ4 : CST, σ4 = sI σ2 a0 1 x2 → σ4.1 a0 = some (7, 0) ∧ (∀ σ6 : CST, σ6 = sI σ4 a0 2 x3 → σ6.1 a0 = some (7, 0) ∧ (∀ σ8 : CST, σ8 = sI σ6 a0 3 x4 → P σ8))))
set_option maxHeartbeats 4000000 in
set_option maxRecDepth 100000 in
theorem X_Ha_init (l : Launch) (dC : Nat → ClassId) (dI : Nat → Nat → Nat) (ca : Nat → ClassId) (H0 : Heap) (σ0 : CST) (a0 : Nat) (x1 : Int32) (x2 : Int32) (x3 : Int32) (x4 : Int32) {P : CST → Prop} (hw : x_Ha_init a0 x1 x2 x3 x4 σ0 P) : Met l g_Ha_init (mW g_Ha_init prog_4_method_1_code 5 none) ({ frames := 1, cells := σ0.2.2.2.2.1, slots := σ0.2.2.2.2.2.1, locals := 12 } : Room) (va_Pc [.ref a0, .int x1, .int x2, .int x3, .int x4] (CPre (dC, dI) ca σ0 H0)) (va_Qv P (CB (dC, dI) ca σ0 H0) (cA σ0 H0.size)) σ0.2.2.2.2.1 σ0.2.2.2.2.2.1 (cA σ0 H0.size) := by
  refine C_ofv (by decide +kernel) rfl rfl rfl (Nat.le_of_ble_eq_true rfl) ?_
  intro p e s m below meth cx Q A ls C hnm hend hH0 h hl
  subst hH0
  have C0 := C
  obtain ⟨⟨hx, hb, hml, hown, hts⟩, hsub⟩ := C0
  obtain ⟨cells, e_cells⟩ : ∃ z : Nat, z = 0 := ⟨_, rfl⟩
  obtain ⟨slots, e_slots⟩ : ∃ z : Nat, z = 0 := ⟨_, rfl⟩
  have h : CH (dC, dI) A ca ({ frames := 1, cells := σ0.2.2.2.2.1, slots := σ0.2.2.2.2.2.1, locals := 12 } : Room) σ0.2.2.2.2.2.2 σ0 s s.heap [] cells slots := by rw [e_cells, e_slots]; exact h
  show W p l e ({ frames := 1, cells := σ0.2.2.2.2.1, slots := σ0.2.2.2.2.2.1, locals := 12 } : Room) s m ([.ref a0, .int x1, .int x2, .int x3, .int x4] : List Value).toArray below meth cx s.heap [] 0 0 Q (F0 m 0 ls [])
  rw [show W p l e ({ frames := 1, cells := σ0.2.2.2.2.1, slots := σ0.2.2.2.2.2.1, locals := 12 } : Room) s m ([.ref a0, .int x1, .int x2, .int x3, .int x4] : List Value).toArray below meth cx s.heap [] 0 0 Q (F0 m 0 ls []) = W p l e ({ frames := 1, cells := σ0.2.2.2.2.1, slots := σ0.2.2.2.2.2.1, locals := 12 } : Room) s m ([.ref a0, .int x1, .int x2, .int x3, .int x4] : List Value).toArray below meth cx s.heap [] cells slots Q (F0 m 0 ls []) by rw [e_cells, e_slots]]
  have hl : lv_has ls 5 [(0, .ref a0), (1, .int x1), (2, .int x2), (3, .int x3), (4, .int x4)] := hl
  unfold x_Ha_init at hw
  refine lv_aload_n hx hb h_Ha_init_0 rfl (lv_at hl 0 rfl) ?_
  refine W.objInit hx hb hown (hts _ (hsub _ u_99)) (hts _ (hsub _ u_1)) (hts _ (hsub _ u_2)) rfl (by rw [hml]; exact hl.1) rfl h_Ha_init_1 (Nat.le_of_ble_eq_true rfl) (Nat.le_of_ble_eq_true rfl) ?_
  refine W.eq (g2 := F0 m 4 ls []) rfl ?_
  refine lv_aload_n hx hb h_Ha_init_4 rfl (lv_at hl 0 rfl) ?_
  refine lv_iload_n hx hb h_Ha_init_5 rfl (lv_at hl 1 rfl) ?_
  obtain ⟨g1, hw⟩ := hw
  refine C_puti C h 7 0 g1 (Cn := R_Ha) (T := T_Ha) (N := 4) rfl (by decide) rfl uw_Ha tok_Ha nm_Ha (by decide) rfl u_100 (fun _ q => q) (Or.inr ⟨rfl, hnm, rfl⟩) (by decide +kernel) h_Ha_init_6 (fun H locs h => ?_)
  obtain ⟨σ2, e_σ2⟩ : ∃ z : CST, z = sI σ0 a0 0 x1 := ⟨_, rfl⟩
  rw [← e_σ2] at h
  replace hw := hw σ2 e_σ2
  refine lv_aload_n hx hb h_Ha_init_9 rfl (lv_at hl 0 rfl) ?_
  refine lv_iload_n hx hb h_Ha_init_10 rfl (lv_at hl 2 rfl) ?_
  obtain ⟨g3, hw⟩ := hw
  refine C_puti C h 7 1 g3 (Cn := R_Ha) (T := T_Ha) (N := 4) rfl (by decide) rfl uw_Ha tok_Ha nm_Ha (by decide) rfl u_101 (fun _ q => q) (Or.inr ⟨rfl, hnm, rfl⟩) (by decide +kernel) h_Ha_init_11 (fun H locs h => ?_)
  obtain ⟨σ4, e_σ4⟩ : ∃ z : CST, z = sI σ2 a0 1 x2 := ⟨_, rfl⟩
  rw [← e_σ4] at h
  replace hw := hw σ4 e_σ4
  refine lv_aload_n hx hb h_Ha_init_14 rfl (lv_at hl 0 rfl) ?_
  refine lv_iload_n hx hb h_Ha_init_15 rfl (lv_at hl 3 rfl) ?_
  obtain ⟨g5, hw⟩ := hw
  refine C_puti C h 7 2 g5 (Cn := R_Ha) (T := T_Ha) (N := 4) rfl (by decide) rfl uw_Ha tok_Ha nm_Ha (by decide) rfl u_102 (fun _ q => q) (Or.inr ⟨rfl, hnm, rfl⟩) (by decide +kernel) h_Ha_init_16 (fun H locs h => ?_)
  obtain ⟨σ6, e_σ6⟩ : ∃ z : CST, z = sI σ4 a0 2 x3 := ⟨_, rfl⟩
  rw [← e_σ6] at h
  replace hw := hw σ6 e_σ6
  refine lv_aload_n hx hb h_Ha_init_19 rfl (lv_at hl 0 rfl) ?_
  refine lv_iload hx hb h_Ha_init_20 (lv_at hl 4 rfl) ?_
  obtain ⟨g7, hw⟩ := hw
  refine C_puti C h 7 3 g7 (Cn := R_Ha) (T := T_Ha) (N := 4) rfl (by decide) rfl uw_Ha tok_Ha nm_Ha (by decide) rfl u_103 (fun _ q => q) (Or.inr ⟨rfl, hnm, rfl⟩) (by decide +kernel) h_Ha_init_22 (fun H locs h => ?_)
  obtain ⟨σ8, e_σ8⟩ : ∃ z : CST, z = sI σ6 a0 3 x4 := ⟨_, rfl⟩
  rw [← e_σ8] at h
  replace hw := hw σ8 e_σ8
  exact hend σ8 _ _ _ _ _ _ hw h h_Ha_init_25
abbrev g_Ha_covers : MethodName := ⟨"MapFramer$Handler", "covers", "(I)Z"⟩
theorem h_Ha_covers_0 : decode prog_4_method_2_code 0 = .ok (.aload_n 0, 1) := by decide +kernel
theorem h_Ha_covers_1 : decode prog_4_method_2_code 1 = .ok (.getfield 7, 3) := by decide +kernel
theorem h_Ha_covers_4 : decode prog_4_method_2_code 4 = .ok (.iload_n 1, 1) := by decide +kernel
theorem h_Ha_covers_5 : decode prog_4_method_2_code 5 = .ok (.if_icmp .gt 15, 3) := by decide +kernel
theorem h_Ha_covers_8 : decode prog_4_method_2_code 8 = .ok (.iload_n 1, 1) := by decide +kernel
theorem h_Ha_covers_9 : decode prog_4_method_2_code 9 = .ok (.aload_n 0, 1) := by decide +kernel
theorem h_Ha_covers_10 : decode prog_4_method_2_code 10 = .ok (.getfield 13, 3) := by decide +kernel
theorem h_Ha_covers_13 : decode prog_4_method_2_code 13 = .ok (.if_icmp .ge 7, 3) := by decide +kernel
theorem h_Ha_covers_16 : decode prog_4_method_2_code 16 = .ok (.iconst 1, 1) := by decide +kernel
theorem h_Ha_covers_17 : decode prog_4_method_2_code 17 = .ok (.goto 4, 3) := by decide +kernel
theorem h_Ha_covers_20 : decode prog_4_method_2_code 20 = .ok (.iconst 0, 1) := by decide +kernel
theorem h_Ha_covers_21 : decode prog_4_method_2_code 21 = .ok (.ireturn, 1) := by decide +kernel
def x_Ha_covers (a0 : Nat) (x1 : Int32) (σ0 : CST) (P : Int32 → CST → Prop) : Prop := σ0.1 a0 = some (7, 0) ∧ (((x1 < (σ0.2.1 a0 0) → P (0 : Int32) σ0) ∧ (¬ x1 < (σ0.2.1 a0 0) → (((σ0.2.1 a0 1) ≤ x1 → P (0 : Int32) σ0) ∧ (¬ (σ0.2.1 a0 1) ≤ x1 → P (1 : Int32) σ0)))))
set_option maxHeartbeats 4000000 in
set_option maxRecDepth 100000 in
theorem X_Ha_covers (l : Launch) (dC : Nat → ClassId) (dI : Nat → Nat → Nat) (ca : Nat → ClassId) (H0 : Heap) (σ0 : CST) (a0 : Nat) (x1 : Int32) {P : Int32 → CST → Prop} (hw : x_Ha_covers a0 x1 σ0 P) : Met l g_Ha_covers (mW g_Ha_covers prog_4_method_2_code 2 (some .boolean)) ({ frames := 0, cells := σ0.2.2.2.2.1, slots := σ0.2.2.2.2.2.1, locals := 0 } : Room) (va_Pc [.ref a0, .int x1] (CPre (dC, dI) ca σ0 H0)) (va_Qi P (CB (dC, dI) ca σ0 H0) (cA σ0 H0.size)) σ0.2.2.2.2.1 σ0.2.2.2.2.2.1 (cA σ0 H0.size) := by
  refine C_ofz (by decide +kernel) rfl rfl rfl (Nat.le_of_ble_eq_true rfl) ?_
  intro p e s m below meth cx Q A ls C hnm hend hH0 h hl
  subst hH0
  have C0 := C
  obtain ⟨⟨hx, hb, hml, hown, hts⟩, hsub⟩ := C0
  obtain ⟨cells, e_cells⟩ : ∃ z : Nat, z = 0 := ⟨_, rfl⟩
  obtain ⟨slots, e_slots⟩ : ∃ z : Nat, z = 0 := ⟨_, rfl⟩
  have h : CH (dC, dI) A ca ({ frames := 0, cells := σ0.2.2.2.2.1, slots := σ0.2.2.2.2.2.1, locals := 0 } : Room) σ0.2.2.2.2.2.2 σ0 s s.heap [] cells slots := by rw [e_cells, e_slots]; exact h
  show W p l e ({ frames := 0, cells := σ0.2.2.2.2.1, slots := σ0.2.2.2.2.2.1, locals := 0 } : Room) s m ([.ref a0, .int x1] : List Value).toArray below meth cx s.heap [] 0 0 Q (F0 m 0 ls [])
  rw [show W p l e ({ frames := 0, cells := σ0.2.2.2.2.1, slots := σ0.2.2.2.2.2.1, locals := 0 } : Room) s m ([.ref a0, .int x1] : List Value).toArray below meth cx s.heap [] 0 0 Q (F0 m 0 ls []) = W p l e ({ frames := 0, cells := σ0.2.2.2.2.1, slots := σ0.2.2.2.2.2.1, locals := 0 } : Room) s m ([.ref a0, .int x1] : List Value).toArray below meth cx s.heap [] cells slots Q (F0 m 0 ls []) by rw [e_cells, e_slots]]
  have hl : lv_has ls 2 [(0, .ref a0), (1, .int x1)] := hl
  unfold x_Ha_covers at hw
  refine lv_aload_n hx hb h_Ha_covers_0 rfl (lv_at hl 0 rfl) ?_
  obtain ⟨g1, hw⟩ := hw
  refine C_get C h 7 0 (v := .int (σ0.2.1 a0 0)) g1 rfl (Cn := R_Ha) (T := T_Ha) (N := 4) rfl (by decide) rfl uw_Ha (by decide) u_100 (fun _ q => q) h_Ha_covers_1 ?_
  refine lv_iload_n hx hb h_Ha_covers_4 rfl (lv_at hl 1 rfl) ?_
  refine lv_icmp_gt (tgt := 20) hx hb h_Ha_covers_5 (by decide) (fun c2 => ?_) (fun c2 => ?_)
  · skip
    replace hw := hw.1 c2
    refine lv_iconst (v := 0) hx hb h_Ha_covers_20 (by decide) ?_
    exact hend (0 : Int32) σ0 _ _ _ _ _ _ rfl hw h h_Ha_covers_21
  · skip
    replace hw := hw.2 c2
    refine lv_iload_n hx hb h_Ha_covers_8 rfl (lv_at hl 1 rfl) ?_
    refine lv_aload_n hx hb h_Ha_covers_9 rfl (lv_at hl 0 rfl) ?_
    refine C_get C h 7 1 (v := .int (σ0.2.1 a0 1)) g1 rfl (Cn := R_Ha) (T := T_Ha) (N := 4) rfl (by decide) rfl uw_Ha (by decide) u_101 (fun _ q => q) h_Ha_covers_10 ?_
    refine lv_icmp_ge (tgt := 20) hx hb h_Ha_covers_13 (by decide) (fun c3 => ?_) (fun c3 => ?_)
    · skip
      replace hw := hw.1 c3
      refine lv_iconst (v := 0) hx hb h_Ha_covers_20 (by decide) ?_
      exact hend (0 : Int32) σ0 _ _ _ _ _ _ rfl hw h h_Ha_covers_21
    · skip
      replace hw := hw.2 c3
      refine lv_iconst (v := 1) hx hb h_Ha_covers_16 (by decide) ?_
      refine lv_goto (tgt := 21) hx hb h_Ha_covers_17 (by decide) ?_
      exact hend (1 : Int32) σ0 _ _ _ _ _ _ rfl hw h h_Ha_covers_21
abbrev g_AL_size : MethodName := ⟨"java/util/ArrayList", "size", "()I"⟩
theorem u_104 : (Cond.fieldLink "java/util/ArrayList" 48 "java/util/ArrayList" "size" "I" : Cond) ∈ bigW := inB_2 143 (by decide +kernel) rfl
theorem h_AL_size_0 : decode prog_36_method_8_code 0 = .ok (.aload_n 0, 1) := by decide +kernel
theorem h_AL_size_1 : decode prog_36_method_8_code 1 = .ok (.getfield 48, 3) := by decide +kernel
theorem h_AL_size_4 : decode prog_36_method_8_code 4 = .ok (.ireturn, 1) := by decide +kernel
def x_AL_size (a0 : Nat) (σ0 : CST) (P : Int32 → CST → Prop) : Prop := σ0.1 a0 = some (6, 0) ∧ (P (σ0.2.1 a0 2) σ0)
set_option maxHeartbeats 4000000 in
set_option maxRecDepth 100000 in
theorem X_AL_size (l : Launch) (dC : Nat → ClassId) (dI : Nat → Nat → Nat) (ca : Nat → ClassId) (H0 : Heap) (σ0 : CST) (a0 : Nat) {P : Int32 → CST → Prop} (hw : x_AL_size a0 σ0 P) : Met l g_AL_size (mW g_AL_size prog_36_method_8_code 1 (some .int)) ({ frames := 0, cells := σ0.2.2.2.2.1, slots := σ0.2.2.2.2.2.1, locals := 0 } : Room) (va_Pc [.ref a0] (CPre (dC, dI) ca σ0 H0)) (va_Qi P (CB (dC, dI) ca σ0 H0) (cA σ0 H0.size)) σ0.2.2.2.2.1 σ0.2.2.2.2.2.1 (cA σ0 H0.size) := by
  refine C_ofi (by decide +kernel) rfl rfl rfl (Nat.le_of_ble_eq_true rfl) ?_
  intro p e s m below meth cx Q A ls C hnm hend hH0 h hl
  subst hH0
  have C0 := C
  obtain ⟨⟨hx, hb, hml, hown, hts⟩, hsub⟩ := C0
  obtain ⟨cells, e_cells⟩ : ∃ z : Nat, z = 0 := ⟨_, rfl⟩
  obtain ⟨slots, e_slots⟩ : ∃ z : Nat, z = 0 := ⟨_, rfl⟩
  have h : CH (dC, dI) A ca ({ frames := 0, cells := σ0.2.2.2.2.1, slots := σ0.2.2.2.2.2.1, locals := 0 } : Room) σ0.2.2.2.2.2.2 σ0 s s.heap [] cells slots := by rw [e_cells, e_slots]; exact h
  show W p l e ({ frames := 0, cells := σ0.2.2.2.2.1, slots := σ0.2.2.2.2.2.1, locals := 0 } : Room) s m ([.ref a0] : List Value).toArray below meth cx s.heap [] 0 0 Q (F0 m 0 ls [])
  rw [show W p l e ({ frames := 0, cells := σ0.2.2.2.2.1, slots := σ0.2.2.2.2.2.1, locals := 0 } : Room) s m ([.ref a0] : List Value).toArray below meth cx s.heap [] 0 0 Q (F0 m 0 ls []) = W p l e ({ frames := 0, cells := σ0.2.2.2.2.1, slots := σ0.2.2.2.2.2.1, locals := 0 } : Room) s m ([.ref a0] : List Value).toArray below meth cx s.heap [] cells slots Q (F0 m 0 ls []) by rw [e_cells, e_slots]]
  have hl : lv_has ls 1 [(0, .ref a0)] := hl
  unfold x_AL_size at hw
  refine lv_aload_n hx hb h_AL_size_0 rfl (lv_at hl 0 rfl) ?_
  obtain ⟨g1, hw⟩ := hw
  refine C_get C h 6 2 (v := .int (σ0.2.1 a0 2)) g1 rfl (Cn := R_A) (T := T_A) (N := 3) rfl (by decide) rfl uw_A (by decide) u_104 (fun _ q => q) h_AL_size_1 ?_
  exact hend (σ0.2.1 a0 2) σ0 _ _ _ _ _ _ hw h h_AL_size_4
abbrev g_JPreconditions_checkIndex : MethodName := ⟨"jdk/internal/util/Preconditions", "checkIndex", "(IILjava/util/function/BiFunction;)I"⟩
theorem h_JPreconditions_checkIndex_0 : decode prog_44_method_11_code 0 = .ok (.iload_n 0, 1) := by decide +kernel
theorem h_JPreconditions_checkIndex_1 : decode prog_44_method_11_code 1 = .ok (.ifCond .lt 8, 3) := by decide +kernel
theorem h_JPreconditions_checkIndex_4 : decode prog_44_method_11_code 4 = .ok (.iload_n 0, 1) := by decide +kernel
theorem h_JPreconditions_checkIndex_5 : decode prog_44_method_11_code 5 = .ok (.iload_n 1, 1) := by decide +kernel
theorem h_JPreconditions_checkIndex_6 : decode prog_44_method_11_code 6 = .ok (.if_icmp .lt 10, 3) := by decide +kernel
theorem h_JPreconditions_checkIndex_9 : decode prog_44_method_11_code 9 = .ok (.aload_n 2, 1) := by decide +kernel
theorem h_JPreconditions_checkIndex_10 : decode prog_44_method_11_code 10 = .ok (.iload_n 0, 1) := by decide +kernel
theorem h_JPreconditions_checkIndex_11 : decode prog_44_method_11_code 11 = .ok (.iload_n 1, 1) := by decide +kernel
theorem h_JPreconditions_checkIndex_16 : decode prog_44_method_11_code 16 = .ok (.iload_n 0, 1) := by decide +kernel
theorem h_JPreconditions_checkIndex_17 : decode prog_44_method_11_code 17 = .ok (.ireturn, 1) := by decide +kernel
def x_JPreconditions_checkIndex_n_9 (P : Int32 → CST → Prop) (z0 : Int32) (z1 : Int32) (σ : CST) : Prop := False
def x_JPreconditions_checkIndex_n (x0 : Int32) (x1 : Int32) (σ0 : CST) (P : Int32 → CST → Prop) : Prop := ((x0 < 0 → x_JPreconditions_checkIndex_n_9 P x0 x1 σ0) ∧ (¬ x0 < 0 → ((x0 < x1 → P x0 σ0) ∧ (¬ x0 < x1 → x_JPreconditions_checkIndex_n_9 P x0 x1 σ0))))
set_option maxHeartbeats 4000000 in
set_option maxRecDepth 100000 in
theorem X_JPreconditions_checkIndex_n (l : Launch) (dC : Nat → ClassId) (dI : Nat → Nat → Nat) (ca : Nat → ClassId) (H0 : Heap) (σ0 : CST) (x0 : Int32) (x1 : Int32) {P : Int32 → CST → Prop} (hw : x_JPreconditions_checkIndex_n x0 x1 σ0 P) : Met l g_JPreconditions_checkIndex (mW g_JPreconditions_checkIndex prog_44_method_11_code 3 (some .int)) ({ frames := 0, cells := σ0.2.2.2.2.1, slots := σ0.2.2.2.2.2.1, locals := 0 } : Room) (va_Pc [.int x0, .int x1, .null] (CPre (dC, dI) ca σ0 H0)) (va_Qi P (CB (dC, dI) ca σ0 H0) (cA σ0 H0.size)) σ0.2.2.2.2.1 σ0.2.2.2.2.2.1 (cA σ0 H0.size) := by
  refine C_ofi (by decide +kernel) rfl rfl rfl (Nat.le_of_ble_eq_true rfl) ?_
  intro p e s m below meth cx Q A ls C hnm hend hH0 h hl
  subst hH0
  have C0 := C
  obtain ⟨⟨hx, hb, hml, hown, hts⟩, hsub⟩ := C0
  obtain ⟨cells, e_cells⟩ : ∃ z : Nat, z = 0 := ⟨_, rfl⟩
  obtain ⟨slots, e_slots⟩ : ∃ z : Nat, z = 0 := ⟨_, rfl⟩
  have h : CH (dC, dI) A ca ({ frames := 0, cells := σ0.2.2.2.2.1, slots := σ0.2.2.2.2.2.1, locals := 0 } : Room) σ0.2.2.2.2.2.2 σ0 s s.heap [] cells slots := by rw [e_cells, e_slots]; exact h
  show W p l e ({ frames := 0, cells := σ0.2.2.2.2.1, slots := σ0.2.2.2.2.2.1, locals := 0 } : Room) s m ([.int x0, .int x1, .null] : List Value).toArray below meth cx s.heap [] 0 0 Q (F0 m 0 ls [])
  rw [show W p l e ({ frames := 0, cells := σ0.2.2.2.2.1, slots := σ0.2.2.2.2.2.1, locals := 0 } : Room) s m ([.int x0, .int x1, .null] : List Value).toArray below meth cx s.heap [] 0 0 Q (F0 m 0 ls []) = W p l e ({ frames := 0, cells := σ0.2.2.2.2.1, slots := σ0.2.2.2.2.2.1, locals := 0 } : Room) s m ([.int x0, .int x1, .null] : List Value).toArray below meth cx s.heap [] cells slots Q (F0 m 0 ls []) by rw [e_cells, e_slots]]
  have K_9 : ∀ (u9 : Unit), ∀ (z0 : Int32) (z1 : Int32) (σ : CST) (H : Heap) (locs : List Loc) (cells slots : Nat) (ls : Array Slot), x_JPreconditions_checkIndex_n_9 P z0 z1 σ → CH (dC, dI) A ca ({ frames := 0, cells := σ0.2.2.2.2.1, slots := σ0.2.2.2.2.2.1, locals := 0 } : Room) σ0.2.2.2.2.2.2 σ s H locs cells slots → lv_has ls 3 [(0, .int z0), (1, .int z1), (2, .null)] → W p l e ({ frames := 0, cells := σ0.2.2.2.2.1, slots := σ0.2.2.2.2.2.1, locals := 0 } : Room) s m ([.int x0, .int x1, .null] : List Value).toArray below meth cx H locs cells slots Q (F0 m 9 ls []) := by
    intro u9 z0 z1 σ H locs cells slots ls hw h hl
    unfold x_JPreconditions_checkIndex_n_9 at hw
    refine lv_aload_nN hx hb h_JPreconditions_checkIndex_9 rfl (lv_at hl 2 rfl) ?_
    refine lv_iload_n hx hb h_JPreconditions_checkIndex_10 rfl (lv_at hl 0 rfl) ?_
    refine lv_iload_n hx hb h_JPreconditions_checkIndex_11 rfl (lv_at hl 1 rfl) ?_
    exact hw.elim
  have hl : lv_has ls 3 [(0, .int x0), (1, .int x1), (2, .null)] := hl
  unfold x_JPreconditions_checkIndex_n at hw
  refine lv_iload_n hx hb h_JPreconditions_checkIndex_0 rfl (lv_at hl 0 rfl) ?_
  refine lv_if_lt (tgt := 9) hx hb h_JPreconditions_checkIndex_1 (by decide) (fun c1 => ?_) (fun c1 => ?_)
  · skip
    replace hw := hw.1 c1
    exact K_9 () x0 x1 σ0 _ _ _ _ _ hw h (lv_sub hl [0, 1, 2] rfl)
  · skip
    replace hw := hw.2 c1
    refine lv_iload_n hx hb h_JPreconditions_checkIndex_4 rfl (lv_at hl 0 rfl) ?_
    refine lv_iload_n hx hb h_JPreconditions_checkIndex_5 rfl (lv_at hl 1 rfl) ?_
    refine lv_icmp_lt (tgt := 16) hx hb h_JPreconditions_checkIndex_6 (by decide) (fun c2 => ?_) (fun c2 => ?_)
    · skip
      replace hw := hw.1 c2
      refine lv_iload_n hx hb h_JPreconditions_checkIndex_16 rfl (lv_at hl 0 rfl) ?_
      exact hend x0 σ0 _ _ _ _ _ _ hw h h_JPreconditions_checkIndex_17
    · skip
      replace hw := hw.2 c2
      exact K_9 () x0 x1 σ0 _ _ _ _ _ hw h (lv_sub hl [0, 1, 2] rfl)
abbrev g_UObjects_checkIndex : MethodName := ⟨"java/util/Objects", "checkIndex", "(II)I"⟩
theorem u_105 : (Cond.methodLink "java/util/Objects" 105 ⟨"jdk/internal/util/Preconditions", "checkIndex", "(IILjava/util/function/BiFunction;)I"⟩ : Cond) ∈ bigW := inB_4 54 (by decide +kernel) rfl
theorem u_106 : (Cond.static ⟨"jdk/internal/util/Preconditions", "checkIndex", "(IILjava/util/function/BiFunction;)I"⟩ : Cond) ∈ bigW := inB_4 55 (by decide +kernel) rfl
theorem u_107 : (Cond.initialized "jdk/internal/util/Preconditions" : Cond) ∈ bigW := inB_1 26 (by decide +kernel) rfl
theorem u_108 : (Cond.code ⟨"jdk/internal/util/Preconditions", "checkIndex", "(IILjava/util/function/BiFunction;)I"⟩ prog_44_method_11_code 3 (some .int) : Cond) ∈ bigW := inB_4 56 rfl rfl
theorem h_UObjects_checkIndex_0 : decode prog_40_method_17_code 0 = .ok (.iload_n 0, 1) := by decide +kernel
theorem h_UObjects_checkIndex_1 : decode prog_40_method_17_code 1 = .ok (.iload_n 1, 1) := by decide +kernel
theorem h_UObjects_checkIndex_2 : decode prog_40_method_17_code 2 = .ok (.aconst_null, 1) := by decide +kernel
theorem h_UObjects_checkIndex_3 : decode prog_40_method_17_code 3 = .ok (.invokestatic 105, 3) := by decide +kernel
theorem h_UObjects_checkIndex_6 : decode prog_40_method_17_code 6 = .ok (.ireturn, 1) := by decide +kernel
def x_UObjects_checkIndex (x0 : Int32) (x1 : Int32) (σ0 : CST) (P : Int32 → CST → Prop) : Prop := x_JPreconditions_checkIndex_n x0 x1 σ0 (fun r2 σ1 => P r2 σ1)
set_option maxHeartbeats 4000000 in
set_option maxRecDepth 100000 in
theorem X_UObjects_checkIndex (l : Launch) (dC : Nat → ClassId) (dI : Nat → Nat → Nat) (ca : Nat → ClassId) (H0 : Heap) (σ0 : CST) (x0 : Int32) (x1 : Int32) {P : Int32 → CST → Prop} (hw : x_UObjects_checkIndex x0 x1 σ0 P) : Met l g_UObjects_checkIndex (mW g_UObjects_checkIndex prog_40_method_17_code 2 (some .int)) ({ frames := 1, cells := σ0.2.2.2.2.1, slots := σ0.2.2.2.2.2.1, locals := 22 } : Room) (va_Pc [.int x0, .int x1] (CPre (dC, dI) ca σ0 H0)) (va_Qi P (CB (dC, dI) ca σ0 H0) (cA σ0 H0.size)) σ0.2.2.2.2.1 σ0.2.2.2.2.2.1 (cA σ0 H0.size) := by
  refine C_ofi (by decide +kernel) rfl rfl rfl (Nat.le_of_ble_eq_true rfl) ?_
  intro p e s m below meth cx Q A ls C hnm hend hH0 h hl
  subst hH0
  have C0 := C
  obtain ⟨⟨hx, hb, hml, hown, hts⟩, hsub⟩ := C0
  obtain ⟨cells, e_cells⟩ : ∃ z : Nat, z = 0 := ⟨_, rfl⟩
  obtain ⟨slots, e_slots⟩ : ∃ z : Nat, z = 0 := ⟨_, rfl⟩
  have h : CH (dC, dI) A ca ({ frames := 1, cells := σ0.2.2.2.2.1, slots := σ0.2.2.2.2.2.1, locals := 22 } : Room) σ0.2.2.2.2.2.2 σ0 s s.heap [] cells slots := by rw [e_cells, e_slots]; exact h
  show W p l e ({ frames := 1, cells := σ0.2.2.2.2.1, slots := σ0.2.2.2.2.2.1, locals := 22 } : Room) s m ([.int x0, .int x1] : List Value).toArray below meth cx s.heap [] 0 0 Q (F0 m 0 ls [])
  rw [show W p l e ({ frames := 1, cells := σ0.2.2.2.2.1, slots := σ0.2.2.2.2.2.1, locals := 22 } : Room) s m ([.int x0, .int x1] : List Value).toArray below meth cx s.heap [] 0 0 Q (F0 m 0 ls []) = W p l e ({ frames := 1, cells := σ0.2.2.2.2.1, slots := σ0.2.2.2.2.2.1, locals := 22 } : Room) s m ([.int x0, .int x1] : List Value).toArray below meth cx s.heap [] cells slots Q (F0 m 0 ls []) by rw [e_cells, e_slots]]
  have hl : lv_has ls 2 [(0, .int x0), (1, .int x1)] := hl
  unfold x_UObjects_checkIndex at hw
  refine lv_iload_n hx hb h_UObjects_checkIndex_0 rfl (lv_at hl 0 rfl) ?_
  refine lv_iload_n hx hb h_UObjects_checkIndex_1 rfl (lv_at hl 1 rfl) ?_
  refine lv_null hx hb h_UObjects_checkIndex_2 ?_
  refine C_callSi (As := [.int x0, .int x1, .null]) (rest := []) C h (X_JPreconditions_checkIndex_n l dC dI ca s.heap σ0 x0 x1 hw) (va_cwS 3 hts (gS hsub u_105 u_106 u_107 u_108) rfl rfl rfl (by decide +kernel) ⟨(Nat.le_of_ble_eq_true rfl), (Nat.le_of_ble_eq_true rfl)⟩) rfl hl.1 (Nat.le_of_ble_eq_true rfl) h_UObjects_checkIndex_3 (fun r2 σ1 H locs cells slots hw9 h9 => ?_)
  clear hw h; have hw := hw9; have h := h9; clear hw9 h9
  refine W.eq (g2 := F0 m 6 ls [.int r2]) rfl ?_
  exact hend r2 σ1 _ _ _ _ _ _ hw h h_UObjects_checkIndex_6
abbrev g_AL_elementData : MethodName := ⟨"java/util/ArrayList", "elementData", "(I)Ljava/lang/Object;"⟩
theorem u_109 : (Cond.fieldLink "java/util/ArrayList" 9 "java/util/ArrayList" "elementData" "[Ljava/lang/Object;" : Cond) ∈ bigW := inB_2 142 (by decide +kernel) rfl
theorem h_AL_elementData_0 : decode prog_36_method_18_code 0 = .ok (.aload_n 0, 1) := by decide +kernel
theorem h_AL_elementData_1 : decode prog_36_method_18_code 1 = .ok (.getfield 9, 3) := by decide +kernel
theorem h_AL_elementData_4 : decode prog_36_method_18_code 4 = .ok (.iload_n 1, 1) := by decide +kernel
theorem h_AL_elementData_5 : decode prog_36_method_18_code 5 = .ok (.aaload, 1) := by decide +kernel
theorem h_AL_elementData_6 : decode prog_36_method_18_code 6 = .ok (.areturn, 1) := by decide +kernel
def x_AL_elementData (a0 : Nat) (x1 : Int32) (σ0 : CST) (P : Option Nat → CST → Prop) : Prop := σ0.1 a0 = some (6, 0) ∧ (∀ b2 : Option Nat, b2 = (σ0.2.2.2.1 a0 1) → (∃ r3 : Nat, b2 = some r3 ∧ ((∃ n5 : Nat, σ0.1 r3 = some (27, n5) ∧ (vp_in x1 n5 ∧ (∀ b7 : Option Nat, b7 = (σ0.2.2.2.1 r3 (x1 : Int32).toNatClampNeg) → P b7 σ0))))))
set_option maxHeartbeats 4000000 in
set_option maxRecDepth 100000 in
theorem X_AL_elementData (l : Launch) (dC : Nat → ClassId) (dI : Nat → Nat → Nat) (ca : Nat → ClassId) (H0 : Heap) (σ0 : CST) (a0 : Nat) (x1 : Int32) {P : Option Nat → CST → Prop} (hw : x_AL_elementData a0 x1 σ0 P) : Met l g_AL_elementData (mW g_AL_elementData prog_36_method_18_code 2 (some (.object "java/lang/Object"))) ({ frames := 0, cells := σ0.2.2.2.2.1, slots := σ0.2.2.2.2.2.1, locals := 0 } : Room) (va_Pc [.ref a0, .int x1] (CPre (dC, dI) ca σ0 H0)) (va_Qq P (CB (dC, dI) ca σ0 H0) (cA σ0 H0.size)) σ0.2.2.2.2.1 σ0.2.2.2.2.2.1 (cA σ0 H0.size) := by
  refine C_ofq (Or.inl ⟨_, rfl⟩) (by decide +kernel) rfl rfl rfl (Nat.le_of_ble_eq_true rfl) ?_
  intro p e s m below meth cx Q A ls C hnm hend hH0 h hl
  subst hH0
  have C0 := C
  obtain ⟨⟨hx, hb, hml, hown, hts⟩, hsub⟩ := C0
  obtain ⟨cells, e_cells⟩ : ∃ z : Nat, z = 0 := ⟨_, rfl⟩
  obtain ⟨slots, e_slots⟩ : ∃ z : Nat, z = 0 := ⟨_, rfl⟩
  have h : CH (dC, dI) A ca ({ frames := 0, cells := σ0.2.2.2.2.1, slots := σ0.2.2.2.2.2.1, locals := 0 } : Room) σ0.2.2.2.2.2.2 σ0 s s.heap [] cells slots := by rw [e_cells, e_slots]; exact h
  show W p l e ({ frames := 0, cells := σ0.2.2.2.2.1, slots := σ0.2.2.2.2.2.1, locals := 0 } : Room) s m ([.ref a0, .int x1] : List Value).toArray below meth cx s.heap [] 0 0 Q (F0 m 0 ls [])
  rw [show W p l e ({ frames := 0, cells := σ0.2.2.2.2.1, slots := σ0.2.2.2.2.2.1, locals := 0 } : Room) s m ([.ref a0, .int x1] : List Value).toArray below meth cx s.heap [] 0 0 Q (F0 m 0 ls []) = W p l e ({ frames := 0, cells := σ0.2.2.2.2.1, slots := σ0.2.2.2.2.2.1, locals := 0 } : Room) s m ([.ref a0, .int x1] : List Value).toArray below meth cx s.heap [] cells slots Q (F0 m 0 ls []) by rw [e_cells, e_slots]]
  have hl : lv_has ls 2 [(0, .ref a0), (1, .int x1)] := hl
  unfold x_AL_elementData at hw
  refine lv_aload_n hx hb h_AL_elementData_0 rfl (lv_at hl 0 rfl) ?_
  obtain ⟨g1, hw⟩ := hw
  refine C_get C h 6 1 (v := va_rf (σ0.2.2.2.1 a0 1)) g1 rfl (Cn := R_A) (T := T_A) (N := 3) rfl (by decide) rfl uw_A (by decide) u_109 (fun _ q => q) h_AL_elementData_1 ?_
  refine lv_topq (fun b2 e_b2 => ?_)
  replace hw := hw b2 e_b2
  refine lv_iload_n hx hb h_AL_elementData_4 rfl (lv_at hl 1 rfl) ?_
  obtain ⟨r3, e_r3, hw⟩ := hw
  subst e_r3
  have hl : lv_has ls 2 [(0, .ref a0), (1, .int x1)] := hl
  refine W.eq (g2 := F0 m 5 ls [.int x1, .ref r3]) rfl ?_
  obtain ⟨n5, g4, hw⟩ := hw
  obtain ⟨g6, hw⟩ := hw
  refine C_aald C h 27 6 rfl (by decide) g4 g6 h_AL_elementData_5 ?_
  refine lv_topq (fun b7 e_b7 => ?_)
  replace hw := hw b7 e_b7
  exact hend b7 σ0 _ _ _ _ _ _ hw h h_AL_elementData_6
abbrev g_AL_get : MethodName := ⟨"java/util/ArrayList", "get", "(I)Ljava/lang/Object;"⟩
theorem u_110 : (Cond.methodLink "java/util/ArrayList" 118 ⟨"java/util/Objects", "checkIndex", "(II)I"⟩ : Cond) ∈ bigW := inB_4 51 (by decide +kernel) rfl
theorem u_111 : (Cond.static ⟨"java/util/Objects", "checkIndex", "(II)I"⟩ : Cond) ∈ bigW := inB_4 52 (by decide +kernel) rfl
theorem u_112 : (Cond.initialized "java/util/Objects" : Cond) ∈ bigW := inB_1 25 (by decide +kernel) rfl
theorem u_113 : (Cond.code ⟨"java/util/Objects", "checkIndex", "(II)I"⟩ prog_40_method_17_code 2 (some .int) : Cond) ∈ bigW := inB_4 53 rfl rfl
theorem u_114 : (Cond.methodLink "java/util/ArrayList" 123 ⟨"java/util/ArrayList", "elementData", "(I)Ljava/lang/Object;"⟩ : Cond) ∈ bigW := inB_4 57 (by decide +kernel) rfl
theorem u_115 : (Cond.instanceMethod ⟨"java/util/ArrayList", "elementData", "(I)Ljava/lang/Object;"⟩ : Cond) ∈ bigW := inB_4 58 (by decide +kernel) rfl
theorem u_116 : (Cond.selects "java/util/ArrayList" ⟨"java/util/ArrayList", "elementData", "(I)Ljava/lang/Object;"⟩ ⟨"java/util/ArrayList", "elementData", "(I)Ljava/lang/Object;"⟩ : Cond) ∈ bigW := inB_4 59 (by decide +kernel) rfl
theorem u_117 : (Cond.initialized "java/util/ArrayList" : Cond) ∈ bigW := inB_1 15 (by decide +kernel) rfl
theorem u_118 : (Cond.code ⟨"java/util/ArrayList", "elementData", "(I)Ljava/lang/Object;"⟩ prog_36_method_18_code 2 (some (.object "java/lang/Object")) : Cond) ∈ bigW := inB_4 60 rfl rfl
theorem h_AL_get_0 : decode prog_36_method_20_code 0 = .ok (.iload_n 1, 1) := by decide +kernel
theorem h_AL_get_1 : decode prog_36_method_20_code 1 = .ok (.aload_n 0, 1) := by decide +kernel
theorem h_AL_get_2 : decode prog_36_method_20_code 2 = .ok (.getfield 48, 3) := by decide +kernel
theorem h_AL_get_5 : decode prog_36_method_20_code 5 = .ok (.invokestatic 118, 3) := by decide +kernel
theorem h_AL_get_8 : decode prog_36_method_20_code 8 = .ok (.pop, 1) := by decide +kernel
theorem h_AL_get_9 : decode prog_36_method_20_code 9 = .ok (.aload_n 0, 1) := by decide +kernel
theorem h_AL_get_10 : decode prog_36_method_20_code 10 = .ok (.iload_n 1, 1) := by decide +kernel
theorem h_AL_get_11 : decode prog_36_method_20_code 11 = .ok (.invokevirtual 123, 3) := by decide +kernel
theorem h_AL_get_14 : decode prog_36_method_20_code 14 = .ok (.areturn, 1) := by decide +kernel
def x_AL_get (a0 : Nat) (x1 : Int32) (σ0 : CST) (P : Option Nat → CST → Prop) : Prop := σ0.1 a0 = some (6, 0) ∧ (x_UObjects_checkIndex x1 (σ0.2.1 a0 2) σ0 (fun r3 σ2 => σ2.1 a0 = some (6, 0) ∧ (x_AL_elementData a0 x1 σ2 (fun r6 σ5 => P r6 σ5))))
set_option maxHeartbeats 4000000 in
set_option maxRecDepth 100000 in
theorem X_AL_get (l : Launch) (dC : Nat → ClassId) (dI : Nat → Nat → Nat) (ca : Nat → ClassId) (H0 : Heap) (σ0 : CST) (a0 : Nat) (x1 : Int32) {P : Option Nat → CST → Prop} (hw : x_AL_get a0 x1 σ0 P) : Met l g_AL_get (mW g_AL_get prog_36_method_20_code 2 (some (.object "java/lang/Object"))) ({ frames := 2, cells := σ0.2.2.2.2.1, slots := σ0.2.2.2.2.2.1, locals := 43 } : Room) (va_Pc [.ref a0, .int x1] (CPre (dC, dI) ca σ0 H0)) (va_Qq P (CB (dC, dI) ca σ0 H0) (cA σ0 H0.size)) σ0.2.2.2.2.1 σ0.2.2.2.2.2.1 (cA σ0 H0.size) := by
  refine C_ofq (Or.inl ⟨_, rfl⟩) (by decide +kernel) rfl rfl rfl (Nat.le_of_ble_eq_true rfl) ?_
  intro p e s m below meth cx Q A ls C hnm hend hH0 h hl
  subst hH0
  have C0 := C
  obtain ⟨⟨hx, hb, hml, hown, hts⟩, hsub⟩ := C0
  obtain ⟨cells, e_cells⟩ : ∃ z : Nat, z = 0 := ⟨_, rfl⟩
  obtain ⟨slots, e_slots⟩ : ∃ z : Nat, z = 0 := ⟨_, rfl⟩
  have h : CH (dC, dI) A ca ({ frames := 2, cells := σ0.2.2.2.2.1, slots := σ0.2.2.2.2.2.1, locals := 43 } : Room) σ0.2.2.2.2.2.2 σ0 s s.heap [] cells slots := by rw [e_cells, e_slots]; exact h
  show W p l e ({ frames := 2, cells := σ0.2.2.2.2.1, slots := σ0.2.2.2.2.2.1, locals := 43 } : Room) s m ([.ref a0, .int x1] : List Value).toArray below meth cx s.heap [] 0 0 Q (F0 m 0 ls [])
  rw [show W p l e ({ frames := 2, cells := σ0.2.2.2.2.1, slots := σ0.2.2.2.2.2.1, locals := 43 } : Room) s m ([.ref a0, .int x1] : List Value).toArray below meth cx s.heap [] 0 0 Q (F0 m 0 ls []) = W p l e ({ frames := 2, cells := σ0.2.2.2.2.1, slots := σ0.2.2.2.2.2.1, locals := 43 } : Room) s m ([.ref a0, .int x1] : List Value).toArray below meth cx s.heap [] cells slots Q (F0 m 0 ls []) by rw [e_cells, e_slots]]
  have hl : lv_has ls 2 [(0, .ref a0), (1, .int x1)] := hl
  unfold x_AL_get at hw
  refine lv_iload_n hx hb h_AL_get_0 rfl (lv_at hl 1 rfl) ?_
  refine lv_aload_n hx hb h_AL_get_1 rfl (lv_at hl 0 rfl) ?_
  obtain ⟨g1, hw⟩ := hw
  refine C_get C h 6 2 (v := .int (σ0.2.1 a0 2)) g1 rfl (Cn := R_A) (T := T_A) (N := 3) rfl (by decide) rfl uw_A (by decide) u_104 (fun _ q => q) h_AL_get_2 ?_
  refine C_callSi (As := [.int x1, .int (σ0.2.1 a0 2)]) (rest := []) C h (X_UObjects_checkIndex l dC dI ca s.heap σ0 x1 (σ0.2.1 a0 2) hw) (va_cwS 2 hts (gS hsub u_110 u_111 u_112 u_113) rfl rfl rfl (by decide +kernel) ⟨(Nat.le_of_ble_eq_true rfl), (Nat.le_of_ble_eq_true rfl)⟩) rfl hl.1 (Nat.le_of_ble_eq_true rfl) h_AL_get_5 (fun r3 σ2 H locs cells slots hw9 h9 => ?_)
  clear hw h; have hw := hw9; have h := h9; clear hw9 h9
  refine W.eq (g2 := F0 m 8 ls [.int r3]) rfl ?_
  refine lv_pop hx hb h_AL_get_8 rfl ?_
  refine lv_aload_n hx hb h_AL_get_9 rfl (lv_at hl 0 rfl) ?_
  refine lv_iload_n hx hb h_AL_get_10 rfl (lv_at hl 1 rfl) ?_
  obtain ⟨g4, hw⟩ := hw
  refine C_callVq (As := [.int x1]) (rest := []) C h (ci := 6) (Cn := R_A) (T := T_A) (N := 3) g4 rfl (by decide) (X_AL_elementData l dC dI ca H σ2 a0 x1 hw) (cwV 1 hts (gV hsub u_114 u_115 u_116 u_117 u_118) rfl rfl rfl (by decide +kernel) ⟨(Nat.le_of_ble_eq_true rfl), (Nat.le_of_ble_eq_true rfl)⟩) rfl hl.1 (Nat.le_of_ble_eq_true rfl) h_AL_get_11 (fun r6 σ5 H locs cells slots hw9 h9 => ?_)
  clear hw h; have hw := hw9; have h := h9; clear hw9 h9
  refine W.eq (g2 := F0 m 14 ls [va_rf r6]) rfl ?_
  exact hend r6 σ5 _ _ _ _ _ _ hw h h_AL_get_14
abbrev g_AL_fastRemove : MethodName := ⟨"java/util/ArrayList", "fastRemove", "([Ljava/lang/Object;I)V"⟩
theorem u_119 : (Cond.fieldLink "java/util/ArrayList" 63 "java/util/ArrayList" "modCount" "I" : Cond) ∈ bigW := inB_2 145 (by decide +kernel) rfl
theorem u_120 : (Cond.sameField "java/util/ArrayList" "java/util/AbstractList" "modCount" "I" : Cond) ∈ bigW := inB_2 146 (by decide +kernel) rfl
theorem u_121 : (Cond.methodLink "java/util/ArrayList" 112 ⟨"java/lang/System", "arraycopy", "(Ljava/lang/Object;ILjava/lang/Object;II)V"⟩ : Cond) ∈ bigW := inB_5 96 (by decide +kernel) rfl
theorem h_AL_fastRemove_0 : decode prog_36_method_39_code 0 = .ok (.aload_n 0, 1) := by decide +kernel
theorem h_AL_fastRemove_1 : decode prog_36_method_39_code 1 = .ok (.dup, 1) := by decide +kernel
theorem h_AL_fastRemove_2 : decode prog_36_method_39_code 2 = .ok (.getfield 63, 3) := by decide +kernel
theorem h_AL_fastRemove_5 : decode prog_36_method_39_code 5 = .ok (.iconst 1, 1) := by decide +kernel
theorem h_AL_fastRemove_6 : decode prog_36_method_39_code 6 = .ok (.iadd, 1) := by decide +kernel
theorem h_AL_fastRemove_7 : decode prog_36_method_39_code 7 = .ok (.putfield 63, 3) := by decide +kernel
theorem h_AL_fastRemove_10 : decode prog_36_method_39_code 10 = .ok (.aload_n 0, 1) := by decide +kernel
theorem h_AL_fastRemove_11 : decode prog_36_method_39_code 11 = .ok (.getfield 48, 3) := by decide +kernel
theorem h_AL_fastRemove_14 : decode prog_36_method_39_code 14 = .ok (.iconst 1, 1) := by decide +kernel
theorem h_AL_fastRemove_15 : decode prog_36_method_39_code 15 = .ok (.isub, 1) := by decide +kernel
theorem h_AL_fastRemove_16 : decode prog_36_method_39_code 16 = .ok (.dup, 1) := by decide +kernel
theorem h_AL_fastRemove_17 : decode prog_36_method_39_code 17 = .ok (.istore_n 3, 1) := by decide +kernel
theorem h_AL_fastRemove_18 : decode prog_36_method_39_code 18 = .ok (.iload_n 2, 1) := by decide +kernel
theorem h_AL_fastRemove_19 : decode prog_36_method_39_code 19 = .ok (.if_icmp .le 15, 3) := by decide +kernel
theorem h_AL_fastRemove_22 : decode prog_36_method_39_code 22 = .ok (.aload_n 1, 1) := by decide +kernel
theorem h_AL_fastRemove_23 : decode prog_36_method_39_code 23 = .ok (.iload_n 2, 1) := by decide +kernel
theorem h_AL_fastRemove_24 : decode prog_36_method_39_code 24 = .ok (.iconst 1, 1) := by decide +kernel
theorem h_AL_fastRemove_25 : decode prog_36_method_39_code 25 = .ok (.iadd, 1) := by decide +kernel
theorem h_AL_fastRemove_26 : decode prog_36_method_39_code 26 = .ok (.aload_n 1, 1) := by decide +kernel
theorem h_AL_fastRemove_27 : decode prog_36_method_39_code 27 = .ok (.iload_n 2, 1) := by decide +kernel
theorem h_AL_fastRemove_28 : decode prog_36_method_39_code 28 = .ok (.iload_n 3, 1) := by decide +kernel
theorem h_AL_fastRemove_29 : decode prog_36_method_39_code 29 = .ok (.iload_n 2, 1) := by decide +kernel
theorem h_AL_fastRemove_30 : decode prog_36_method_39_code 30 = .ok (.isub, 1) := by decide +kernel
theorem h_AL_fastRemove_31 : decode prog_36_method_39_code 31 = .ok (.invokestatic 112, 3) := by decide +kernel
theorem h_AL_fastRemove_34 : decode prog_36_method_39_code 34 = .ok (.aload_n 1, 1) := by decide +kernel
theorem h_AL_fastRemove_35 : decode prog_36_method_39_code 35 = .ok (.aload_n 0, 1) := by decide +kernel
theorem h_AL_fastRemove_36 : decode prog_36_method_39_code 36 = .ok (.iload_n 3, 1) := by decide +kernel
theorem h_AL_fastRemove_37 : decode prog_36_method_39_code 37 = .ok (.dup_x1, 1) := by decide +kernel
theorem h_AL_fastRemove_38 : decode prog_36_method_39_code 38 = .ok (.putfield 48, 3) := by decide +kernel
theorem h_AL_fastRemove_41 : decode prog_36_method_39_code 41 = .ok (.aconst_null, 1) := by decide +kernel
theorem h_AL_fastRemove_42 : decode prog_36_method_39_code 42 = .ok (.aastore, 1) := by decide +kernel
theorem h_AL_fastRemove_43 : decode prog_36_method_39_code 43 = .ok (.return_, 1) := by decide +kernel
def x_AL_fastRemove_34 (a0 : Nat) (a1 : Nat) (P : CST → Prop) (z3 : Int32) (σ : CST) : Prop := σ.1 a0 = some (6, 0) ∧ (∀ σ2 : CST, σ2 = sI σ a0 2 z3 → (∃ n4 : Nat, σ2.1 a1 = some (27, n4) ∧ (vp_in z3 n4 ∧ (∀ σ6 : CST, σ6 = sR σ2 a1 (z3 : Int32).toNatClampNeg none → P σ6))))
def x_AL_fastRemove (a0 : Nat) (a1 : Nat) (x2 : Int32) (σ0 : CST) (P : CST → Prop) : Prop := σ0.1 a0 = some (6, 0) ∧ (∀ σ8 : CST, σ8 = sI σ0 a0 0 ((σ0.2.1 a0 0) + 1) → σ8.1 a0 = some (6, 0) ∧ (((((σ8.2.1 a0 2) - 1) ≤ x2 → x_AL_fastRemove_34 a0 a1 P ((σ8.2.1 a0 2) - 1) σ8) ∧ (¬ ((σ8.2.1 a0 2) - 1) ≤ x2 → (∃ n12 : Nat, σ8.1 a1 = some (27, n12) ∧ ((¬ ((x2 + 1) : Int32) < 0 ∧ ¬ (x2 : Int32) < 0 ∧ ¬ ((((σ8.2.1 a0 2) - 1) - x2) : Int32) < 0 ∧ ((x2 + 1) : Int32).toNatClampNeg + ((((σ8.2.1 a0 2) - 1) - x2) : Int32).toNatClampNeg ≤ n12 ∧ (x2 : Int32).toNatClampNeg + ((((σ8.2.1 a0 2) - 1) - x2) : Int32).toNatClampNeg ≤ n12 ∧ (∀ i : Nat, i < ((((σ8.2.1 a0 2) - 1) - x2) : Int32).toNatClampNeg → ∀ y : Nat, σ8.2.2.2.1 a1 (((x2 + 1) : Int32).toNatClampNeg + i) = some y → σ8.1 y = some (7, 0)) ∧ (∀ σ19 : CST, σ19 = sB σ8 a1 (va_cpy (σ8.2.2.2.1 a1) (σ8.2.2.2.1 a1) ((x2 + 1) : Int32).toNatClampNeg (x2 : Int32).toNatClampNeg ((((σ8.2.1 a0 2) - 1) - x2) : Int32).toNatClampNeg) → x_AL_fastRemove_34 a0 a1 P ((σ8.2.1 a0 2) - 1) σ19))))))))
set_option maxHeartbeats 4000000 in
set_option maxRecDepth 100000 in
theorem X_AL_fastRemove (l : Launch) (dC : Nat → ClassId) (dI : Nat → Nat → Nat) (ca : Nat → ClassId) (H0 : Heap) (σ0 : CST) (a0 : Nat) (a1 : Nat) (x2 : Int32) {P : CST → Prop} (hw : x_AL_fastRemove a0 a1 x2 σ0 P) : Met l g_AL_fastRemove (mW g_AL_fastRemove prog_36_method_39_code 4 none) ({ frames := 1, cells := σ0.2.2.2.2.1, slots := σ0.2.2.2.2.2.1, locals := 100 } : Room) (va_Pc [.ref a0, .ref a1, .int x2] (CPre (dC, dI) ca σ0 H0)) (va_Qv P (CB (dC, dI) ca σ0 H0) (cA σ0 H0.size)) σ0.2.2.2.2.1 σ0.2.2.2.2.2.1 (cA σ0 H0.size) := by
  refine C_ofv (by decide +kernel) rfl rfl rfl (Nat.le_of_ble_eq_true rfl) ?_
  intro p e s m below meth cx Q A ls C hnm hend hH0 h hl
  subst hH0
  have C0 := C
  obtain ⟨⟨hx, hb, hml, hown, hts⟩, hsub⟩ := C0
  obtain ⟨cells, e_cells⟩ : ∃ z : Nat, z = 0 := ⟨_, rfl⟩
  obtain ⟨slots, e_slots⟩ : ∃ z : Nat, z = 0 := ⟨_, rfl⟩
  have h : CH (dC, dI) A ca ({ frames := 1, cells := σ0.2.2.2.2.1, slots := σ0.2.2.2.2.2.1, locals := 100 } : Room) σ0.2.2.2.2.2.2 σ0 s s.heap [] cells slots := by rw [e_cells, e_slots]; exact h
  show W p l e ({ frames := 1, cells := σ0.2.2.2.2.1, slots := σ0.2.2.2.2.2.1, locals := 100 } : Room) s m ([.ref a0, .ref a1, .int x2] : List Value).toArray below meth cx s.heap [] 0 0 Q (F0 m 0 ls [])
  rw [show W p l e ({ frames := 1, cells := σ0.2.2.2.2.1, slots := σ0.2.2.2.2.2.1, locals := 100 } : Room) s m ([.ref a0, .ref a1, .int x2] : List Value).toArray below meth cx s.heap [] 0 0 Q (F0 m 0 ls []) = W p l e ({ frames := 1, cells := σ0.2.2.2.2.1, slots := σ0.2.2.2.2.2.1, locals := 100 } : Room) s m ([.ref a0, .ref a1, .int x2] : List Value).toArray below meth cx s.heap [] cells slots Q (F0 m 0 ls []) by rw [e_cells, e_slots]]
  have K_34 : ∀ (u9 : Unit), ∀ (z3 : Int32) (σ : CST) (H : Heap) (locs : List Loc) (cells slots : Nat) (ls : Array Slot), x_AL_fastRemove_34 a0 a1 P z3 σ → CH (dC, dI) A ca ({ frames := 1, cells := σ0.2.2.2.2.1, slots := σ0.2.2.2.2.2.1, locals := 100 } : Room) σ0.2.2.2.2.2.2 σ s H locs cells slots → lv_has ls 4 [(0, .ref a0), (1, .ref a1), (3, .int z3)] → W p l e ({ frames := 1, cells := σ0.2.2.2.2.1, slots := σ0.2.2.2.2.2.1, locals := 100 } : Room) s m ([.ref a0, .ref a1, .int x2] : List Value).toArray below meth cx H locs cells slots Q (F0 m 34 ls []) := by
    intro u9 z3 σ H locs cells slots ls hw h hl
    unfold x_AL_fastRemove_34 at hw
    refine lv_aload_n hx hb h_AL_fastRemove_34 rfl (lv_at hl 1 rfl) ?_
    refine lv_aload_n hx hb h_AL_fastRemove_35 rfl (lv_at hl 0 rfl) ?_
    refine lv_iload_n hx hb h_AL_fastRemove_36 rfl (lv_at hl 2 rfl) ?_
    refine lv_dup_x1 hx hb h_AL_fastRemove_37 rfl rfl ?_
    obtain ⟨g1, hw⟩ := hw
    refine C_puti C h 6 2 g1 (Cn := R_A) (T := T_A) (N := 3) rfl (by decide) rfl uw_A tok_A nm_A (by decide) rfl u_104 (fun _ q => q) (Or.inl rfl) (by decide +kernel) h_AL_fastRemove_38 (fun H locs h => ?_)
    obtain ⟨σ2, e_σ2⟩ : ∃ z : CST, z = sI σ a0 2 z3 := ⟨_, rfl⟩
    rw [← e_σ2] at h
    replace hw := hw σ2 e_σ2
    refine lv_null hx hb h_AL_fastRemove_41 ?_
    obtain ⟨n4, g3, hw⟩ := hw
    obtain ⟨g5, hw⟩ := hw
    refine C_aastN C h 27 6 rfl (by decide) g3 g5 h_AL_fastRemove_42 (fun H locs h => ?_)
    obtain ⟨σ6, e_σ6⟩ : ∃ z : CST, z = sR σ2 a1 (z3 : Int32).toNatClampNeg none := ⟨_, rfl⟩
    rw [← e_σ6] at h
    replace hw := hw σ6 e_σ6
    exact hend σ6 _ _ _ _ _ _ hw h h_AL_fastRemove_43
  have hl : lv_has ls 4 [(0, .ref a0), (1, .ref a1), (2, .int x2)] := hl
  unfold x_AL_fastRemove at hw
  refine lv_aload_n hx hb h_AL_fastRemove_0 rfl (lv_at hl 0 rfl) ?_
  refine lv_dup hx hb h_AL_fastRemove_1 rfl ?_
  obtain ⟨g7, hw⟩ := hw
  refine C_get C h 6 0 (v := .int (σ0.2.1 a0 0)) g7 rfl (Cn := R_A) (T := T_A) (N := 3) rfl (by decide) rfl uw_A (by decide) u_119 (u_same (hts _ (hsub _ u_120))) h_AL_fastRemove_2 ?_
  refine lv_iconst (v := 1) hx hb h_AL_fastRemove_5 (by decide) ?_
  refine lv_iadd hx hb h_AL_fastRemove_6 ?_
  refine C_puti C h 6 0 g7 (Cn := R_A) (T := T_A) (N := 3) rfl (by decide) rfl uw_A tok_A nm_A (by decide) rfl u_119 (u_same (hts _ (hsub _ u_120))) (Or.inl rfl) (by decide +kernel) h_AL_fastRemove_7 (fun H locs h => ?_)
  obtain ⟨σ8, e_σ8⟩ : ∃ z : CST, z = sI σ0 a0 0 ((σ0.2.1 a0 0) + 1) := ⟨_, rfl⟩
  rw [← e_σ8] at h
  replace hw := hw σ8 e_σ8
  refine lv_aload_n hx hb h_AL_fastRemove_10 rfl (lv_at hl 0 rfl) ?_
  obtain ⟨g9, hw⟩ := hw
  refine C_get C h 6 2 (v := .int (σ8.2.1 a0 2)) g9 rfl (Cn := R_A) (T := T_A) (N := 3) rfl (by decide) rfl uw_A (by decide) u_104 (fun _ q => q) h_AL_fastRemove_11 ?_
  refine lv_iconst (v := 1) hx hb h_AL_fastRemove_14 (by decide) ?_
  refine lv_isub hx hb h_AL_fastRemove_15 ?_
  refine lv_dup hx hb h_AL_fastRemove_16 rfl ?_
  refine lv_istore_n (i := 3) (lv' := [(3, .int ((σ8.2.1 a0 2) - 1)), (0, .ref a0), (1, .ref a1), (2, .int x2)]) hx hb h_AL_fastRemove_17 rfl hl (by decide) rfl (fun ls hl => ?_)
  refine lv_iload_n hx hb h_AL_fastRemove_18 rfl (lv_at hl 3 rfl) ?_
  refine lv_icmp_le (tgt := 34) hx hb h_AL_fastRemove_19 (by decide) (fun c10 => ?_) (fun c10 => ?_)
  · skip
    replace hw := hw.1 c10
    exact K_34 () ((σ8.2.1 a0 2) - 1) σ8 _ _ _ _ _ hw h (lv_sub hl [1, 2, 0] rfl)
  · skip
    replace hw := hw.2 c10
    refine lv_aload_n hx hb h_AL_fastRemove_22 rfl (lv_at hl 2 rfl) ?_
    refine lv_iload_n hx hb h_AL_fastRemove_23 rfl (lv_at hl 3 rfl) ?_
    refine lv_iconst (v := 1) hx hb h_AL_fastRemove_24 (by decide) ?_
    refine lv_iadd hx hb h_AL_fastRemove_25 ?_
    refine lv_aload_n hx hb h_AL_fastRemove_26 rfl (lv_at hl 2 rfl) ?_
    refine lv_iload_n hx hb h_AL_fastRemove_27 rfl (lv_at hl 3 rfl) ?_
    refine lv_iload_n hx hb h_AL_fastRemove_28 rfl (lv_at hl 0 rfl) ?_
    refine lv_iload_n hx hb h_AL_fastRemove_29 rfl (lv_at hl 3 rfl) ?_
    refine lv_isub hx hb h_AL_fastRemove_30 ?_
    obtain ⟨n12, g11, hw⟩ := hw
    obtain ⟨g13, g14, g15, g16, g17, hw⟩ := hw
    obtain ⟨g18, hw⟩ := hw
    refine C_copyq C h hl.1 u_121 u_32 u_33 u_34 g11 g11 g13 g14 g15 g16 g17 g18 (Nat.le_of_ble_eq_true rfl) (Nat.le_of_ble_eq_true rfl) h_AL_fastRemove_31 (fun H locs h => ?_)
    obtain ⟨σ19, e_σ19⟩ : ∃ z : CST, z = sB σ8 a1 (va_cpy (σ8.2.2.2.1 a1) (σ8.2.2.2.1 a1) ((x2 + 1) : Int32).toNatClampNeg (x2 : Int32).toNatClampNeg ((((σ8.2.1 a0 2) - 1) - x2) : Int32).toNatClampNeg) := ⟨_, rfl⟩
    rw [← e_σ19] at h
    replace hw := hw σ19 e_σ19
    exact K_34 () ((σ8.2.1 a0 2) - 1) σ19 _ _ _ _ _ hw h (lv_sub hl [1, 2, 0] rfl)
abbrev g_AL_remove : MethodName := ⟨"java/util/ArrayList", "remove", "(I)Ljava/lang/Object;"⟩
theorem u_122 : (Cond.methodLink "java/util/ArrayList" 144 ⟨"java/util/ArrayList", "fastRemove", "([Ljava/lang/Object;I)V"⟩ : Cond) ∈ bigW := inB_5 92 (by decide +kernel) rfl
theorem u_123 : (Cond.instanceMethod ⟨"java/util/ArrayList", "fastRemove", "([Ljava/lang/Object;I)V"⟩ : Cond) ∈ bigW := inB_5 94 (by decide +kernel) rfl
theorem u_124 : (Cond.selects "java/util/ArrayList" ⟨"java/util/ArrayList", "fastRemove", "([Ljava/lang/Object;I)V"⟩ ⟨"java/util/ArrayList", "fastRemove", "([Ljava/lang/Object;I)V"⟩ : Cond) ∈ bigW := inS (y := ⟨"java/util/ArrayList", "fastRemove", "([Ljava/lang/Object;I)V"⟩) (n := 3) (List.mem_of_getElem? (i := 41) (by decide +kernel))
theorem u_125 : (Cond.code ⟨"java/util/ArrayList", "fastRemove", "([Ljava/lang/Object;I)V"⟩ prog_36_method_39_code 4 none : Cond) ∈ bigW := inB_5 95 rfl rfl
theorem h_AL_remove_0 : decode prog_36_method_29_code 0 = .ok (.iload_n 1, 1) := by decide +kernel
theorem h_AL_remove_1 : decode prog_36_method_29_code 1 = .ok (.aload_n 0, 1) := by decide +kernel
theorem h_AL_remove_2 : decode prog_36_method_29_code 2 = .ok (.getfield 48, 3) := by decide +kernel
theorem h_AL_remove_5 : decode prog_36_method_29_code 5 = .ok (.invokestatic 118, 3) := by decide +kernel
theorem h_AL_remove_8 : decode prog_36_method_29_code 8 = .ok (.pop, 1) := by decide +kernel
theorem h_AL_remove_9 : decode prog_36_method_29_code 9 = .ok (.aload_n 0, 1) := by decide +kernel
theorem h_AL_remove_10 : decode prog_36_method_29_code 10 = .ok (.getfield 9, 3) := by decide +kernel
theorem h_AL_remove_13 : decode prog_36_method_29_code 13 = .ok (.astore_n 2, 1) := by decide +kernel
theorem h_AL_remove_14 : decode prog_36_method_29_code 14 = .ok (.aload_n 2, 1) := by decide +kernel
theorem h_AL_remove_15 : decode prog_36_method_29_code 15 = .ok (.iload_n 1, 1) := by decide +kernel
theorem h_AL_remove_16 : decode prog_36_method_29_code 16 = .ok (.aaload, 1) := by decide +kernel
theorem h_AL_remove_17 : decode prog_36_method_29_code 17 = .ok (.astore_n 3, 1) := by decide +kernel
theorem h_AL_remove_18 : decode prog_36_method_29_code 18 = .ok (.aload_n 0, 1) := by decide +kernel
theorem h_AL_remove_19 : decode prog_36_method_29_code 19 = .ok (.aload_n 2, 1) := by decide +kernel
theorem h_AL_remove_20 : decode prog_36_method_29_code 20 = .ok (.iload_n 1, 1) := by decide +kernel
theorem h_AL_remove_21 : decode prog_36_method_29_code 21 = .ok (.invokevirtual 144, 3) := by decide +kernel
theorem h_AL_remove_24 : decode prog_36_method_29_code 24 = .ok (.aload_n 3, 1) := by decide +kernel
theorem h_AL_remove_25 : decode prog_36_method_29_code 25 = .ok (.areturn, 1) := by decide +kernel
def x_AL_remove (a0 : Nat) (x1 : Int32) (σ0 : CST) (P : Option Nat → CST → Prop) : Prop := σ0.1 a0 = some (6, 0) ∧ (x_UObjects_checkIndex x1 (σ0.2.1 a0 2) σ0 (fun r3 σ2 => σ2.1 a0 = some (6, 0) ∧ (∀ b5 : Option Nat, b5 = (σ2.2.2.2.1 a0 1) → (∃ r6 : Nat, b5 = some r6 ∧ ((∃ n8 : Nat, σ2.1 r6 = some (27, n8) ∧ (vp_in x1 n8 ∧ (∀ b10 : Option Nat, b10 = (σ2.2.2.2.1 r6 (x1 : Int32).toNatClampNeg) → x_AL_fastRemove a0 r6 x1 σ2 (fun σ11 => P b10 σ11)))))))))
set_option maxHeartbeats 4000000 in
set_option maxRecDepth 100000 in
theorem X_AL_remove (l : Launch) (dC : Nat → ClassId) (dI : Nat → Nat → Nat) (ca : Nat → ClassId) (H0 : Heap) (σ0 : CST) (a0 : Nat) (x1 : Int32) {P : Option Nat → CST → Prop} (hw : x_AL_remove a0 x1 σ0 P) : Met l g_AL_remove (mW g_AL_remove prog_36_method_29_code 4 (some (.object "java/lang/Object"))) ({ frames := 2, cells := σ0.2.2.2.2.1, slots := σ0.2.2.2.2.2.1, locals := 123 } : Room) (va_Pc [.ref a0, .int x1] (CPre (dC, dI) ca σ0 H0)) (va_Qq P (CB (dC, dI) ca σ0 H0) (cA σ0 H0.size)) σ0.2.2.2.2.1 σ0.2.2.2.2.2.1 (cA σ0 H0.size) := by
  refine C_ofq (Or.inl ⟨_, rfl⟩) (by decide +kernel) rfl rfl rfl (Nat.le_of_ble_eq_true rfl) ?_
  intro p e s m below meth cx Q A ls C hnm hend hH0 h hl
  subst hH0
  have C0 := C
  obtain ⟨⟨hx, hb, hml, hown, hts⟩, hsub⟩ := C0
  obtain ⟨cells, e_cells⟩ : ∃ z : Nat, z = 0 := ⟨_, rfl⟩
  obtain ⟨slots, e_slots⟩ : ∃ z : Nat, z = 0 := ⟨_, rfl⟩
  have h : CH (dC, dI) A ca ({ frames := 2, cells := σ0.2.2.2.2.1, slots := σ0.2.2.2.2.2.1, locals := 123 } : Room) σ0.2.2.2.2.2.2 σ0 s s.heap [] cells slots := by rw [e_cells, e_slots]; exact h
  show W p l e ({ frames := 2, cells := σ0.2.2.2.2.1, slots := σ0.2.2.2.2.2.1, locals := 123 } : Room) s m ([.ref a0, .int x1] : List Value).toArray below meth cx s.heap [] 0 0 Q (F0 m 0 ls [])
  rw [show W p l e ({ frames := 2, cells := σ0.2.2.2.2.1, slots := σ0.2.2.2.2.2.1, locals := 123 } : Room) s m ([.ref a0, .int x1] : List Value).toArray below meth cx s.heap [] 0 0 Q (F0 m 0 ls []) = W p l e ({ frames := 2, cells := σ0.2.2.2.2.1, slots := σ0.2.2.2.2.2.1, locals := 123 } : Room) s m ([.ref a0, .int x1] : List Value).toArray below meth cx s.heap [] cells slots Q (F0 m 0 ls []) by rw [e_cells, e_slots]]
  have hl : lv_has ls 4 [(0, .ref a0), (1, .int x1)] := hl
  unfold x_AL_remove at hw
  refine lv_iload_n hx hb h_AL_remove_0 rfl (lv_at hl 1 rfl) ?_
  refine lv_aload_n hx hb h_AL_remove_1 rfl (lv_at hl 0 rfl) ?_
  obtain ⟨g1, hw⟩ := hw
  refine C_get C h 6 2 (v := .int (σ0.2.1 a0 2)) g1 rfl (Cn := R_A) (T := T_A) (N := 3) rfl (by decide) rfl uw_A (by decide) u_104 (fun _ q => q) h_AL_remove_2 ?_
  refine C_callSi (As := [.int x1, .int (σ0.2.1 a0 2)]) (rest := []) C h (X_UObjects_checkIndex l dC dI ca s.heap σ0 x1 (σ0.2.1 a0 2) hw) (va_cwS 2 hts (gS hsub u_110 u_111 u_112 u_113) rfl rfl rfl (by decide +kernel) ⟨(Nat.le_of_ble_eq_true rfl), (Nat.le_of_ble_eq_true rfl)⟩) rfl hl.1 (Nat.le_of_ble_eq_true rfl) h_AL_remove_5 (fun r3 σ2 H locs cells slots hw9 h9 => ?_)
  clear hw h; have hw := hw9; have h := h9; clear hw9 h9
  refine W.eq (g2 := F0 m 8 ls [.int r3]) rfl ?_
  refine lv_pop hx hb h_AL_remove_8 rfl ?_
  refine lv_aload_n hx hb h_AL_remove_9 rfl (lv_at hl 0 rfl) ?_
  obtain ⟨g4, hw⟩ := hw
  refine C_get C h 6 1 (v := va_rf (σ2.2.2.2.1 a0 1)) g4 rfl (Cn := R_A) (T := T_A) (N := 3) rfl (by decide) rfl uw_A (by decide) u_109 (fun _ q => q) h_AL_remove_10 ?_
  refine lv_topq (fun b5 e_b5 => ?_)
  replace hw := hw b5 e_b5
  refine cq_astore_n (i := 2) (lv' := [(2, va_rf b5), (0, .ref a0), (1, .int x1)]) hx hb h_AL_remove_13 rfl hl (by decide) rfl (fun ls hl => ?_)
  refine cq_aload_n hx hb h_AL_remove_14 rfl (lv_at hl 0 rfl) ?_
  refine lv_iload_n hx hb h_AL_remove_15 rfl (lv_at hl 2 rfl) ?_
  obtain ⟨r6, e_r6, hw⟩ := hw
  subst e_r6
  have hl : lv_has ls 4 [(2, .ref r6), (0, .ref a0), (1, .int x1)] := hl
  refine W.eq (g2 := F0 m 16 ls [.int x1, .ref r6]) rfl ?_
  obtain ⟨n8, g7, hw⟩ := hw
  obtain ⟨g9, hw⟩ := hw
  refine C_aald C h 27 6 rfl (by decide) g7 g9 h_AL_remove_16 ?_
  refine lv_topq (fun b10 e_b10 => ?_)
  replace hw := hw b10 e_b10
  refine cq_astore_n (i := 3) (lv' := [(3, va_rf b10), (2, .ref r6), (0, .ref a0), (1, .int x1)]) hx hb h_AL_remove_17 rfl hl (by decide) rfl (fun ls hl => ?_)
  refine lv_aload_n hx hb h_AL_remove_18 rfl (lv_at hl 2 rfl) ?_
  refine lv_aload_n hx hb h_AL_remove_19 rfl (lv_at hl 1 rfl) ?_
  refine lv_iload_n hx hb h_AL_remove_20 rfl (lv_at hl 3 rfl) ?_
  refine C_callVv (As := [.ref r6, .int x1]) (rest := []) C h (ci := 6) (Cn := R_A) (T := T_A) (N := 3) g4 rfl (by decide) (X_AL_fastRemove l dC dI ca H σ2 a0 r6 x1 hw) (cwV 2 hts (gV hsub u_122 u_123 u_124 u_117 u_125) rfl rfl rfl (by decide +kernel) ⟨(Nat.le_of_ble_eq_true rfl), (Nat.le_of_ble_eq_true rfl)⟩) rfl hl.1 (Nat.le_of_ble_eq_true rfl) h_AL_remove_21 (fun σ11 H locs cells slots hw9 h9 => ?_)
  clear hw h; have hw := hw9; have h := h9; clear hw9 h9
  refine W.eq (g2 := F0 m 24 ls []) rfl ?_
  refine cq_aload_n hx hb h_AL_remove_24 rfl (lv_at hl 0 rfl) ?_
  exact hend b10 σ11 _ _ _ _ _ _ hw h h_AL_remove_25
abbrev g_AL_rangeCheckForAdd : MethodName := ⟨"java/util/ArrayList", "rangeCheckForAdd", "(I)V"⟩
theorem h_AL_rangeCheckForAdd_0 : decode prog_36_method_45_code 0 = .ok (.iload_n 1, 1) := by decide +kernel
theorem h_AL_rangeCheckForAdd_1 : decode prog_36_method_45_code 1 = .ok (.aload_n 0, 1) := by decide +kernel
theorem h_AL_rangeCheckForAdd_2 : decode prog_36_method_45_code 2 = .ok (.getfield 48, 3) := by decide +kernel
theorem h_AL_rangeCheckForAdd_5 : decode prog_36_method_45_code 5 = .ok (.if_icmp .gt 7, 3) := by decide +kernel
theorem h_AL_rangeCheckForAdd_8 : decode prog_36_method_45_code 8 = .ok (.iload_n 1, 1) := by decide +kernel
theorem h_AL_rangeCheckForAdd_9 : decode prog_36_method_45_code 9 = .ok (.ifCond .ge 16, 3) := by decide +kernel
theorem h_AL_rangeCheckForAdd_25 : decode prog_36_method_45_code 25 = .ok (.return_, 1) := by decide +kernel
def x_AL_rangeCheckForAdd_12 (a0 : Nat) (P : CST → Prop) (σ : CST) : Prop := False
def x_AL_rangeCheckForAdd (a0 : Nat) (x1 : Int32) (σ0 : CST) (P : CST → Prop) : Prop := σ0.1 a0 = some (6, 0) ∧ ((((σ0.2.1 a0 2) < x1 → x_AL_rangeCheckForAdd_12 a0 P σ0) ∧ (¬ (σ0.2.1 a0 2) < x1 → ((0 ≤ x1 → P σ0) ∧ (¬ 0 ≤ x1 → x_AL_rangeCheckForAdd_12 a0 P σ0)))))
set_option maxHeartbeats 4000000 in
set_option maxRecDepth 100000 in
theorem X_AL_rangeCheckForAdd (l : Launch) (dC : Nat → ClassId) (dI : Nat → Nat → Nat) (ca : Nat → ClassId) (H0 : Heap) (σ0 : CST) (a0 : Nat) (x1 : Int32) {P : CST → Prop} (hw : x_AL_rangeCheckForAdd a0 x1 σ0 P) : Met l g_AL_rangeCheckForAdd (mW g_AL_rangeCheckForAdd prog_36_method_45_code 2 none) ({ frames := 0, cells := σ0.2.2.2.2.1, slots := σ0.2.2.2.2.2.1, locals := 0 } : Room) (va_Pc [.ref a0, .int x1] (CPre (dC, dI) ca σ0 H0)) (va_Qv P (CB (dC, dI) ca σ0 H0) (cA σ0 H0.size)) σ0.2.2.2.2.1 σ0.2.2.2.2.2.1 (cA σ0 H0.size) := by
  refine C_ofv (by decide +kernel) rfl rfl rfl (Nat.le_of_ble_eq_true rfl) ?_
  intro p e s m below meth cx Q A ls C hnm hend hH0 h hl
  subst hH0
  have C0 := C
  obtain ⟨⟨hx, hb, hml, hown, hts⟩, hsub⟩ := C0
  obtain ⟨cells, e_cells⟩ : ∃ z : Nat, z = 0 := ⟨_, rfl⟩
  obtain ⟨slots, e_slots⟩ : ∃ z : Nat, z = 0 := ⟨_, rfl⟩
  have h : CH (dC, dI) A ca ({ frames := 0, cells := σ0.2.2.2.2.1, slots := σ0.2.2.2.2.2.1, locals := 0 } : Room) σ0.2.2.2.2.2.2 σ0 s s.heap [] cells slots := by rw [e_cells, e_slots]; exact h
  show W p l e ({ frames := 0, cells := σ0.2.2.2.2.1, slots := σ0.2.2.2.2.2.1, locals := 0 } : Room) s m ([.ref a0, .int x1] : List Value).toArray below meth cx s.heap [] 0 0 Q (F0 m 0 ls [])
  rw [show W p l e ({ frames := 0, cells := σ0.2.2.2.2.1, slots := σ0.2.2.2.2.2.1, locals := 0 } : Room) s m ([.ref a0, .int x1] : List Value).toArray below meth cx s.heap [] 0 0 Q (F0 m 0 ls []) = W p l e ({ frames := 0, cells := σ0.2.2.2.2.1, slots := σ0.2.2.2.2.2.1, locals := 0 } : Room) s m ([.ref a0, .int x1] : List Value).toArray below meth cx s.heap [] cells slots Q (F0 m 0 ls []) by rw [e_cells, e_slots]]
  have K_12 : ∀ (u9 : Unit), ∀ (σ : CST) (H : Heap) (locs : List Loc) (cells slots : Nat) (ls : Array Slot), x_AL_rangeCheckForAdd_12 a0 P σ → CH (dC, dI) A ca ({ frames := 0, cells := σ0.2.2.2.2.1, slots := σ0.2.2.2.2.2.1, locals := 0 } : Room) σ0.2.2.2.2.2.2 σ s H locs cells slots → lv_has ls 2 [] → W p l e ({ frames := 0, cells := σ0.2.2.2.2.1, slots := σ0.2.2.2.2.2.1, locals := 0 } : Room) s m ([.ref a0, .int x1] : List Value).toArray below meth cx H locs cells slots Q (F0 m 12 ls []) := by
    intro u9  σ H locs cells slots ls hw h hl
    unfold x_AL_rangeCheckForAdd_12 at hw
    exact hw.elim
  have hl : lv_has ls 2 [(0, .ref a0), (1, .int x1)] := hl
  unfold x_AL_rangeCheckForAdd at hw
  refine lv_iload_n hx hb h_AL_rangeCheckForAdd_0 rfl (lv_at hl 1 rfl) ?_
  refine lv_aload_n hx hb h_AL_rangeCheckForAdd_1 rfl (lv_at hl 0 rfl) ?_
  obtain ⟨g1, hw⟩ := hw
  refine C_get C h 6 2 (v := .int (σ0.2.1 a0 2)) g1 rfl (Cn := R_A) (T := T_A) (N := 3) rfl (by decide) rfl uw_A (by decide) u_104 (fun _ q => q) h_AL_rangeCheckForAdd_2 ?_
  refine lv_icmp_gt (tgt := 12) hx hb h_AL_rangeCheckForAdd_5 (by decide) (fun c2 => ?_) (fun c2 => ?_)
  · skip
    replace hw := hw.1 c2
    exact K_12 () σ0 _ _ _ _ _ hw h (lv_sub hl [] rfl)
  · skip
    replace hw := hw.2 c2
    refine lv_iload_n hx hb h_AL_rangeCheckForAdd_8 rfl (lv_at hl 1 rfl) ?_
    refine lv_if_ge (tgt := 25) hx hb h_AL_rangeCheckForAdd_9 (by decide) (fun c3 => ?_) (fun c3 => ?_)
    · skip
      replace hw := hw.1 c3
      exact hend σ0 _ _ _ _ _ _ hw h h_AL_rangeCheckForAdd_25
    · skip
      replace hw := hw.2 c3
      exact K_12 () σ0 _ _ _ _ _ hw h (lv_sub hl [] rfl)
abbrev g_BMath_max : MethodName := ⟨"java/lang/Math", "max", "(II)I"⟩
theorem h_BMath_max_0 : decode prog_25_method_65_code 0 = .ok (.iload_n 0, 1) := by decide +kernel
theorem h_BMath_max_1 : decode prog_25_method_65_code 1 = .ok (.iload_n 1, 1) := by decide +kernel
theorem h_BMath_max_2 : decode prog_25_method_65_code 2 = .ok (.if_icmp .lt 7, 3) := by decide +kernel
theorem h_BMath_max_5 : decode prog_25_method_65_code 5 = .ok (.iload_n 0, 1) := by decide +kernel
theorem h_BMath_max_6 : decode prog_25_method_65_code 6 = .ok (.goto 4, 3) := by decide +kernel
theorem h_BMath_max_9 : decode prog_25_method_65_code 9 = .ok (.iload_n 1, 1) := by decide +kernel
theorem h_BMath_max_10 : decode prog_25_method_65_code 10 = .ok (.ireturn, 1) := by decide +kernel
def x_BMath_max (x0 : Int32) (x1 : Int32) (σ0 : CST) (P : Int32 → CST → Prop) : Prop := ((x0 < x1 → P x1 σ0) ∧ (¬ x0 < x1 → P x0 σ0))
set_option maxHeartbeats 4000000 in
set_option maxRecDepth 100000 in
theorem X_BMath_max (l : Launch) (dC : Nat → ClassId) (dI : Nat → Nat → Nat) (ca : Nat → ClassId) (H0 : Heap) (σ0 : CST) (x0 : Int32) (x1 : Int32) {P : Int32 → CST → Prop} (hw : x_BMath_max x0 x1 σ0 P) : Met l g_BMath_max (mW g_BMath_max prog_25_method_65_code 2 (some .int)) ({ frames := 0, cells := σ0.2.2.2.2.1, slots := σ0.2.2.2.2.2.1, locals := 0 } : Room) (va_Pc [.int x0, .int x1] (CPre (dC, dI) ca σ0 H0)) (va_Qi P (CB (dC, dI) ca σ0 H0) (cA σ0 H0.size)) σ0.2.2.2.2.1 σ0.2.2.2.2.2.1 (cA σ0 H0.size) := by
  refine C_ofi (by decide +kernel) rfl rfl rfl (Nat.le_of_ble_eq_true rfl) ?_
  intro p e s m below meth cx Q A ls C hnm hend hH0 h hl
  subst hH0
  have C0 := C
  obtain ⟨⟨hx, hb, hml, hown, hts⟩, hsub⟩ := C0
  obtain ⟨cells, e_cells⟩ : ∃ z : Nat, z = 0 := ⟨_, rfl⟩
  obtain ⟨slots, e_slots⟩ : ∃ z : Nat, z = 0 := ⟨_, rfl⟩
  have h : CH (dC, dI) A ca ({ frames := 0, cells := σ0.2.2.2.2.1, slots := σ0.2.2.2.2.2.1, locals := 0 } : Room) σ0.2.2.2.2.2.2 σ0 s s.heap [] cells slots := by rw [e_cells, e_slots]; exact h
  show W p l e ({ frames := 0, cells := σ0.2.2.2.2.1, slots := σ0.2.2.2.2.2.1, locals := 0 } : Room) s m ([.int x0, .int x1] : List Value).toArray below meth cx s.heap [] 0 0 Q (F0 m 0 ls [])
  rw [show W p l e ({ frames := 0, cells := σ0.2.2.2.2.1, slots := σ0.2.2.2.2.2.1, locals := 0 } : Room) s m ([.int x0, .int x1] : List Value).toArray below meth cx s.heap [] 0 0 Q (F0 m 0 ls []) = W p l e ({ frames := 0, cells := σ0.2.2.2.2.1, slots := σ0.2.2.2.2.2.1, locals := 0 } : Room) s m ([.int x0, .int x1] : List Value).toArray below meth cx s.heap [] cells slots Q (F0 m 0 ls []) by rw [e_cells, e_slots]]
  have hl : lv_has ls 2 [(0, .int x0), (1, .int x1)] := hl
  unfold x_BMath_max at hw
  refine lv_iload_n hx hb h_BMath_max_0 rfl (lv_at hl 0 rfl) ?_
  refine lv_iload_n hx hb h_BMath_max_1 rfl (lv_at hl 1 rfl) ?_
  refine lv_icmp_lt (tgt := 9) hx hb h_BMath_max_2 (by decide) (fun c1 => ?_) (fun c1 => ?_)
  · skip
    replace hw := hw.1 c1
    refine lv_iload_n hx hb h_BMath_max_9 rfl (lv_at hl 1 rfl) ?_
    exact hend x1 σ0 _ _ _ _ _ _ hw h h_BMath_max_10
  · skip
    replace hw := hw.2 c1
    refine lv_iload_n hx hb h_BMath_max_5 rfl (lv_at hl 0 rfl) ?_
    refine lv_goto (tgt := 10) hx hb h_BMath_max_6 (by decide) ?_
    exact hend x0 σ0 _ _ _ _ _ _ hw h h_BMath_max_10
abbrev g_JArraysSupport_newLength : MethodName := ⟨"jdk/internal/util/ArraysSupport", "newLength", "(III)I"⟩
theorem u_126 : (Cond.methodLink "jdk/internal/util/ArraysSupport" 194 ⟨"java/lang/Math", "max", "(II)I"⟩ : Cond) ∈ bigW := inB_3 90 (by decide +kernel) rfl
theorem u_127 : (Cond.static ⟨"java/lang/Math", "max", "(II)I"⟩ : Cond) ∈ bigW := inB_3 91 (by decide +kernel) rfl
theorem u_128 : (Cond.code ⟨"java/lang/Math", "max", "(II)I"⟩ prog_25_method_65_code 2 (some .int) : Cond) ∈ bigW := inB_3 92 rfl rfl
theorem u_129 : (Cond.constant "jdk/internal/util/ArraysSupport" 200 2147483639 : Cond) ∈ bigW := inB_3 93 (by decide +kernel) rfl
theorem h_JArraysSupport_newLength_0 : decode prog_43_method_27_code 0 = .ok (.iload_n 0, 1) := by decide +kernel
theorem h_JArraysSupport_newLength_1 : decode prog_43_method_27_code 1 = .ok (.iload_n 1, 1) := by decide +kernel
theorem h_JArraysSupport_newLength_2 : decode prog_43_method_27_code 2 = .ok (.iload_n 2, 1) := by decide +kernel
theorem h_JArraysSupport_newLength_3 : decode prog_43_method_27_code 3 = .ok (.invokestatic 194, 3) := by decide +kernel
theorem h_JArraysSupport_newLength_6 : decode prog_43_method_27_code 6 = .ok (.iadd, 1) := by decide +kernel
theorem h_JArraysSupport_newLength_7 : decode prog_43_method_27_code 7 = .ok (.istore_n 3, 1) := by decide +kernel
theorem h_JArraysSupport_newLength_8 : decode prog_43_method_27_code 8 = .ok (.iconst 0, 1) := by decide +kernel
theorem h_JArraysSupport_newLength_9 : decode prog_43_method_27_code 9 = .ok (.iload_n 3, 1) := by decide +kernel
theorem h_JArraysSupport_newLength_10 : decode prog_43_method_27_code 10 = .ok (.if_icmp .ge 11, 3) := by decide +kernel
theorem h_JArraysSupport_newLength_13 : decode prog_43_method_27_code 13 = .ok (.iload_n 3, 1) := by decide +kernel
theorem h_JArraysSupport_newLength_14 : decode prog_43_method_27_code 14 = .ok (.ldc 200, 2) := by decide +kernel
theorem h_JArraysSupport_newLength_16 : decode prog_43_method_27_code 16 = .ok (.if_icmp .gt 5, 3) := by decide +kernel
theorem h_JArraysSupport_newLength_19 : decode prog_43_method_27_code 19 = .ok (.iload_n 3, 1) := by decide +kernel
theorem h_JArraysSupport_newLength_20 : decode prog_43_method_27_code 20 = .ok (.ireturn, 1) := by decide +kernel
theorem h_JArraysSupport_newLength_21 : decode prog_43_method_27_code 21 = .ok (.iload_n 0, 1) := by decide +kernel
theorem h_JArraysSupport_newLength_22 : decode prog_43_method_27_code 22 = .ok (.iload_n 1, 1) := by decide +kernel
def x_JArraysSupport_newLength_21 (P : Int32 → CST → Prop) (z0 : Int32) (z1 : Int32) (σ : CST) : Prop := False
def x_JArraysSupport_newLength (x0 : Int32) (x1 : Int32) (x2 : Int32) (σ0 : CST) (P : Int32 → CST → Prop) : Prop := x_BMath_max x1 x2 σ0 (fun r2 σ1 => (((x0 + r2) ≤ (0 : Int32) → x_JArraysSupport_newLength_21 P x0 x1 σ1) ∧ (¬ (x0 + r2) ≤ (0 : Int32) → ((2147483639 < (x0 + r2) → x_JArraysSupport_newLength_21 P x0 x1 σ1) ∧ (¬ 2147483639 < (x0 + r2) → P (x0 + r2) σ1)))))
set_option maxHeartbeats 4000000 in
set_option maxRecDepth 100000 in
theorem X_JArraysSupport_newLength (l : Launch) (dC : Nat → ClassId) (dI : Nat → Nat → Nat) (ca : Nat → ClassId) (H0 : Heap) (σ0 : CST) (x0 : Int32) (x1 : Int32) (x2 : Int32) {P : Int32 → CST → Prop} (hw : x_JArraysSupport_newLength x0 x1 x2 σ0 P) : Met l g_JArraysSupport_newLength (mW g_JArraysSupport_newLength prog_43_method_27_code 4 (some .int)) ({ frames := 1, cells := σ0.2.2.2.2.1, slots := σ0.2.2.2.2.2.1, locals := 21 } : Room) (va_Pc [.int x0, .int x1, .int x2] (CPre (dC, dI) ca σ0 H0)) (va_Qi P (CB (dC, dI) ca σ0 H0) (cA σ0 H0.size)) σ0.2.2.2.2.1 σ0.2.2.2.2.2.1 (cA σ0 H0.size) := by
  refine C_ofi (by decide +kernel) rfl rfl rfl (Nat.le_of_ble_eq_true rfl) ?_
  intro p e s m below meth cx Q A ls C hnm hend hH0 h hl
  subst hH0
  have C0 := C
  obtain ⟨⟨hx, hb, hml, hown, hts⟩, hsub⟩ := C0
  obtain ⟨cells, e_cells⟩ : ∃ z : Nat, z = 0 := ⟨_, rfl⟩
  obtain ⟨slots, e_slots⟩ : ∃ z : Nat, z = 0 := ⟨_, rfl⟩
  have h : CH (dC, dI) A ca ({ frames := 1, cells := σ0.2.2.2.2.1, slots := σ0.2.2.2.2.2.1, locals := 21 } : Room) σ0.2.2.2.2.2.2 σ0 s s.heap [] cells slots := by rw [e_cells, e_slots]; exact h
  show W p l e ({ frames := 1, cells := σ0.2.2.2.2.1, slots := σ0.2.2.2.2.2.1, locals := 21 } : Room) s m ([.int x0, .int x1, .int x2] : List Value).toArray below meth cx s.heap [] 0 0 Q (F0 m 0 ls [])
  rw [show W p l e ({ frames := 1, cells := σ0.2.2.2.2.1, slots := σ0.2.2.2.2.2.1, locals := 21 } : Room) s m ([.int x0, .int x1, .int x2] : List Value).toArray below meth cx s.heap [] 0 0 Q (F0 m 0 ls []) = W p l e ({ frames := 1, cells := σ0.2.2.2.2.1, slots := σ0.2.2.2.2.2.1, locals := 21 } : Room) s m ([.int x0, .int x1, .int x2] : List Value).toArray below meth cx s.heap [] cells slots Q (F0 m 0 ls []) by rw [e_cells, e_slots]]
  have K_21 : ∀ (u9 : Unit), ∀ (z0 : Int32) (z1 : Int32) (σ : CST) (H : Heap) (locs : List Loc) (cells slots : Nat) (ls : Array Slot), x_JArraysSupport_newLength_21 P z0 z1 σ → CH (dC, dI) A ca ({ frames := 1, cells := σ0.2.2.2.2.1, slots := σ0.2.2.2.2.2.1, locals := 21 } : Room) σ0.2.2.2.2.2.2 σ s H locs cells slots → lv_has ls 4 [(0, .int z0), (1, .int z1)] → W p l e ({ frames := 1, cells := σ0.2.2.2.2.1, slots := σ0.2.2.2.2.2.1, locals := 21 } : Room) s m ([.int x0, .int x1, .int x2] : List Value).toArray below meth cx H locs cells slots Q (F0 m 21 ls []) := by
    intro u9 z0 z1 σ H locs cells slots ls hw h hl
    unfold x_JArraysSupport_newLength_21 at hw
    refine lv_iload_n hx hb h_JArraysSupport_newLength_21 rfl (lv_at hl 0 rfl) ?_
    refine lv_iload_n hx hb h_JArraysSupport_newLength_22 rfl (lv_at hl 1 rfl) ?_
    exact hw.elim
  have hl : lv_has ls 4 [(0, .int x0), (1, .int x1), (2, .int x2)] := hl
  unfold x_JArraysSupport_newLength at hw
  refine lv_iload_n hx hb h_JArraysSupport_newLength_0 rfl (lv_at hl 0 rfl) ?_
  refine lv_iload_n hx hb h_JArraysSupport_newLength_1 rfl (lv_at hl 1 rfl) ?_
  refine lv_iload_n hx hb h_JArraysSupport_newLength_2 rfl (lv_at hl 2 rfl) ?_
  refine C_callSi (As := [.int x1, .int x2]) (rest := [.int x0]) C h (X_BMath_max l dC dI ca s.heap σ0 x1 x2 hw) (va_cwS 2 hts (gS hsub u_126 u_127 u_28 u_128) rfl rfl rfl (by decide +kernel) ⟨(Nat.le_of_ble_eq_true rfl), (Nat.le_of_ble_eq_true rfl)⟩) rfl hl.1 (Nat.le_of_ble_eq_true rfl) h_JArraysSupport_newLength_3 (fun r2 σ1 H locs cells slots hw9 h9 => ?_)
  clear hw h; have hw := hw9; have h := h9; clear hw9 h9
  refine W.eq (g2 := F0 m 6 ls [.int r2, .int x0]) rfl ?_
  refine lv_iadd hx hb h_JArraysSupport_newLength_6 ?_
  refine lv_istore_n (i := 3) (lv' := [(3, .int (x0 + r2)), (0, .int x0), (1, .int x1), (2, .int x2)]) hx hb h_JArraysSupport_newLength_7 rfl hl (by decide) rfl (fun ls hl => ?_)
  refine lv_iconst (v := 0) hx hb h_JArraysSupport_newLength_8 (by decide) ?_
  refine lv_iload_n hx hb h_JArraysSupport_newLength_9 rfl (lv_at hl 0 rfl) ?_
  refine lv_icmp_ge (tgt := 21) hx hb h_JArraysSupport_newLength_10 (by decide) (fun c3 => ?_) (fun c3 => ?_)
  · skip
    replace hw := hw.1 c3
    exact K_21 () x0 x1 σ1 _ _ _ _ _ hw h (lv_sub hl [1, 2] rfl)
  · skip
    replace hw := hw.2 c3
    refine lv_iload_n hx hb h_JArraysSupport_newLength_13 rfl (lv_at hl 0 rfl) ?_
    refine lv_ldc (v := 2147483639) hx hb hown (hts _ (hsub _ u_129)) h_JArraysSupport_newLength_14 ?_
    refine lv_icmp_gt (tgt := 21) hx hb h_JArraysSupport_newLength_16 (by decide) (fun c4 => ?_) (fun c4 => ?_)
    · skip
      replace hw := hw.1 c4
      exact K_21 () x0 x1 σ1 _ _ _ _ _ hw h (lv_sub hl [1, 2] rfl)
    · skip
      replace hw := hw.2 c4
      refine lv_iload_n hx hb h_JArraysSupport_newLength_19 rfl (lv_at hl 0 rfl) ?_
      exact hend (x0 + r2) σ1 _ _ _ _ _ _ hw h h_JArraysSupport_newLength_20
abbrev g_Ar_copyOf2 : MethodName := ⟨"java/util/Arrays", "copyOf", "([Ljava/lang/Object;ILjava/lang/Class;)[Ljava/lang/Object;"⟩
theorem u_130 : (Cond.classLink "java/util/Arrays" 110 "[Ljava/lang/Object;" : Cond) ∈ bigW := inB_3 127 (by decide +kernel) rfl
theorem u_131 : (Cond.classLink "java/util/Arrays" 2 "java/lang/Object" : Cond) ∈ bigW := inB_3 129 (by decide +kernel) rfl
theorem h_Ar_copyOf2_0 : decode prog_37_method_120_code 0 = .ok (.aload_n 2, 1) := by decide +kernel
theorem h_Ar_copyOf2_1 : decode prog_37_method_120_code 1 = .ok (.ldc 110, 2) := by decide +kernel
theorem h_Ar_copyOf2_3 : decode prog_37_method_120_code 3 = .ok (.if_acmp .ne 10, 3) := by decide +kernel
theorem h_Ar_copyOf2_6 : decode prog_37_method_120_code 6 = .ok (.iload_n 1, 1) := by decide +kernel
theorem h_Ar_copyOf2_7 : decode prog_37_method_120_code 7 = .ok (.anewarray 2, 3) := by decide +kernel
theorem h_Ar_copyOf2_10 : decode prog_37_method_120_code 10 = .ok (.goto 14, 3) := by decide +kernel
theorem h_Ar_copyOf2_13 : decode prog_37_method_120_code 13 = .ok (.aload_n 2, 1) := by decide +kernel
theorem h_Ar_copyOf2_24 : decode prog_37_method_120_code 24 = .ok (.astore_n 3, 1) := by decide +kernel
theorem h_Ar_copyOf2_25 : decode prog_37_method_120_code 25 = .ok (.aload_n 0, 1) := by decide +kernel
theorem h_Ar_copyOf2_26 : decode prog_37_method_120_code 26 = .ok (.iconst 0, 1) := by decide +kernel
theorem h_Ar_copyOf2_27 : decode prog_37_method_120_code 27 = .ok (.aload_n 3, 1) := by decide +kernel
theorem h_Ar_copyOf2_28 : decode prog_37_method_120_code 28 = .ok (.iconst 0, 1) := by decide +kernel
theorem h_Ar_copyOf2_29 : decode prog_37_method_120_code 29 = .ok (.aload_n 0, 1) := by decide +kernel
theorem h_Ar_copyOf2_30 : decode prog_37_method_120_code 30 = .ok (.arraylength, 1) := by decide +kernel
theorem h_Ar_copyOf2_31 : decode prog_37_method_120_code 31 = .ok (.iload_n 1, 1) := by decide +kernel
theorem h_Ar_copyOf2_32 : decode prog_37_method_120_code 32 = .ok (.invokestatic 304, 3) := by decide +kernel
theorem h_Ar_copyOf2_35 : decode prog_37_method_120_code 35 = .ok (.invokestatic 150, 3) := by decide +kernel
theorem h_Ar_copyOf2_38 : decode prog_37_method_120_code 38 = .ok (.aload_n 3, 1) := by decide +kernel
theorem h_Ar_copyOf2_39 : decode prog_37_method_120_code 39 = .ok (.areturn, 1) := by decide +kernel
def x_Ar_copyOf2 (a0 : Nat) (x1 : Int32) (a2 : Nat) (σ0 : CST) (P : Option Nat → CST → Prop) : Prop := (((some a2) = (some σ0.2.2.2.2.2.2.2) → (¬ (x1 : Int32) < 0 ∧ (x1 : Int32).toNatClampNeg ≤ 60000000 ∧ 1 ≤ σ0.2.2.2.2.1 ∧ (x1 : Int32).toNatClampNeg ≤ σ0.2.2.2.2.2.1 ∧ ∀ q2 : Nat, σ0.1 q2 = none → q2 ≠ σ0.2.2.2.2.2.2.1 → ∀ σ8 : CST, σ8 = nw σ0 q2 27 (x1 : Int32).toNatClampNeg (x1 : Int32).toNatClampNeg → (∃ n9 : Nat, ((a0 = σ8.2.2.2.2.2.2.1 ∧ n9 = 0) ∨ σ8.1 a0 = some (27, n9)) ∧ (x_BMath_min (Int32.ofNat n9) x1 σ8 (fun r12 σ11 => (∃ n14 : Nat, σ11.1 a0 = some (27, n14) ∧ ((∃ n16 : Nat, σ11.1 q2 = some (27, n16) ∧ ((¬ (0 : Int32) < 0 ∧ ¬ (0 : Int32) < 0 ∧ ¬ (r12 : Int32) < 0 ∧ (0 : Int32).toNatClampNeg + (r12 : Int32).toNatClampNeg ≤ n14 ∧ (0 : Int32).toNatClampNeg + (r12 : Int32).toNatClampNeg ≤ n16 ∧ (∀ i : Nat, i < (r12 : Int32).toNatClampNeg → ∀ y : Nat, σ11.2.2.2.1 a0 ((0 : Int32).toNatClampNeg + i) = some y → σ11.1 y = some (7, 0)) ∧ (∀ σ23 : CST, σ23 = sB σ11 q2 (va_cpy (σ11.2.2.2.1 a0) (σ11.2.2.2.1 q2) (0 : Int32).toNatClampNeg (0 : Int32).toNatClampNeg (r12 : Int32).toNatClampNeg) → P (some q2) σ23))))))))))) ∧ (¬ (some a2) = (some σ0.2.2.2.2.2.2.2) → False))
set_option maxHeartbeats 4000000 in
set_option maxRecDepth 100000 in
theorem X_Ar_copyOf2 (l : Launch) (dC : Nat → ClassId) (dI : Nat → Nat → Nat) (ca : Nat → ClassId) (H0 : Heap) (σ0 : CST) (a0 : Nat) (x1 : Int32) (a2 : Nat) {P : Option Nat → CST → Prop} (hw : x_Ar_copyOf2 a0 x1 a2 σ0 P) : Met l g_Ar_copyOf2 (mW g_Ar_copyOf2 prog_37_method_120_code 4 (some (.array (.object "java/lang/Object")))) ({ frames := 1, cells := σ0.2.2.2.2.1, slots := σ0.2.2.2.2.2.1, locals := 100 } : Room) (va_Pc [.ref a0, .int x1, .ref a2] (CPre (dC, dI) ca σ0 H0)) (va_Qq P (CB (dC, dI) ca σ0 H0) (cA σ0 H0.size)) σ0.2.2.2.2.1 σ0.2.2.2.2.2.1 (cA σ0 H0.size) := by
  refine C_ofq (Or.inr ⟨_, rfl⟩) (by decide +kernel) rfl rfl rfl (Nat.le_of_ble_eq_true rfl) ?_
  intro p e s m below meth cx Q A ls C hnm hend hH0 h hl
  subst hH0
  have C0 := C
  obtain ⟨⟨hx, hb, hml, hown, hts⟩, hsub⟩ := C0
  obtain ⟨cells, e_cells⟩ : ∃ z : Nat, z = 0 := ⟨_, rfl⟩
  obtain ⟨slots, e_slots⟩ : ∃ z : Nat, z = 0 := ⟨_, rfl⟩
  have h : CH (dC, dI) A ca ({ frames := 1, cells := σ0.2.2.2.2.1, slots := σ0.2.2.2.2.2.1, locals := 100 } : Room) σ0.2.2.2.2.2.2 σ0 s s.heap [] cells slots := by rw [e_cells, e_slots]; exact h
  show W p l e ({ frames := 1, cells := σ0.2.2.2.2.1, slots := σ0.2.2.2.2.2.1, locals := 100 } : Room) s m ([.ref a0, .int x1, .ref a2] : List Value).toArray below meth cx s.heap [] 0 0 Q (F0 m 0 ls [])
  rw [show W p l e ({ frames := 1, cells := σ0.2.2.2.2.1, slots := σ0.2.2.2.2.2.1, locals := 100 } : Room) s m ([.ref a0, .int x1, .ref a2] : List Value).toArray below meth cx s.heap [] 0 0 Q (F0 m 0 ls []) = W p l e ({ frames := 1, cells := σ0.2.2.2.2.1, slots := σ0.2.2.2.2.2.1, locals := 100 } : Room) s m ([.ref a0, .int x1, .ref a2] : List Value).toArray below meth cx s.heap [] cells slots Q (F0 m 0 ls []) by rw [e_cells, e_slots]]
  have hl : lv_has ls 4 [(0, .ref a0), (1, .int x1), (2, .ref a2)] := hl
  unfold x_Ar_copyOf2 at hw
  refine lv_aload_n hx hb h_Ar_copyOf2_0 rfl (lv_at hl 2 rfl) ?_
  refine C_ldcM C h u_130 h_Ar_copyOf2_1 ?_
  refine lv_acmp_ne (rx := (some a2)) (ry := (some σ0.2.2.2.2.2.2.2)) (tgt := 13) hx hb h_Ar_copyOf2_3 (by decide) (fun c1 => ?_) (fun c1 => ?_)
  · skip
    replace hw := hw.2 c1
    refine lv_aload_n hx hb h_Ar_copyOf2_13 rfl (lv_at hl 2 rfl) ?_
    exact hw.elim
  · skip
    replace hw := hw.1 c1
    refine lv_iload_n hx hb h_Ar_copyOf2_6 rfl (lv_at hl 1 rfl) ?_
    obtain ⟨g6, g7, g3, g4, hw⟩ := hw
    refine C_anew C h 27 6 rfl (by decide) u_131 h.2.2.2.2.1.2.2.2.2.2.1 g6 rfl g7 g3 g4 h_Ar_copyOf2_7 (fun q2 H g5 hz9 h => ?_)
    replace hw := hw q2 g5 hz9
    obtain ⟨σ8, e_σ8⟩ : ∃ z : CST, z = nw σ0 q2 27 (x1 : Int32).toNatClampNeg (x1 : Int32).toNatClampNeg := ⟨_, rfl⟩
    rw [← e_σ8] at h
    replace hw := hw σ8 e_σ8
    generalize cells + 1 = cells at h ⊢
    generalize slots + (x1 : Int32).toNatClampNeg = slots at h ⊢
    refine lv_goto (tgt := 24) hx hb h_Ar_copyOf2_10 (by decide) ?_
    refine lv_astore_n (i := 3) (lv' := [(3, .ref q2), (0, .ref a0), (1, .int x1), (2, .ref a2)]) hx hb h_Ar_copyOf2_24 rfl hl (by decide) rfl (fun ls hl => ?_)
    refine lv_aload_n hx hb h_Ar_copyOf2_25 rfl (lv_at hl 1 rfl) ?_
    refine lv_iconst (v := 0) hx hb h_Ar_copyOf2_26 (by decide) ?_
    refine lv_aload_n hx hb h_Ar_copyOf2_27 rfl (lv_at hl 0 rfl) ?_
    refine lv_iconst (v := 0) hx hb h_Ar_copyOf2_28 (by decide) ?_
    refine lv_aload_n hx hb h_Ar_copyOf2_29 rfl (lv_at hl 1 rfl) ?_
    obtain ⟨n9, g10, hw⟩ := hw
    refine C_alenO C h g10 h_Ar_copyOf2_30 ?_
    refine lv_iload_n hx hb h_Ar_copyOf2_31 rfl (lv_at hl 2 rfl) ?_
    refine C_callSi (As := [.int (Int32.ofNat n9), .int x1]) (rest := [.int 0, .ref q2, .int 0, .ref a0]) C h (X_BMath_min l dC dI ca H σ8 (Int32.ofNat n9) x1 hw) (va_cwS 2 hts (gS hsub u_35 u_27 u_28 u_29) rfl rfl rfl (by decide +kernel) ⟨(Nat.le_of_ble_eq_true rfl), (Nat.le_of_ble_eq_true rfl)⟩) rfl hl.1 (Nat.le_of_ble_eq_true rfl) h_Ar_copyOf2_32 (fun r12 σ11 H locs cells slots hw9 h9 => ?_)
    clear hw h; have hw := hw9; have h := h9; clear hw9 h9
    refine W.eq (g2 := F0 m 35 ls [.int r12, .int 0, .ref q2, .int 0, .ref a0]) rfl ?_
    obtain ⟨n14, g13, hw⟩ := hw
    obtain ⟨n16, g15, hw⟩ := hw
    obtain ⟨g17, g18, g19, g20, g21, hw⟩ := hw
    obtain ⟨g22, hw⟩ := hw
    refine C_copyq C h hl.1 u_36 u_32 u_33 u_34 g13 g15 g17 g18 g19 g20 g21 g22 (Nat.le_of_ble_eq_true rfl) (Nat.le_of_ble_eq_true rfl) h_Ar_copyOf2_35 (fun H locs h => ?_)
    obtain ⟨σ23, e_σ23⟩ : ∃ z : CST, z = sB σ11 q2 (va_cpy (σ11.2.2.2.1 a0) (σ11.2.2.2.1 q2) (0 : Int32).toNatClampNeg (0 : Int32).toNatClampNeg (r12 : Int32).toNatClampNeg) := ⟨_, rfl⟩
    rw [← e_σ23] at h
    replace hw := hw σ23 e_σ23
    refine lv_aload_n hx hb h_Ar_copyOf2_38 rfl (lv_at hl 0 rfl) ?_
    exact hend (some q2) σ23 _ _ _ _ _ _ hw h h_Ar_copyOf2_39
abbrev g_Ar_copyOf3 : MethodName := ⟨"java/util/Arrays", "copyOf", "([Ljava/lang/Object;I)[Ljava/lang/Object;"⟩
theorem u_132 : (Cond.methodLink "java/util/Arrays" 86 ⟨"java/lang/Object", "getClass", "()Ljava/lang/Class;"⟩ : Cond) ∈ bigW := inB_3 100 (by decide +kernel) rfl
theorem u_133 : (Cond.selects "[Ljava/lang/Object;" ⟨"java/lang/Object", "getClass", "()Ljava/lang/Class;"⟩ ⟨"java/lang/Object", "getClass", "()Ljava/lang/Class;"⟩ : Cond) ∈ bigW := inB_10 215 (by decide +kernel) rfl
theorem u_134 : (Cond.instanceMethod ⟨"java/lang/Object", "getClass", "()Ljava/lang/Class;"⟩ : Cond) ∈ bigW := inB_3 101 (by decide +kernel) rfl
theorem u_135 : (Cond.native ⟨"java/lang/Object", "getClass", "()Ljava/lang/Class;"⟩ : Cond) ∈ bigW := inB_3 123 (by decide +kernel) rfl
theorem u_136 : (Cond.methodLink "java/util/Arrays" 300 ⟨"java/util/Arrays", "copyOf", "([Ljava/lang/Object;ILjava/lang/Class;)[Ljava/lang/Object;"⟩ : Cond) ∈ bigW := inB_3 124 (by decide +kernel) rfl
theorem u_137 : (Cond.static ⟨"java/util/Arrays", "copyOf", "([Ljava/lang/Object;ILjava/lang/Class;)[Ljava/lang/Object;"⟩ : Cond) ∈ bigW := inB_3 125 (by decide +kernel) rfl
theorem u_138 : (Cond.code ⟨"java/util/Arrays", "copyOf", "([Ljava/lang/Object;ILjava/lang/Class;)[Ljava/lang/Object;"⟩ prog_37_method_120_code 4 (some (.array (.object "java/lang/Object"))) : Cond) ∈ bigW := inB_3 126 rfl rfl
theorem h_Ar_copyOf3_0 : decode prog_37_method_119_code 0 = .ok (.aload_n 0, 1) := by decide +kernel
theorem h_Ar_copyOf3_1 : decode prog_37_method_119_code 1 = .ok (.iload_n 1, 1) := by decide +kernel
theorem h_Ar_copyOf3_2 : decode prog_37_method_119_code 2 = .ok (.aload_n 0, 1) := by decide +kernel
theorem h_Ar_copyOf3_3 : decode prog_37_method_119_code 3 = .ok (.invokevirtual 86, 3) := by decide +kernel
theorem h_Ar_copyOf3_6 : decode prog_37_method_119_code 6 = .ok (.invokestatic 300, 3) := by decide +kernel
theorem h_Ar_copyOf3_9 : decode prog_37_method_119_code 9 = .ok (.areturn, 1) := by decide +kernel
def x_Ar_copyOf3 (a0 : Nat) (x1 : Int32) (σ0 : CST) (P : Option Nat → CST → Prop) : Prop := (∃ n2 : Nat, σ0.1 a0 = some (27, n2) ∧ (x_Ar_copyOf2 a0 x1 σ0.2.2.2.2.2.2.2 σ0 (fun r4 σ3 => P r4 σ3)))
set_option maxHeartbeats 4000000 in
set_option maxRecDepth 100000 in
theorem X_Ar_copyOf3 (l : Launch) (dC : Nat → ClassId) (dI : Nat → Nat → Nat) (ca : Nat → ClassId) (H0 : Heap) (σ0 : CST) (a0 : Nat) (x1 : Int32) {P : Option Nat → CST → Prop} (hw : x_Ar_copyOf3 a0 x1 σ0 P) : Met l g_Ar_copyOf3 (mW g_Ar_copyOf3 prog_37_method_119_code 2 (some (.array (.object "java/lang/Object")))) ({ frames := 2, cells := σ0.2.2.2.2.1, slots := σ0.2.2.2.2.2.1, locals := 123 } : Room) (va_Pc [.ref a0, .int x1] (CPre (dC, dI) ca σ0 H0)) (va_Qq P (CB (dC, dI) ca σ0 H0) (cA σ0 H0.size)) σ0.2.2.2.2.1 σ0.2.2.2.2.2.1 (cA σ0 H0.size) := by
  refine C_ofq (Or.inr ⟨_, rfl⟩) (by decide +kernel) rfl rfl rfl (Nat.le_of_ble_eq_true rfl) ?_
  intro p e s m below meth cx Q A ls C hnm hend hH0 h hl
  subst hH0
  have C0 := C
  obtain ⟨⟨hx, hb, hml, hown, hts⟩, hsub⟩ := C0
  obtain ⟨cells, e_cells⟩ : ∃ z : Nat, z = 0 := ⟨_, rfl⟩
  obtain ⟨slots, e_slots⟩ : ∃ z : Nat, z = 0 := ⟨_, rfl⟩
  have h : CH (dC, dI) A ca ({ frames := 2, cells := σ0.2.2.2.2.1, slots := σ0.2.2.2.2.2.1, locals := 123 } : Room) σ0.2.2.2.2.2.2 σ0 s s.heap [] cells slots := by rw [e_cells, e_slots]; exact h
  show W p l e ({ frames := 2, cells := σ0.2.2.2.2.1, slots := σ0.2.2.2.2.2.1, locals := 123 } : Room) s m ([.ref a0, .int x1] : List Value).toArray below meth cx s.heap [] 0 0 Q (F0 m 0 ls [])
  rw [show W p l e ({ frames := 2, cells := σ0.2.2.2.2.1, slots := σ0.2.2.2.2.2.1, locals := 123 } : Room) s m ([.ref a0, .int x1] : List Value).toArray below meth cx s.heap [] 0 0 Q (F0 m 0 ls []) = W p l e ({ frames := 2, cells := σ0.2.2.2.2.1, slots := σ0.2.2.2.2.2.1, locals := 123 } : Room) s m ([.ref a0, .int x1] : List Value).toArray below meth cx s.heap [] cells slots Q (F0 m 0 ls []) by rw [e_cells, e_slots]]
  have hl : lv_has ls 2 [(0, .ref a0), (1, .int x1)] := hl
  unfold x_Ar_copyOf3 at hw
  refine lv_aload_n hx hb h_Ar_copyOf3_0 rfl (lv_at hl 0 rfl) ?_
  refine lv_iload_n hx hb h_Ar_copyOf3_1 rfl (lv_at hl 1 rfl) ?_
  refine lv_aload_n hx hb h_Ar_copyOf3_2 rfl (lv_at hl 0 rfl) ?_
  obtain ⟨n2, g1, hw⟩ := hw
  refine C_getC C h hl.1 u_132 u_133 u_134 u_135 g1 (Nat.le_of_ble_eq_true rfl) (Nat.le_of_ble_eq_true rfl) h_Ar_copyOf3_3 ?_
  refine C_callSq (As := [.ref a0, .int x1, .ref σ0.2.2.2.2.2.2.2]) (rest := []) C h (X_Ar_copyOf2 l dC dI ca s.heap σ0 a0 x1 σ0.2.2.2.2.2.2.2 hw) (va_cwS 3 hts (gS hsub u_136 u_137 u_46 u_138) rfl rfl rfl (by decide +kernel) ⟨(Nat.le_of_ble_eq_true rfl), (Nat.le_of_ble_eq_true rfl)⟩) rfl hl.1 (Nat.le_of_ble_eq_true rfl) h_Ar_copyOf3_6 (fun r4 σ3 H locs cells slots hw9 h9 => ?_)
  clear hw h; have hw := hw9; have h := h9; clear hw9 h9
  refine W.eq (g2 := F0 m 9 ls [va_rf r4]) rfl ?_
  exact hend r4 σ3 _ _ _ _ _ _ hw h h_Ar_copyOf3_9
abbrev g_AL_grow : MethodName := ⟨"java/util/ArrayList", "grow", "(I)[Ljava/lang/Object;"⟩
theorem u_139 : (Cond.methodLink "java/util/ArrayList" 73 ⟨"jdk/internal/util/ArraysSupport", "newLength", "(III)I"⟩ : Cond) ∈ bigW := inB_3 87 (by decide +kernel) rfl
theorem u_140 : (Cond.static ⟨"jdk/internal/util/ArraysSupport", "newLength", "(III)I"⟩ : Cond) ∈ bigW := inB_3 88 (by decide +kernel) rfl
theorem u_141 : (Cond.initialized "jdk/internal/util/ArraysSupport" : Cond) ∈ bigW := inB_1 20 (by decide +kernel) rfl
theorem u_142 : (Cond.code ⟨"jdk/internal/util/ArraysSupport", "newLength", "(III)I"⟩ prog_43_method_27_code 4 (some .int) : Cond) ∈ bigW := inB_3 89 rfl rfl
theorem u_143 : (Cond.methodLink "java/util/ArrayList" 66 ⟨"java/util/Arrays", "copyOf", "([Ljava/lang/Object;I)[Ljava/lang/Object;"⟩ : Cond) ∈ bigW := inB_3 97 (by decide +kernel) rfl
theorem u_144 : (Cond.static ⟨"java/util/Arrays", "copyOf", "([Ljava/lang/Object;I)[Ljava/lang/Object;"⟩ : Cond) ∈ bigW := inB_3 98 (by decide +kernel) rfl
theorem u_145 : (Cond.code ⟨"java/util/Arrays", "copyOf", "([Ljava/lang/Object;I)[Ljava/lang/Object;"⟩ prog_37_method_119_code 2 (some (.array (.object "java/lang/Object"))) : Cond) ∈ bigW := inB_3 99 rfl rfl
theorem u_146 : (Cond.fieldLink "java/util/ArrayList" 39 "java/util/ArrayList" "DEFAULTCAPACITY_EMPTY_ELEMENTDATA" "[Ljava/lang/Object;" : Cond) ∈ bigW := inB_2 140 (by decide +kernel) rfl
theorem u_147 : (Cond.methodLink "java/util/ArrayList" 79 ⟨"java/lang/Math", "max", "(II)I"⟩ : Cond) ∈ bigW := inB_3 130 (by decide +kernel) rfl
theorem u_148 : (Cond.classLink "java/util/ArrayList" 7 "java/lang/Object" : Cond) ∈ bigW := inB_3 131 (by decide +kernel) rfl
theorem h_AL_grow_0 : decode prog_36_method_6_code 0 = .ok (.aload_n 0, 1) := by decide +kernel
theorem h_AL_grow_1 : decode prog_36_method_6_code 1 = .ok (.getfield 9, 3) := by decide +kernel
theorem h_AL_grow_4 : decode prog_36_method_6_code 4 = .ok (.arraylength, 1) := by decide +kernel
theorem h_AL_grow_5 : decode prog_36_method_6_code 5 = .ok (.istore_n 2, 1) := by decide +kernel
theorem h_AL_grow_6 : decode prog_36_method_6_code 6 = .ok (.iload_n 2, 1) := by decide +kernel
theorem h_AL_grow_7 : decode prog_36_method_6_code 7 = .ok (.ifCond .gt 13, 3) := by decide +kernel
theorem h_AL_grow_10 : decode prog_36_method_6_code 10 = .ok (.aload_n 0, 1) := by decide +kernel
theorem h_AL_grow_11 : decode prog_36_method_6_code 11 = .ok (.getfield 9, 3) := by decide +kernel
theorem h_AL_grow_14 : decode prog_36_method_6_code 14 = .ok (.getstatic 39, 3) := by decide +kernel
theorem h_AL_grow_17 : decode prog_36_method_6_code 17 = .ok (.if_acmp .eq 28, 3) := by decide +kernel
theorem h_AL_grow_20 : decode prog_36_method_6_code 20 = .ok (.iload_n 2, 1) := by decide +kernel
theorem h_AL_grow_21 : decode prog_36_method_6_code 21 = .ok (.iload_n 1, 1) := by decide +kernel
theorem h_AL_grow_22 : decode prog_36_method_6_code 22 = .ok (.iload_n 2, 1) := by decide +kernel
theorem h_AL_grow_23 : decode prog_36_method_6_code 23 = .ok (.isub, 1) := by decide +kernel
theorem h_AL_grow_24 : decode prog_36_method_6_code 24 = .ok (.iload_n 2, 1) := by decide +kernel
theorem h_AL_grow_25 : decode prog_36_method_6_code 25 = .ok (.iconst 1, 1) := by decide +kernel
theorem h_AL_grow_26 : decode prog_36_method_6_code 26 = .ok (.ishr, 1) := by decide +kernel
theorem h_AL_grow_27 : decode prog_36_method_6_code 27 = .ok (.invokestatic 73, 3) := by decide +kernel
theorem h_AL_grow_30 : decode prog_36_method_6_code 30 = .ok (.istore_n 3, 1) := by decide +kernel
theorem h_AL_grow_31 : decode prog_36_method_6_code 31 = .ok (.aload_n 0, 1) := by decide +kernel
theorem h_AL_grow_32 : decode prog_36_method_6_code 32 = .ok (.aload_n 0, 1) := by decide +kernel
theorem h_AL_grow_33 : decode prog_36_method_6_code 33 = .ok (.getfield 9, 3) := by decide +kernel
theorem h_AL_grow_36 : decode prog_36_method_6_code 36 = .ok (.iload_n 3, 1) := by decide +kernel
theorem h_AL_grow_37 : decode prog_36_method_6_code 37 = .ok (.invokestatic 66, 3) := by decide +kernel
theorem h_AL_grow_40 : decode prog_36_method_6_code 40 = .ok (.dup_x1, 1) := by decide +kernel
theorem h_AL_grow_41 : decode prog_36_method_6_code 41 = .ok (.putfield 9, 3) := by decide +kernel
theorem h_AL_grow_44 : decode prog_36_method_6_code 44 = .ok (.areturn, 1) := by decide +kernel
theorem h_AL_grow_45 : decode prog_36_method_6_code 45 = .ok (.aload_n 0, 1) := by decide +kernel
theorem h_AL_grow_46 : decode prog_36_method_6_code 46 = .ok (.bipush 10, 2) := by decide +kernel
theorem h_AL_grow_48 : decode prog_36_method_6_code 48 = .ok (.iload_n 1, 1) := by decide +kernel
theorem h_AL_grow_49 : decode prog_36_method_6_code 49 = .ok (.invokestatic 79, 3) := by decide +kernel
theorem h_AL_grow_52 : decode prog_36_method_6_code 52 = .ok (.anewarray 7, 3) := by decide +kernel
theorem h_AL_grow_55 : decode prog_36_method_6_code 55 = .ok (.dup_x1, 1) := by decide +kernel
theorem h_AL_grow_56 : decode prog_36_method_6_code 56 = .ok (.putfield 9, 3) := by decide +kernel
theorem h_AL_grow_59 : decode prog_36_method_6_code 59 = .ok (.areturn, 1) := by decide +kernel
def x_AL_grow_20 (a0 : Nat) (P : Option Nat → CST → Prop) (z1 : Int32) (z2 : Int32) (σ : CST) : Prop := ∀ b1 : Int32, b1 = (z2 >>> ((1 : Int32) &&& 31)) → x_JArraysSupport_newLength z2 (z1 - z2) b1 σ (fun r3 σ2 => σ2.1 a0 = some (6, 0) ∧ (∀ b5 : Option Nat, b5 = (σ2.2.2.2.1 a0 1) → (∃ r6 : Nat, b5 = some r6 ∧ (x_Ar_copyOf3 r6 r3 σ2 (fun r8 σ7 => σ7.1 a0 = some (6, 0) ∧ (∀ σ10 : CST, σ10 = sR σ7 a0 1 r8 → P r8 σ10))))))
def x_AL_grow (a0 : Nat) (x1 : Int32) (σ0 : CST) (P : Option Nat → CST → Prop) : Prop := σ0.1 a0 = some (6, 0) ∧ (∀ b12 : Option Nat, b12 = (σ0.2.2.2.1 a0 1) → (∃ r13 : Nat, b12 = some r13 ∧ ((∃ n14 : Nat, ((r13 = σ0.2.2.2.2.2.2.1 ∧ n14 = 0) ∨ σ0.1 r13 = some (27, n14)) ∧ (((0 < (Int32.ofNat n14) → x_AL_grow_20 a0 P x1 (Int32.ofNat n14) σ0) ∧ (¬ 0 < (Int32.ofNat n14) → ∀ b17 : Option Nat, b17 = (σ0.2.2.2.1 a0 1) → ((b17 = (some σ0.2.2.2.2.2.2.1) → x_BMath_max (10 : Int32) x1 σ0 (fun r20 σ19 => (¬ (r20 : Int32) < 0 ∧ (r20 : Int32).toNatClampNeg ≤ 60000000 ∧ 1 ≤ σ19.2.2.2.2.1 ∧ (r20 : Int32).toNatClampNeg ≤ σ19.2.2.2.2.2.1 ∧ ∀ q21 : Nat, σ19.1 q21 = none → q21 ≠ σ19.2.2.2.2.2.2.1 → ∀ σ27 : CST, σ27 = nw σ19 q21 27 (r20 : Int32).toNatClampNeg (r20 : Int32).toNatClampNeg → σ27.1 a0 = some (6, 0) ∧ (∀ σ29 : CST, σ29 = sR σ27 a0 1 (some q21) → P (some q21) σ29)))) ∧ (¬ b17 = (some σ0.2.2.2.2.2.2.1) → x_AL_grow_20 a0 P x1 (Int32.ofNat n14) σ0)))))))))
set_option maxHeartbeats 4000000 in
set_option maxRecDepth 100000 in
theorem X_AL_grow (l : Launch) (dC : Nat → ClassId) (dI : Nat → Nat → Nat) (ca : Nat → ClassId) (H0 : Heap) (σ0 : CST) (a0 : Nat) (x1 : Int32) {P : Option Nat → CST → Prop} (hw : x_AL_grow a0 x1 σ0 P) : Met l g_AL_grow (mW g_AL_grow prog_36_method_6_code 4 (some (.array (.object "java/lang/Object")))) ({ frames := 3, cells := σ0.2.2.2.2.1, slots := σ0.2.2.2.2.2.1, locals := 144 } : Room) (va_Pc [.ref a0, .int x1] (CPre (dC, dI) ca σ0 H0)) (va_Qq P (CB (dC, dI) ca σ0 H0) (cA σ0 H0.size)) σ0.2.2.2.2.1 σ0.2.2.2.2.2.1 (cA σ0 H0.size) := by
  refine C_ofq (Or.inr ⟨_, rfl⟩) (by decide +kernel) rfl rfl rfl (Nat.le_of_ble_eq_true rfl) ?_
  intro p e s m below meth cx Q A ls C hnm hend hH0 h hl
  subst hH0
  have C0 := C
  obtain ⟨⟨hx, hb, hml, hown, hts⟩, hsub⟩ := C0
  obtain ⟨cells, e_cells⟩ : ∃ z : Nat, z = 0 := ⟨_, rfl⟩
  obtain ⟨slots, e_slots⟩ : ∃ z : Nat, z = 0 := ⟨_, rfl⟩
  have h : CH (dC, dI) A ca ({ frames := 3, cells := σ0.2.2.2.2.1, slots := σ0.2.2.2.2.2.1, locals := 144 } : Room) σ0.2.2.2.2.2.2 σ0 s s.heap [] cells slots := by rw [e_cells, e_slots]; exact h
  show W p l e ({ frames := 3, cells := σ0.2.2.2.2.1, slots := σ0.2.2.2.2.2.1, locals := 144 } : Room) s m ([.ref a0, .int x1] : List Value).toArray below meth cx s.heap [] 0 0 Q (F0 m 0 ls [])
  rw [show W p l e ({ frames := 3, cells := σ0.2.2.2.2.1, slots := σ0.2.2.2.2.2.1, locals := 144 } : Room) s m ([.ref a0, .int x1] : List Value).toArray below meth cx s.heap [] 0 0 Q (F0 m 0 ls []) = W p l e ({ frames := 3, cells := σ0.2.2.2.2.1, slots := σ0.2.2.2.2.2.1, locals := 144 } : Room) s m ([.ref a0, .int x1] : List Value).toArray below meth cx s.heap [] cells slots Q (F0 m 0 ls []) by rw [e_cells, e_slots]]
  have K_20 : ∀ (u9 : Unit), ∀ (z1 : Int32) (z2 : Int32) (σ : CST) (H : Heap) (locs : List Loc) (cells slots : Nat) (ls : Array Slot), x_AL_grow_20 a0 P z1 z2 σ → CH (dC, dI) A ca ({ frames := 3, cells := σ0.2.2.2.2.1, slots := σ0.2.2.2.2.2.1, locals := 144 } : Room) σ0.2.2.2.2.2.2 σ s H locs cells slots → lv_has ls 4 [(0, .ref a0), (1, .int z1), (2, .int z2)] → W p l e ({ frames := 3, cells := σ0.2.2.2.2.1, slots := σ0.2.2.2.2.2.1, locals := 144 } : Room) s m ([.ref a0, .int x1] : List Value).toArray below meth cx H locs cells slots Q (F0 m 20 ls []) := by
    intro u9 z1 z2 σ H locs cells slots ls hw h hl
    unfold x_AL_grow_20 at hw
    refine lv_iload_n hx hb h_AL_grow_20 rfl (lv_at hl 2 rfl) ?_
    refine lv_iload_n hx hb h_AL_grow_21 rfl (lv_at hl 1 rfl) ?_
    refine lv_iload_n hx hb h_AL_grow_22 rfl (lv_at hl 2 rfl) ?_
    refine lv_isub hx hb h_AL_grow_23 ?_
    refine lv_iload_n hx hb h_AL_grow_24 rfl (lv_at hl 2 rfl) ?_
    refine lv_iconst (v := 1) hx hb h_AL_grow_25 (by decide) ?_
    refine lv_ishr hx hb h_AL_grow_26 ?_
    refine lv_topi (fun b1 e_b1 => ?_)
    replace hw := hw b1 e_b1
    refine C_callSi (As := [.int z2, .int (z1 - z2), .int b1]) (rest := []) C h (X_JArraysSupport_newLength l dC dI ca H σ z2 (z1 - z2) b1 hw) (va_cwS 3 hts (gS hsub u_139 u_140 u_141 u_142) rfl rfl rfl (by decide +kernel) ⟨(Nat.le_of_ble_eq_true rfl), (Nat.le_of_ble_eq_true rfl)⟩) rfl hl.1 (Nat.le_of_ble_eq_true rfl) h_AL_grow_27 (fun r3 σ2 H locs cells slots hw9 h9 => ?_)
    clear hw h; have hw := hw9; have h := h9; clear hw9 h9
    refine W.eq (g2 := F0 m 30 ls [.int r3]) rfl ?_
    refine lv_istore_n (i := 3) (lv' := [(3, .int r3), (0, .ref a0), (1, .int z1), (2, .int z2)]) hx hb h_AL_grow_30 rfl hl (by decide) rfl (fun ls hl => ?_)
    refine lv_aload_n hx hb h_AL_grow_31 rfl (lv_at hl 1 rfl) ?_
    refine lv_aload_n hx hb h_AL_grow_32 rfl (lv_at hl 1 rfl) ?_
    obtain ⟨g4, hw⟩ := hw
    refine C_get C h 6 1 (v := va_rf (σ2.2.2.2.1 a0 1)) g4 rfl (Cn := R_A) (T := T_A) (N := 3) rfl (by decide) rfl uw_A (by decide) u_109 (fun _ q => q) h_AL_grow_33 ?_
    refine lv_topq (fun b5 e_b5 => ?_)
    replace hw := hw b5 e_b5
    refine lv_iload_n hx hb h_AL_grow_36 rfl (lv_at hl 0 rfl) ?_
    obtain ⟨r6, e_r6, hw⟩ := hw
    subst e_r6
    have hl : lv_has ls 4 [(3, .int r3), (0, .ref a0), (1, .int z1), (2, .int z2)] := hl
    refine W.eq (g2 := F0 m 37 ls [.int r3, .ref r6, .ref a0]) rfl ?_
    refine C_callSq (As := [.ref r6, .int r3]) (rest := [.ref a0]) C h (X_Ar_copyOf3 l dC dI ca H σ2 r6 r3 hw) (va_cwS 2 hts (gS hsub u_143 u_144 u_46 u_145) rfl rfl rfl (by decide +kernel) ⟨(Nat.le_of_ble_eq_true rfl), (Nat.le_of_ble_eq_true rfl)⟩) rfl hl.1 (Nat.le_of_ble_eq_true rfl) h_AL_grow_37 (fun r8 σ7 H locs cells slots hw9 h9 => ?_)
    clear hw h; have hw := hw9; have h := h9; clear hw9 h9
    refine W.eq (g2 := F0 m 40 ls [va_rf r8, .ref a0]) rfl ?_
    refine lv_dup_x1 hx hb h_AL_grow_40 (cq_cat _) rfl ?_
    obtain ⟨g9, hw⟩ := hw
    refine C_putr C h 6 1 (v := r8) (ty := (.array (.object "java/lang/Object"))) g9 (Cn := R_A) (T := T_A) (N := 3) rfl (by decide) rfl uw_A tok_A nm_A (by decide) rfl u_109 (fun _ q => q) (Or.inl rfl) (by decide +kernel) ck_a h_AL_grow_41 (fun H locs h => ?_)
    obtain ⟨σ10, e_σ10⟩ : ∃ z : CST, z = sR σ7 a0 1 r8 := ⟨_, rfl⟩
    rw [← e_σ10] at h
    replace hw := hw σ10 e_σ10
    exact hend r8 σ10 _ _ _ _ _ _ hw h h_AL_grow_44
  have hl : lv_has ls 4 [(0, .ref a0), (1, .int x1)] := hl
  unfold x_AL_grow at hw
  refine lv_aload_n hx hb h_AL_grow_0 rfl (lv_at hl 0 rfl) ?_
  obtain ⟨g11, hw⟩ := hw
  refine C_get C h 6 1 (v := va_rf (σ0.2.2.2.1 a0 1)) g11 rfl (Cn := R_A) (T := T_A) (N := 3) rfl (by decide) rfl uw_A (by decide) u_109 (fun _ q => q) h_AL_grow_1 ?_
  refine lv_topq (fun b12 e_b12 => ?_)
  replace hw := hw b12 e_b12
  obtain ⟨r13, e_r13, hw⟩ := hw
  subst e_r13
  have hl : lv_has ls 4 [(0, .ref a0), (1, .int x1)] := hl
  refine W.eq (g2 := F0 m 4 ls [.ref r13]) rfl ?_
  obtain ⟨n14, g15, hw⟩ := hw
  refine C_alenO C h g15 h_AL_grow_4 ?_
  refine lv_istore_n (i := 2) (lv' := [(2, .int (Int32.ofNat n14)), (0, .ref a0), (1, .int x1)]) hx hb h_AL_grow_5 rfl hl (by decide) rfl (fun ls hl => ?_)
  refine lv_iload_n hx hb h_AL_grow_6 rfl (lv_at hl 0 rfl) ?_
  refine lv_if_gt (tgt := 20) hx hb h_AL_grow_7 (by decide) (fun c16 => ?_) (fun c16 => ?_)
  · skip
    replace hw := hw.1 c16
    exact K_20 () x1 (Int32.ofNat n14) σ0 _ _ _ _ _ hw h (lv_sub hl [1, 2, 0] rfl)
  · skip
    replace hw := hw.2 c16
    refine lv_aload_n hx hb h_AL_grow_10 rfl (lv_at hl 1 rfl) ?_
    refine C_get C h 6 1 (v := va_rf (σ0.2.2.2.1 a0 1)) g11 rfl (Cn := R_A) (T := T_A) (N := 3) rfl (by decide) rfl uw_A (by decide) u_109 (fun _ q => q) h_AL_grow_11 ?_
    refine lv_topq (fun b17 e_b17 => ?_)
    replace hw := hw b17 e_b17
    refine C_getza C h u_146 h_AL_grow_14 ?_
    refine lv_acmp_eq (rx := b17) (ry := (some σ0.2.2.2.2.2.2.1)) (tgt := 45) hx hb h_AL_grow_17 (by decide) (fun c18 => ?_) (fun c18 => ?_)
    · skip
      replace hw := hw.1 c18
      refine lv_aload_n hx hb h_AL_grow_45 rfl (lv_at hl 1 rfl) ?_
      refine lv_bipush (v := 10) hx hb h_AL_grow_46 (by decide) ?_
      refine lv_iload_n hx hb h_AL_grow_48 rfl (lv_at hl 2 rfl) ?_
      refine C_callSi (As := [.int 10, .int x1]) (rest := [.ref a0]) C h (X_BMath_max l dC dI ca s.heap σ0 (10 : Int32) x1 hw) (va_cwS 2 hts (gS hsub u_147 u_127 u_28 u_128) rfl rfl rfl (by decide +kernel) ⟨(Nat.le_of_ble_eq_true rfl), (Nat.le_of_ble_eq_true rfl)⟩) rfl hl.1 (Nat.le_of_ble_eq_true rfl) h_AL_grow_49 (fun r20 σ19 H locs cells slots hw9 h9 => ?_)
      clear hw h; have hw := hw9; have h := h9; clear hw9 h9
      refine W.eq (g2 := F0 m 52 ls [.int r20, .ref a0]) rfl ?_
      obtain ⟨g25, g26, g22, g23, hw⟩ := hw
      refine C_anew C h 27 6 rfl (by decide) u_148 h.2.2.2.2.1.2.2.2.2.2.1 g25 rfl g26 g22 g23 h_AL_grow_52 (fun q21 H g24 hz9 h => ?_)
      replace hw := hw q21 g24 hz9
      obtain ⟨σ27, e_σ27⟩ : ∃ z : CST, z = nw σ19 q21 27 (r20 : Int32).toNatClampNeg (r20 : Int32).toNatClampNeg := ⟨_, rfl⟩
      rw [← e_σ27] at h
      replace hw := hw σ27 e_σ27
      generalize cells + 1 = cells at h ⊢
      generalize slots + (r20 : Int32).toNatClampNeg = slots at h ⊢
      refine lv_dup_x1 hx hb h_AL_grow_55 rfl rfl ?_
      obtain ⟨g28, hw⟩ := hw
      refine C_putr C h 6 1 (v := (some q21)) (ty := (.array (.object "java/lang/Object"))) g28 (Cn := R_A) (T := T_A) (N := 3) rfl (by decide) rfl uw_A tok_A nm_A (by decide) rfl u_109 (fun _ q => q) (Or.inl rfl) (by decide +kernel) ck_a h_AL_grow_56 (fun H locs h => ?_)
      obtain ⟨σ29, e_σ29⟩ : ∃ z : CST, z = sR σ27 a0 1 (some q21) := ⟨_, rfl⟩
      rw [← e_σ29] at h
      replace hw := hw σ29 e_σ29
      exact hend (some q21) σ29 _ _ _ _ _ _ hw h h_AL_grow_59
    · skip
      replace hw := hw.2 c18
      exact K_20 () x1 (Int32.ofNat n14) σ0 _ _ _ _ _ hw h (lv_sub hl [1, 2, 0] rfl)
