abbrev g_K_moveOnStack : MethodName := ⟨"MapFramer$Machine", "moveOnStack", "(I)V"⟩
theorem h_K_moveOnStack_0 : decode prog_6_method_15_code 0 = .ok (.aload_n 0, 1) := by decide +kernel
theorem h_K_moveOnStack_1 : decode prog_6_method_15_code 1 = .ok (.getfield 76, 3) := by decide +kernel
theorem h_K_moveOnStack_4 : decode prog_6_method_15_code 4 = .ok (.invokevirtual 245, 3) := by decide +kernel
theorem h_K_moveOnStack_7 : decode prog_6_method_15_code 7 = .ok (.lstore_n 2, 1) := by decide +kernel
theorem h_K_moveOnStack_8 : decode prog_6_method_15_code 8 = .ok (.iload_n 1, 1) := by decide +kernel
theorem h_K_moveOnStack_9 : decode prog_6_method_15_code 9 = .ok (.tableswitch 189 88 95 #[47, 58, 77, 189, 114, 189, 189, 160], 47) := by decide +kernel
theorem h_K_moveOnStack_56 : decode prog_6_method_15_code 56 = .ok (.aload_n 0, 1) := by decide +kernel
theorem h_K_moveOnStack_57 : decode prog_6_method_15_code 57 = .ok (.getfield 76, 3) := by decide +kernel
theorem h_K_moveOnStack_60 : decode prog_6_method_15_code 60 = .ok (.invokevirtual 245, 3) := by decide +kernel
theorem h_K_moveOnStack_63 : decode prog_6_method_15_code 63 = .ok (.pop2, 1) := by decide +kernel
theorem h_K_moveOnStack_64 : decode prog_6_method_15_code 64 = .ok (.goto 134, 3) := by decide +kernel
theorem h_K_moveOnStack_67 : decode prog_6_method_15_code 67 = .ok (.aload_n 0, 1) := by decide +kernel
theorem h_K_moveOnStack_68 : decode prog_6_method_15_code 68 = .ok (.getfield 76, 3) := by decide +kernel
theorem h_K_moveOnStack_71 : decode prog_6_method_15_code 71 = .ok (.lload_n 2, 1) := by decide +kernel
theorem h_K_moveOnStack_72 : decode prog_6_method_15_code 72 = .ok (.invokevirtual 147, 3) := by decide +kernel
theorem h_K_moveOnStack_75 : decode prog_6_method_15_code 75 = .ok (.aload_n 0, 1) := by decide +kernel
theorem h_K_moveOnStack_76 : decode prog_6_method_15_code 76 = .ok (.getfield 76, 3) := by decide +kernel
theorem h_K_moveOnStack_79 : decode prog_6_method_15_code 79 = .ok (.lload_n 2, 1) := by decide +kernel
theorem h_K_moveOnStack_80 : decode prog_6_method_15_code 80 = .ok (.invokevirtual 147, 3) := by decide +kernel
theorem h_K_moveOnStack_83 : decode prog_6_method_15_code 83 = .ok (.goto 115, 3) := by decide +kernel
theorem h_K_moveOnStack_86 : decode prog_6_method_15_code 86 = .ok (.aload_n 0, 1) := by decide +kernel
theorem h_K_moveOnStack_87 : decode prog_6_method_15_code 87 = .ok (.getfield 76, 3) := by decide +kernel
theorem h_K_moveOnStack_90 : decode prog_6_method_15_code 90 = .ok (.invokevirtual 245, 3) := by decide +kernel
theorem h_K_moveOnStack_93 : decode prog_6_method_15_code 93 = .ok (.lstore 4, 2) := by decide +kernel
theorem h_K_moveOnStack_95 : decode prog_6_method_15_code 95 = .ok (.aload_n 0, 1) := by decide +kernel
theorem h_K_moveOnStack_96 : decode prog_6_method_15_code 96 = .ok (.getfield 76, 3) := by decide +kernel
theorem h_K_moveOnStack_99 : decode prog_6_method_15_code 99 = .ok (.lload_n 2, 1) := by decide +kernel
theorem h_K_moveOnStack_100 : decode prog_6_method_15_code 100 = .ok (.invokevirtual 147, 3) := by decide +kernel
theorem h_K_moveOnStack_103 : decode prog_6_method_15_code 103 = .ok (.aload_n 0, 1) := by decide +kernel
theorem h_K_moveOnStack_104 : decode prog_6_method_15_code 104 = .ok (.getfield 76, 3) := by decide +kernel
theorem h_K_moveOnStack_107 : decode prog_6_method_15_code 107 = .ok (.lload 4, 2) := by decide +kernel
theorem h_K_moveOnStack_109 : decode prog_6_method_15_code 109 = .ok (.invokevirtual 147, 3) := by decide +kernel
theorem h_K_moveOnStack_112 : decode prog_6_method_15_code 112 = .ok (.aload_n 0, 1) := by decide +kernel
theorem h_K_moveOnStack_113 : decode prog_6_method_15_code 113 = .ok (.getfield 76, 3) := by decide +kernel
theorem h_K_moveOnStack_116 : decode prog_6_method_15_code 116 = .ok (.lload_n 2, 1) := by decide +kernel
theorem h_K_moveOnStack_117 : decode prog_6_method_15_code 117 = .ok (.invokevirtual 147, 3) := by decide +kernel
theorem h_K_moveOnStack_120 : decode prog_6_method_15_code 120 = .ok (.goto 78, 3) := by decide +kernel
theorem h_K_moveOnStack_123 : decode prog_6_method_15_code 123 = .ok (.aload_n 0, 1) := by decide +kernel
theorem h_K_moveOnStack_124 : decode prog_6_method_15_code 124 = .ok (.getfield 76, 3) := by decide +kernel
theorem h_K_moveOnStack_127 : decode prog_6_method_15_code 127 = .ok (.invokevirtual 245, 3) := by decide +kernel
theorem h_K_moveOnStack_130 : decode prog_6_method_15_code 130 = .ok (.lstore 6, 2) := by decide +kernel
theorem h_K_moveOnStack_132 : decode prog_6_method_15_code 132 = .ok (.aload_n 0, 1) := by decide +kernel
theorem h_K_moveOnStack_133 : decode prog_6_method_15_code 133 = .ok (.getfield 76, 3) := by decide +kernel
theorem h_K_moveOnStack_136 : decode prog_6_method_15_code 136 = .ok (.lload 6, 2) := by decide +kernel
theorem h_K_moveOnStack_138 : decode prog_6_method_15_code 138 = .ok (.invokevirtual 147, 3) := by decide +kernel
theorem h_K_moveOnStack_141 : decode prog_6_method_15_code 141 = .ok (.aload_n 0, 1) := by decide +kernel
theorem h_K_moveOnStack_142 : decode prog_6_method_15_code 142 = .ok (.getfield 76, 3) := by decide +kernel
theorem h_K_moveOnStack_145 : decode prog_6_method_15_code 145 = .ok (.lload_n 2, 1) := by decide +kernel
theorem h_K_moveOnStack_146 : decode prog_6_method_15_code 146 = .ok (.invokevirtual 147, 3) := by decide +kernel
theorem h_K_moveOnStack_149 : decode prog_6_method_15_code 149 = .ok (.aload_n 0, 1) := by decide +kernel
theorem h_K_moveOnStack_150 : decode prog_6_method_15_code 150 = .ok (.getfield 76, 3) := by decide +kernel
theorem h_K_moveOnStack_153 : decode prog_6_method_15_code 153 = .ok (.lload 6, 2) := by decide +kernel
theorem h_K_moveOnStack_155 : decode prog_6_method_15_code 155 = .ok (.invokevirtual 147, 3) := by decide +kernel
theorem h_K_moveOnStack_158 : decode prog_6_method_15_code 158 = .ok (.aload_n 0, 1) := by decide +kernel
theorem h_K_moveOnStack_159 : decode prog_6_method_15_code 159 = .ok (.getfield 76, 3) := by decide +kernel
theorem h_K_moveOnStack_162 : decode prog_6_method_15_code 162 = .ok (.lload_n 2, 1) := by decide +kernel
theorem h_K_moveOnStack_163 : decode prog_6_method_15_code 163 = .ok (.invokevirtual 147, 3) := by decide +kernel
theorem h_K_moveOnStack_166 : decode prog_6_method_15_code 166 = .ok (.goto 32, 3) := by decide +kernel
theorem h_K_moveOnStack_169 : decode prog_6_method_15_code 169 = .ok (.aload_n 0, 1) := by decide +kernel
theorem h_K_moveOnStack_170 : decode prog_6_method_15_code 170 = .ok (.getfield 76, 3) := by decide +kernel
theorem h_K_moveOnStack_173 : decode prog_6_method_15_code 173 = .ok (.invokevirtual 245, 3) := by decide +kernel
theorem h_K_moveOnStack_176 : decode prog_6_method_15_code 176 = .ok (.lstore 8, 2) := by decide +kernel
theorem h_K_moveOnStack_178 : decode prog_6_method_15_code 178 = .ok (.aload_n 0, 1) := by decide +kernel
theorem h_K_moveOnStack_179 : decode prog_6_method_15_code 179 = .ok (.getfield 76, 3) := by decide +kernel
theorem h_K_moveOnStack_182 : decode prog_6_method_15_code 182 = .ok (.lload_n 2, 1) := by decide +kernel
theorem h_K_moveOnStack_183 : decode prog_6_method_15_code 183 = .ok (.invokevirtual 147, 3) := by decide +kernel
theorem h_K_moveOnStack_186 : decode prog_6_method_15_code 186 = .ok (.aload_n 0, 1) := by decide +kernel
theorem h_K_moveOnStack_187 : decode prog_6_method_15_code 187 = .ok (.getfield 76, 3) := by decide +kernel
theorem h_K_moveOnStack_190 : decode prog_6_method_15_code 190 = .ok (.lload 8, 2) := by decide +kernel
theorem h_K_moveOnStack_192 : decode prog_6_method_15_code 192 = .ok (.invokevirtual 147, 3) := by decide +kernel
theorem h_K_moveOnStack_195 : decode prog_6_method_15_code 195 = .ok (.goto 3, 3) := by decide +kernel
theorem h_K_moveOnStack_198 : decode prog_6_method_15_code 198 = .ok (.return_, 1) := by decide +kernel
def x_K_moveOnStack (a0 : Nat) (x1 : Int32) (σ0 : CST) (P : CST → Prop) : Prop := σ0.1 a0 = some (2, 0) ∧ (∀ b2 : Option Nat, b2 = (σ0.2.2.2.1 a0 5) → (∃ r3 : Nat, b2 = some r3 ∧ (σ0.1 r3 = some (0, 0) ∧ (x_C_pop r3 σ0 (fun r6 σ5 => ((x1 = 88 → σ5.1 a0 = some (2, 0) ∧ (∀ b9 : Option Nat, b9 = (σ5.2.2.2.1 a0 5) → (∃ r10 : Nat, b9 = some r10 ∧ (σ5.1 r10 = some (0, 0) ∧ (x_C_pop r10 σ5 (fun r13 σ12 => P σ12)))))) ∧ (¬ x1 = 88 → ((x1 = 89 → σ5.1 a0 = some (2, 0) ∧ (∀ b16 : Option Nat, b16 = (σ5.2.2.2.1 a0 5) → (∃ r17 : Nat, b16 = some r17 ∧ (σ5.1 r17 = some (0, 0) ∧ (x_C_push r17 r6 σ5 (fun σ19 => σ19.1 a0 = some (2, 0) ∧ (∀ b22 : Option Nat, b22 = (σ19.2.2.2.1 a0 5) → (∃ r23 : Nat, b22 = some r23 ∧ (σ19.1 r23 = some (0, 0) ∧ (x_C_push r23 r6 σ19 (fun σ25 => P σ25))))))))))) ∧ (¬ x1 = 89 → ((x1 = 90 → σ5.1 a0 = some (2, 0) ∧ (∀ b29 : Option Nat, b29 = (σ5.2.2.2.1 a0 5) → (∃ r30 : Nat, b29 = some r30 ∧ (σ5.1 r30 = some (0, 0) ∧ (x_C_pop r30 σ5 (fun r33 σ32 => σ32.1 a0 = some (2, 0) ∧ (∀ b35 : Option Nat, b35 = (σ32.2.2.2.1 a0 5) → (∃ r36 : Nat, b35 = some r36 ∧ (σ32.1 r36 = some (0, 0) ∧ (x_C_push r36 r6 σ32 (fun σ38 => σ38.1 a0 = some (2, 0) ∧ (∀ b41 : Option Nat, b41 = (σ38.2.2.2.1 a0 5) → (∃ r42 : Nat, b41 = some r42 ∧ (σ38.1 r42 = some (0, 0) ∧ (x_C_push r42 r33 σ38 (fun σ44 => σ44.1 a0 = some (2, 0) ∧ (∀ b47 : Option Nat, b47 = (σ44.2.2.2.1 a0 5) → (∃ r48 : Nat, b47 = some r48 ∧ (σ44.1 r48 = some (0, 0) ∧ (x_C_push r48 r6 σ44 (fun σ50 => P σ50))))))))))))))))))))) ∧ (¬ x1 = 90 → ((x1 = 91 → P σ5) ∧ (¬ x1 = 91 → ((x1 = 92 → σ5.1 a0 = some (2, 0) ∧ (∀ b55 : Option Nat, b55 = (σ5.2.2.2.1 a0 5) → (∃ r56 : Nat, b55 = some r56 ∧ (σ5.1 r56 = some (0, 0) ∧ (x_C_pop r56 σ5 (fun r59 σ58 => σ58.1 a0 = some (2, 0) ∧ (∀ b61 : Option Nat, b61 = (σ58.2.2.2.1 a0 5) → (∃ r62 : Nat, b61 = some r62 ∧ (σ58.1 r62 = some (0, 0) ∧ (x_C_push r62 r59 σ58 (fun σ64 => σ64.1 a0 = some (2, 0) ∧ (∀ b67 : Option Nat, b67 = (σ64.2.2.2.1 a0 5) → (∃ r68 : Nat, b67 = some r68 ∧ (σ64.1 r68 = some (0, 0) ∧ (x_C_push r68 r6 σ64 (fun σ70 => σ70.1 a0 = some (2, 0) ∧ (∀ b73 : Option Nat, b73 = (σ70.2.2.2.1 a0 5) → (∃ r74 : Nat, b73 = some r74 ∧ (σ70.1 r74 = some (0, 0) ∧ (x_C_push r74 r59 σ70 (fun σ76 => σ76.1 a0 = some (2, 0) ∧ (∀ b79 : Option Nat, b79 = (σ76.2.2.2.1 a0 5) → (∃ r80 : Nat, b79 = some r80 ∧ (σ76.1 r80 = some (0, 0) ∧ (x_C_push r80 r6 σ76 (fun σ82 => P σ82)))))))))))))))))))))))))) ∧ (¬ x1 = 92 → ((x1 = 93 → P σ5) ∧ (¬ x1 = 93 → ((x1 = 94 → P σ5) ∧ (¬ x1 = 94 → ((x1 = 95 → σ5.1 a0 = some (2, 0) ∧ (∀ b88 : Option Nat, b88 = (σ5.2.2.2.1 a0 5) → (∃ r89 : Nat, b88 = some r89 ∧ (σ5.1 r89 = some (0, 0) ∧ (x_C_pop r89 σ5 (fun r92 σ91 => σ91.1 a0 = some (2, 0) ∧ (∀ b94 : Option Nat, b94 = (σ91.2.2.2.1 a0 5) → (∃ r95 : Nat, b94 = some r95 ∧ (σ91.1 r95 = some (0, 0) ∧ (x_C_push r95 r6 σ91 (fun σ97 => σ97.1 a0 = some (2, 0) ∧ (∀ b100 : Option Nat, b100 = (σ97.2.2.2.1 a0 5) → (∃ r101 : Nat, b100 = some r101 ∧ (σ97.1 r101 = some (0, 0) ∧ (x_C_push r101 r92 σ97 (fun σ103 => P σ103)))))))))))))))) ∧ (¬ x1 = 95 → P σ5)))))))))))))))))))))
set_option maxHeartbeats 4000000 in
set_option maxRecDepth 100000 in
theorem X_K_moveOnStack (l : Launch) (dC : Nat → ClassId) (dI : Nat → Nat → Nat) (ca : Nat → ClassId) (H0 : Heap) (σ0 : CST) (a0 : Nat) (x1 : Int32) {P : CST → Prop} (hw : x_K_moveOnStack a0 x1 σ0 P) : Met l g_K_moveOnStack (mW g_K_moveOnStack prog_6_method_15_code 10 none) ({ frames := 1, cells := σ0.2.2.2.2.1, slots := σ0.2.2.2.2.2.1, locals := 22 } : Room) (va_Pc [.ref a0, .int x1] (CPre (dC, dI) ca σ0 H0)) (va_Qv P (CB (dC, dI) ca σ0 H0) (cA σ0 H0.size)) σ0.2.2.2.2.1 σ0.2.2.2.2.2.1 (cA σ0 H0.size) := by
  refine C_ofv (by decide +kernel) rfl rfl rfl (Nat.le_of_ble_eq_true rfl) ?_
  intro p e s m below meth cx Q A ls C hnm hend hH0 h hl
  subst hH0
  have C0 := C
  obtain ⟨⟨hx, hb, hml, hown, hts⟩, hsub⟩ := C0
  obtain ⟨cells, e_cells⟩ : ∃ z : Nat, z = 0 := ⟨_, rfl⟩
  obtain ⟨slots, e_slots⟩ : ∃ z : Nat, z = 0 := ⟨_, rfl⟩
  have h : CH (dC, dI) A ca ({ frames := 1, cells := σ0.2.2.2.2.1, slots := σ0.2.2.2.2.2.1, locals := 22 } : Room) σ0.2.2.2.2.2.2 σ0 s s.heap [] cells slots := by rw [e_cells, e_slots]; exact h
  show W p l e ({ frames := 1, cells := σ0.2.2.2.2.1, slots := σ0.2.2.2.2.2.1, locals := 22 } : Room) s m ([.ref a0, .int x1] : List Value).toArray below meth cx s.heap [] 0 0 Q (F0 m 0 ls [])
  rw [show W p l e ({ frames := 1, cells := σ0.2.2.2.2.1, slots := σ0.2.2.2.2.2.1, locals := 22 } : Room) s m ([.ref a0, .int x1] : List Value).toArray below meth cx s.heap [] 0 0 Q (F0 m 0 ls []) = W p l e ({ frames := 1, cells := σ0.2.2.2.2.1, slots := σ0.2.2.2.2.2.1, locals := 22 } : Room) s m ([.ref a0, .int x1] : List Value).toArray below meth cx s.heap [] cells slots Q (F0 m 0 ls []) by rw [e_cells, e_slots]]
  have hl : lv_has ls 10 [(0, .ref a0), (1, .int x1)] := hl
  unfold x_K_moveOnStack at hw
  refine lv_aload_n hx hb h_K_moveOnStack_0 rfl (lv_at hl 0 rfl) ?_
  obtain ⟨g1, hw⟩ := hw
  refine C_get C h 2 5 (v := va_rf (σ0.2.2.2.1 a0 5)) g1 rfl (Cn := R_K) (T := T_K) (N := 14) rfl (by decide) rfl uw_K (by decide) u_231 (fun _ q => q) h_K_moveOnStack_1 ?_
  refine lv_topq (fun b2 e_b2 => ?_)
  replace hw := hw b2 e_b2
  obtain ⟨r3, e_r3, hw⟩ := hw
  subst e_r3
  have hl : lv_has ls 10 [(0, .ref a0), (1, .int x1)] := hl
  refine W.eq (g2 := F0 m 4 ls [.ref r3]) rfl ?_
  obtain ⟨g4, hw⟩ := hw
  refine C_callVl (As := []) (rest := []) C h (ci := 0) (Cn := R_C) (T := T_C) (N := 5) g4 rfl (by decide) (X_C_pop l dC dI ca s.heap σ0 r3 hw) (cwV 0 hts (gV hsub u_270 u_15 u_16 u_12 u_17) rfl rfl rfl (by decide +kernel) ⟨(Nat.le_of_ble_eq_true rfl), (Nat.le_of_ble_eq_true rfl)⟩) rfl hl.1 (Nat.le_of_ble_eq_true rfl) h_K_moveOnStack_4 (fun r6 σ5 H locs cells slots hw9 h9 => ?_)
  clear hw h; have hw := hw9; have h := h9; clear hw9 h9
  refine W.eq (g2 := F0 m 7 ls [.long r6]) rfl ?_
  refine lv_lstore_n (i := 2) (lv' := [(2, .long r6), (0, .ref a0), (1, .int x1)]) hx hb h_K_moveOnStack_7 rfl hl (by decide) rfl (fun ls hl => ?_)
  refine lv_iload_n hx hb h_K_moveOnStack_8 rfl (lv_at hl 2 rfl) ?_
  by_cases c7 : x1 = 88
  · skip
    replace hw := hw.1 c7
    refine tp_i 88 c7 ?_
    refine lv_tableIn (off := 47) (tgt := 56) hx hb h_K_moveOnStack_9 (by decide) (by decide) (by decide) (by decide) ?_
    refine lv_aload_n hx hb h_K_moveOnStack_56 rfl (lv_at hl 1 rfl) ?_
    obtain ⟨g8, hw⟩ := hw
    refine C_get C h 2 5 (v := va_rf (σ5.2.2.2.1 a0 5)) g8 rfl (Cn := R_K) (T := T_K) (N := 14) rfl (by decide) rfl uw_K (by decide) u_231 (fun _ q => q) h_K_moveOnStack_57 ?_
    refine lv_topq (fun b9 e_b9 => ?_)
    replace hw := hw b9 e_b9
    obtain ⟨r10, e_r10, hw⟩ := hw
    subst e_r10
    have hl : lv_has ls 10 [(2, .long r6), (0, .ref a0), (1, .int x1)] := hl
    refine W.eq (g2 := F0 m 60 ls [.ref r10]) rfl ?_
    obtain ⟨g11, hw⟩ := hw
    refine C_callVl (As := []) (rest := []) C h (ci := 0) (Cn := R_C) (T := T_C) (N := 5) g11 rfl (by decide) (X_C_pop l dC dI ca H σ5 r10 hw) (cwV 0 hts (gV hsub u_270 u_15 u_16 u_12 u_17) rfl rfl rfl (by decide +kernel) ⟨(Nat.le_of_ble_eq_true rfl), (Nat.le_of_ble_eq_true rfl)⟩) rfl hl.1 (Nat.le_of_ble_eq_true rfl) h_K_moveOnStack_60 (fun r13 σ12 H locs cells slots hw9 h9 => ?_)
    clear hw h; have hw := hw9; have h := h9; clear hw9 h9
    refine W.eq (g2 := F0 m 63 ls [.long r13]) rfl ?_
    refine lv_pop2_2 hx hb h_K_moveOnStack_63 rfl ?_
    refine lv_goto (tgt := 198) hx hb h_K_moveOnStack_64 (by decide) ?_
    exact hend σ12 _ _ _ _ _ _ hw h h_K_moveOnStack_198
  · skip
    replace hw := hw.2 c7
    by_cases c14 : x1 = 89
    · skip
      replace hw := hw.1 c14
      refine tp_i 89 c14 ?_
      refine lv_tableIn (off := 58) (tgt := 67) hx hb h_K_moveOnStack_9 (by decide) (by decide) (by decide) (by decide) ?_
      refine lv_aload_n hx hb h_K_moveOnStack_67 rfl (lv_at hl 1 rfl) ?_
      obtain ⟨g15, hw⟩ := hw
      refine C_get C h 2 5 (v := va_rf (σ5.2.2.2.1 a0 5)) g15 rfl (Cn := R_K) (T := T_K) (N := 14) rfl (by decide) rfl uw_K (by decide) u_231 (fun _ q => q) h_K_moveOnStack_68 ?_
      refine lv_topq (fun b16 e_b16 => ?_)
      replace hw := hw b16 e_b16
      refine lv_lload_n hx hb h_K_moveOnStack_71 rfl (lv_at hl 0 rfl) ?_
      obtain ⟨r17, e_r17, hw⟩ := hw
      subst e_r17
      have hl : lv_has ls 10 [(2, .long r6), (0, .ref a0), (1, .int x1)] := hl
      refine W.eq (g2 := F0 m 72 ls [.long r6, .ref r17]) rfl ?_
      obtain ⟨g18, hw⟩ := hw
      refine C_callVv (As := [.long r6]) (rest := []) C h (ci := 0) (Cn := R_C) (T := T_C) (N := 5) g18 rfl (by decide) (X_C_push l dC dI ca H σ5 r17 r6 hw) (cwV 1 hts (gV hsub u_232 u_10 u_11 u_12 u_13) rfl rfl rfl (by decide +kernel) ⟨(Nat.le_of_ble_eq_true rfl), (Nat.le_of_ble_eq_true rfl)⟩) rfl hl.1 (Nat.le_of_ble_eq_true rfl) h_K_moveOnStack_72 (fun σ19 H locs cells slots hw9 h9 => ?_)
      clear hw h; have hw := hw9; have h := h9; clear hw9 h9
      refine W.eq (g2 := F0 m 75 ls []) rfl ?_
      refine lv_aload_n hx hb h_K_moveOnStack_75 rfl (lv_at hl 1 rfl) ?_
      obtain ⟨g21, hw⟩ := hw
      refine C_get C h 2 5 (v := va_rf (σ19.2.2.2.1 a0 5)) g21 rfl (Cn := R_K) (T := T_K) (N := 14) rfl (by decide) rfl uw_K (by decide) u_231 (fun _ q => q) h_K_moveOnStack_76 ?_
      refine lv_topq (fun b22 e_b22 => ?_)
      replace hw := hw b22 e_b22
      refine lv_lload_n hx hb h_K_moveOnStack_79 rfl (lv_at hl 0 rfl) ?_
      obtain ⟨r23, e_r23, hw⟩ := hw
      subst e_r23
      have hl : lv_has ls 10 [(2, .long r6), (0, .ref a0), (1, .int x1)] := hl
      refine W.eq (g2 := F0 m 80 ls [.long r6, .ref r23]) rfl ?_
      obtain ⟨g24, hw⟩ := hw
      refine C_callVv (As := [.long r6]) (rest := []) C h (ci := 0) (Cn := R_C) (T := T_C) (N := 5) g24 rfl (by decide) (X_C_push l dC dI ca H σ19 r23 r6 hw) (cwV 1 hts (gV hsub u_232 u_10 u_11 u_12 u_13) rfl rfl rfl (by decide +kernel) ⟨(Nat.le_of_ble_eq_true rfl), (Nat.le_of_ble_eq_true rfl)⟩) rfl hl.1 (Nat.le_of_ble_eq_true rfl) h_K_moveOnStack_80 (fun σ25 H locs cells slots hw9 h9 => ?_)
      clear hw h; have hw := hw9; have h := h9; clear hw9 h9
      refine W.eq (g2 := F0 m 83 ls []) rfl ?_
      refine lv_goto (tgt := 198) hx hb h_K_moveOnStack_83 (by decide) ?_
      exact hend σ25 _ _ _ _ _ _ hw h h_K_moveOnStack_198
    · skip
      replace hw := hw.2 c14
      by_cases c27 : x1 = 90
      · skip
        replace hw := hw.1 c27
        refine tp_i 90 c27 ?_
        refine lv_tableIn (off := 77) (tgt := 86) hx hb h_K_moveOnStack_9 (by decide) (by decide) (by decide) (by decide) ?_
        refine lv_aload_n hx hb h_K_moveOnStack_86 rfl (lv_at hl 1 rfl) ?_
        obtain ⟨g28, hw⟩ := hw
        refine C_get C h 2 5 (v := va_rf (σ5.2.2.2.1 a0 5)) g28 rfl (Cn := R_K) (T := T_K) (N := 14) rfl (by decide) rfl uw_K (by decide) u_231 (fun _ q => q) h_K_moveOnStack_87 ?_
        refine lv_topq (fun b29 e_b29 => ?_)
        replace hw := hw b29 e_b29
        obtain ⟨r30, e_r30, hw⟩ := hw
        subst e_r30
        have hl : lv_has ls 10 [(2, .long r6), (0, .ref a0), (1, .int x1)] := hl
        refine W.eq (g2 := F0 m 90 ls [.ref r30]) rfl ?_
        obtain ⟨g31, hw⟩ := hw
        refine C_callVl (As := []) (rest := []) C h (ci := 0) (Cn := R_C) (T := T_C) (N := 5) g31 rfl (by decide) (X_C_pop l dC dI ca H σ5 r30 hw) (cwV 0 hts (gV hsub u_270 u_15 u_16 u_12 u_17) rfl rfl rfl (by decide +kernel) ⟨(Nat.le_of_ble_eq_true rfl), (Nat.le_of_ble_eq_true rfl)⟩) rfl hl.1 (Nat.le_of_ble_eq_true rfl) h_K_moveOnStack_90 (fun r33 σ32 H locs cells slots hw9 h9 => ?_)
        clear hw h; have hw := hw9; have h := h9; clear hw9 h9
        refine W.eq (g2 := F0 m 93 ls [.long r33]) rfl ?_
        refine lv_lstore (lv' := [(4, .long r33), (2, .long r6), (0, .ref a0), (1, .int x1)]) hx hb h_K_moveOnStack_93 hl (by decide) rfl (fun ls hl => ?_)
        refine lv_aload_n hx hb h_K_moveOnStack_95 rfl (lv_at hl 2 rfl) ?_
        obtain ⟨g34, hw⟩ := hw
        refine C_get C h 2 5 (v := va_rf (σ32.2.2.2.1 a0 5)) g34 rfl (Cn := R_K) (T := T_K) (N := 14) rfl (by decide) rfl uw_K (by decide) u_231 (fun _ q => q) h_K_moveOnStack_96 ?_
        refine lv_topq (fun b35 e_b35 => ?_)
        replace hw := hw b35 e_b35
        refine lv_lload_n hx hb h_K_moveOnStack_99 rfl (lv_at hl 1 rfl) ?_
        obtain ⟨r36, e_r36, hw⟩ := hw
        subst e_r36
        have hl : lv_has ls 10 [(4, .long r33), (2, .long r6), (0, .ref a0), (1, .int x1)] := hl
        refine W.eq (g2 := F0 m 100 ls [.long r6, .ref r36]) rfl ?_
        obtain ⟨g37, hw⟩ := hw
        refine C_callVv (As := [.long r6]) (rest := []) C h (ci := 0) (Cn := R_C) (T := T_C) (N := 5) g37 rfl (by decide) (X_C_push l dC dI ca H σ32 r36 r6 hw) (cwV 1 hts (gV hsub u_232 u_10 u_11 u_12 u_13) rfl rfl rfl (by decide +kernel) ⟨(Nat.le_of_ble_eq_true rfl), (Nat.le_of_ble_eq_true rfl)⟩) rfl hl.1 (Nat.le_of_ble_eq_true rfl) h_K_moveOnStack_100 (fun σ38 H locs cells slots hw9 h9 => ?_)
        clear hw h; have hw := hw9; have h := h9; clear hw9 h9
        refine W.eq (g2 := F0 m 103 ls []) rfl ?_
        refine lv_aload_n hx hb h_K_moveOnStack_103 rfl (lv_at hl 2 rfl) ?_
        obtain ⟨g40, hw⟩ := hw
        refine C_get C h 2 5 (v := va_rf (σ38.2.2.2.1 a0 5)) g40 rfl (Cn := R_K) (T := T_K) (N := 14) rfl (by decide) rfl uw_K (by decide) u_231 (fun _ q => q) h_K_moveOnStack_104 ?_
        refine lv_topq (fun b41 e_b41 => ?_)
        replace hw := hw b41 e_b41
        refine lv_lload hx hb h_K_moveOnStack_107 (lv_at hl 0 rfl) ?_
        obtain ⟨r42, e_r42, hw⟩ := hw
        subst e_r42
        have hl : lv_has ls 10 [(4, .long r33), (2, .long r6), (0, .ref a0), (1, .int x1)] := hl
        refine W.eq (g2 := F0 m 109 ls [.long r33, .ref r42]) rfl ?_
        obtain ⟨g43, hw⟩ := hw
        refine C_callVv (As := [.long r33]) (rest := []) C h (ci := 0) (Cn := R_C) (T := T_C) (N := 5) g43 rfl (by decide) (X_C_push l dC dI ca H σ38 r42 r33 hw) (cwV 1 hts (gV hsub u_232 u_10 u_11 u_12 u_13) rfl rfl rfl (by decide +kernel) ⟨(Nat.le_of_ble_eq_true rfl), (Nat.le_of_ble_eq_true rfl)⟩) rfl hl.1 (Nat.le_of_ble_eq_true rfl) h_K_moveOnStack_109 (fun σ44 H locs cells slots hw9 h9 => ?_)
        clear hw h; have hw := hw9; have h := h9; clear hw9 h9
        refine W.eq (g2 := F0 m 112 ls []) rfl ?_
        refine lv_aload_n hx hb h_K_moveOnStack_112 rfl (lv_at hl 2 rfl) ?_
        obtain ⟨g46, hw⟩ := hw
        refine C_get C h 2 5 (v := va_rf (σ44.2.2.2.1 a0 5)) g46 rfl (Cn := R_K) (T := T_K) (N := 14) rfl (by decide) rfl uw_K (by decide) u_231 (fun _ q => q) h_K_moveOnStack_113 ?_
        refine lv_topq (fun b47 e_b47 => ?_)
        replace hw := hw b47 e_b47
        refine lv_lload_n hx hb h_K_moveOnStack_116 rfl (lv_at hl 1 rfl) ?_
        obtain ⟨r48, e_r48, hw⟩ := hw
        subst e_r48
        have hl : lv_has ls 10 [(4, .long r33), (2, .long r6), (0, .ref a0), (1, .int x1)] := hl
        refine W.eq (g2 := F0 m 117 ls [.long r6, .ref r48]) rfl ?_
        obtain ⟨g49, hw⟩ := hw
        refine C_callVv (As := [.long r6]) (rest := []) C h (ci := 0) (Cn := R_C) (T := T_C) (N := 5) g49 rfl (by decide) (X_C_push l dC dI ca H σ44 r48 r6 hw) (cwV 1 hts (gV hsub u_232 u_10 u_11 u_12 u_13) rfl rfl rfl (by decide +kernel) ⟨(Nat.le_of_ble_eq_true rfl), (Nat.le_of_ble_eq_true rfl)⟩) rfl hl.1 (Nat.le_of_ble_eq_true rfl) h_K_moveOnStack_117 (fun σ50 H locs cells slots hw9 h9 => ?_)
        clear hw h; have hw := hw9; have h := h9; clear hw9 h9
        refine W.eq (g2 := F0 m 120 ls []) rfl ?_
        refine lv_goto (tgt := 198) hx hb h_K_moveOnStack_120 (by decide) ?_
        exact hend σ50 _ _ _ _ _ _ hw h h_K_moveOnStack_198
      · skip
        replace hw := hw.2 c27
        by_cases c52 : x1 = 91
        · skip
          replace hw := hw.1 c52
          refine tp_i 91 c52 ?_
          refine lv_tableIn (off := 189) (tgt := 198) hx hb h_K_moveOnStack_9 (by decide) (by decide) (by decide) (by decide) ?_
          exact hend σ5 _ _ _ _ _ _ hw h h_K_moveOnStack_198
        · skip
          replace hw := hw.2 c52
          by_cases c53 : x1 = 92
          · skip
            replace hw := hw.1 c53
            refine tp_i 92 c53 ?_
            refine lv_tableIn (off := 114) (tgt := 123) hx hb h_K_moveOnStack_9 (by decide) (by decide) (by decide) (by decide) ?_
            refine lv_aload_n hx hb h_K_moveOnStack_123 rfl (lv_at hl 1 rfl) ?_
            obtain ⟨g54, hw⟩ := hw
            refine C_get C h 2 5 (v := va_rf (σ5.2.2.2.1 a0 5)) g54 rfl (Cn := R_K) (T := T_K) (N := 14) rfl (by decide) rfl uw_K (by decide) u_231 (fun _ q => q) h_K_moveOnStack_124 ?_
            refine lv_topq (fun b55 e_b55 => ?_)
            replace hw := hw b55 e_b55
            obtain ⟨r56, e_r56, hw⟩ := hw
            subst e_r56
            have hl : lv_has ls 10 [(2, .long r6), (0, .ref a0), (1, .int x1)] := hl
            refine W.eq (g2 := F0 m 127 ls [.ref r56]) rfl ?_
            obtain ⟨g57, hw⟩ := hw
            refine C_callVl (As := []) (rest := []) C h (ci := 0) (Cn := R_C) (T := T_C) (N := 5) g57 rfl (by decide) (X_C_pop l dC dI ca H σ5 r56 hw) (cwV 0 hts (gV hsub u_270 u_15 u_16 u_12 u_17) rfl rfl rfl (by decide +kernel) ⟨(Nat.le_of_ble_eq_true rfl), (Nat.le_of_ble_eq_true rfl)⟩) rfl hl.1 (Nat.le_of_ble_eq_true rfl) h_K_moveOnStack_127 (fun r59 σ58 H locs cells slots hw9 h9 => ?_)
            clear hw h; have hw := hw9; have h := h9; clear hw9 h9
            refine W.eq (g2 := F0 m 130 ls [.long r59]) rfl ?_
            refine lv_lstore (lv' := [(6, .long r59), (2, .long r6), (0, .ref a0), (1, .int x1)]) hx hb h_K_moveOnStack_130 hl (by decide) rfl (fun ls hl => ?_)
            refine lv_aload_n hx hb h_K_moveOnStack_132 rfl (lv_at hl 2 rfl) ?_
            obtain ⟨g60, hw⟩ := hw
            refine C_get C h 2 5 (v := va_rf (σ58.2.2.2.1 a0 5)) g60 rfl (Cn := R_K) (T := T_K) (N := 14) rfl (by decide) rfl uw_K (by decide) u_231 (fun _ q => q) h_K_moveOnStack_133 ?_
            refine lv_topq (fun b61 e_b61 => ?_)
            replace hw := hw b61 e_b61
            refine lv_lload hx hb h_K_moveOnStack_136 (lv_at hl 0 rfl) ?_
            obtain ⟨r62, e_r62, hw⟩ := hw
            subst e_r62
            have hl : lv_has ls 10 [(6, .long r59), (2, .long r6), (0, .ref a0), (1, .int x1)] := hl
            refine W.eq (g2 := F0 m 138 ls [.long r59, .ref r62]) rfl ?_
            obtain ⟨g63, hw⟩ := hw
            refine C_callVv (As := [.long r59]) (rest := []) C h (ci := 0) (Cn := R_C) (T := T_C) (N := 5) g63 rfl (by decide) (X_C_push l dC dI ca H σ58 r62 r59 hw) (cwV 1 hts (gV hsub u_232 u_10 u_11 u_12 u_13) rfl rfl rfl (by decide +kernel) ⟨(Nat.le_of_ble_eq_true rfl), (Nat.le_of_ble_eq_true rfl)⟩) rfl hl.1 (Nat.le_of_ble_eq_true rfl) h_K_moveOnStack_138 (fun σ64 H locs cells slots hw9 h9 => ?_)
            clear hw h; have hw := hw9; have h := h9; clear hw9 h9
            refine W.eq (g2 := F0 m 141 ls []) rfl ?_
            refine lv_aload_n hx hb h_K_moveOnStack_141 rfl (lv_at hl 2 rfl) ?_
            obtain ⟨g66, hw⟩ := hw
            refine C_get C h 2 5 (v := va_rf (σ64.2.2.2.1 a0 5)) g66 rfl (Cn := R_K) (T := T_K) (N := 14) rfl (by decide) rfl uw_K (by decide) u_231 (fun _ q => q) h_K_moveOnStack_142 ?_
            refine lv_topq (fun b67 e_b67 => ?_)
            replace hw := hw b67 e_b67
            refine lv_lload_n hx hb h_K_moveOnStack_145 rfl (lv_at hl 1 rfl) ?_
            obtain ⟨r68, e_r68, hw⟩ := hw
            subst e_r68
            have hl : lv_has ls 10 [(6, .long r59), (2, .long r6), (0, .ref a0), (1, .int x1)] := hl
            refine W.eq (g2 := F0 m 146 ls [.long r6, .ref r68]) rfl ?_
            obtain ⟨g69, hw⟩ := hw
            refine C_callVv (As := [.long r6]) (rest := []) C h (ci := 0) (Cn := R_C) (T := T_C) (N := 5) g69 rfl (by decide) (X_C_push l dC dI ca H σ64 r68 r6 hw) (cwV 1 hts (gV hsub u_232 u_10 u_11 u_12 u_13) rfl rfl rfl (by decide +kernel) ⟨(Nat.le_of_ble_eq_true rfl), (Nat.le_of_ble_eq_true rfl)⟩) rfl hl.1 (Nat.le_of_ble_eq_true rfl) h_K_moveOnStack_146 (fun σ70 H locs cells slots hw9 h9 => ?_)
            clear hw h; have hw := hw9; have h := h9; clear hw9 h9
            refine W.eq (g2 := F0 m 149 ls []) rfl ?_
            refine lv_aload_n hx hb h_K_moveOnStack_149 rfl (lv_at hl 2 rfl) ?_
            obtain ⟨g72, hw⟩ := hw
            refine C_get C h 2 5 (v := va_rf (σ70.2.2.2.1 a0 5)) g72 rfl (Cn := R_K) (T := T_K) (N := 14) rfl (by decide) rfl uw_K (by decide) u_231 (fun _ q => q) h_K_moveOnStack_150 ?_
            refine lv_topq (fun b73 e_b73 => ?_)
            replace hw := hw b73 e_b73
            refine lv_lload hx hb h_K_moveOnStack_153 (lv_at hl 0 rfl) ?_
            obtain ⟨r74, e_r74, hw⟩ := hw
            subst e_r74
            have hl : lv_has ls 10 [(6, .long r59), (2, .long r6), (0, .ref a0), (1, .int x1)] := hl
            refine W.eq (g2 := F0 m 155 ls [.long r59, .ref r74]) rfl ?_
            obtain ⟨g75, hw⟩ := hw
            refine C_callVv (As := [.long r59]) (rest := []) C h (ci := 0) (Cn := R_C) (T := T_C) (N := 5) g75 rfl (by decide) (X_C_push l dC dI ca H σ70 r74 r59 hw) (cwV 1 hts (gV hsub u_232 u_10 u_11 u_12 u_13) rfl rfl rfl (by decide +kernel) ⟨(Nat.le_of_ble_eq_true rfl), (Nat.le_of_ble_eq_true rfl)⟩) rfl hl.1 (Nat.le_of_ble_eq_true rfl) h_K_moveOnStack_155 (fun σ76 H locs cells slots hw9 h9 => ?_)
            clear hw h; have hw := hw9; have h := h9; clear hw9 h9
            refine W.eq (g2 := F0 m 158 ls []) rfl ?_
            refine lv_aload_n hx hb h_K_moveOnStack_158 rfl (lv_at hl 2 rfl) ?_
            obtain ⟨g78, hw⟩ := hw
            refine C_get C h 2 5 (v := va_rf (σ76.2.2.2.1 a0 5)) g78 rfl (Cn := R_K) (T := T_K) (N := 14) rfl (by decide) rfl uw_K (by decide) u_231 (fun _ q => q) h_K_moveOnStack_159 ?_
            refine lv_topq (fun b79 e_b79 => ?_)
            replace hw := hw b79 e_b79
            refine lv_lload_n hx hb h_K_moveOnStack_162 rfl (lv_at hl 1 rfl) ?_
            obtain ⟨r80, e_r80, hw⟩ := hw
            subst e_r80
            have hl : lv_has ls 10 [(6, .long r59), (2, .long r6), (0, .ref a0), (1, .int x1)] := hl
            refine W.eq (g2 := F0 m 163 ls [.long r6, .ref r80]) rfl ?_
            obtain ⟨g81, hw⟩ := hw
            refine C_callVv (As := [.long r6]) (rest := []) C h (ci := 0) (Cn := R_C) (T := T_C) (N := 5) g81 rfl (by decide) (X_C_push l dC dI ca H σ76 r80 r6 hw) (cwV 1 hts (gV hsub u_232 u_10 u_11 u_12 u_13) rfl rfl rfl (by decide +kernel) ⟨(Nat.le_of_ble_eq_true rfl), (Nat.le_of_ble_eq_true rfl)⟩) rfl hl.1 (Nat.le_of_ble_eq_true rfl) h_K_moveOnStack_163 (fun σ82 H locs cells slots hw9 h9 => ?_)
            clear hw h; have hw := hw9; have h := h9; clear hw9 h9
            refine W.eq (g2 := F0 m 166 ls []) rfl ?_
            refine lv_goto (tgt := 198) hx hb h_K_moveOnStack_166 (by decide) ?_
            exact hend σ82 _ _ _ _ _ _ hw h h_K_moveOnStack_198
          · skip
            replace hw := hw.2 c53
            by_cases c84 : x1 = 93
            · skip
              replace hw := hw.1 c84
              refine tp_i 93 c84 ?_
              refine lv_tableIn (off := 189) (tgt := 198) hx hb h_K_moveOnStack_9 (by decide) (by decide) (by decide) (by decide) ?_
              exact hend σ5 _ _ _ _ _ _ hw h h_K_moveOnStack_198
            · skip
              replace hw := hw.2 c84
              by_cases c85 : x1 = 94
              · skip
                replace hw := hw.1 c85
                refine tp_i 94 c85 ?_
                refine lv_tableIn (off := 189) (tgt := 198) hx hb h_K_moveOnStack_9 (by decide) (by decide) (by decide) (by decide) ?_
                exact hend σ5 _ _ _ _ _ _ hw h h_K_moveOnStack_198
              · skip
                replace hw := hw.2 c85
                by_cases c86 : x1 = 95
                · skip
                  replace hw := hw.1 c86
                  refine tp_i 95 c86 ?_
                  refine lv_tableIn (off := 160) (tgt := 169) hx hb h_K_moveOnStack_9 (by decide) (by decide) (by decide) (by decide) ?_
                  refine lv_aload_n hx hb h_K_moveOnStack_169 rfl (lv_at hl 1 rfl) ?_
                  obtain ⟨g87, hw⟩ := hw
                  refine C_get C h 2 5 (v := va_rf (σ5.2.2.2.1 a0 5)) g87 rfl (Cn := R_K) (T := T_K) (N := 14) rfl (by decide) rfl uw_K (by decide) u_231 (fun _ q => q) h_K_moveOnStack_170 ?_
                  refine lv_topq (fun b88 e_b88 => ?_)
                  replace hw := hw b88 e_b88
                  obtain ⟨r89, e_r89, hw⟩ := hw
                  subst e_r89
                  have hl : lv_has ls 10 [(2, .long r6), (0, .ref a0), (1, .int x1)] := hl
                  refine W.eq (g2 := F0 m 173 ls [.ref r89]) rfl ?_
                  obtain ⟨g90, hw⟩ := hw
                  refine C_callVl (As := []) (rest := []) C h (ci := 0) (Cn := R_C) (T := T_C) (N := 5) g90 rfl (by decide) (X_C_pop l dC dI ca H σ5 r89 hw) (cwV 0 hts (gV hsub u_270 u_15 u_16 u_12 u_17) rfl rfl rfl (by decide +kernel) ⟨(Nat.le_of_ble_eq_true rfl), (Nat.le_of_ble_eq_true rfl)⟩) rfl hl.1 (Nat.le_of_ble_eq_true rfl) h_K_moveOnStack_173 (fun r92 σ91 H locs cells slots hw9 h9 => ?_)
                  clear hw h; have hw := hw9; have h := h9; clear hw9 h9
                  refine W.eq (g2 := F0 m 176 ls [.long r92]) rfl ?_
                  refine lv_lstore (lv' := [(8, .long r92), (2, .long r6), (0, .ref a0), (1, .int x1)]) hx hb h_K_moveOnStack_176 hl (by decide) rfl (fun ls hl => ?_)
                  refine lv_aload_n hx hb h_K_moveOnStack_178 rfl (lv_at hl 2 rfl) ?_
                  obtain ⟨g93, hw⟩ := hw
                  refine C_get C h 2 5 (v := va_rf (σ91.2.2.2.1 a0 5)) g93 rfl (Cn := R_K) (T := T_K) (N := 14) rfl (by decide) rfl uw_K (by decide) u_231 (fun _ q => q) h_K_moveOnStack_179 ?_
                  refine lv_topq (fun b94 e_b94 => ?_)
                  replace hw := hw b94 e_b94
                  refine lv_lload_n hx hb h_K_moveOnStack_182 rfl (lv_at hl 1 rfl) ?_
                  obtain ⟨r95, e_r95, hw⟩ := hw
                  subst e_r95
                  have hl : lv_has ls 10 [(8, .long r92), (2, .long r6), (0, .ref a0), (1, .int x1)] := hl
                  refine W.eq (g2 := F0 m 183 ls [.long r6, .ref r95]) rfl ?_
                  obtain ⟨g96, hw⟩ := hw
                  refine C_callVv (As := [.long r6]) (rest := []) C h (ci := 0) (Cn := R_C) (T := T_C) (N := 5) g96 rfl (by decide) (X_C_push l dC dI ca H σ91 r95 r6 hw) (cwV 1 hts (gV hsub u_232 u_10 u_11 u_12 u_13) rfl rfl rfl (by decide +kernel) ⟨(Nat.le_of_ble_eq_true rfl), (Nat.le_of_ble_eq_true rfl)⟩) rfl hl.1 (Nat.le_of_ble_eq_true rfl) h_K_moveOnStack_183 (fun σ97 H locs cells slots hw9 h9 => ?_)
                  clear hw h; have hw := hw9; have h := h9; clear hw9 h9
                  refine W.eq (g2 := F0 m 186 ls []) rfl ?_
                  refine lv_aload_n hx hb h_K_moveOnStack_186 rfl (lv_at hl 2 rfl) ?_
                  obtain ⟨g99, hw⟩ := hw
                  refine C_get C h 2 5 (v := va_rf (σ97.2.2.2.1 a0 5)) g99 rfl (Cn := R_K) (T := T_K) (N := 14) rfl (by decide) rfl uw_K (by decide) u_231 (fun _ q => q) h_K_moveOnStack_187 ?_
                  refine lv_topq (fun b100 e_b100 => ?_)
                  replace hw := hw b100 e_b100
                  refine lv_lload hx hb h_K_moveOnStack_190 (lv_at hl 0 rfl) ?_
                  obtain ⟨r101, e_r101, hw⟩ := hw
                  subst e_r101
                  have hl : lv_has ls 10 [(8, .long r92), (2, .long r6), (0, .ref a0), (1, .int x1)] := hl
                  refine W.eq (g2 := F0 m 192 ls [.long r92, .ref r101]) rfl ?_
                  obtain ⟨g102, hw⟩ := hw
                  refine C_callVv (As := [.long r92]) (rest := []) C h (ci := 0) (Cn := R_C) (T := T_C) (N := 5) g102 rfl (by decide) (X_C_push l dC dI ca H σ97 r101 r92 hw) (cwV 1 hts (gV hsub u_232 u_10 u_11 u_12 u_13) rfl rfl rfl (by decide +kernel) ⟨(Nat.le_of_ble_eq_true rfl), (Nat.le_of_ble_eq_true rfl)⟩) rfl hl.1 (Nat.le_of_ble_eq_true rfl) h_K_moveOnStack_192 (fun σ103 H locs cells slots hw9 h9 => ?_)
                  clear hw h; have hw := hw9; have h := h9; clear hw9 h9
                  refine W.eq (g2 := F0 m 195 ls []) rfl ?_
                  refine lv_goto (tgt := 198) hx hb h_K_moveOnStack_195 (by decide) ?_
                  exact hend σ103 _ _ _ _ _ _ hw h h_K_moveOnStack_198
                · skip
                  replace hw := hw.2 c86
                  have h9 : (x1 : Int32).toInt < 88 ∨ 95 < (x1 : Int32).toInt := by simp only [← Int32.toInt_inj, Int32.reduceToInt] at c7 c14 c27 c52 c53 c84 c85 c86; omega
                  refine lv_tableOut (tgt := 198) hx hb h_K_moveOnStack_9 h9 (by decide) ?_
                  exact hend σ5 _ _ _ _ _ _ hw h h_K_moveOnStack_198
abbrev g_K_increase : MethodName := ⟨"MapFramer$Machine", "increase", "()V"⟩
theorem h_K_increase_0 : decode prog_6_method_16_code 0 = .ok (.aload_n 0, 1) := by decide +kernel
theorem h_K_increase_1 : decode prog_6_method_16_code 1 = .ok (.getfield 76, 3) := by decide +kernel
theorem h_K_increase_4 : decode prog_6_method_16_code 4 = .ok (.getfield 80, 3) := by decide +kernel
theorem h_K_increase_7 : decode prog_6_method_16_code 7 = .ok (.aload_n 0, 1) := by decide +kernel
theorem h_K_increase_8 : decode prog_6_method_16_code 8 = .ok (.getfield 76, 3) := by decide +kernel
theorem h_K_increase_11 : decode prog_6_method_16_code 11 = .ok (.getfield 84, 3) := by decide +kernel
theorem h_K_increase_14 : decode prog_6_method_16_code 14 = .ok (.iconst 2, 1) := by decide +kernel
theorem h_K_increase_15 : decode prog_6_method_16_code 15 = .ok (.iadd, 1) := by decide +kernel
theorem h_K_increase_16 : decode prog_6_method_16_code 16 = .ok (.invokevirtual 228, 3) := by decide +kernel
theorem h_K_increase_19 : decode prog_6_method_16_code 19 = .ok (.istore_n 1, 1) := by decide +kernel
theorem h_K_increase_20 : decode prog_6_method_16_code 20 = .ok (.aload_n 0, 1) := by decide +kernel
theorem h_K_increase_21 : decode prog_6_method_16_code 21 = .ok (.getfield 76, 3) := by decide +kernel
theorem h_K_increase_24 : decode prog_6_method_16_code 24 = .ok (.aload_n 0, 1) := by decide +kernel
theorem h_K_increase_25 : decode prog_6_method_16_code 25 = .ok (.invokevirtual 215, 3) := by decide +kernel
theorem h_K_increase_28 : decode prog_6_method_16_code 28 = .ok (.aload_n 0, 1) := by decide +kernel
theorem h_K_increase_29 : decode prog_6_method_16_code 29 = .ok (.getfield 76, 3) := by decide +kernel
theorem h_K_increase_32 : decode prog_6_method_16_code 32 = .ok (.aload_n 0, 1) := by decide +kernel
theorem h_K_increase_33 : decode prog_6_method_16_code 33 = .ok (.invokevirtual 215, 3) := by decide +kernel
theorem h_K_increase_36 : decode prog_6_method_16_code 36 = .ok (.invokevirtual 237, 3) := by decide +kernel
theorem h_K_increase_39 : decode prog_6_method_16_code 39 = .ok (.l2i, 1) := by decide +kernel
theorem h_K_increase_40 : decode prog_6_method_16_code 40 = .ok (.iload_n 1, 1) := by decide +kernel
theorem h_K_increase_41 : decode prog_6_method_16_code 41 = .ok (.iadd, 1) := by decide +kernel
theorem h_K_increase_42 : decode prog_6_method_16_code 42 = .ok (.i2l, 1) := by decide +kernel
theorem h_K_increase_43 : decode prog_6_method_16_code 43 = .ok (.invokevirtual 102, 3) := by decide +kernel
theorem h_K_increase_46 : decode prog_6_method_16_code 46 = .ok (.return_, 1) := by decide +kernel
def x_K_increase (a0 : Nat) (σ0 : CST) (P : CST → Prop) : Prop := σ0.1 a0 = some (2, 0) ∧ (∀ b2 : Option Nat, b2 = (σ0.2.2.2.1 a0 5) → (∃ r3 : Nat, b2 = some r3 ∧ (σ0.1 r3 = some (0, 0) ∧ (∀ b5 : Option Nat, b5 = (σ0.2.2.2.1 r3 0) → ∀ b6 : Option Nat, b6 = (σ0.2.2.2.1 a0 5) → (∃ r7 : Nat, b6 = some r7 ∧ (σ0.1 r7 = some (0, 0) ∧ ((∃ r9 : Nat, b5 = some r9 ∧ (σ0.1 r9 = some (5, 0) ∧ (x_E_signedByteAt r9 ((σ0.2.1 r7 1) + 2) σ0 (fun r12 σ11 => σ11.1 a0 = some (2, 0) ∧ (∀ b14 : Option Nat, b14 = (σ11.2.2.2.1 a0 5) → x_K_operand a0 σ11 (fun r16 σ15 => σ15.1 a0 = some (2, 0) ∧ (∀ b18 : Option Nat, b18 = (σ15.2.2.2.1 a0 5) → x_K_operand a0 σ15 (fun r20 σ19 => (∃ r21 : Nat, b18 = some r21 ∧ (σ19.1 r21 = some (0, 0) ∧ (x_C_localAt r21 r20 σ19 (fun r24 σ23 => (∃ r25 : Nat, b14 = some r25 ∧ (σ23.1 r25 = some (0, 0) ∧ (x_C_setLocal r25 r16 (((((r24 : Int64).toInt32) + r12) : Int32).toInt64) σ23 (fun σ27 => P σ27)))))))))))))))))))))))
set_option maxHeartbeats 4000000 in
set_option maxRecDepth 100000 in
theorem X_K_increase (l : Launch) (dC : Nat → ClassId) (dI : Nat → Nat → Nat) (ca : Nat → ClassId) (H0 : Heap) (σ0 : CST) (a0 : Nat) {P : CST → Prop} (hw : x_K_increase a0 σ0 P) : Met l g_K_increase (mW g_K_increase prog_6_method_16_code 2 none) ({ frames := 2, cells := σ0.2.2.2.2.1, slots := σ0.2.2.2.2.2.1, locals := 42 } : Room) (va_Pc [.ref a0] (CPre (dC, dI) ca σ0 H0)) (va_Qv P (CB (dC, dI) ca σ0 H0) (cA σ0 H0.size)) σ0.2.2.2.2.1 σ0.2.2.2.2.2.1 (cA σ0 H0.size) := by
  refine C_ofv (by decide +kernel) rfl rfl rfl (Nat.le_of_ble_eq_true rfl) ?_
  intro p e s m below meth cx Q A ls C hnm hend hH0 h hl
  subst hH0
  have C0 := C
  obtain ⟨⟨hx, hb, hml, hown, hts⟩, hsub⟩ := C0
  obtain ⟨cells, e_cells⟩ : ∃ z : Nat, z = 0 := ⟨_, rfl⟩
  obtain ⟨slots, e_slots⟩ : ∃ z : Nat, z = 0 := ⟨_, rfl⟩
  have h : CH (dC, dI) A ca ({ frames := 2, cells := σ0.2.2.2.2.1, slots := σ0.2.2.2.2.2.1, locals := 42 } : Room) σ0.2.2.2.2.2.2 σ0 s s.heap [] cells slots := by rw [e_cells, e_slots]; exact h
  show W p l e ({ frames := 2, cells := σ0.2.2.2.2.1, slots := σ0.2.2.2.2.2.1, locals := 42 } : Room) s m ([.ref a0] : List Value).toArray below meth cx s.heap [] 0 0 Q (F0 m 0 ls [])
  rw [show W p l e ({ frames := 2, cells := σ0.2.2.2.2.1, slots := σ0.2.2.2.2.2.1, locals := 42 } : Room) s m ([.ref a0] : List Value).toArray below meth cx s.heap [] 0 0 Q (F0 m 0 ls []) = W p l e ({ frames := 2, cells := σ0.2.2.2.2.1, slots := σ0.2.2.2.2.2.1, locals := 42 } : Room) s m ([.ref a0] : List Value).toArray below meth cx s.heap [] cells slots Q (F0 m 0 ls []) by rw [e_cells, e_slots]]
  have hl : lv_has ls 2 [(0, .ref a0)] := hl
  unfold x_K_increase at hw
  refine lv_aload_n hx hb h_K_increase_0 rfl (lv_at hl 0 rfl) ?_
  obtain ⟨g1, hw⟩ := hw
  refine C_get C h 2 5 (v := va_rf (σ0.2.2.2.1 a0 5)) g1 rfl (Cn := R_K) (T := T_K) (N := 14) rfl (by decide) rfl uw_K (by decide) u_231 (fun _ q => q) h_K_increase_1 ?_
  refine lv_topq (fun b2 e_b2 => ?_)
  replace hw := hw b2 e_b2
  obtain ⟨r3, e_r3, hw⟩ := hw
  subst e_r3
  have hl : lv_has ls 2 [(0, .ref a0)] := hl
  refine W.eq (g2 := F0 m 4 ls [.ref r3]) rfl ?_
  obtain ⟨g4, hw⟩ := hw
  refine C_get C h 0 0 (v := va_rf (σ0.2.2.2.1 r3 0)) g4 rfl (Cn := R_C) (T := T_C) (N := 5) rfl (by decide) rfl uw_C (by decide) u_222 (fun _ q => q) h_K_increase_4 ?_
  refine lv_topq (fun b5 e_b5 => ?_)
  replace hw := hw b5 e_b5
  refine lv_aload_n hx hb h_K_increase_7 rfl (lv_at hl 0 rfl) ?_
  refine C_get C h 2 5 (v := va_rf (σ0.2.2.2.1 a0 5)) g1 rfl (Cn := R_K) (T := T_K) (N := 14) rfl (by decide) rfl uw_K (by decide) u_231 (fun _ q => q) h_K_increase_8 ?_
  refine lv_topq (fun b6 e_b6 => ?_)
  replace hw := hw b6 e_b6
  obtain ⟨r7, e_r7, hw⟩ := hw
  subst e_r7
  have hl : lv_has ls 2 [(0, .ref a0)] := hl
  refine W.eq (g2 := F0 m 11 ls [.ref r7, va_rf b5]) rfl ?_
  obtain ⟨g8, hw⟩ := hw
  refine C_get C h 0 1 (v := .int (σ0.2.1 r7 1)) g8 rfl (Cn := R_C) (T := T_C) (N := 5) rfl (by decide) rfl uw_C (by decide) u_237 (fun _ q => q) h_K_increase_11 ?_
  refine lv_iconst (v := 2) hx hb h_K_increase_14 (by decide) ?_
  refine lv_iadd hx hb h_K_increase_15 ?_
  obtain ⟨r9, e_r9, hw⟩ := hw
  subst e_r9
  have hl : lv_has ls 2 [(0, .ref a0)] := hl
  refine W.eq (g2 := F0 m 16 ls [.int ((σ0.2.1 r7 1) + 2), .ref r9]) rfl ?_
  obtain ⟨g10, hw⟩ := hw
  refine C_callVi (As := [.int ((σ0.2.1 r7 1) + 2)]) (rest := []) C h (ci := 5) (Cn := R_E) (T := T_E) (N := 13) g10 rfl (by decide) (X_E_signedByteAt l dC dI ca s.heap σ0 r9 ((σ0.2.1 r7 1) + 2) hw) (cwV 1 hts (gV hsub u_242 u_243 u_244 u_229 u_245) rfl rfl rfl (by decide +kernel) ⟨(Nat.le_of_ble_eq_true rfl), (Nat.le_of_ble_eq_true rfl)⟩) rfl hl.1 (Nat.le_of_ble_eq_true rfl) h_K_increase_16 (fun r12 σ11 H locs cells slots hw9 h9 => ?_)
  clear hw h; have hw := hw9; have h := h9; clear hw9 h9
  refine W.eq (g2 := F0 m 19 ls [.int r12]) rfl ?_
  refine lv_istore_n (i := 1) (lv' := [(1, .int r12), (0, .ref a0)]) hx hb h_K_increase_19 rfl hl (by decide) rfl (fun ls hl => ?_)
  refine lv_aload_n hx hb h_K_increase_20 rfl (lv_at hl 1 rfl) ?_
  obtain ⟨g13, hw⟩ := hw
  refine C_get C h 2 5 (v := va_rf (σ11.2.2.2.1 a0 5)) g13 rfl (Cn := R_K) (T := T_K) (N := 14) rfl (by decide) rfl uw_K (by decide) u_231 (fun _ q => q) h_K_increase_21 ?_
  refine lv_topq (fun b14 e_b14 => ?_)
  replace hw := hw b14 e_b14
  refine lv_aload_n hx hb h_K_increase_24 rfl (lv_at hl 1 rfl) ?_
  refine C_callVi (As := []) (rest := [va_rf b14]) C h (ci := 2) (Cn := R_K) (T := T_K) (N := 14) g13 rfl (by decide) (X_K_operand l dC dI ca H σ11 a0 hw) (cwV 0 hts (gV hsub u_257 u_258 u_259 u_260 u_261) rfl rfl rfl (by decide +kernel) ⟨(Nat.le_of_ble_eq_true rfl), (Nat.le_of_ble_eq_true rfl)⟩) rfl hl.1 (by simp only [List.map_cons, List.map_nil, List.sum_cons, List.sum_nil, cq_cat]; exact Nat.le_of_ble_eq_true rfl) h_K_increase_25 (fun r16 σ15 H locs cells slots hw9 h9 => ?_)
  clear hw h; have hw := hw9; have h := h9; clear hw9 h9
  refine W.eq (g2 := F0 m 28 ls [.int r16, va_rf b14]) rfl ?_
  refine lv_aload_n hx hb h_K_increase_28 rfl (lv_at hl 1 rfl) ?_
  obtain ⟨g17, hw⟩ := hw
  refine C_get C h 2 5 (v := va_rf (σ15.2.2.2.1 a0 5)) g17 rfl (Cn := R_K) (T := T_K) (N := 14) rfl (by decide) rfl uw_K (by decide) u_231 (fun _ q => q) h_K_increase_29 ?_
  refine lv_topq (fun b18 e_b18 => ?_)
  replace hw := hw b18 e_b18
  refine lv_aload_n hx hb h_K_increase_32 rfl (lv_at hl 1 rfl) ?_
  refine C_callVi (As := []) (rest := [va_rf b18, .int r16, va_rf b14]) C h (ci := 2) (Cn := R_K) (T := T_K) (N := 14) g17 rfl (by decide) (X_K_operand l dC dI ca H σ15 a0 hw) (cwV 0 hts (gV hsub u_257 u_258 u_259 u_260 u_261) rfl rfl rfl (by decide +kernel) ⟨(Nat.le_of_ble_eq_true rfl), (Nat.le_of_ble_eq_true rfl)⟩) rfl hl.1 (by simp only [List.map_cons, List.map_nil, List.sum_cons, List.sum_nil, cq_cat]; exact Nat.le_of_ble_eq_true rfl) h_K_increase_33 (fun r20 σ19 H locs cells slots hw9 h9 => ?_)
  clear hw h; have hw := hw9; have h := h9; clear hw9 h9
  refine W.eq (g2 := F0 m 36 ls [.int r20, va_rf b18, .int r16, va_rf b14]) rfl ?_
  obtain ⟨r21, e_r21, hw⟩ := hw
  subst e_r21
  have hl : lv_has ls 2 [(1, .int r12), (0, .ref a0)] := hl
  refine W.eq (g2 := F0 m 36 ls [.int r20, .ref r21, .int r16, va_rf b14]) rfl ?_
  obtain ⟨g22, hw⟩ := hw
  refine C_callVl (As := [.int r20]) (rest := [.int r16, va_rf b14]) C h (ci := 0) (Cn := R_C) (T := T_C) (N := 5) g22 rfl (by decide) (X_C_localAt l dC dI ca H σ19 r21 r20 hw) (cwV 1 hts (gV hsub u_262 u_263 u_264 u_12 u_265) rfl rfl rfl (by decide +kernel) ⟨(Nat.le_of_ble_eq_true rfl), (Nat.le_of_ble_eq_true rfl)⟩) rfl hl.1 (by simp only [List.map_cons, List.map_nil, List.sum_cons, List.sum_nil, cq_cat]; exact Nat.le_of_ble_eq_true rfl) h_K_increase_36 (fun r24 σ23 H locs cells slots hw9 h9 => ?_)
  clear hw h; have hw := hw9; have h := h9; clear hw9 h9
  refine W.eq (g2 := F0 m 39 ls [.long r24, .int r16, va_rf b14]) rfl ?_
  refine lv_l2i (v := (r24 : Int64).toInt32) hx hb h_K_increase_39 rfl ?_
  refine lv_iload_n hx hb h_K_increase_40 rfl (lv_at hl 0 rfl) ?_
  refine lv_iadd hx hb h_K_increase_41 ?_
  refine lv_i2l (v := ((((r24 : Int64).toInt32) + r12) : Int32).toInt64) hx hb h_K_increase_42 rfl ?_
  obtain ⟨r25, e_r25, hw⟩ := hw
  subst e_r25
  have hl : lv_has ls 2 [(1, .int r12), (0, .ref a0)] := hl
  refine W.eq (g2 := F0 m 43 ls [.long (((((r24 : Int64).toInt32) + r12) : Int32).toInt64), .int r16, .ref r25]) rfl ?_
  obtain ⟨g26, hw⟩ := hw
  refine C_callVv (As := [.int r16, .long (((((r24 : Int64).toInt32) + r12) : Int32).toInt64)]) (rest := []) C h (ci := 0) (Cn := R_C) (T := T_C) (N := 5) g26 rfl (by decide) (X_C_setLocal l dC dI ca H σ23 r25 r16 (((((r24 : Int64).toInt32) + r12) : Int32).toInt64) hw) (cwV 2 hts (gV hsub u_217 u_218 u_219 u_12 u_220) rfl rfl rfl (by decide +kernel) ⟨(Nat.le_of_ble_eq_true rfl), (Nat.le_of_ble_eq_true rfl)⟩) rfl hl.1 (Nat.le_of_ble_eq_true rfl) h_K_increase_43 (fun σ27 H locs cells slots hw9 h9 => ?_)
  clear hw h; have hw := hw9; have h := h9; clear hw9 h9
  refine W.eq (g2 := F0 m 46 ls []) rfl ?_
  exact hend σ27 _ _ _ _ _ _ hw h h_K_increase_46
abbrev g_K_reckonInts : MethodName := ⟨"MapFramer$Machine", "reckonInts", "(III)V"⟩
theorem h_K_reckonInts_0 : decode prog_6_method_18_code 0 = .ok (.iload_n 1, 1) := by decide +kernel
theorem h_K_reckonInts_1 : decode prog_6_method_18_code 1 = .ok (.bipush 96, 2) := by decide +kernel
theorem h_K_reckonInts_3 : decode prog_6_method_18_code 3 = .ok (.if_icmp .ne 17, 3) := by decide +kernel
theorem h_K_reckonInts_6 : decode prog_6_method_18_code 6 = .ok (.aload_n 0, 1) := by decide +kernel
theorem h_K_reckonInts_7 : decode prog_6_method_18_code 7 = .ok (.getfield 76, 3) := by decide +kernel
theorem h_K_reckonInts_10 : decode prog_6_method_18_code 10 = .ok (.iload_n 2, 1) := by decide +kernel
theorem h_K_reckonInts_11 : decode prog_6_method_18_code 11 = .ok (.iload_n 3, 1) := by decide +kernel
theorem h_K_reckonInts_12 : decode prog_6_method_18_code 12 = .ok (.iadd, 1) := by decide +kernel
theorem h_K_reckonInts_13 : decode prog_6_method_18_code 13 = .ok (.i2l, 1) := by decide +kernel
theorem h_K_reckonInts_14 : decode prog_6_method_18_code 14 = .ok (.invokevirtual 147, 3) := by decide +kernel
theorem h_K_reckonInts_17 : decode prog_6_method_18_code 17 = .ok (.goto 66, 3) := by decide +kernel
theorem h_K_reckonInts_20 : decode prog_6_method_18_code 20 = .ok (.iload_n 1, 1) := by decide +kernel
theorem h_K_reckonInts_21 : decode prog_6_method_18_code 21 = .ok (.bipush 100, 2) := by decide +kernel
theorem h_K_reckonInts_23 : decode prog_6_method_18_code 23 = .ok (.if_icmp .ne 17, 3) := by decide +kernel
theorem h_K_reckonInts_26 : decode prog_6_method_18_code 26 = .ok (.aload_n 0, 1) := by decide +kernel
theorem h_K_reckonInts_27 : decode prog_6_method_18_code 27 = .ok (.getfield 76, 3) := by decide +kernel
theorem h_K_reckonInts_30 : decode prog_6_method_18_code 30 = .ok (.iload_n 2, 1) := by decide +kernel
theorem h_K_reckonInts_31 : decode prog_6_method_18_code 31 = .ok (.iload_n 3, 1) := by decide +kernel
theorem h_K_reckonInts_32 : decode prog_6_method_18_code 32 = .ok (.isub, 1) := by decide +kernel
theorem h_K_reckonInts_33 : decode prog_6_method_18_code 33 = .ok (.i2l, 1) := by decide +kernel
theorem h_K_reckonInts_34 : decode prog_6_method_18_code 34 = .ok (.invokevirtual 147, 3) := by decide +kernel
theorem h_K_reckonInts_37 : decode prog_6_method_18_code 37 = .ok (.goto 46, 3) := by decide +kernel
theorem h_K_reckonInts_40 : decode prog_6_method_18_code 40 = .ok (.iload_n 1, 1) := by decide +kernel
theorem h_K_reckonInts_41 : decode prog_6_method_18_code 41 = .ok (.bipush 104, 2) := by decide +kernel
theorem h_K_reckonInts_43 : decode prog_6_method_18_code 43 = .ok (.if_icmp .ne 17, 3) := by decide +kernel
theorem h_K_reckonInts_46 : decode prog_6_method_18_code 46 = .ok (.aload_n 0, 1) := by decide +kernel
theorem h_K_reckonInts_47 : decode prog_6_method_18_code 47 = .ok (.getfield 76, 3) := by decide +kernel
theorem h_K_reckonInts_50 : decode prog_6_method_18_code 50 = .ok (.iload_n 2, 1) := by decide +kernel
theorem h_K_reckonInts_51 : decode prog_6_method_18_code 51 = .ok (.iload_n 3, 1) := by decide +kernel
theorem h_K_reckonInts_52 : decode prog_6_method_18_code 52 = .ok (.imul, 1) := by decide +kernel
theorem h_K_reckonInts_53 : decode prog_6_method_18_code 53 = .ok (.i2l, 1) := by decide +kernel
theorem h_K_reckonInts_54 : decode prog_6_method_18_code 54 = .ok (.invokevirtual 147, 3) := by decide +kernel
theorem h_K_reckonInts_57 : decode prog_6_method_18_code 57 = .ok (.goto 26, 3) := by decide +kernel
theorem h_K_reckonInts_60 : decode prog_6_method_18_code 60 = .ok (.iload_n 3, 1) := by decide +kernel
theorem h_K_reckonInts_61 : decode prog_6_method_18_code 61 = .ok (.ifCond .ne 11, 3) := by decide +kernel
theorem h_K_reckonInts_64 : decode prog_6_method_18_code 64 = .ok (.aload_n 0, 1) := by decide +kernel
theorem h_K_reckonInts_65 : decode prog_6_method_18_code 65 = .ok (.iconst 1, 1) := by decide +kernel
theorem h_K_reckonInts_66 : decode prog_6_method_18_code 66 = .ok (.putfield 123, 3) := by decide +kernel
theorem h_K_reckonInts_69 : decode prog_6_method_18_code 69 = .ok (.goto 14, 3) := by decide +kernel
theorem h_K_reckonInts_72 : decode prog_6_method_18_code 72 = .ok (.aload_n 0, 1) := by decide +kernel
theorem h_K_reckonInts_73 : decode prog_6_method_18_code 73 = .ok (.getfield 76, 3) := by decide +kernel
theorem h_K_reckonInts_76 : decode prog_6_method_18_code 76 = .ok (.iload_n 2, 1) := by decide +kernel
theorem h_K_reckonInts_77 : decode prog_6_method_18_code 77 = .ok (.iload_n 3, 1) := by decide +kernel
theorem h_K_reckonInts_78 : decode prog_6_method_18_code 78 = .ok (.idiv, 1) := by decide +kernel
theorem h_K_reckonInts_79 : decode prog_6_method_18_code 79 = .ok (.i2l, 1) := by decide +kernel
theorem h_K_reckonInts_80 : decode prog_6_method_18_code 80 = .ok (.invokevirtual 147, 3) := by decide +kernel
theorem h_K_reckonInts_83 : decode prog_6_method_18_code 83 = .ok (.return_, 1) := by decide +kernel
def x_K_reckonInts (a0 : Nat) (x1 : Int32) (x2 : Int32) (x3 : Int32) (σ0 : CST) (P : CST → Prop) : Prop := ((x1 = 96 → σ0.1 a0 = some (2, 0) ∧ (∀ b26 : Option Nat, b26 = (σ0.2.2.2.1 a0 5) → (∃ r27 : Nat, b26 = some r27 ∧ (σ0.1 r27 = some (0, 0) ∧ (x_C_push r27 (((x2 + x3) : Int32).toInt64) σ0 (fun σ29 => P σ29)))))) ∧ (¬ x1 = 96 → ((x1 = 100 → σ0.1 a0 = some (2, 0) ∧ (∀ b20 : Option Nat, b20 = (σ0.2.2.2.1 a0 5) → (∃ r21 : Nat, b20 = some r21 ∧ (σ0.1 r21 = some (0, 0) ∧ (x_C_push r21 (((x2 - x3) : Int32).toInt64) σ0 (fun σ23 => P σ23)))))) ∧ (¬ x1 = 100 → ((x1 = 104 → σ0.1 a0 = some (2, 0) ∧ (∀ b14 : Option Nat, b14 = (σ0.2.2.2.1 a0 5) → (∃ r15 : Nat, b14 = some r15 ∧ (σ0.1 r15 = some (0, 0) ∧ (x_C_push r15 (((x2 * x3) : Int32).toInt64) σ0 (fun σ17 => P σ17)))))) ∧ (¬ x1 = 104 → ((x3 = 0 → σ0.1 a0 = some (2, 0) ∧ (∀ σ12 : CST, σ12 = sI σ0 a0 7 (1 : Int32) → P σ12)) ∧ (¬ x3 = 0 → σ0.1 a0 = some (2, 0) ∧ (∀ b6 : Option Nat, b6 = (σ0.2.2.2.1 a0 5) → ¬ x3 = 0 ∧ ((∃ r7 : Nat, b6 = some r7 ∧ (σ0.1 r7 = some (0, 0) ∧ (x_C_push r7 (((x2 / x3) : Int32).toInt64) σ0 (fun σ9 => P σ9))))))))))))))
set_option maxHeartbeats 4000000 in
set_option maxRecDepth 100000 in
theorem X_K_reckonInts (l : Launch) (dC : Nat → ClassId) (dI : Nat → Nat → Nat) (ca : Nat → ClassId) (H0 : Heap) (σ0 : CST) (a0 : Nat) (x1 : Int32) (x2 : Int32) (x3 : Int32) {P : CST → Prop} (hw : x_K_reckonInts a0 x1 x2 x3 σ0 P) : Met l g_K_reckonInts (mW g_K_reckonInts prog_6_method_18_code 4 none) ({ frames := 1, cells := σ0.2.2.2.2.1, slots := σ0.2.2.2.2.2.1, locals := 22 } : Room) (va_Pc [.ref a0, .int x1, .int x2, .int x3] (CPre (dC, dI) ca σ0 H0)) (va_Qv P (CB (dC, dI) ca σ0 H0) (cA σ0 H0.size)) σ0.2.2.2.2.1 σ0.2.2.2.2.2.1 (cA σ0 H0.size) := by
  refine C_ofv (by decide +kernel) rfl rfl rfl (Nat.le_of_ble_eq_true rfl) ?_
  intro p e s m below meth cx Q A ls C hnm hend hH0 h hl
  subst hH0
  have C0 := C
  obtain ⟨⟨hx, hb, hml, hown, hts⟩, hsub⟩ := C0
  obtain ⟨cells, e_cells⟩ : ∃ z : Nat, z = 0 := ⟨_, rfl⟩
  obtain ⟨slots, e_slots⟩ : ∃ z : Nat, z = 0 := ⟨_, rfl⟩
  have h : CH (dC, dI) A ca ({ frames := 1, cells := σ0.2.2.2.2.1, slots := σ0.2.2.2.2.2.1, locals := 22 } : Room) σ0.2.2.2.2.2.2 σ0 s s.heap [] cells slots := by rw [e_cells, e_slots]; exact h
  show W p l e ({ frames := 1, cells := σ0.2.2.2.2.1, slots := σ0.2.2.2.2.2.1, locals := 22 } : Room) s m ([.ref a0, .int x1, .int x2, .int x3] : List Value).toArray below meth cx s.heap [] 0 0 Q (F0 m 0 ls [])
  rw [show W p l e ({ frames := 1, cells := σ0.2.2.2.2.1, slots := σ0.2.2.2.2.2.1, locals := 22 } : Room) s m ([.ref a0, .int x1, .int x2, .int x3] : List Value).toArray below meth cx s.heap [] 0 0 Q (F0 m 0 ls []) = W p l e ({ frames := 1, cells := σ0.2.2.2.2.1, slots := σ0.2.2.2.2.2.1, locals := 22 } : Room) s m ([.ref a0, .int x1, .int x2, .int x3] : List Value).toArray below meth cx s.heap [] cells slots Q (F0 m 0 ls []) by rw [e_cells, e_slots]]
  have hl : lv_has ls 4 [(0, .ref a0), (1, .int x1), (2, .int x2), (3, .int x3)] := hl
  unfold x_K_reckonInts at hw
  refine lv_iload_n hx hb h_K_reckonInts_0 rfl (lv_at hl 1 rfl) ?_
  refine lv_bipush (v := 96) hx hb h_K_reckonInts_1 (by decide) ?_
  refine lv_icmp_ne (tgt := 20) hx hb h_K_reckonInts_3 (by decide) (fun c1 => ?_) (fun c1 => ?_)
  · skip
    replace hw := hw.2 c1
    refine lv_iload_n hx hb h_K_reckonInts_20 rfl (lv_at hl 1 rfl) ?_
    refine lv_bipush (v := 100) hx hb h_K_reckonInts_21 (by decide) ?_
    refine lv_icmp_ne (tgt := 40) hx hb h_K_reckonInts_23 (by decide) (fun c2 => ?_) (fun c2 => ?_)
    · skip
      replace hw := hw.2 c2
      refine lv_iload_n hx hb h_K_reckonInts_40 rfl (lv_at hl 1 rfl) ?_
      refine lv_bipush (v := 104) hx hb h_K_reckonInts_41 (by decide) ?_
      refine lv_icmp_ne (tgt := 60) hx hb h_K_reckonInts_43 (by decide) (fun c3 => ?_) (fun c3 => ?_)
      · skip
        replace hw := hw.2 c3
        refine lv_iload_n hx hb h_K_reckonInts_60 rfl (lv_at hl 3 rfl) ?_
        refine lv_if_ne (tgt := 72) hx hb h_K_reckonInts_61 (by decide) (fun c4 => ?_) (fun c4 => ?_)
        · skip
          replace hw := hw.2 c4
          refine lv_aload_n hx hb h_K_reckonInts_72 rfl (lv_at hl 0 rfl) ?_
          obtain ⟨g5, hw⟩ := hw
          refine C_get C h 2 5 (v := va_rf (σ0.2.2.2.1 a0 5)) g5 rfl (Cn := R_K) (T := T_K) (N := 14) rfl (by decide) rfl uw_K (by decide) u_231 (fun _ q => q) h_K_reckonInts_73 ?_
          refine lv_topq (fun b6 e_b6 => ?_)
          replace hw := hw b6 e_b6
          refine lv_iload_n hx hb h_K_reckonInts_76 rfl (lv_at hl 2 rfl) ?_
          refine lv_iload_n hx hb h_K_reckonInts_77 rfl (lv_at hl 3 rfl) ?_
          refine lv_idiv hx hb h_K_reckonInts_78 hw.1 ?_
          replace hw := hw.2
          refine lv_i2l (v := ((x2 / x3) : Int32).toInt64) hx hb h_K_reckonInts_79 rfl ?_
          obtain ⟨r7, e_r7, hw⟩ := hw
          subst e_r7
          have hl : lv_has ls 4 [(0, .ref a0), (1, .int x1), (2, .int x2), (3, .int x3)] := hl
          refine W.eq (g2 := F0 m 80 ls [.long (((x2 / x3) : Int32).toInt64), .ref r7]) rfl ?_
          obtain ⟨g8, hw⟩ := hw
          refine C_callVv (As := [.long (((x2 / x3) : Int32).toInt64)]) (rest := []) C h (ci := 0) (Cn := R_C) (T := T_C) (N := 5) g8 rfl (by decide) (X_C_push l dC dI ca s.heap σ0 r7 (((x2 / x3) : Int32).toInt64) hw) (cwV 1 hts (gV hsub u_232 u_10 u_11 u_12 u_13) rfl rfl rfl (by decide +kernel) ⟨(Nat.le_of_ble_eq_true rfl), (Nat.le_of_ble_eq_true rfl)⟩) rfl hl.1 (Nat.le_of_ble_eq_true rfl) h_K_reckonInts_80 (fun σ9 H locs cells slots hw9 h9 => ?_)
          clear hw h; have hw := hw9; have h := h9; clear hw9 h9
          refine W.eq (g2 := F0 m 83 ls []) rfl ?_
          exact hend σ9 _ _ _ _ _ _ hw h h_K_reckonInts_83
        · skip
          replace hw := hw.1 c4
          refine lv_aload_n hx hb h_K_reckonInts_64 rfl (lv_at hl 0 rfl) ?_
          refine lv_iconst (v := 1) hx hb h_K_reckonInts_65 (by decide) ?_
          obtain ⟨g11, hw⟩ := hw
          refine C_putz C h 2 7 g11 (Cn := R_K) (T := T_K) (N := 14) rfl (by decide) rfl uw_K tok_K nm_K (by decide) rfl u_255 (fun _ q => q) (Or.inl rfl) (by decide +kernel) (by decide) h_K_reckonInts_66 (fun H locs h => ?_)
          obtain ⟨σ12, e_σ12⟩ : ∃ z : CST, z = sI σ0 a0 7 (1 : Int32) := ⟨_, rfl⟩
          rw [← e_σ12] at h
          replace hw := hw σ12 e_σ12
          refine lv_goto (tgt := 83) hx hb h_K_reckonInts_69 (by decide) ?_
          exact hend σ12 _ _ _ _ _ _ hw h h_K_reckonInts_83
      · skip
        replace hw := hw.1 c3
        refine lv_aload_n hx hb h_K_reckonInts_46 rfl (lv_at hl 0 rfl) ?_
        obtain ⟨g13, hw⟩ := hw
        refine C_get C h 2 5 (v := va_rf (σ0.2.2.2.1 a0 5)) g13 rfl (Cn := R_K) (T := T_K) (N := 14) rfl (by decide) rfl uw_K (by decide) u_231 (fun _ q => q) h_K_reckonInts_47 ?_
        refine lv_topq (fun b14 e_b14 => ?_)
        replace hw := hw b14 e_b14
        refine lv_iload_n hx hb h_K_reckonInts_50 rfl (lv_at hl 2 rfl) ?_
        refine lv_iload_n hx hb h_K_reckonInts_51 rfl (lv_at hl 3 rfl) ?_
        refine lv_imul hx hb h_K_reckonInts_52 ?_
        refine lv_i2l (v := ((x2 * x3) : Int32).toInt64) hx hb h_K_reckonInts_53 rfl ?_
        obtain ⟨r15, e_r15, hw⟩ := hw
        subst e_r15
        have hl : lv_has ls 4 [(0, .ref a0), (1, .int x1), (2, .int x2), (3, .int x3)] := hl
        refine W.eq (g2 := F0 m 54 ls [.long (((x2 * x3) : Int32).toInt64), .ref r15]) rfl ?_
        obtain ⟨g16, hw⟩ := hw
        refine C_callVv (As := [.long (((x2 * x3) : Int32).toInt64)]) (rest := []) C h (ci := 0) (Cn := R_C) (T := T_C) (N := 5) g16 rfl (by decide) (X_C_push l dC dI ca s.heap σ0 r15 (((x2 * x3) : Int32).toInt64) hw) (cwV 1 hts (gV hsub u_232 u_10 u_11 u_12 u_13) rfl rfl rfl (by decide +kernel) ⟨(Nat.le_of_ble_eq_true rfl), (Nat.le_of_ble_eq_true rfl)⟩) rfl hl.1 (Nat.le_of_ble_eq_true rfl) h_K_reckonInts_54 (fun σ17 H locs cells slots hw9 h9 => ?_)
        clear hw h; have hw := hw9; have h := h9; clear hw9 h9
        refine W.eq (g2 := F0 m 57 ls []) rfl ?_
        refine lv_goto (tgt := 83) hx hb h_K_reckonInts_57 (by decide) ?_
        exact hend σ17 _ _ _ _ _ _ hw h h_K_reckonInts_83
    · skip
      replace hw := hw.1 c2
      refine lv_aload_n hx hb h_K_reckonInts_26 rfl (lv_at hl 0 rfl) ?_
      obtain ⟨g19, hw⟩ := hw
      refine C_get C h 2 5 (v := va_rf (σ0.2.2.2.1 a0 5)) g19 rfl (Cn := R_K) (T := T_K) (N := 14) rfl (by decide) rfl uw_K (by decide) u_231 (fun _ q => q) h_K_reckonInts_27 ?_
      refine lv_topq (fun b20 e_b20 => ?_)
      replace hw := hw b20 e_b20
      refine lv_iload_n hx hb h_K_reckonInts_30 rfl (lv_at hl 2 rfl) ?_
      refine lv_iload_n hx hb h_K_reckonInts_31 rfl (lv_at hl 3 rfl) ?_
      refine lv_isub hx hb h_K_reckonInts_32 ?_
      refine lv_i2l (v := ((x2 - x3) : Int32).toInt64) hx hb h_K_reckonInts_33 rfl ?_
      obtain ⟨r21, e_r21, hw⟩ := hw
      subst e_r21
      have hl : lv_has ls 4 [(0, .ref a0), (1, .int x1), (2, .int x2), (3, .int x3)] := hl
      refine W.eq (g2 := F0 m 34 ls [.long (((x2 - x3) : Int32).toInt64), .ref r21]) rfl ?_
      obtain ⟨g22, hw⟩ := hw
      refine C_callVv (As := [.long (((x2 - x3) : Int32).toInt64)]) (rest := []) C h (ci := 0) (Cn := R_C) (T := T_C) (N := 5) g22 rfl (by decide) (X_C_push l dC dI ca s.heap σ0 r21 (((x2 - x3) : Int32).toInt64) hw) (cwV 1 hts (gV hsub u_232 u_10 u_11 u_12 u_13) rfl rfl rfl (by decide +kernel) ⟨(Nat.le_of_ble_eq_true rfl), (Nat.le_of_ble_eq_true rfl)⟩) rfl hl.1 (Nat.le_of_ble_eq_true rfl) h_K_reckonInts_34 (fun σ23 H locs cells slots hw9 h9 => ?_)
      clear hw h; have hw := hw9; have h := h9; clear hw9 h9
      refine W.eq (g2 := F0 m 37 ls []) rfl ?_
      refine lv_goto (tgt := 83) hx hb h_K_reckonInts_37 (by decide) ?_
      exact hend σ23 _ _ _ _ _ _ hw h h_K_reckonInts_83
  · skip
    replace hw := hw.1 c1
    refine lv_aload_n hx hb h_K_reckonInts_6 rfl (lv_at hl 0 rfl) ?_
    obtain ⟨g25, hw⟩ := hw
    refine C_get C h 2 5 (v := va_rf (σ0.2.2.2.1 a0 5)) g25 rfl (Cn := R_K) (T := T_K) (N := 14) rfl (by decide) rfl uw_K (by decide) u_231 (fun _ q => q) h_K_reckonInts_7 ?_
    refine lv_topq (fun b26 e_b26 => ?_)
    replace hw := hw b26 e_b26
    refine lv_iload_n hx hb h_K_reckonInts_10 rfl (lv_at hl 2 rfl) ?_
    refine lv_iload_n hx hb h_K_reckonInts_11 rfl (lv_at hl 3 rfl) ?_
    refine lv_iadd hx hb h_K_reckonInts_12 ?_
    refine lv_i2l (v := ((x2 + x3) : Int32).toInt64) hx hb h_K_reckonInts_13 rfl ?_
    obtain ⟨r27, e_r27, hw⟩ := hw
    subst e_r27
    have hl : lv_has ls 4 [(0, .ref a0), (1, .int x1), (2, .int x2), (3, .int x3)] := hl
    refine W.eq (g2 := F0 m 14 ls [.long (((x2 + x3) : Int32).toInt64), .ref r27]) rfl ?_
    obtain ⟨g28, hw⟩ := hw
    refine C_callVv (As := [.long (((x2 + x3) : Int32).toInt64)]) (rest := []) C h (ci := 0) (Cn := R_C) (T := T_C) (N := 5) g28 rfl (by decide) (X_C_push l dC dI ca s.heap σ0 r27 (((x2 + x3) : Int32).toInt64) hw) (cwV 1 hts (gV hsub u_232 u_10 u_11 u_12 u_13) rfl rfl rfl (by decide +kernel) ⟨(Nat.le_of_ble_eq_true rfl), (Nat.le_of_ble_eq_true rfl)⟩) rfl hl.1 (Nat.le_of_ble_eq_true rfl) h_K_reckonInts_14 (fun σ29 H locs cells slots hw9 h9 => ?_)
    clear hw h; have hw := hw9; have h := h9; clear hw9 h9
    refine W.eq (g2 := F0 m 17 ls []) rfl ?_
    refine lv_goto (tgt := 83) hx hb h_K_reckonInts_17 (by decide) ?_
    exact hend σ29 _ _ _ _ _ _ hw h h_K_reckonInts_83
abbrev g_K_reckonLongs : MethodName := ⟨"MapFramer$Machine", "reckonLongs", "(IJJ)V"⟩
theorem h_K_reckonLongs_0 : decode prog_6_method_19_code 0 = .ok (.iload_n 1, 1) := by decide +kernel
theorem h_K_reckonLongs_1 : decode prog_6_method_19_code 1 = .ok (.bipush 97, 2) := by decide +kernel
theorem h_K_reckonLongs_3 : decode prog_6_method_19_code 3 = .ok (.if_icmp .ne 17, 3) := by decide +kernel
theorem h_K_reckonLongs_6 : decode prog_6_method_19_code 6 = .ok (.aload_n 0, 1) := by decide +kernel
theorem h_K_reckonLongs_7 : decode prog_6_method_19_code 7 = .ok (.getfield 76, 3) := by decide +kernel
theorem h_K_reckonLongs_10 : decode prog_6_method_19_code 10 = .ok (.lload_n 2, 1) := by decide +kernel
theorem h_K_reckonLongs_11 : decode prog_6_method_19_code 11 = .ok (.lload 4, 2) := by decide +kernel
theorem h_K_reckonLongs_13 : decode prog_6_method_19_code 13 = .ok (.ladd, 1) := by decide +kernel
theorem h_K_reckonLongs_14 : decode prog_6_method_19_code 14 = .ok (.invokevirtual 234, 3) := by decide +kernel
theorem h_K_reckonLongs_17 : decode prog_6_method_19_code 17 = .ok (.goto 69, 3) := by decide +kernel
theorem h_K_reckonLongs_20 : decode prog_6_method_19_code 20 = .ok (.iload_n 1, 1) := by decide +kernel
theorem h_K_reckonLongs_21 : decode prog_6_method_19_code 21 = .ok (.bipush 101, 2) := by decide +kernel
theorem h_K_reckonLongs_23 : decode prog_6_method_19_code 23 = .ok (.if_icmp .ne 17, 3) := by decide +kernel
theorem h_K_reckonLongs_26 : decode prog_6_method_19_code 26 = .ok (.aload_n 0, 1) := by decide +kernel
theorem h_K_reckonLongs_27 : decode prog_6_method_19_code 27 = .ok (.getfield 76, 3) := by decide +kernel
theorem h_K_reckonLongs_30 : decode prog_6_method_19_code 30 = .ok (.lload_n 2, 1) := by decide +kernel
theorem h_K_reckonLongs_31 : decode prog_6_method_19_code 31 = .ok (.lload 4, 2) := by decide +kernel
theorem h_K_reckonLongs_33 : decode prog_6_method_19_code 33 = .ok (.lsub, 1) := by decide +kernel
theorem h_K_reckonLongs_34 : decode prog_6_method_19_code 34 = .ok (.invokevirtual 234, 3) := by decide +kernel
theorem h_K_reckonLongs_37 : decode prog_6_method_19_code 37 = .ok (.goto 49, 3) := by decide +kernel
theorem h_K_reckonLongs_40 : decode prog_6_method_19_code 40 = .ok (.iload_n 1, 1) := by decide +kernel
theorem h_K_reckonLongs_41 : decode prog_6_method_19_code 41 = .ok (.bipush 105, 2) := by decide +kernel
theorem h_K_reckonLongs_43 : decode prog_6_method_19_code 43 = .ok (.if_icmp .ne 17, 3) := by decide +kernel
theorem h_K_reckonLongs_46 : decode prog_6_method_19_code 46 = .ok (.aload_n 0, 1) := by decide +kernel
theorem h_K_reckonLongs_47 : decode prog_6_method_19_code 47 = .ok (.getfield 76, 3) := by decide +kernel
theorem h_K_reckonLongs_50 : decode prog_6_method_19_code 50 = .ok (.lload_n 2, 1) := by decide +kernel
theorem h_K_reckonLongs_51 : decode prog_6_method_19_code 51 = .ok (.lload 4, 2) := by decide +kernel
theorem h_K_reckonLongs_53 : decode prog_6_method_19_code 53 = .ok (.lmul, 1) := by decide +kernel
theorem h_K_reckonLongs_54 : decode prog_6_method_19_code 54 = .ok (.invokevirtual 234, 3) := by decide +kernel
theorem h_K_reckonLongs_57 : decode prog_6_method_19_code 57 = .ok (.goto 29, 3) := by decide +kernel
theorem h_K_reckonLongs_60 : decode prog_6_method_19_code 60 = .ok (.lload 4, 2) := by decide +kernel
theorem h_K_reckonLongs_62 : decode prog_6_method_19_code 62 = .ok (.lconst 0, 1) := by decide +kernel
theorem h_K_reckonLongs_63 : decode prog_6_method_19_code 63 = .ok (.lcmp, 1) := by decide +kernel
theorem h_K_reckonLongs_64 : decode prog_6_method_19_code 64 = .ok (.ifCond .ne 11, 3) := by decide +kernel
theorem h_K_reckonLongs_67 : decode prog_6_method_19_code 67 = .ok (.aload_n 0, 1) := by decide +kernel
theorem h_K_reckonLongs_68 : decode prog_6_method_19_code 68 = .ok (.iconst 1, 1) := by decide +kernel
theorem h_K_reckonLongs_69 : decode prog_6_method_19_code 69 = .ok (.putfield 123, 3) := by decide +kernel
theorem h_K_reckonLongs_72 : decode prog_6_method_19_code 72 = .ok (.goto 14, 3) := by decide +kernel
theorem h_K_reckonLongs_75 : decode prog_6_method_19_code 75 = .ok (.aload_n 0, 1) := by decide +kernel
theorem h_K_reckonLongs_76 : decode prog_6_method_19_code 76 = .ok (.getfield 76, 3) := by decide +kernel
theorem h_K_reckonLongs_79 : decode prog_6_method_19_code 79 = .ok (.lload_n 2, 1) := by decide +kernel
theorem h_K_reckonLongs_80 : decode prog_6_method_19_code 80 = .ok (.lload 4, 2) := by decide +kernel
theorem h_K_reckonLongs_82 : decode prog_6_method_19_code 82 = .ok (.ldiv, 1) := by decide +kernel
theorem h_K_reckonLongs_83 : decode prog_6_method_19_code 83 = .ok (.invokevirtual 234, 3) := by decide +kernel
theorem h_K_reckonLongs_86 : decode prog_6_method_19_code 86 = .ok (.return_, 1) := by decide +kernel
def x_K_reckonLongs (a0 : Nat) (x1 : Int32) (x2 : Int64) (x4 : Int64) (σ0 : CST) (P : CST → Prop) : Prop := ((x1 = 97 → σ0.1 a0 = some (2, 0) ∧ (∀ b26 : Option Nat, b26 = (σ0.2.2.2.1 a0 5) → (∃ r27 : Nat, b26 = some r27 ∧ (σ0.1 r27 = some (0, 0) ∧ (x_C_pushLong r27 (x2 + x4) σ0 (fun σ29 => P σ29)))))) ∧ (¬ x1 = 97 → ((x1 = 101 → σ0.1 a0 = some (2, 0) ∧ (∀ b20 : Option Nat, b20 = (σ0.2.2.2.1 a0 5) → (∃ r21 : Nat, b20 = some r21 ∧ (σ0.1 r21 = some (0, 0) ∧ (x_C_pushLong r21 (x2 - x4) σ0 (fun σ23 => P σ23)))))) ∧ (¬ x1 = 101 → ((x1 = 105 → σ0.1 a0 = some (2, 0) ∧ (∀ b14 : Option Nat, b14 = (σ0.2.2.2.1 a0 5) → (∃ r15 : Nat, b14 = some r15 ∧ (σ0.1 r15 = some (0, 0) ∧ (x_C_pushLong r15 (x2 * x4) σ0 (fun σ17 => P σ17)))))) ∧ (¬ x1 = 105 → (((lg_cmp x4 0) = 0 → σ0.1 a0 = some (2, 0) ∧ (∀ σ12 : CST, σ12 = sI σ0 a0 7 (1 : Int32) → P σ12)) ∧ (¬ (lg_cmp x4 0) = 0 → σ0.1 a0 = some (2, 0) ∧ (∀ b6 : Option Nat, b6 = (σ0.2.2.2.1 a0 5) → ¬ x4 = 0 ∧ ((∃ r7 : Nat, b6 = some r7 ∧ (σ0.1 r7 = some (0, 0) ∧ (x_C_pushLong r7 (x2 / x4) σ0 (fun σ9 => P σ9))))))))))))))
set_option maxHeartbeats 4000000 in
set_option maxRecDepth 100000 in
theorem X_K_reckonLongs (l : Launch) (dC : Nat → ClassId) (dI : Nat → Nat → Nat) (ca : Nat → ClassId) (H0 : Heap) (σ0 : CST) (a0 : Nat) (x1 : Int32) (x2 : Int64) (x4 : Int64) {P : CST → Prop} (hw : x_K_reckonLongs a0 x1 x2 x4 σ0 P) : Met l g_K_reckonLongs (mW g_K_reckonLongs prog_6_method_19_code 6 none) ({ frames := 2, cells := σ0.2.2.2.2.1, slots := σ0.2.2.2.2.2.1, locals := 44 } : Room) (va_Pc [.ref a0, .int x1, .long x2, .long x4] (CPre (dC, dI) ca σ0 H0)) (va_Qv P (CB (dC, dI) ca σ0 H0) (cA σ0 H0.size)) σ0.2.2.2.2.1 σ0.2.2.2.2.2.1 (cA σ0 H0.size) := by
  refine C_ofv (by decide +kernel) rfl rfl rfl (Nat.le_of_ble_eq_true rfl) ?_
  intro p e s m below meth cx Q A ls C hnm hend hH0 h hl
  subst hH0
  have C0 := C
  obtain ⟨⟨hx, hb, hml, hown, hts⟩, hsub⟩ := C0
  obtain ⟨cells, e_cells⟩ : ∃ z : Nat, z = 0 := ⟨_, rfl⟩
  obtain ⟨slots, e_slots⟩ : ∃ z : Nat, z = 0 := ⟨_, rfl⟩
  have h : CH (dC, dI) A ca ({ frames := 2, cells := σ0.2.2.2.2.1, slots := σ0.2.2.2.2.2.1, locals := 44 } : Room) σ0.2.2.2.2.2.2 σ0 s s.heap [] cells slots := by rw [e_cells, e_slots]; exact h
  show W p l e ({ frames := 2, cells := σ0.2.2.2.2.1, slots := σ0.2.2.2.2.2.1, locals := 44 } : Room) s m ([.ref a0, .int x1, .long x2, .long x4] : List Value).toArray below meth cx s.heap [] 0 0 Q (F0 m 0 ls [])
  rw [show W p l e ({ frames := 2, cells := σ0.2.2.2.2.1, slots := σ0.2.2.2.2.2.1, locals := 44 } : Room) s m ([.ref a0, .int x1, .long x2, .long x4] : List Value).toArray below meth cx s.heap [] 0 0 Q (F0 m 0 ls []) = W p l e ({ frames := 2, cells := σ0.2.2.2.2.1, slots := σ0.2.2.2.2.2.1, locals := 44 } : Room) s m ([.ref a0, .int x1, .long x2, .long x4] : List Value).toArray below meth cx s.heap [] cells slots Q (F0 m 0 ls []) by rw [e_cells, e_slots]]
  have hl : lv_has ls 6 [(0, .ref a0), (1, .int x1), (2, .long x2), (4, .long x4)] := hl
  unfold x_K_reckonLongs at hw
  refine lv_iload_n hx hb h_K_reckonLongs_0 rfl (lv_at hl 1 rfl) ?_
  refine lv_bipush (v := 97) hx hb h_K_reckonLongs_1 (by decide) ?_
  refine lv_icmp_ne (tgt := 20) hx hb h_K_reckonLongs_3 (by decide) (fun c1 => ?_) (fun c1 => ?_)
  · skip
    replace hw := hw.2 c1
    refine lv_iload_n hx hb h_K_reckonLongs_20 rfl (lv_at hl 1 rfl) ?_
    refine lv_bipush (v := 101) hx hb h_K_reckonLongs_21 (by decide) ?_
    refine lv_icmp_ne (tgt := 40) hx hb h_K_reckonLongs_23 (by decide) (fun c2 => ?_) (fun c2 => ?_)
    · skip
      replace hw := hw.2 c2
      refine lv_iload_n hx hb h_K_reckonLongs_40 rfl (lv_at hl 1 rfl) ?_
      refine lv_bipush (v := 105) hx hb h_K_reckonLongs_41 (by decide) ?_
      refine lv_icmp_ne (tgt := 60) hx hb h_K_reckonLongs_43 (by decide) (fun c3 => ?_) (fun c3 => ?_)
      · skip
        replace hw := hw.2 c3
        refine lv_lload hx hb h_K_reckonLongs_60 (lv_at hl 3 rfl) ?_
        refine lv_lconst (v := 0) hx hb h_K_reckonLongs_62 (by decide) ?_
        refine W.lcmp hx hb h_K_reckonLongs_63 ?_
        refine lv_if_ne (tgt := 75) hx hb h_K_reckonLongs_64 (by decide) (fun c4 => ?_) (fun c4 => ?_)
        · skip
          replace hw := hw.2 c4
          refine lv_aload_n hx hb h_K_reckonLongs_75 rfl (lv_at hl 0 rfl) ?_
          obtain ⟨g5, hw⟩ := hw
          refine C_get C h 2 5 (v := va_rf (σ0.2.2.2.1 a0 5)) g5 rfl (Cn := R_K) (T := T_K) (N := 14) rfl (by decide) rfl uw_K (by decide) u_231 (fun _ q => q) h_K_reckonLongs_76 ?_
          refine lv_topq (fun b6 e_b6 => ?_)
          replace hw := hw b6 e_b6
          refine lv_lload_n hx hb h_K_reckonLongs_79 rfl (lv_at hl 2 rfl) ?_
          refine lv_lload hx hb h_K_reckonLongs_80 (lv_at hl 3 rfl) ?_
          refine lv_ldiv hx hb h_K_reckonLongs_82 hw.1 ?_
          replace hw := hw.2
          obtain ⟨r7, e_r7, hw⟩ := hw
          subst e_r7
          have hl : lv_has ls 6 [(0, .ref a0), (1, .int x1), (2, .long x2), (4, .long x4)] := hl
          refine W.eq (g2 := F0 m 83 ls [.long (x2 / x4), .ref r7]) rfl ?_
          obtain ⟨g8, hw⟩ := hw
          refine C_callVv (As := [.long (x2 / x4)]) (rest := []) C h (ci := 0) (Cn := R_C) (T := T_C) (N := 5) g8 rfl (by decide) (X_C_pushLong l dC dI ca s.heap σ0 r7 (x2 / x4) hw) (cwV 1 hts (gV hsub u_233 u_234 u_235 u_12 u_236) rfl rfl rfl (by decide +kernel) ⟨(Nat.le_of_ble_eq_true rfl), (Nat.le_of_ble_eq_true rfl)⟩) rfl hl.1 (Nat.le_of_ble_eq_true rfl) h_K_reckonLongs_83 (fun σ9 H locs cells slots hw9 h9 => ?_)
          clear hw h; have hw := hw9; have h := h9; clear hw9 h9
          refine W.eq (g2 := F0 m 86 ls []) rfl ?_
          exact hend σ9 _ _ _ _ _ _ hw h h_K_reckonLongs_86
        · skip
          replace hw := hw.1 c4
          refine lv_aload_n hx hb h_K_reckonLongs_67 rfl (lv_at hl 0 rfl) ?_
          refine lv_iconst (v := 1) hx hb h_K_reckonLongs_68 (by decide) ?_
          obtain ⟨g11, hw⟩ := hw
          refine C_putz C h 2 7 g11 (Cn := R_K) (T := T_K) (N := 14) rfl (by decide) rfl uw_K tok_K nm_K (by decide) rfl u_255 (fun _ q => q) (Or.inl rfl) (by decide +kernel) (by decide) h_K_reckonLongs_69 (fun H locs h => ?_)
          obtain ⟨σ12, e_σ12⟩ : ∃ z : CST, z = sI σ0 a0 7 (1 : Int32) := ⟨_, rfl⟩
          rw [← e_σ12] at h
          replace hw := hw σ12 e_σ12
          refine lv_goto (tgt := 86) hx hb h_K_reckonLongs_72 (by decide) ?_
          exact hend σ12 _ _ _ _ _ _ hw h h_K_reckonLongs_86
      · skip
        replace hw := hw.1 c3
        refine lv_aload_n hx hb h_K_reckonLongs_46 rfl (lv_at hl 0 rfl) ?_
        obtain ⟨g13, hw⟩ := hw
        refine C_get C h 2 5 (v := va_rf (σ0.2.2.2.1 a0 5)) g13 rfl (Cn := R_K) (T := T_K) (N := 14) rfl (by decide) rfl uw_K (by decide) u_231 (fun _ q => q) h_K_reckonLongs_47 ?_
        refine lv_topq (fun b14 e_b14 => ?_)
        replace hw := hw b14 e_b14
        refine lv_lload_n hx hb h_K_reckonLongs_50 rfl (lv_at hl 2 rfl) ?_
        refine lv_lload hx hb h_K_reckonLongs_51 (lv_at hl 3 rfl) ?_
        refine lv_lmul hx hb h_K_reckonLongs_53 ?_
        obtain ⟨r15, e_r15, hw⟩ := hw
        subst e_r15
        have hl : lv_has ls 6 [(0, .ref a0), (1, .int x1), (2, .long x2), (4, .long x4)] := hl
        refine W.eq (g2 := F0 m 54 ls [.long (x2 * x4), .ref r15]) rfl ?_
        obtain ⟨g16, hw⟩ := hw
        refine C_callVv (As := [.long (x2 * x4)]) (rest := []) C h (ci := 0) (Cn := R_C) (T := T_C) (N := 5) g16 rfl (by decide) (X_C_pushLong l dC dI ca s.heap σ0 r15 (x2 * x4) hw) (cwV 1 hts (gV hsub u_233 u_234 u_235 u_12 u_236) rfl rfl rfl (by decide +kernel) ⟨(Nat.le_of_ble_eq_true rfl), (Nat.le_of_ble_eq_true rfl)⟩) rfl hl.1 (Nat.le_of_ble_eq_true rfl) h_K_reckonLongs_54 (fun σ17 H locs cells slots hw9 h9 => ?_)
        clear hw h; have hw := hw9; have h := h9; clear hw9 h9
        refine W.eq (g2 := F0 m 57 ls []) rfl ?_
        refine lv_goto (tgt := 86) hx hb h_K_reckonLongs_57 (by decide) ?_
        exact hend σ17 _ _ _ _ _ _ hw h h_K_reckonLongs_86
    · skip
      replace hw := hw.1 c2
      refine lv_aload_n hx hb h_K_reckonLongs_26 rfl (lv_at hl 0 rfl) ?_
      obtain ⟨g19, hw⟩ := hw
      refine C_get C h 2 5 (v := va_rf (σ0.2.2.2.1 a0 5)) g19 rfl (Cn := R_K) (T := T_K) (N := 14) rfl (by decide) rfl uw_K (by decide) u_231 (fun _ q => q) h_K_reckonLongs_27 ?_
      refine lv_topq (fun b20 e_b20 => ?_)
      replace hw := hw b20 e_b20
      refine lv_lload_n hx hb h_K_reckonLongs_30 rfl (lv_at hl 2 rfl) ?_
      refine lv_lload hx hb h_K_reckonLongs_31 (lv_at hl 3 rfl) ?_
      refine lv_lsub hx hb h_K_reckonLongs_33 ?_
      obtain ⟨r21, e_r21, hw⟩ := hw
      subst e_r21
      have hl : lv_has ls 6 [(0, .ref a0), (1, .int x1), (2, .long x2), (4, .long x4)] := hl
      refine W.eq (g2 := F0 m 34 ls [.long (x2 - x4), .ref r21]) rfl ?_
      obtain ⟨g22, hw⟩ := hw
      refine C_callVv (As := [.long (x2 - x4)]) (rest := []) C h (ci := 0) (Cn := R_C) (T := T_C) (N := 5) g22 rfl (by decide) (X_C_pushLong l dC dI ca s.heap σ0 r21 (x2 - x4) hw) (cwV 1 hts (gV hsub u_233 u_234 u_235 u_12 u_236) rfl rfl rfl (by decide +kernel) ⟨(Nat.le_of_ble_eq_true rfl), (Nat.le_of_ble_eq_true rfl)⟩) rfl hl.1 (Nat.le_of_ble_eq_true rfl) h_K_reckonLongs_34 (fun σ23 H locs cells slots hw9 h9 => ?_)
      clear hw h; have hw := hw9; have h := h9; clear hw9 h9
      refine W.eq (g2 := F0 m 37 ls []) rfl ?_
      refine lv_goto (tgt := 86) hx hb h_K_reckonLongs_37 (by decide) ?_
      exact hend σ23 _ _ _ _ _ _ hw h h_K_reckonLongs_86
  · skip
    replace hw := hw.1 c1
    refine lv_aload_n hx hb h_K_reckonLongs_6 rfl (lv_at hl 0 rfl) ?_
    obtain ⟨g25, hw⟩ := hw
    refine C_get C h 2 5 (v := va_rf (σ0.2.2.2.1 a0 5)) g25 rfl (Cn := R_K) (T := T_K) (N := 14) rfl (by decide) rfl uw_K (by decide) u_231 (fun _ q => q) h_K_reckonLongs_7 ?_
    refine lv_topq (fun b26 e_b26 => ?_)
    replace hw := hw b26 e_b26
    refine lv_lload_n hx hb h_K_reckonLongs_10 rfl (lv_at hl 2 rfl) ?_
    refine lv_lload hx hb h_K_reckonLongs_11 (lv_at hl 3 rfl) ?_
    refine lv_ladd hx hb h_K_reckonLongs_13 ?_
    obtain ⟨r27, e_r27, hw⟩ := hw
    subst e_r27
    have hl : lv_has ls 6 [(0, .ref a0), (1, .int x1), (2, .long x2), (4, .long x4)] := hl
    refine W.eq (g2 := F0 m 14 ls [.long (x2 + x4), .ref r27]) rfl ?_
    obtain ⟨g28, hw⟩ := hw
    refine C_callVv (As := [.long (x2 + x4)]) (rest := []) C h (ci := 0) (Cn := R_C) (T := T_C) (N := 5) g28 rfl (by decide) (X_C_pushLong l dC dI ca s.heap σ0 r27 (x2 + x4) hw) (cwV 1 hts (gV hsub u_233 u_234 u_235 u_12 u_236) rfl rfl rfl (by decide +kernel) ⟨(Nat.le_of_ble_eq_true rfl), (Nat.le_of_ble_eq_true rfl)⟩) rfl hl.1 (Nat.le_of_ble_eq_true rfl) h_K_reckonLongs_14 (fun σ29 H locs cells slots hw9 h9 => ?_)
    clear hw h; have hw := hw9; have h := h9; clear hw9 h9
    refine W.eq (g2 := F0 m 17 ls []) rfl ?_
    refine lv_goto (tgt := 86) hx hb h_K_reckonLongs_17 (by decide) ?_
    exact hend σ29 _ _ _ _ _ _ hw h h_K_reckonLongs_86
abbrev g_K_reckon : MethodName := ⟨"MapFramer$Machine", "reckon", "(I)V"⟩
theorem u_299 : (Cond.methodLink "MapFramer$Machine" 272 ⟨"MapFramer$Machine", "reckonLongs", "(IJJ)V"⟩ : Cond) ∈ bigW := inB_7 207 (by decide +kernel) rfl
theorem u_300 : (Cond.instanceMethod ⟨"MapFramer$Machine", "reckonLongs", "(IJJ)V"⟩ : Cond) ∈ bigW := inB_7 209 (by decide +kernel) rfl
theorem u_301 : (Cond.selects "MapFramer$Machine" ⟨"MapFramer$Machine", "reckonLongs", "(IJJ)V"⟩ ⟨"MapFramer$Machine", "reckonLongs", "(IJJ)V"⟩ : Cond) ∈ bigW := inS (y := ⟨"MapFramer$Machine", "reckonLongs", "(IJJ)V"⟩) (n := 14) (List.mem_of_getElem? (i := 64) (by decide +kernel))
theorem u_302 : (Cond.code ⟨"MapFramer$Machine", "reckonLongs", "(IJJ)V"⟩ prog_6_method_19_code 6 none : Cond) ∈ bigW := inB_7 210 rfl rfl
theorem u_303 : (Cond.methodLink "MapFramer$Machine" 268 ⟨"MapFramer$Machine", "reckonInts", "(III)V"⟩ : Cond) ∈ bigW := inB_7 203 (by decide +kernel) rfl
theorem u_304 : (Cond.instanceMethod ⟨"MapFramer$Machine", "reckonInts", "(III)V"⟩ : Cond) ∈ bigW := inB_7 205 (by decide +kernel) rfl
theorem u_305 : (Cond.selects "MapFramer$Machine" ⟨"MapFramer$Machine", "reckonInts", "(III)V"⟩ ⟨"MapFramer$Machine", "reckonInts", "(III)V"⟩ : Cond) ∈ bigW := inS (y := ⟨"MapFramer$Machine", "reckonInts", "(III)V"⟩) (n := 14) (List.mem_of_getElem? (i := 63) (by decide +kernel))
theorem u_306 : (Cond.code ⟨"MapFramer$Machine", "reckonInts", "(III)V"⟩ prog_6_method_18_code 4 none : Cond) ∈ bigW := inB_7 206 rfl rfl
theorem u_307 : (Cond.constantLong "MapFramer$Machine" 116 (-1) : Cond) ∈ bigW := inB_7 202 (by decide +kernel) rfl
theorem h_K_reckon_0 : decode prog_6_method_17_code 0 = .ok (.iload_n 1, 1) := by decide +kernel
theorem h_K_reckon_1 : decode prog_6_method_17_code 1 = .ok (.sipush 133, 3) := by decide +kernel
theorem h_K_reckon_4 : decode prog_6_method_17_code 4 = .ok (.if_icmp .ne 21, 3) := by decide +kernel
theorem h_K_reckon_7 : decode prog_6_method_17_code 7 = .ok (.aload_n 0, 1) := by decide +kernel
theorem h_K_reckon_8 : decode prog_6_method_17_code 8 = .ok (.getfield 76, 3) := by decide +kernel
theorem h_K_reckon_11 : decode prog_6_method_17_code 11 = .ok (.aload_n 0, 1) := by decide +kernel
theorem h_K_reckon_12 : decode prog_6_method_17_code 12 = .ok (.getfield 76, 3) := by decide +kernel
theorem h_K_reckon_15 : decode prog_6_method_17_code 15 = .ok (.invokevirtual 248, 3) := by decide +kernel
theorem h_K_reckon_18 : decode prog_6_method_17_code 18 = .ok (.i2l, 1) := by decide +kernel
theorem h_K_reckon_19 : decode prog_6_method_17_code 19 = .ok (.invokevirtual 234, 3) := by decide +kernel
theorem h_K_reckon_22 : decode prog_6_method_17_code 22 = .ok (.goto 139, 3) := by decide +kernel
theorem h_K_reckon_25 : decode prog_6_method_17_code 25 = .ok (.iload_n 1, 1) := by decide +kernel
theorem h_K_reckon_26 : decode prog_6_method_17_code 26 = .ok (.sipush 136, 3) := by decide +kernel
theorem h_K_reckon_29 : decode prog_6_method_17_code 29 = .ok (.if_icmp .ne 22, 3) := by decide +kernel
theorem h_K_reckon_32 : decode prog_6_method_17_code 32 = .ok (.aload_n 0, 1) := by decide +kernel
theorem h_K_reckon_33 : decode prog_6_method_17_code 33 = .ok (.getfield 76, 3) := by decide +kernel
theorem h_K_reckon_36 : decode prog_6_method_17_code 36 = .ok (.aload_n 0, 1) := by decide +kernel
theorem h_K_reckon_37 : decode prog_6_method_17_code 37 = .ok (.getfield 76, 3) := by decide +kernel
theorem h_K_reckon_40 : decode prog_6_method_17_code 40 = .ok (.invokevirtual 241, 3) := by decide +kernel
theorem h_K_reckon_43 : decode prog_6_method_17_code 43 = .ok (.l2i, 1) := by decide +kernel
theorem h_K_reckon_44 : decode prog_6_method_17_code 44 = .ok (.i2l, 1) := by decide +kernel
theorem h_K_reckon_45 : decode prog_6_method_17_code 45 = .ok (.invokevirtual 147, 3) := by decide +kernel
theorem h_K_reckon_48 : decode prog_6_method_17_code 48 = .ok (.goto 113, 3) := by decide +kernel
theorem h_K_reckon_51 : decode prog_6_method_17_code 51 = .ok (.iload_n 1, 1) := by decide +kernel
theorem h_K_reckon_52 : decode prog_6_method_17_code 52 = .ok (.sipush 148, 3) := by decide +kernel
theorem h_K_reckon_55 : decode prog_6_method_17_code 55 = .ok (.if_icmp .ne 55, 3) := by decide +kernel
theorem h_K_reckon_58 : decode prog_6_method_17_code 58 = .ok (.aload_n 0, 1) := by decide +kernel
theorem h_K_reckon_59 : decode prog_6_method_17_code 59 = .ok (.getfield 76, 3) := by decide +kernel
theorem h_K_reckon_62 : decode prog_6_method_17_code 62 = .ok (.invokevirtual 241, 3) := by decide +kernel
theorem h_K_reckon_65 : decode prog_6_method_17_code 65 = .ok (.lstore_n 2, 1) := by decide +kernel
theorem h_K_reckon_66 : decode prog_6_method_17_code 66 = .ok (.aload_n 0, 1) := by decide +kernel
theorem h_K_reckon_67 : decode prog_6_method_17_code 67 = .ok (.getfield 76, 3) := by decide +kernel
theorem h_K_reckon_70 : decode prog_6_method_17_code 70 = .ok (.invokevirtual 241, 3) := by decide +kernel
theorem h_K_reckon_73 : decode prog_6_method_17_code 73 = .ok (.lstore 4, 2) := by decide +kernel
theorem h_K_reckon_75 : decode prog_6_method_17_code 75 = .ok (.aload_n 0, 1) := by decide +kernel
theorem h_K_reckon_76 : decode prog_6_method_17_code 76 = .ok (.getfield 76, 3) := by decide +kernel
theorem h_K_reckon_79 : decode prog_6_method_17_code 79 = .ok (.lload 4, 2) := by decide +kernel
theorem h_K_reckon_81 : decode prog_6_method_17_code 81 = .ok (.lload_n 2, 1) := by decide +kernel
theorem h_K_reckon_82 : decode prog_6_method_17_code 82 = .ok (.lcmp, 1) := by decide +kernel
theorem h_K_reckon_83 : decode prog_6_method_17_code 83 = .ok (.ifCond .ge 9, 3) := by decide +kernel
theorem h_K_reckon_86 : decode prog_6_method_17_code 86 = .ok (.ldc2_w 116, 3) := by decide +kernel
theorem h_K_reckon_89 : decode prog_6_method_17_code 89 = .ok (.goto 15, 3) := by decide +kernel
theorem h_K_reckon_92 : decode prog_6_method_17_code 92 = .ok (.lload 4, 2) := by decide +kernel
theorem h_K_reckon_94 : decode prog_6_method_17_code 94 = .ok (.lload_n 2, 1) := by decide +kernel
theorem h_K_reckon_95 : decode prog_6_method_17_code 95 = .ok (.lcmp, 1) := by decide +kernel
theorem h_K_reckon_96 : decode prog_6_method_17_code 96 = .ok (.ifCond .ne 7, 3) := by decide +kernel
theorem h_K_reckon_99 : decode prog_6_method_17_code 99 = .ok (.lconst 0, 1) := by decide +kernel
theorem h_K_reckon_100 : decode prog_6_method_17_code 100 = .ok (.goto 4, 3) := by decide +kernel
theorem h_K_reckon_103 : decode prog_6_method_17_code 103 = .ok (.lconst 1, 1) := by decide +kernel
theorem h_K_reckon_104 : decode prog_6_method_17_code 104 = .ok (.invokevirtual 147, 3) := by decide +kernel
theorem h_K_reckon_107 : decode prog_6_method_17_code 107 = .ok (.goto 54, 3) := by decide +kernel
theorem h_K_reckon_110 : decode prog_6_method_17_code 110 = .ok (.iload_n 1, 1) := by decide +kernel
theorem h_K_reckon_111 : decode prog_6_method_17_code 111 = .ok (.iconst 1, 1) := by decide +kernel
theorem h_K_reckon_112 : decode prog_6_method_17_code 112 = .ok (.iand, 1) := by decide +kernel
theorem h_K_reckon_113 : decode prog_6_method_17_code 113 = .ok (.ifCond .ne 27, 3) := by decide +kernel
theorem h_K_reckon_116 : decode prog_6_method_17_code 116 = .ok (.aload_n 0, 1) := by decide +kernel
theorem h_K_reckon_117 : decode prog_6_method_17_code 117 = .ok (.getfield 76, 3) := by decide +kernel
theorem h_K_reckon_120 : decode prog_6_method_17_code 120 = .ok (.invokevirtual 248, 3) := by decide +kernel
theorem h_K_reckon_123 : decode prog_6_method_17_code 123 = .ok (.istore_n 2, 1) := by decide +kernel
theorem h_K_reckon_124 : decode prog_6_method_17_code 124 = .ok (.aload_n 0, 1) := by decide +kernel
theorem h_K_reckon_125 : decode prog_6_method_17_code 125 = .ok (.iload_n 1, 1) := by decide +kernel
theorem h_K_reckon_126 : decode prog_6_method_17_code 126 = .ok (.aload_n 0, 1) := by decide +kernel
theorem h_K_reckon_127 : decode prog_6_method_17_code 127 = .ok (.getfield 76, 3) := by decide +kernel
theorem h_K_reckon_130 : decode prog_6_method_17_code 130 = .ok (.invokevirtual 248, 3) := by decide +kernel
theorem h_K_reckon_133 : decode prog_6_method_17_code 133 = .ok (.iload_n 2, 1) := by decide +kernel
theorem h_K_reckon_134 : decode prog_6_method_17_code 134 = .ok (.invokevirtual 268, 3) := by decide +kernel
theorem h_K_reckon_137 : decode prog_6_method_17_code 137 = .ok (.goto 24, 3) := by decide +kernel
theorem h_K_reckon_140 : decode prog_6_method_17_code 140 = .ok (.aload_n 0, 1) := by decide +kernel
theorem h_K_reckon_141 : decode prog_6_method_17_code 141 = .ok (.getfield 76, 3) := by decide +kernel
theorem h_K_reckon_144 : decode prog_6_method_17_code 144 = .ok (.invokevirtual 241, 3) := by decide +kernel
theorem h_K_reckon_147 : decode prog_6_method_17_code 147 = .ok (.lstore_n 2, 1) := by decide +kernel
theorem h_K_reckon_148 : decode prog_6_method_17_code 148 = .ok (.aload_n 0, 1) := by decide +kernel
theorem h_K_reckon_149 : decode prog_6_method_17_code 149 = .ok (.iload_n 1, 1) := by decide +kernel
theorem h_K_reckon_150 : decode prog_6_method_17_code 150 = .ok (.aload_n 0, 1) := by decide +kernel
theorem h_K_reckon_151 : decode prog_6_method_17_code 151 = .ok (.getfield 76, 3) := by decide +kernel
theorem h_K_reckon_154 : decode prog_6_method_17_code 154 = .ok (.invokevirtual 241, 3) := by decide +kernel
theorem h_K_reckon_157 : decode prog_6_method_17_code 157 = .ok (.lload_n 2, 1) := by decide +kernel
theorem h_K_reckon_158 : decode prog_6_method_17_code 158 = .ok (.invokevirtual 272, 3) := by decide +kernel
theorem h_K_reckon_161 : decode prog_6_method_17_code 161 = .ok (.return_, 1) := by decide +kernel
def x_K_reckon_104 (a0 : Nat) (P : CST → Prop) (s0 : Int64) (s1 : Option Nat) (σ : CST) : Prop := (∃ r1 : Nat, s1 = some r1 ∧ (σ.1 r1 = some (0, 0) ∧ (x_C_push r1 s0 σ (fun σ3 => P σ3))))
def x_K_reckon (a0 : Nat) (x1 : Int32) (σ0 : CST) (P : CST → Prop) : Prop := ((x1 = 133 → σ0.1 a0 = some (2, 0) ∧ (∀ b68 : Option Nat, b68 = (σ0.2.2.2.1 a0 5) → ∀ b69 : Option Nat, b69 = (σ0.2.2.2.1 a0 5) → (∃ r70 : Nat, b69 = some r70 ∧ (σ0.1 r70 = some (0, 0) ∧ (x_C_popInt r70 σ0 (fun r73 σ72 => (∃ r74 : Nat, b68 = some r74 ∧ (σ72.1 r74 = some (0, 0) ∧ (x_C_pushLong r74 ((r73 : Int32).toInt64) σ72 (fun σ76 => P σ76)))))))))) ∧ (¬ x1 = 133 → ((x1 = 136 → σ0.1 a0 = some (2, 0) ∧ (∀ b57 : Option Nat, b57 = (σ0.2.2.2.1 a0 5) → ∀ b58 : Option Nat, b58 = (σ0.2.2.2.1 a0 5) → (∃ r59 : Nat, b58 = some r59 ∧ (σ0.1 r59 = some (0, 0) ∧ (x_C_popLong r59 σ0 (fun r62 σ61 => (∃ r63 : Nat, b57 = some r63 ∧ (σ61.1 r63 = some (0, 0) ∧ (x_C_push r63 ((((r62 : Int64).toInt32) : Int32).toInt64) σ61 (fun σ65 => P σ65)))))))))) ∧ (¬ x1 = 136 → ((x1 = 148 → σ0.1 a0 = some (2, 0) ∧ (∀ b41 : Option Nat, b41 = (σ0.2.2.2.1 a0 5) → (∃ r42 : Nat, b41 = some r42 ∧ (σ0.1 r42 = some (0, 0) ∧ (x_C_popLong r42 σ0 (fun r45 σ44 => σ44.1 a0 = some (2, 0) ∧ (∀ b47 : Option Nat, b47 = (σ44.2.2.2.1 a0 5) → (∃ r48 : Nat, b47 = some r48 ∧ (σ44.1 r48 = some (0, 0) ∧ (x_C_popLong r48 σ44 (fun r51 σ50 => σ50.1 a0 = some (2, 0) ∧ (∀ b53 : Option Nat, b53 = (σ50.2.2.2.1 a0 5) → ((0 ≤ (lg_cmp r51 r45) → (((lg_cmp r51 r45) = 0 → x_K_reckon_104 a0 P 0 b53 σ50) ∧ (¬ (lg_cmp r51 r45) = 0 → x_K_reckon_104 a0 P 1 b53 σ50))) ∧ (¬ 0 ≤ (lg_cmp r51 r45) → x_K_reckon_104 a0 P (-1) b53 σ50)))))))))))))) ∧ (¬ x1 = 148 → ∀ b8 : Int32, b8 = (x1 &&& 1) → ((b8 = 0 → σ0.1 a0 = some (2, 0) ∧ (∀ b26 : Option Nat, b26 = (σ0.2.2.2.1 a0 5) → (∃ r27 : Nat, b26 = some r27 ∧ (σ0.1 r27 = some (0, 0) ∧ (x_C_popInt r27 σ0 (fun r30 σ29 => σ29.1 a0 = some (2, 0) ∧ (∀ b32 : Option Nat, b32 = (σ29.2.2.2.1 a0 5) → (∃ r33 : Nat, b32 = some r33 ∧ (σ29.1 r33 = some (0, 0) ∧ (x_C_popInt r33 σ29 (fun r36 σ35 => σ35.1 a0 = some (2, 0) ∧ (x_K_reckonInts a0 x1 r36 r30 σ35 (fun σ38 => P σ38))))))))))))) ∧ (¬ b8 = 0 → σ0.1 a0 = some (2, 0) ∧ (∀ b11 : Option Nat, b11 = (σ0.2.2.2.1 a0 5) → (∃ r12 : Nat, b11 = some r12 ∧ (σ0.1 r12 = some (0, 0) ∧ (x_C_popLong r12 σ0 (fun r15 σ14 => σ14.1 a0 = some (2, 0) ∧ (∀ b17 : Option Nat, b17 = (σ14.2.2.2.1 a0 5) → (∃ r18 : Nat, b17 = some r18 ∧ (σ14.1 r18 = some (0, 0) ∧ (x_C_popLong r18 σ14 (fun r21 σ20 => σ20.1 a0 = some (2, 0) ∧ (x_K_reckonLongs a0 x1 r21 r15 σ20 (fun σ23 => P σ23))))))))))))))))))))
set_option maxHeartbeats 4000000 in
set_option maxRecDepth 100000 in
theorem X_K_reckon (l : Launch) (dC : Nat → ClassId) (dI : Nat → Nat → Nat) (ca : Nat → ClassId) (H0 : Heap) (σ0 : CST) (a0 : Nat) (x1 : Int32) {P : CST → Prop} (hw : x_K_reckon a0 x1 σ0 P) : Met l g_K_reckon (mW g_K_reckon prog_6_method_17_code 6 none) ({ frames := 3, cells := σ0.2.2.2.2.1, slots := σ0.2.2.2.2.2.1, locals := 69 } : Room) (va_Pc [.ref a0, .int x1] (CPre (dC, dI) ca σ0 H0)) (va_Qv P (CB (dC, dI) ca σ0 H0) (cA σ0 H0.size)) σ0.2.2.2.2.1 σ0.2.2.2.2.2.1 (cA σ0 H0.size) := by
  refine C_ofv (by decide +kernel) rfl rfl rfl (Nat.le_of_ble_eq_true rfl) ?_
  intro p e s m below meth cx Q A ls C hnm hend hH0 h hl
  subst hH0
  have C0 := C
  obtain ⟨⟨hx, hb, hml, hown, hts⟩, hsub⟩ := C0
  obtain ⟨cells, e_cells⟩ : ∃ z : Nat, z = 0 := ⟨_, rfl⟩
  obtain ⟨slots, e_slots⟩ : ∃ z : Nat, z = 0 := ⟨_, rfl⟩
  have h : CH (dC, dI) A ca ({ frames := 3, cells := σ0.2.2.2.2.1, slots := σ0.2.2.2.2.2.1, locals := 69 } : Room) σ0.2.2.2.2.2.2 σ0 s s.heap [] cells slots := by rw [e_cells, e_slots]; exact h
  show W p l e ({ frames := 3, cells := σ0.2.2.2.2.1, slots := σ0.2.2.2.2.2.1, locals := 69 } : Room) s m ([.ref a0, .int x1] : List Value).toArray below meth cx s.heap [] 0 0 Q (F0 m 0 ls [])
  rw [show W p l e ({ frames := 3, cells := σ0.2.2.2.2.1, slots := σ0.2.2.2.2.2.1, locals := 69 } : Room) s m ([.ref a0, .int x1] : List Value).toArray below meth cx s.heap [] 0 0 Q (F0 m 0 ls []) = W p l e ({ frames := 3, cells := σ0.2.2.2.2.1, slots := σ0.2.2.2.2.2.1, locals := 69 } : Room) s m ([.ref a0, .int x1] : List Value).toArray below meth cx s.heap [] cells slots Q (F0 m 0 ls []) by rw [e_cells, e_slots]]
  have K_104 : ∀ (u9 : Unit), ∀ (s0 : Int64) (s1 : Option Nat) (σ : CST) (H : Heap) (locs : List Loc) (cells slots : Nat) (ls : Array Slot), x_K_reckon_104 a0 P s0 s1 σ → CH (dC, dI) A ca ({ frames := 3, cells := σ0.2.2.2.2.1, slots := σ0.2.2.2.2.2.1, locals := 69 } : Room) σ0.2.2.2.2.2.2 σ s H locs cells slots → lv_has ls 6 [] → W p l e ({ frames := 3, cells := σ0.2.2.2.2.1, slots := σ0.2.2.2.2.2.1, locals := 69 } : Room) s m ([.ref a0, .int x1] : List Value).toArray below meth cx H locs cells slots Q (F0 m 104 ls [.long s0, va_rf s1]) := by
    intro u9 s0 s1 σ H locs cells slots ls hw h hl
    unfold x_K_reckon_104 at hw
    obtain ⟨r1, e_r1, hw⟩ := hw
    subst e_r1
    have hl : lv_has ls 6 [] := hl
    refine W.eq (g2 := F0 m 104 ls [.long s0, .ref r1]) rfl ?_
    obtain ⟨g2, hw⟩ := hw
    refine C_callVv (As := [.long s0]) (rest := []) C h (ci := 0) (Cn := R_C) (T := T_C) (N := 5) g2 rfl (by decide) (X_C_push l dC dI ca H σ r1 s0 hw) (cwV 1 hts (gV hsub u_232 u_10 u_11 u_12 u_13) rfl rfl rfl (by decide +kernel) ⟨(Nat.le_of_ble_eq_true rfl), (Nat.le_of_ble_eq_true rfl)⟩) rfl hl.1 (Nat.le_of_ble_eq_true rfl) h_K_reckon_104 (fun σ3 H locs cells slots hw9 h9 => ?_)
    clear hw h; have hw := hw9; have h := h9; clear hw9 h9
    refine W.eq (g2 := F0 m 107 ls []) rfl ?_
    refine lv_goto (tgt := 161) hx hb h_K_reckon_107 (by decide) ?_
    exact hend σ3 _ _ _ _ _ _ hw h h_K_reckon_161
  have hl : lv_has ls 6 [(0, .ref a0), (1, .int x1)] := hl
  unfold x_K_reckon at hw
  refine lv_iload_n hx hb h_K_reckon_0 rfl (lv_at hl 1 rfl) ?_
  refine lv_sipush (v := 133) hx hb h_K_reckon_1 (by decide) ?_
  refine lv_icmp_ne (tgt := 25) hx hb h_K_reckon_4 (by decide) (fun c5 => ?_) (fun c5 => ?_)
  · skip
    replace hw := hw.2 c5
    refine lv_iload_n hx hb h_K_reckon_25 rfl (lv_at hl 1 rfl) ?_
    refine lv_sipush (v := 136) hx hb h_K_reckon_26 (by decide) ?_
    refine lv_icmp_ne (tgt := 51) hx hb h_K_reckon_29 (by decide) (fun c6 => ?_) (fun c6 => ?_)
    · skip
      replace hw := hw.2 c6
      refine lv_iload_n hx hb h_K_reckon_51 rfl (lv_at hl 1 rfl) ?_
      refine lv_sipush (v := 148) hx hb h_K_reckon_52 (by decide) ?_
      refine lv_icmp_ne (tgt := 110) hx hb h_K_reckon_55 (by decide) (fun c7 => ?_) (fun c7 => ?_)
      · skip
        replace hw := hw.2 c7
        refine lv_iload_n hx hb h_K_reckon_110 rfl (lv_at hl 1 rfl) ?_
        refine lv_iconst (v := 1) hx hb h_K_reckon_111 (by decide) ?_
        refine lv_iand hx hb h_K_reckon_112 ?_
        refine lv_topi (fun b8 e_b8 => ?_)
        replace hw := hw b8 e_b8
        refine lv_if_ne (tgt := 140) hx hb h_K_reckon_113 (by decide) (fun c9 => ?_) (fun c9 => ?_)
        · skip
          replace hw := hw.2 c9
          refine lv_aload_n hx hb h_K_reckon_140 rfl (lv_at hl 0 rfl) ?_
          obtain ⟨g10, hw⟩ := hw
          refine C_get C h 2 5 (v := va_rf (σ0.2.2.2.1 a0 5)) g10 rfl (Cn := R_K) (T := T_K) (N := 14) rfl (by decide) rfl uw_K (by decide) u_231 (fun _ q => q) h_K_reckon_141 ?_
          refine lv_topq (fun b11 e_b11 => ?_)
          replace hw := hw b11 e_b11
          obtain ⟨r12, e_r12, hw⟩ := hw
          subst e_r12
          have hl : lv_has ls 6 [(0, .ref a0), (1, .int x1)] := hl
          refine W.eq (g2 := F0 m 144 ls [.ref r12]) rfl ?_
          obtain ⟨g13, hw⟩ := hw
          refine C_callVl (As := []) (rest := []) C h (ci := 0) (Cn := R_C) (T := T_C) (N := 5) g13 rfl (by decide) (X_C_popLong l dC dI ca s.heap σ0 r12 hw) (cwV 0 hts (gV hsub u_266 u_267 u_268 u_12 u_269) rfl rfl rfl (by decide +kernel) ⟨(Nat.le_of_ble_eq_true rfl), (Nat.le_of_ble_eq_true rfl)⟩) rfl hl.1 (Nat.le_of_ble_eq_true rfl) h_K_reckon_144 (fun r15 σ14 H locs cells slots hw9 h9 => ?_)
          clear hw h; have hw := hw9; have h := h9; clear hw9 h9
          refine W.eq (g2 := F0 m 147 ls [.long r15]) rfl ?_
          refine lv_lstore_n (i := 2) (lv' := [(2, .long r15), (0, .ref a0), (1, .int x1)]) hx hb h_K_reckon_147 rfl hl (by decide) rfl (fun ls hl => ?_)
          refine lv_aload_n hx hb h_K_reckon_148 rfl (lv_at hl 1 rfl) ?_
          refine lv_iload_n hx hb h_K_reckon_149 rfl (lv_at hl 2 rfl) ?_
          refine lv_aload_n hx hb h_K_reckon_150 rfl (lv_at hl 1 rfl) ?_
          obtain ⟨g16, hw⟩ := hw
          refine C_get C h 2 5 (v := va_rf (σ14.2.2.2.1 a0 5)) g16 rfl (Cn := R_K) (T := T_K) (N := 14) rfl (by decide) rfl uw_K (by decide) u_231 (fun _ q => q) h_K_reckon_151 ?_
          refine lv_topq (fun b17 e_b17 => ?_)
          replace hw := hw b17 e_b17
          obtain ⟨r18, e_r18, hw⟩ := hw
          subst e_r18
          have hl : lv_has ls 6 [(2, .long r15), (0, .ref a0), (1, .int x1)] := hl
          refine W.eq (g2 := F0 m 154 ls [.ref r18, .int x1, .ref a0]) rfl ?_
          obtain ⟨g19, hw⟩ := hw
          refine C_callVl (As := []) (rest := [.int x1, .ref a0]) C h (ci := 0) (Cn := R_C) (T := T_C) (N := 5) g19 rfl (by decide) (X_C_popLong l dC dI ca H σ14 r18 hw) (cwV 0 hts (gV hsub u_266 u_267 u_268 u_12 u_269) rfl rfl rfl (by decide +kernel) ⟨(Nat.le_of_ble_eq_true rfl), (Nat.le_of_ble_eq_true rfl)⟩) rfl hl.1 (Nat.le_of_ble_eq_true rfl) h_K_reckon_154 (fun r21 σ20 H locs cells slots hw9 h9 => ?_)
          clear hw h; have hw := hw9; have h := h9; clear hw9 h9
          refine W.eq (g2 := F0 m 157 ls [.long r21, .int x1, .ref a0]) rfl ?_
          refine lv_lload_n hx hb h_K_reckon_157 rfl (lv_at hl 0 rfl) ?_
          obtain ⟨g22, hw⟩ := hw
          refine C_callVv (As := [.int x1, .long r21, .long r15]) (rest := []) C h (ci := 2) (Cn := R_K) (T := T_K) (N := 14) g22 rfl (by decide) (X_K_reckonLongs l dC dI ca H σ20 a0 x1 r21 r15 hw) (cwV 3 hts (gV hsub u_299 u_300 u_301 u_260 u_302) rfl rfl rfl (by decide +kernel) ⟨(Nat.le_of_ble_eq_true rfl), (Nat.le_of_ble_eq_true rfl)⟩) rfl hl.1 (Nat.le_of_ble_eq_true rfl) h_K_reckon_158 (fun σ23 H locs cells slots hw9 h9 => ?_)
          clear hw h; have hw := hw9; have h := h9; clear hw9 h9
          refine W.eq (g2 := F0 m 161 ls []) rfl ?_
          exact hend σ23 _ _ _ _ _ _ hw h h_K_reckon_161
        · skip
          replace hw := hw.1 c9
          refine lv_aload_n hx hb h_K_reckon_116 rfl (lv_at hl 0 rfl) ?_
          obtain ⟨g25, hw⟩ := hw
          refine C_get C h 2 5 (v := va_rf (σ0.2.2.2.1 a0 5)) g25 rfl (Cn := R_K) (T := T_K) (N := 14) rfl (by decide) rfl uw_K (by decide) u_231 (fun _ q => q) h_K_reckon_117 ?_
          refine lv_topq (fun b26 e_b26 => ?_)
          replace hw := hw b26 e_b26
          obtain ⟨r27, e_r27, hw⟩ := hw
          subst e_r27
          have hl : lv_has ls 6 [(0, .ref a0), (1, .int x1)] := hl
          refine W.eq (g2 := F0 m 120 ls [.ref r27]) rfl ?_
          obtain ⟨g28, hw⟩ := hw
          refine C_callVi (As := []) (rest := []) C h (ci := 0) (Cn := R_C) (T := T_C) (N := 5) g28 rfl (by decide) (X_C_popInt l dC dI ca s.heap σ0 r27 hw) (cwV 0 hts (gV hsub u_246 u_247 u_248 u_12 u_249) rfl rfl rfl (by decide +kernel) ⟨(Nat.le_of_ble_eq_true rfl), (Nat.le_of_ble_eq_true rfl)⟩) rfl hl.1 (Nat.le_of_ble_eq_true rfl) h_K_reckon_120 (fun r30 σ29 H locs cells slots hw9 h9 => ?_)
          clear hw h; have hw := hw9; have h := h9; clear hw9 h9
          refine W.eq (g2 := F0 m 123 ls [.int r30]) rfl ?_
          refine lv_istore_n (i := 2) (lv' := [(2, .int r30), (0, .ref a0), (1, .int x1)]) hx hb h_K_reckon_123 rfl hl (by decide) rfl (fun ls hl => ?_)
          refine lv_aload_n hx hb h_K_reckon_124 rfl (lv_at hl 1 rfl) ?_
          refine lv_iload_n hx hb h_K_reckon_125 rfl (lv_at hl 2 rfl) ?_
          refine lv_aload_n hx hb h_K_reckon_126 rfl (lv_at hl 1 rfl) ?_
          obtain ⟨g31, hw⟩ := hw
          refine C_get C h 2 5 (v := va_rf (σ29.2.2.2.1 a0 5)) g31 rfl (Cn := R_K) (T := T_K) (N := 14) rfl (by decide) rfl uw_K (by decide) u_231 (fun _ q => q) h_K_reckon_127 ?_
          refine lv_topq (fun b32 e_b32 => ?_)
          replace hw := hw b32 e_b32
          obtain ⟨r33, e_r33, hw⟩ := hw
          subst e_r33
          have hl : lv_has ls 6 [(2, .int r30), (0, .ref a0), (1, .int x1)] := hl
          refine W.eq (g2 := F0 m 130 ls [.ref r33, .int x1, .ref a0]) rfl ?_
          obtain ⟨g34, hw⟩ := hw
          refine C_callVi (As := []) (rest := [.int x1, .ref a0]) C h (ci := 0) (Cn := R_C) (T := T_C) (N := 5) g34 rfl (by decide) (X_C_popInt l dC dI ca H σ29 r33 hw) (cwV 0 hts (gV hsub u_246 u_247 u_248 u_12 u_249) rfl rfl rfl (by decide +kernel) ⟨(Nat.le_of_ble_eq_true rfl), (Nat.le_of_ble_eq_true rfl)⟩) rfl hl.1 (Nat.le_of_ble_eq_true rfl) h_K_reckon_130 (fun r36 σ35 H locs cells slots hw9 h9 => ?_)
          clear hw h; have hw := hw9; have h := h9; clear hw9 h9
          refine W.eq (g2 := F0 m 133 ls [.int r36, .int x1, .ref a0]) rfl ?_
          refine lv_iload_n hx hb h_K_reckon_133 rfl (lv_at hl 0 rfl) ?_
          obtain ⟨g37, hw⟩ := hw
          refine C_callVv (As := [.int x1, .int r36, .int r30]) (rest := []) C h (ci := 2) (Cn := R_K) (T := T_K) (N := 14) g37 rfl (by decide) (X_K_reckonInts l dC dI ca H σ35 a0 x1 r36 r30 hw) (cwV 3 hts (gV hsub u_303 u_304 u_305 u_260 u_306) rfl rfl rfl (by decide +kernel) ⟨(Nat.le_of_ble_eq_true rfl), (Nat.le_of_ble_eq_true rfl)⟩) rfl hl.1 (Nat.le_of_ble_eq_true rfl) h_K_reckon_134 (fun σ38 H locs cells slots hw9 h9 => ?_)
          clear hw h; have hw := hw9; have h := h9; clear hw9 h9
          refine W.eq (g2 := F0 m 137 ls []) rfl ?_
          refine lv_goto (tgt := 161) hx hb h_K_reckon_137 (by decide) ?_
          exact hend σ38 _ _ _ _ _ _ hw h h_K_reckon_161
      · skip
        replace hw := hw.1 c7
        refine lv_aload_n hx hb h_K_reckon_58 rfl (lv_at hl 0 rfl) ?_
        obtain ⟨g40, hw⟩ := hw
        refine C_get C h 2 5 (v := va_rf (σ0.2.2.2.1 a0 5)) g40 rfl (Cn := R_K) (T := T_K) (N := 14) rfl (by decide) rfl uw_K (by decide) u_231 (fun _ q => q) h_K_reckon_59 ?_
        refine lv_topq (fun b41 e_b41 => ?_)
        replace hw := hw b41 e_b41
        obtain ⟨r42, e_r42, hw⟩ := hw
        subst e_r42
        have hl : lv_has ls 6 [(0, .ref a0), (1, .int x1)] := hl
        refine W.eq (g2 := F0 m 62 ls [.ref r42]) rfl ?_
        obtain ⟨g43, hw⟩ := hw
        refine C_callVl (As := []) (rest := []) C h (ci := 0) (Cn := R_C) (T := T_C) (N := 5) g43 rfl (by decide) (X_C_popLong l dC dI ca s.heap σ0 r42 hw) (cwV 0 hts (gV hsub u_266 u_267 u_268 u_12 u_269) rfl rfl rfl (by decide +kernel) ⟨(Nat.le_of_ble_eq_true rfl), (Nat.le_of_ble_eq_true rfl)⟩) rfl hl.1 (Nat.le_of_ble_eq_true rfl) h_K_reckon_62 (fun r45 σ44 H locs cells slots hw9 h9 => ?_)
        clear hw h; have hw := hw9; have h := h9; clear hw9 h9
        refine W.eq (g2 := F0 m 65 ls [.long r45]) rfl ?_
        refine lv_lstore_n (i := 2) (lv' := [(2, .long r45), (0, .ref a0), (1, .int x1)]) hx hb h_K_reckon_65 rfl hl (by decide) rfl (fun ls hl => ?_)
        refine lv_aload_n hx hb h_K_reckon_66 rfl (lv_at hl 1 rfl) ?_
        obtain ⟨g46, hw⟩ := hw
        refine C_get C h 2 5 (v := va_rf (σ44.2.2.2.1 a0 5)) g46 rfl (Cn := R_K) (T := T_K) (N := 14) rfl (by decide) rfl uw_K (by decide) u_231 (fun _ q => q) h_K_reckon_67 ?_
        refine lv_topq (fun b47 e_b47 => ?_)
        replace hw := hw b47 e_b47
        obtain ⟨r48, e_r48, hw⟩ := hw
        subst e_r48
        have hl : lv_has ls 6 [(2, .long r45), (0, .ref a0), (1, .int x1)] := hl
        refine W.eq (g2 := F0 m 70 ls [.ref r48]) rfl ?_
        obtain ⟨g49, hw⟩ := hw
        refine C_callVl (As := []) (rest := []) C h (ci := 0) (Cn := R_C) (T := T_C) (N := 5) g49 rfl (by decide) (X_C_popLong l dC dI ca H σ44 r48 hw) (cwV 0 hts (gV hsub u_266 u_267 u_268 u_12 u_269) rfl rfl rfl (by decide +kernel) ⟨(Nat.le_of_ble_eq_true rfl), (Nat.le_of_ble_eq_true rfl)⟩) rfl hl.1 (Nat.le_of_ble_eq_true rfl) h_K_reckon_70 (fun r51 σ50 H locs cells slots hw9 h9 => ?_)
        clear hw h; have hw := hw9; have h := h9; clear hw9 h9
        refine W.eq (g2 := F0 m 73 ls [.long r51]) rfl ?_
        refine lv_lstore (lv' := [(4, .long r51), (2, .long r45), (0, .ref a0), (1, .int x1)]) hx hb h_K_reckon_73 hl (by decide) rfl (fun ls hl => ?_)
        refine lv_aload_n hx hb h_K_reckon_75 rfl (lv_at hl 2 rfl) ?_
        obtain ⟨g52, hw⟩ := hw
        refine C_get C h 2 5 (v := va_rf (σ50.2.2.2.1 a0 5)) g52 rfl (Cn := R_K) (T := T_K) (N := 14) rfl (by decide) rfl uw_K (by decide) u_231 (fun _ q => q) h_K_reckon_76 ?_
        refine lv_topq (fun b53 e_b53 => ?_)
        replace hw := hw b53 e_b53
        refine lv_lload hx hb h_K_reckon_79 (lv_at hl 0 rfl) ?_
        refine lv_lload_n hx hb h_K_reckon_81 rfl (lv_at hl 1 rfl) ?_
        refine W.lcmp hx hb h_K_reckon_82 ?_
        refine lv_if_ge (tgt := 92) hx hb h_K_reckon_83 (by decide) (fun c54 => ?_) (fun c54 => ?_)
        · skip
          replace hw := hw.1 c54
          refine lv_lload hx hb h_K_reckon_92 (lv_at hl 0 rfl) ?_
          refine lv_lload_n hx hb h_K_reckon_94 rfl (lv_at hl 1 rfl) ?_
          refine W.lcmp hx hb h_K_reckon_95 ?_
          refine lv_if_ne (tgt := 103) hx hb h_K_reckon_96 (by decide) (fun c55 => ?_) (fun c55 => ?_)
          · skip
            replace hw := hw.2 c55
            refine lv_lconst (v := 1) hx hb h_K_reckon_103 (by decide) ?_
            exact K_104 () 1 b53 σ50 _ _ _ _ _ hw h (lv_sub hl [] rfl)
          · skip
            replace hw := hw.1 c55
            refine lv_lconst (v := 0) hx hb h_K_reckon_99 (by decide) ?_
            refine lv_goto (tgt := 104) hx hb h_K_reckon_100 (by decide) ?_
            exact K_104 () 0 b53 σ50 _ _ _ _ _ hw h (lv_sub hl [] rfl)
        · skip
          replace hw := hw.2 c54
          refine lv_ldc2 (v := (-1)) hx hb hown (hts _ (hsub _ u_307)) h_K_reckon_86 ?_
          refine lv_goto (tgt := 104) hx hb h_K_reckon_89 (by decide) ?_
          exact K_104 () (-1) b53 σ50 _ _ _ _ _ hw h (lv_sub hl [] rfl)
    · skip
      replace hw := hw.1 c6
      refine lv_aload_n hx hb h_K_reckon_32 rfl (lv_at hl 0 rfl) ?_
      obtain ⟨g56, hw⟩ := hw
      refine C_get C h 2 5 (v := va_rf (σ0.2.2.2.1 a0 5)) g56 rfl (Cn := R_K) (T := T_K) (N := 14) rfl (by decide) rfl uw_K (by decide) u_231 (fun _ q => q) h_K_reckon_33 ?_
      refine lv_topq (fun b57 e_b57 => ?_)
      replace hw := hw b57 e_b57
      refine lv_aload_n hx hb h_K_reckon_36 rfl (lv_at hl 0 rfl) ?_
      refine C_get C h 2 5 (v := va_rf (σ0.2.2.2.1 a0 5)) g56 rfl (Cn := R_K) (T := T_K) (N := 14) rfl (by decide) rfl uw_K (by decide) u_231 (fun _ q => q) h_K_reckon_37 ?_
      refine lv_topq (fun b58 e_b58 => ?_)
      replace hw := hw b58 e_b58
      obtain ⟨r59, e_r59, hw⟩ := hw
      subst e_r59
      have hl : lv_has ls 6 [(0, .ref a0), (1, .int x1)] := hl
      refine W.eq (g2 := F0 m 40 ls [.ref r59, va_rf b57]) rfl ?_
      obtain ⟨g60, hw⟩ := hw
      refine C_callVl (As := []) (rest := [va_rf b57]) C h (ci := 0) (Cn := R_C) (T := T_C) (N := 5) g60 rfl (by decide) (X_C_popLong l dC dI ca s.heap σ0 r59 hw) (cwV 0 hts (gV hsub u_266 u_267 u_268 u_12 u_269) rfl rfl rfl (by decide +kernel) ⟨(Nat.le_of_ble_eq_true rfl), (Nat.le_of_ble_eq_true rfl)⟩) rfl hl.1 (by simp only [List.map_cons, List.map_nil, List.sum_cons, List.sum_nil, cq_cat]; exact Nat.le_of_ble_eq_true rfl) h_K_reckon_40 (fun r62 σ61 H locs cells slots hw9 h9 => ?_)
      clear hw h; have hw := hw9; have h := h9; clear hw9 h9
      refine W.eq (g2 := F0 m 43 ls [.long r62, va_rf b57]) rfl ?_
      refine lv_l2i (v := (r62 : Int64).toInt32) hx hb h_K_reckon_43 rfl ?_
      refine lv_i2l (v := (((r62 : Int64).toInt32) : Int32).toInt64) hx hb h_K_reckon_44 rfl ?_
      obtain ⟨r63, e_r63, hw⟩ := hw
      subst e_r63
      have hl : lv_has ls 6 [(0, .ref a0), (1, .int x1)] := hl
      refine W.eq (g2 := F0 m 45 ls [.long ((((r62 : Int64).toInt32) : Int32).toInt64), .ref r63]) rfl ?_
      obtain ⟨g64, hw⟩ := hw
      refine C_callVv (As := [.long ((((r62 : Int64).toInt32) : Int32).toInt64)]) (rest := []) C h (ci := 0) (Cn := R_C) (T := T_C) (N := 5) g64 rfl (by decide) (X_C_push l dC dI ca H σ61 r63 ((((r62 : Int64).toInt32) : Int32).toInt64) hw) (cwV 1 hts (gV hsub u_232 u_10 u_11 u_12 u_13) rfl rfl rfl (by decide +kernel) ⟨(Nat.le_of_ble_eq_true rfl), (Nat.le_of_ble_eq_true rfl)⟩) rfl hl.1 (Nat.le_of_ble_eq_true rfl) h_K_reckon_45 (fun σ65 H locs cells slots hw9 h9 => ?_)
      clear hw h; have hw := hw9; have h := h9; clear hw9 h9
      refine W.eq (g2 := F0 m 48 ls []) rfl ?_
      refine lv_goto (tgt := 161) hx hb h_K_reckon_48 (by decide) ?_
      exact hend σ65 _ _ _ _ _ _ hw h h_K_reckon_161
  · skip
    replace hw := hw.1 c5
    refine lv_aload_n hx hb h_K_reckon_7 rfl (lv_at hl 0 rfl) ?_
    obtain ⟨g67, hw⟩ := hw
    refine C_get C h 2 5 (v := va_rf (σ0.2.2.2.1 a0 5)) g67 rfl (Cn := R_K) (T := T_K) (N := 14) rfl (by decide) rfl uw_K (by decide) u_231 (fun _ q => q) h_K_reckon_8 ?_
    refine lv_topq (fun b68 e_b68 => ?_)
    replace hw := hw b68 e_b68
    refine lv_aload_n hx hb h_K_reckon_11 rfl (lv_at hl 0 rfl) ?_
    refine C_get C h 2 5 (v := va_rf (σ0.2.2.2.1 a0 5)) g67 rfl (Cn := R_K) (T := T_K) (N := 14) rfl (by decide) rfl uw_K (by decide) u_231 (fun _ q => q) h_K_reckon_12 ?_
    refine lv_topq (fun b69 e_b69 => ?_)
    replace hw := hw b69 e_b69
    obtain ⟨r70, e_r70, hw⟩ := hw
    subst e_r70
    have hl : lv_has ls 6 [(0, .ref a0), (1, .int x1)] := hl
    refine W.eq (g2 := F0 m 15 ls [.ref r70, va_rf b68]) rfl ?_
    obtain ⟨g71, hw⟩ := hw
    refine C_callVi (As := []) (rest := [va_rf b68]) C h (ci := 0) (Cn := R_C) (T := T_C) (N := 5) g71 rfl (by decide) (X_C_popInt l dC dI ca s.heap σ0 r70 hw) (cwV 0 hts (gV hsub u_246 u_247 u_248 u_12 u_249) rfl rfl rfl (by decide +kernel) ⟨(Nat.le_of_ble_eq_true rfl), (Nat.le_of_ble_eq_true rfl)⟩) rfl hl.1 (by simp only [List.map_cons, List.map_nil, List.sum_cons, List.sum_nil, cq_cat]; exact Nat.le_of_ble_eq_true rfl) h_K_reckon_15 (fun r73 σ72 H locs cells slots hw9 h9 => ?_)
    clear hw h; have hw := hw9; have h := h9; clear hw9 h9
    refine W.eq (g2 := F0 m 18 ls [.int r73, va_rf b68]) rfl ?_
    refine lv_i2l (v := (r73 : Int32).toInt64) hx hb h_K_reckon_18 rfl ?_
    obtain ⟨r74, e_r74, hw⟩ := hw
    subst e_r74
    have hl : lv_has ls 6 [(0, .ref a0), (1, .int x1)] := hl
    refine W.eq (g2 := F0 m 19 ls [.long ((r73 : Int32).toInt64), .ref r74]) rfl ?_
    obtain ⟨g75, hw⟩ := hw
    refine C_callVv (As := [.long ((r73 : Int32).toInt64)]) (rest := []) C h (ci := 0) (Cn := R_C) (T := T_C) (N := 5) g75 rfl (by decide) (X_C_pushLong l dC dI ca H σ72 r74 ((r73 : Int32).toInt64) hw) (cwV 1 hts (gV hsub u_233 u_234 u_235 u_12 u_236) rfl rfl rfl (by decide +kernel) ⟨(Nat.le_of_ble_eq_true rfl), (Nat.le_of_ble_eq_true rfl)⟩) rfl hl.1 (Nat.le_of_ble_eq_true rfl) h_K_reckon_19 (fun σ76 H locs cells slots hw9 h9 => ?_)
    clear hw h; have hw := hw9; have h := h9; clear hw9 h9
    refine W.eq (g2 := F0 m 22 ls []) rfl ?_
    refine lv_goto (tgt := 161) hx hb h_K_reckon_22 (by decide) ?_
    exact hend σ76 _ _ _ _ _ _ hw h h_K_reckon_161
abbrev g_Op_isBranch : MethodName := ⟨"MapFramer$Op", "isBranch", "(I)Z"⟩
theorem h_Op_isBranch_0 : decode prog_8_method_3_code 0 = .ok (.iload_n 0, 1) := by decide +kernel
theorem h_Op_isBranch_1 : decode prog_8_method_3_code 1 = .ok (.sipush 153, 3) := by decide +kernel
theorem h_Op_isBranch_4 : decode prog_8_method_3_code 4 = .ok (.if_icmp .lt 10, 3) := by decide +kernel
theorem h_Op_isBranch_7 : decode prog_8_method_3_code 7 = .ok (.iload_n 0, 1) := by decide +kernel
theorem h_Op_isBranch_8 : decode prog_8_method_3_code 8 = .ok (.sipush 167, 3) := by decide +kernel
theorem h_Op_isBranch_11 : decode prog_8_method_3_code 11 = .ok (.if_icmp .le 17, 3) := by decide +kernel
theorem h_Op_isBranch_14 : decode prog_8_method_3_code 14 = .ok (.iload_n 0, 1) := by decide +kernel
theorem h_Op_isBranch_15 : decode prog_8_method_3_code 15 = .ok (.sipush 198, 3) := by decide +kernel
theorem h_Op_isBranch_18 : decode prog_8_method_3_code 18 = .ok (.if_icmp .eq 10, 3) := by decide +kernel
theorem h_Op_isBranch_21 : decode prog_8_method_3_code 21 = .ok (.iload_n 0, 1) := by decide +kernel
theorem h_Op_isBranch_22 : decode prog_8_method_3_code 22 = .ok (.sipush 199, 3) := by decide +kernel
theorem h_Op_isBranch_25 : decode prog_8_method_3_code 25 = .ok (.if_icmp .ne 7, 3) := by decide +kernel
theorem h_Op_isBranch_28 : decode prog_8_method_3_code 28 = .ok (.iconst 1, 1) := by decide +kernel
theorem h_Op_isBranch_29 : decode prog_8_method_3_code 29 = .ok (.goto 4, 3) := by decide +kernel
theorem h_Op_isBranch_32 : decode prog_8_method_3_code 32 = .ok (.iconst 0, 1) := by decide +kernel
theorem h_Op_isBranch_33 : decode prog_8_method_3_code 33 = .ok (.ireturn, 1) := by decide +kernel
def x_Op_isBranch_28 (P : Int32 → CST → Prop) (σ : CST) : Prop := P (1 : Int32) σ
def x_Op_isBranch_14 (P : Int32 → CST → Prop) (z0 : Int32) (σ : CST) : Prop := ((z0 = 198 → x_Op_isBranch_28 P σ) ∧ (¬ z0 = 198 → ((z0 = 199 → x_Op_isBranch_28 P σ) ∧ (¬ z0 = 199 → P (0 : Int32) σ))))
def x_Op_isBranch (x0 : Int32) (σ0 : CST) (P : Int32 → CST → Prop) : Prop := ((x0 < 153 → x_Op_isBranch_14 P x0 σ0) ∧ (¬ x0 < 153 → ((x0 ≤ 167 → x_Op_isBranch_28 P σ0) ∧ (¬ x0 ≤ 167 → x_Op_isBranch_14 P x0 σ0))))
set_option maxHeartbeats 4000000 in
set_option maxRecDepth 100000 in
theorem X_Op_isBranch (l : Launch) (dC : Nat → ClassId) (dI : Nat → Nat → Nat) (ca : Nat → ClassId) (H0 : Heap) (σ0 : CST) (x0 : Int32) {P : Int32 → CST → Prop} (hw : x_Op_isBranch x0 σ0 P) : Met l g_Op_isBranch (mW g_Op_isBranch prog_8_method_3_code 1 (some .boolean)) ({ frames := 0, cells := σ0.2.2.2.2.1, slots := σ0.2.2.2.2.2.1, locals := 0 } : Room) (va_Pc [.int x0] (CPre (dC, dI) ca σ0 H0)) (va_Qi P (CB (dC, dI) ca σ0 H0) (cA σ0 H0.size)) σ0.2.2.2.2.1 σ0.2.2.2.2.2.1 (cA σ0 H0.size) := by
  refine C_ofz (by decide +kernel) rfl rfl rfl (Nat.le_of_ble_eq_true rfl) ?_
  intro p e s m below meth cx Q A ls C hnm hend hH0 h hl
  subst hH0
  have C0 := C
  obtain ⟨⟨hx, hb, hml, hown, hts⟩, hsub⟩ := C0
  obtain ⟨cells, e_cells⟩ : ∃ z : Nat, z = 0 := ⟨_, rfl⟩
  obtain ⟨slots, e_slots⟩ : ∃ z : Nat, z = 0 := ⟨_, rfl⟩
  have h : CH (dC, dI) A ca ({ frames := 0, cells := σ0.2.2.2.2.1, slots := σ0.2.2.2.2.2.1, locals := 0 } : Room) σ0.2.2.2.2.2.2 σ0 s s.heap [] cells slots := by rw [e_cells, e_slots]; exact h
  show W p l e ({ frames := 0, cells := σ0.2.2.2.2.1, slots := σ0.2.2.2.2.2.1, locals := 0 } : Room) s m ([.int x0] : List Value).toArray below meth cx s.heap [] 0 0 Q (F0 m 0 ls [])
  rw [show W p l e ({ frames := 0, cells := σ0.2.2.2.2.1, slots := σ0.2.2.2.2.2.1, locals := 0 } : Room) s m ([.int x0] : List Value).toArray below meth cx s.heap [] 0 0 Q (F0 m 0 ls []) = W p l e ({ frames := 0, cells := σ0.2.2.2.2.1, slots := σ0.2.2.2.2.2.1, locals := 0 } : Room) s m ([.int x0] : List Value).toArray below meth cx s.heap [] cells slots Q (F0 m 0 ls []) by rw [e_cells, e_slots]]
  have K_28 : ∀ (u9 : Unit), ∀ (σ : CST) (H : Heap) (locs : List Loc) (cells slots : Nat) (ls : Array Slot), x_Op_isBranch_28 P σ → CH (dC, dI) A ca ({ frames := 0, cells := σ0.2.2.2.2.1, slots := σ0.2.2.2.2.2.1, locals := 0 } : Room) σ0.2.2.2.2.2.2 σ s H locs cells slots → lv_has ls 1 [] → W p l e ({ frames := 0, cells := σ0.2.2.2.2.1, slots := σ0.2.2.2.2.2.1, locals := 0 } : Room) s m ([.int x0] : List Value).toArray below meth cx H locs cells slots Q (F0 m 28 ls []) := by
    intro u9  σ H locs cells slots ls hw h hl
    unfold x_Op_isBranch_28 at hw
    refine lv_iconst (v := 1) hx hb h_Op_isBranch_28 (by decide) ?_
    refine lv_goto (tgt := 33) hx hb h_Op_isBranch_29 (by decide) ?_
    exact hend (1 : Int32) σ _ _ _ _ _ _ rfl hw h h_Op_isBranch_33
  have K_14 : ∀ (u9 : Unit), ∀ (z0 : Int32) (σ : CST) (H : Heap) (locs : List Loc) (cells slots : Nat) (ls : Array Slot), x_Op_isBranch_14 P z0 σ → CH (dC, dI) A ca ({ frames := 0, cells := σ0.2.2.2.2.1, slots := σ0.2.2.2.2.2.1, locals := 0 } : Room) σ0.2.2.2.2.2.2 σ s H locs cells slots → lv_has ls 1 [(0, .int z0)] → W p l e ({ frames := 0, cells := σ0.2.2.2.2.1, slots := σ0.2.2.2.2.2.1, locals := 0 } : Room) s m ([.int x0] : List Value).toArray below meth cx H locs cells slots Q (F0 m 14 ls []) := by
    intro u9 z0 σ H locs cells slots ls hw h hl
    unfold x_Op_isBranch_14 at hw
    refine lv_iload_n hx hb h_Op_isBranch_14 rfl (lv_at hl 0 rfl) ?_
    refine lv_sipush (v := 198) hx hb h_Op_isBranch_15 (by decide) ?_
    refine lv_icmp_eq (tgt := 28) hx hb h_Op_isBranch_18 (by decide) (fun c1 => ?_) (fun c1 => ?_)
    · skip
      replace hw := hw.1 c1
      exact K_28 () σ _ _ _ _ _ hw h (lv_sub hl [] rfl)
    · skip
      replace hw := hw.2 c1
      refine lv_iload_n hx hb h_Op_isBranch_21 rfl (lv_at hl 0 rfl) ?_
      refine lv_sipush (v := 199) hx hb h_Op_isBranch_22 (by decide) ?_
      refine lv_icmp_ne (tgt := 32) hx hb h_Op_isBranch_25 (by decide) (fun c2 => ?_) (fun c2 => ?_)
      · skip
        replace hw := hw.2 c2
        refine lv_iconst (v := 0) hx hb h_Op_isBranch_32 (by decide) ?_
        exact hend (0 : Int32) σ _ _ _ _ _ _ rfl hw h h_Op_isBranch_33
      · skip
        replace hw := hw.1 c2
        exact K_28 () σ _ _ _ _ _ hw h (lv_sub hl [] rfl)
  have hl : lv_has ls 1 [(0, .int x0)] := hl
  unfold x_Op_isBranch at hw
  refine lv_iload_n hx hb h_Op_isBranch_0 rfl (lv_at hl 0 rfl) ?_
  refine lv_sipush (v := 153) hx hb h_Op_isBranch_1 (by decide) ?_
  refine lv_icmp_lt (tgt := 14) hx hb h_Op_isBranch_4 (by decide) (fun c3 => ?_) (fun c3 => ?_)
  · skip
    replace hw := hw.1 c3
    exact K_14 () x0 σ0 _ _ _ _ _ hw h (lv_sub hl [0] rfl)
  · skip
    replace hw := hw.2 c3
    refine lv_iload_n hx hb h_Op_isBranch_7 rfl (lv_at hl 0 rfl) ?_
    refine lv_sipush (v := 167) hx hb h_Op_isBranch_8 (by decide) ?_
    refine lv_icmp_le (tgt := 28) hx hb h_Op_isBranch_11 (by decide) (fun c4 => ?_) (fun c4 => ?_)
    · skip
      replace hw := hw.1 c4
      exact K_28 () σ0 _ _ _ _ _ hw h (lv_sub hl [] rfl)
    · skip
      replace hw := hw.2 c4
      exact K_14 () x0 σ0 _ _ _ _ _ hw h (lv_sub hl [0] rfl)
abbrev g_K_holds : MethodName := ⟨"MapFramer$Machine", "holds", "(III)Z"⟩
theorem h_K_holds_0 : decode prog_6_method_22_code 0 = .ok (.iload_n 0, 1) := by decide +kernel
theorem h_K_holds_1 : decode prog_6_method_22_code 1 = .ok (.tableswitch 90 0 4 #[35, 46, 57, 68, 79], 35) := by decide +kernel
theorem h_K_holds_36 : decode prog_6_method_22_code 36 = .ok (.iload_n 1, 1) := by decide +kernel
theorem h_K_holds_37 : decode prog_6_method_22_code 37 = .ok (.iload_n 2, 1) := by decide +kernel
theorem h_K_holds_38 : decode prog_6_method_22_code 38 = .ok (.if_icmp .ne 7, 3) := by decide +kernel
theorem h_K_holds_41 : decode prog_6_method_22_code 41 = .ok (.iconst 1, 1) := by decide +kernel
theorem h_K_holds_42 : decode prog_6_method_22_code 42 = .ok (.goto 4, 3) := by decide +kernel
theorem h_K_holds_45 : decode prog_6_method_22_code 45 = .ok (.iconst 0, 1) := by decide +kernel
theorem h_K_holds_46 : decode prog_6_method_22_code 46 = .ok (.ireturn, 1) := by decide +kernel
theorem h_K_holds_47 : decode prog_6_method_22_code 47 = .ok (.iload_n 1, 1) := by decide +kernel
theorem h_K_holds_48 : decode prog_6_method_22_code 48 = .ok (.iload_n 2, 1) := by decide +kernel
theorem h_K_holds_49 : decode prog_6_method_22_code 49 = .ok (.if_icmp .eq 7, 3) := by decide +kernel
theorem h_K_holds_52 : decode prog_6_method_22_code 52 = .ok (.iconst 1, 1) := by decide +kernel
theorem h_K_holds_53 : decode prog_6_method_22_code 53 = .ok (.goto 4, 3) := by decide +kernel
theorem h_K_holds_56 : decode prog_6_method_22_code 56 = .ok (.iconst 0, 1) := by decide +kernel
theorem h_K_holds_57 : decode prog_6_method_22_code 57 = .ok (.ireturn, 1) := by decide +kernel
theorem h_K_holds_58 : decode prog_6_method_22_code 58 = .ok (.iload_n 1, 1) := by decide +kernel
theorem h_K_holds_59 : decode prog_6_method_22_code 59 = .ok (.iload_n 2, 1) := by decide +kernel
theorem h_K_holds_60 : decode prog_6_method_22_code 60 = .ok (.if_icmp .ge 7, 3) := by decide +kernel
theorem h_K_holds_63 : decode prog_6_method_22_code 63 = .ok (.iconst 1, 1) := by decide +kernel
theorem h_K_holds_64 : decode prog_6_method_22_code 64 = .ok (.goto 4, 3) := by decide +kernel
theorem h_K_holds_67 : decode prog_6_method_22_code 67 = .ok (.iconst 0, 1) := by decide +kernel
theorem h_K_holds_68 : decode prog_6_method_22_code 68 = .ok (.ireturn, 1) := by decide +kernel
theorem h_K_holds_69 : decode prog_6_method_22_code 69 = .ok (.iload_n 1, 1) := by decide +kernel
theorem h_K_holds_70 : decode prog_6_method_22_code 70 = .ok (.iload_n 2, 1) := by decide +kernel
theorem h_K_holds_71 : decode prog_6_method_22_code 71 = .ok (.if_icmp .lt 7, 3) := by decide +kernel
theorem h_K_holds_74 : decode prog_6_method_22_code 74 = .ok (.iconst 1, 1) := by decide +kernel
theorem h_K_holds_75 : decode prog_6_method_22_code 75 = .ok (.goto 4, 3) := by decide +kernel
theorem h_K_holds_78 : decode prog_6_method_22_code 78 = .ok (.iconst 0, 1) := by decide +kernel
theorem h_K_holds_79 : decode prog_6_method_22_code 79 = .ok (.ireturn, 1) := by decide +kernel
theorem h_K_holds_80 : decode prog_6_method_22_code 80 = .ok (.iload_n 1, 1) := by decide +kernel
theorem h_K_holds_81 : decode prog_6_method_22_code 81 = .ok (.iload_n 2, 1) := by decide +kernel
theorem h_K_holds_82 : decode prog_6_method_22_code 82 = .ok (.if_icmp .le 7, 3) := by decide +kernel
theorem h_K_holds_85 : decode prog_6_method_22_code 85 = .ok (.iconst 1, 1) := by decide +kernel
theorem h_K_holds_86 : decode prog_6_method_22_code 86 = .ok (.goto 4, 3) := by decide +kernel
theorem h_K_holds_89 : decode prog_6_method_22_code 89 = .ok (.iconst 0, 1) := by decide +kernel
theorem h_K_holds_90 : decode prog_6_method_22_code 90 = .ok (.ireturn, 1) := by decide +kernel
theorem h_K_holds_91 : decode prog_6_method_22_code 91 = .ok (.iload_n 1, 1) := by decide +kernel
theorem h_K_holds_92 : decode prog_6_method_22_code 92 = .ok (.iload_n 2, 1) := by decide +kernel
theorem h_K_holds_93 : decode prog_6_method_22_code 93 = .ok (.if_icmp .gt 7, 3) := by decide +kernel
theorem h_K_holds_96 : decode prog_6_method_22_code 96 = .ok (.iconst 1, 1) := by decide +kernel
theorem h_K_holds_97 : decode prog_6_method_22_code 97 = .ok (.goto 4, 3) := by decide +kernel
theorem h_K_holds_100 : decode prog_6_method_22_code 100 = .ok (.iconst 0, 1) := by decide +kernel
theorem h_K_holds_101 : decode prog_6_method_22_code 101 = .ok (.ireturn, 1) := by decide +kernel
def x_K_holds (x0 : Int32) (x1 : Int32) (x2 : Int32) (σ0 : CST) (P : Int32 → CST → Prop) : Prop := ((x0 = 0 → ((x1 = x2 → P (1 : Int32) σ0) ∧ (¬ x1 = x2 → P (0 : Int32) σ0))) ∧ (¬ x0 = 0 → ((x0 = 1 → ((x1 = x2 → P (0 : Int32) σ0) ∧ (¬ x1 = x2 → P (1 : Int32) σ0))) ∧ (¬ x0 = 1 → ((x0 = 2 → ((x2 ≤ x1 → P (0 : Int32) σ0) ∧ (¬ x2 ≤ x1 → P (1 : Int32) σ0))) ∧ (¬ x0 = 2 → ((x0 = 3 → ((x1 < x2 → P (0 : Int32) σ0) ∧ (¬ x1 < x2 → P (1 : Int32) σ0))) ∧ (¬ x0 = 3 → ((x0 = 4 → ((x1 ≤ x2 → P (0 : Int32) σ0) ∧ (¬ x1 ≤ x2 → P (1 : Int32) σ0))) ∧ (¬ x0 = 4 → ((x2 < x1 → P (0 : Int32) σ0) ∧ (¬ x2 < x1 → P (1 : Int32) σ0))))))))))))
set_option maxHeartbeats 4000000 in
set_option maxRecDepth 100000 in
theorem X_K_holds (l : Launch) (dC : Nat → ClassId) (dI : Nat → Nat → Nat) (ca : Nat → ClassId) (H0 : Heap) (σ0 : CST) (x0 : Int32) (x1 : Int32) (x2 : Int32) {P : Int32 → CST → Prop} (hw : x_K_holds x0 x1 x2 σ0 P) : Met l g_K_holds (mW g_K_holds prog_6_method_22_code 3 (some .boolean)) ({ frames := 0, cells := σ0.2.2.2.2.1, slots := σ0.2.2.2.2.2.1, locals := 0 } : Room) (va_Pc [.int x0, .int x1, .int x2] (CPre (dC, dI) ca σ0 H0)) (va_Qi P (CB (dC, dI) ca σ0 H0) (cA σ0 H0.size)) σ0.2.2.2.2.1 σ0.2.2.2.2.2.1 (cA σ0 H0.size) := by
  refine C_ofz (by decide +kernel) rfl rfl rfl (Nat.le_of_ble_eq_true rfl) ?_
  intro p e s m below meth cx Q A ls C hnm hend hH0 h hl
  subst hH0
  have C0 := C
  obtain ⟨⟨hx, hb, hml, hown, hts⟩, hsub⟩ := C0
  obtain ⟨cells, e_cells⟩ : ∃ z : Nat, z = 0 := ⟨_, rfl⟩
  obtain ⟨slots, e_slots⟩ : ∃ z : Nat, z = 0 := ⟨_, rfl⟩
  have h : CH (dC, dI) A ca ({ frames := 0, cells := σ0.2.2.2.2.1, slots := σ0.2.2.2.2.2.1, locals := 0 } : Room) σ0.2.2.2.2.2.2 σ0 s s.heap [] cells slots := by rw [e_cells, e_slots]; exact h
  show W p l e ({ frames := 0, cells := σ0.2.2.2.2.1, slots := σ0.2.2.2.2.2.1, locals := 0 } : Room) s m ([.int x0, .int x1, .int x2] : List Value).toArray below meth cx s.heap [] 0 0 Q (F0 m 0 ls [])
  rw [show W p l e ({ frames := 0, cells := σ0.2.2.2.2.1, slots := σ0.2.2.2.2.2.1, locals := 0 } : Room) s m ([.int x0, .int x1, .int x2] : List Value).toArray below meth cx s.heap [] 0 0 Q (F0 m 0 ls []) = W p l e ({ frames := 0, cells := σ0.2.2.2.2.1, slots := σ0.2.2.2.2.2.1, locals := 0 } : Room) s m ([.int x0, .int x1, .int x2] : List Value).toArray below meth cx s.heap [] cells slots Q (F0 m 0 ls []) by rw [e_cells, e_slots]]
  have hl : lv_has ls 3 [(0, .int x0), (1, .int x1), (2, .int x2)] := hl
  unfold x_K_holds at hw
  refine lv_iload_n hx hb h_K_holds_0 rfl (lv_at hl 0 rfl) ?_
  by_cases c1 : x0 = 0
  · skip
    replace hw := hw.1 c1
    refine tp_i 0 c1 ?_
    refine lv_tableIn (off := 35) (tgt := 36) hx hb h_K_holds_1 (by decide) (by decide) (by decide) (by decide) ?_
    refine lv_iload_n hx hb h_K_holds_36 rfl (lv_at hl 1 rfl) ?_
    refine lv_iload_n hx hb h_K_holds_37 rfl (lv_at hl 2 rfl) ?_
    refine lv_icmp_ne (tgt := 45) hx hb h_K_holds_38 (by decide) (fun c2 => ?_) (fun c2 => ?_)
    · skip
      replace hw := hw.2 c2
      refine lv_iconst (v := 0) hx hb h_K_holds_45 (by decide) ?_
      exact hend (0 : Int32) σ0 _ _ _ _ _ _ rfl hw h h_K_holds_46
    · skip
      replace hw := hw.1 c2
      refine lv_iconst (v := 1) hx hb h_K_holds_41 (by decide) ?_
      refine lv_goto (tgt := 46) hx hb h_K_holds_42 (by decide) ?_
      exact hend (1 : Int32) σ0 _ _ _ _ _ _ rfl hw h h_K_holds_46
  · skip
    replace hw := hw.2 c1
    by_cases c3 : x0 = 1
    · skip
      replace hw := hw.1 c3
      refine tp_i 1 c3 ?_
      refine lv_tableIn (off := 46) (tgt := 47) hx hb h_K_holds_1 (by decide) (by decide) (by decide) (by decide) ?_
      refine lv_iload_n hx hb h_K_holds_47 rfl (lv_at hl 1 rfl) ?_
      refine lv_iload_n hx hb h_K_holds_48 rfl (lv_at hl 2 rfl) ?_
      refine lv_icmp_eq (tgt := 56) hx hb h_K_holds_49 (by decide) (fun c4 => ?_) (fun c4 => ?_)
      · skip
        replace hw := hw.1 c4
        refine lv_iconst (v := 0) hx hb h_K_holds_56 (by decide) ?_
        exact hend (0 : Int32) σ0 _ _ _ _ _ _ rfl hw h h_K_holds_57
      · skip
        replace hw := hw.2 c4
        refine lv_iconst (v := 1) hx hb h_K_holds_52 (by decide) ?_
        refine lv_goto (tgt := 57) hx hb h_K_holds_53 (by decide) ?_
        exact hend (1 : Int32) σ0 _ _ _ _ _ _ rfl hw h h_K_holds_57
    · skip
      replace hw := hw.2 c3
      by_cases c5 : x0 = 2
      · skip
        replace hw := hw.1 c5
        refine tp_i 2 c5 ?_
        refine lv_tableIn (off := 57) (tgt := 58) hx hb h_K_holds_1 (by decide) (by decide) (by decide) (by decide) ?_
        refine lv_iload_n hx hb h_K_holds_58 rfl (lv_at hl 1 rfl) ?_
        refine lv_iload_n hx hb h_K_holds_59 rfl (lv_at hl 2 rfl) ?_
        refine lv_icmp_ge (tgt := 67) hx hb h_K_holds_60 (by decide) (fun c6 => ?_) (fun c6 => ?_)
        · skip
          replace hw := hw.1 c6
          refine lv_iconst (v := 0) hx hb h_K_holds_67 (by decide) ?_
          exact hend (0 : Int32) σ0 _ _ _ _ _ _ rfl hw h h_K_holds_68
        · skip
          replace hw := hw.2 c6
          refine lv_iconst (v := 1) hx hb h_K_holds_63 (by decide) ?_
          refine lv_goto (tgt := 68) hx hb h_K_holds_64 (by decide) ?_
          exact hend (1 : Int32) σ0 _ _ _ _ _ _ rfl hw h h_K_holds_68
      · skip
        replace hw := hw.2 c5
        by_cases c7 : x0 = 3
        · skip
          replace hw := hw.1 c7
          refine tp_i 3 c7 ?_
          refine lv_tableIn (off := 68) (tgt := 69) hx hb h_K_holds_1 (by decide) (by decide) (by decide) (by decide) ?_
          refine lv_iload_n hx hb h_K_holds_69 rfl (lv_at hl 1 rfl) ?_
          refine lv_iload_n hx hb h_K_holds_70 rfl (lv_at hl 2 rfl) ?_
          refine lv_icmp_lt (tgt := 78) hx hb h_K_holds_71 (by decide) (fun c8 => ?_) (fun c8 => ?_)
          · skip
            replace hw := hw.1 c8
            refine lv_iconst (v := 0) hx hb h_K_holds_78 (by decide) ?_
            exact hend (0 : Int32) σ0 _ _ _ _ _ _ rfl hw h h_K_holds_79
          · skip
            replace hw := hw.2 c8
            refine lv_iconst (v := 1) hx hb h_K_holds_74 (by decide) ?_
            refine lv_goto (tgt := 79) hx hb h_K_holds_75 (by decide) ?_
            exact hend (1 : Int32) σ0 _ _ _ _ _ _ rfl hw h h_K_holds_79
        · skip
          replace hw := hw.2 c7
          by_cases c9 : x0 = 4
          · skip
            replace hw := hw.1 c9
            refine tp_i 4 c9 ?_
            refine lv_tableIn (off := 79) (tgt := 80) hx hb h_K_holds_1 (by decide) (by decide) (by decide) (by decide) ?_
            refine lv_iload_n hx hb h_K_holds_80 rfl (lv_at hl 1 rfl) ?_
            refine lv_iload_n hx hb h_K_holds_81 rfl (lv_at hl 2 rfl) ?_
            refine lv_icmp_le (tgt := 89) hx hb h_K_holds_82 (by decide) (fun c10 => ?_) (fun c10 => ?_)
            · skip
              replace hw := hw.1 c10
              refine lv_iconst (v := 0) hx hb h_K_holds_89 (by decide) ?_
              exact hend (0 : Int32) σ0 _ _ _ _ _ _ rfl hw h h_K_holds_90
            · skip
              replace hw := hw.2 c10
              refine lv_iconst (v := 1) hx hb h_K_holds_85 (by decide) ?_
              refine lv_goto (tgt := 90) hx hb h_K_holds_86 (by decide) ?_
              exact hend (1 : Int32) σ0 _ _ _ _ _ _ rfl hw h h_K_holds_90
          · skip
            replace hw := hw.2 c9
            have h9 : (x0 : Int32).toInt < 0 ∨ 4 < (x0 : Int32).toInt := by simp only [← Int32.toInt_inj, Int32.reduceToInt] at c1 c3 c5 c7 c9; omega
            refine lv_tableOut (tgt := 91) hx hb h_K_holds_1 h9 (by decide) ?_
            refine lv_iload_n hx hb h_K_holds_91 rfl (lv_at hl 1 rfl) ?_
            refine lv_iload_n hx hb h_K_holds_92 rfl (lv_at hl 2 rfl) ?_
            refine lv_icmp_gt (tgt := 100) hx hb h_K_holds_93 (by decide) (fun c11 => ?_) (fun c11 => ?_)
            · skip
              replace hw := hw.1 c11
              refine lv_iconst (v := 0) hx hb h_K_holds_100 (by decide) ?_
              exact hend (0 : Int32) σ0 _ _ _ _ _ _ rfl hw h h_K_holds_101
            · skip
              replace hw := hw.2 c11
              refine lv_iconst (v := 1) hx hb h_K_holds_96 (by decide) ?_
              refine lv_goto (tgt := 101) hx hb h_K_holds_97 (by decide) ?_
              exact hend (1 : Int32) σ0 _ _ _ _ _ _ rfl hw h h_K_holds_101
abbrev g_K_isTaken : MethodName := ⟨"MapFramer$Machine", "isTaken", "(I)Z"⟩
theorem u_308 : (Cond.methodLink "MapFramer$Machine" 282 ⟨"MapFramer$Machine", "holds", "(III)Z"⟩ : Cond) ∈ bigW := inB_7 220 (by decide +kernel) rfl
theorem u_309 : (Cond.static ⟨"MapFramer$Machine", "holds", "(III)Z"⟩ : Cond) ∈ bigW := inB_7 221 (by decide +kernel) rfl
theorem u_310 : (Cond.code ⟨"MapFramer$Machine", "holds", "(III)Z"⟩ prog_6_method_22_code 3 (some .boolean) : Cond) ∈ bigW := inB_7 222 rfl rfl
theorem h_K_isTaken_0 : decode prog_6_method_21_code 0 = .ok (.iload_n 1, 1) := by decide +kernel
theorem h_K_isTaken_1 : decode prog_6_method_21_code 1 = .ok (.sipush 198, 3) := by decide +kernel
theorem h_K_isTaken_4 : decode prog_6_method_21_code 4 = .ok (.if_icmp .eq 10, 3) := by decide +kernel
theorem h_K_isTaken_7 : decode prog_6_method_21_code 7 = .ok (.iload_n 1, 1) := by decide +kernel
theorem h_K_isTaken_8 : decode prog_6_method_21_code 8 = .ok (.sipush 199, 3) := by decide +kernel
theorem h_K_isTaken_11 : decode prog_6_method_21_code 11 = .ok (.if_icmp .ne 41, 3) := by decide +kernel
theorem h_K_isTaken_14 : decode prog_6_method_21_code 14 = .ok (.aload_n 0, 1) := by decide +kernel
theorem h_K_isTaken_15 : decode prog_6_method_21_code 15 = .ok (.getfield 76, 3) := by decide +kernel
theorem h_K_isTaken_18 : decode prog_6_method_21_code 18 = .ok (.invokevirtual 245, 3) := by decide +kernel
theorem h_K_isTaken_21 : decode prog_6_method_21_code 21 = .ok (.lconst 0, 1) := by decide +kernel
theorem h_K_isTaken_22 : decode prog_6_method_21_code 22 = .ok (.lcmp, 1) := by decide +kernel
theorem h_K_isTaken_23 : decode prog_6_method_21_code 23 = .ok (.ifCond .ne 7, 3) := by decide +kernel
theorem h_K_isTaken_26 : decode prog_6_method_21_code 26 = .ok (.iconst 1, 1) := by decide +kernel
theorem h_K_isTaken_27 : decode prog_6_method_21_code 27 = .ok (.goto 4, 3) := by decide +kernel
theorem h_K_isTaken_30 : decode prog_6_method_21_code 30 = .ok (.iconst 0, 1) := by decide +kernel
theorem h_K_isTaken_31 : decode prog_6_method_21_code 31 = .ok (.iload_n 1, 1) := by decide +kernel
theorem h_K_isTaken_32 : decode prog_6_method_21_code 32 = .ok (.sipush 198, 3) := by decide +kernel
theorem h_K_isTaken_35 : decode prog_6_method_21_code 35 = .ok (.if_icmp .ne 7, 3) := by decide +kernel
theorem h_K_isTaken_38 : decode prog_6_method_21_code 38 = .ok (.iconst 1, 1) := by decide +kernel
theorem h_K_isTaken_39 : decode prog_6_method_21_code 39 = .ok (.goto 4, 3) := by decide +kernel
theorem h_K_isTaken_42 : decode prog_6_method_21_code 42 = .ok (.iconst 0, 1) := by decide +kernel
theorem h_K_isTaken_43 : decode prog_6_method_21_code 43 = .ok (.if_icmp .ne 7, 3) := by decide +kernel
theorem h_K_isTaken_46 : decode prog_6_method_21_code 46 = .ok (.iconst 1, 1) := by decide +kernel
theorem h_K_isTaken_47 : decode prog_6_method_21_code 47 = .ok (.goto 4, 3) := by decide +kernel
theorem h_K_isTaken_50 : decode prog_6_method_21_code 50 = .ok (.iconst 0, 1) := by decide +kernel
theorem h_K_isTaken_51 : decode prog_6_method_21_code 51 = .ok (.ireturn, 1) := by decide +kernel
theorem h_K_isTaken_52 : decode prog_6_method_21_code 52 = .ok (.iload_n 1, 1) := by decide +kernel
theorem h_K_isTaken_53 : decode prog_6_method_21_code 53 = .ok (.sipush 158, 3) := by decide +kernel
theorem h_K_isTaken_56 : decode prog_6_method_21_code 56 = .ok (.if_icmp .gt 20, 3) := by decide +kernel
theorem h_K_isTaken_59 : decode prog_6_method_21_code 59 = .ok (.iload_n 1, 1) := by decide +kernel
theorem h_K_isTaken_60 : decode prog_6_method_21_code 60 = .ok (.sipush 153, 3) := by decide +kernel
theorem h_K_isTaken_63 : decode prog_6_method_21_code 63 = .ok (.isub, 1) := by decide +kernel
theorem h_K_isTaken_64 : decode prog_6_method_21_code 64 = .ok (.aload_n 0, 1) := by decide +kernel
theorem h_K_isTaken_65 : decode prog_6_method_21_code 65 = .ok (.getfield 76, 3) := by decide +kernel
theorem h_K_isTaken_68 : decode prog_6_method_21_code 68 = .ok (.invokevirtual 248, 3) := by decide +kernel
theorem h_K_isTaken_71 : decode prog_6_method_21_code 71 = .ok (.iconst 0, 1) := by decide +kernel
theorem h_K_isTaken_72 : decode prog_6_method_21_code 72 = .ok (.invokestatic 282, 3) := by decide +kernel
theorem h_K_isTaken_75 : decode prog_6_method_21_code 75 = .ok (.ireturn, 1) := by decide +kernel
theorem h_K_isTaken_76 : decode prog_6_method_21_code 76 = .ok (.aload_n 0, 1) := by decide +kernel
theorem h_K_isTaken_77 : decode prog_6_method_21_code 77 = .ok (.getfield 76, 3) := by decide +kernel
theorem h_K_isTaken_80 : decode prog_6_method_21_code 80 = .ok (.invokevirtual 248, 3) := by decide +kernel
theorem h_K_isTaken_83 : decode prog_6_method_21_code 83 = .ok (.istore_n 2, 1) := by decide +kernel
theorem h_K_isTaken_84 : decode prog_6_method_21_code 84 = .ok (.aload_n 0, 1) := by decide +kernel
theorem h_K_isTaken_85 : decode prog_6_method_21_code 85 = .ok (.getfield 76, 3) := by decide +kernel
theorem h_K_isTaken_88 : decode prog_6_method_21_code 88 = .ok (.invokevirtual 248, 3) := by decide +kernel
theorem h_K_isTaken_91 : decode prog_6_method_21_code 91 = .ok (.istore_n 3, 1) := by decide +kernel
theorem h_K_isTaken_92 : decode prog_6_method_21_code 92 = .ok (.iload_n 1, 1) := by decide +kernel
theorem h_K_isTaken_93 : decode prog_6_method_21_code 93 = .ok (.sipush 164, 3) := by decide +kernel
theorem h_K_isTaken_96 : decode prog_6_method_21_code 96 = .ok (.if_icmp .gt 16, 3) := by decide +kernel
theorem h_K_isTaken_99 : decode prog_6_method_21_code 99 = .ok (.iload_n 1, 1) := by decide +kernel
theorem h_K_isTaken_100 : decode prog_6_method_21_code 100 = .ok (.sipush 159, 3) := by decide +kernel
theorem h_K_isTaken_103 : decode prog_6_method_21_code 103 = .ok (.isub, 1) := by decide +kernel
theorem h_K_isTaken_104 : decode prog_6_method_21_code 104 = .ok (.iload_n 3, 1) := by decide +kernel
theorem h_K_isTaken_105 : decode prog_6_method_21_code 105 = .ok (.iload_n 2, 1) := by decide +kernel
theorem h_K_isTaken_106 : decode prog_6_method_21_code 106 = .ok (.invokestatic 282, 3) := by decide +kernel
theorem h_K_isTaken_109 : decode prog_6_method_21_code 109 = .ok (.goto 33, 3) := by decide +kernel
theorem h_K_isTaken_112 : decode prog_6_method_21_code 112 = .ok (.iload_n 3, 1) := by decide +kernel
theorem h_K_isTaken_113 : decode prog_6_method_21_code 113 = .ok (.iload_n 2, 1) := by decide +kernel
theorem h_K_isTaken_114 : decode prog_6_method_21_code 114 = .ok (.if_icmp .ne 7, 3) := by decide +kernel
theorem h_K_isTaken_117 : decode prog_6_method_21_code 117 = .ok (.iconst 1, 1) := by decide +kernel
theorem h_K_isTaken_118 : decode prog_6_method_21_code 118 = .ok (.goto 4, 3) := by decide +kernel
theorem h_K_isTaken_121 : decode prog_6_method_21_code 121 = .ok (.iconst 0, 1) := by decide +kernel
theorem h_K_isTaken_122 : decode prog_6_method_21_code 122 = .ok (.iload_n 1, 1) := by decide +kernel
theorem h_K_isTaken_123 : decode prog_6_method_21_code 123 = .ok (.sipush 165, 3) := by decide +kernel
theorem h_K_isTaken_126 : decode prog_6_method_21_code 126 = .ok (.if_icmp .ne 7, 3) := by decide +kernel
theorem h_K_isTaken_129 : decode prog_6_method_21_code 129 = .ok (.iconst 1, 1) := by decide +kernel
theorem h_K_isTaken_130 : decode prog_6_method_21_code 130 = .ok (.goto 4, 3) := by decide +kernel
theorem h_K_isTaken_133 : decode prog_6_method_21_code 133 = .ok (.iconst 0, 1) := by decide +kernel
theorem h_K_isTaken_134 : decode prog_6_method_21_code 134 = .ok (.if_icmp .ne 7, 3) := by decide +kernel
theorem h_K_isTaken_137 : decode prog_6_method_21_code 137 = .ok (.iconst 1, 1) := by decide +kernel
theorem h_K_isTaken_138 : decode prog_6_method_21_code 138 = .ok (.goto 4, 3) := by decide +kernel
theorem h_K_isTaken_141 : decode prog_6_method_21_code 141 = .ok (.iconst 0, 1) := by decide +kernel
theorem h_K_isTaken_142 : decode prog_6_method_21_code 142 = .ok (.ireturn, 1) := by decide +kernel
def x_K_isTaken_43 (a0 : Nat) (P : Int32 → CST → Prop) (s0 : Int32) (s1 : Int32) (σ : CST) : Prop := ((s1 = s0 → P (1 : Int32) σ) ∧ (¬ s1 = s0 → P (0 : Int32) σ))
def x_K_isTaken_31 (a0 : Nat) (P : Int32 → CST → Prop) (z1 : Int32) (s0 : Int32) (σ : CST) : Prop := ((z1 = 198 → x_K_isTaken_43 a0 P 1 s0 σ) ∧ (¬ z1 = 198 → x_K_isTaken_43 a0 P 0 s0 σ))
def x_K_isTaken_14 (a0 : Nat) (P : Int32 → CST → Prop) (z1 : Int32) (σ : CST) : Prop := σ.1 a0 = some (2, 0) ∧ (∀ b4 : Option Nat, b4 = (σ.2.2.2.1 a0 5) → (∃ r5 : Nat, b4 = some r5 ∧ (σ.1 r5 = some (0, 0) ∧ (x_C_pop r5 σ (fun r8 σ7 => (((lg_cmp r8 0) = 0 → x_K_isTaken_31 a0 P z1 1 σ7) ∧ (¬ (lg_cmp r8 0) = 0 → x_K_isTaken_31 a0 P z1 0 σ7)))))))
def x_K_isTaken_134 (a0 : Nat) (P : Int32 → CST → Prop) (s0 : Int32) (s1 : Int32) (σ : CST) : Prop := ((s1 = s0 → P (1 : Int32) σ) ∧ (¬ s1 = s0 → P (0 : Int32) σ))
def x_K_isTaken_122 (a0 : Nat) (P : Int32 → CST → Prop) (z1 : Int32) (s0 : Int32) (σ : CST) : Prop := ((z1 = 165 → x_K_isTaken_134 a0 P 1 s0 σ) ∧ (¬ z1 = 165 → x_K_isTaken_134 a0 P 0 s0 σ))
def x_K_isTaken (a0 : Nat) (x1 : Int32) (σ0 : CST) (P : Int32 → CST → Prop) : Prop := ((x1 = 198 → x_K_isTaken_14 a0 P x1 σ0) ∧ (¬ x1 = 198 → ((x1 = 199 → x_K_isTaken_14 a0 P x1 σ0) ∧ (¬ x1 = 199 → ((158 < x1 → σ0.1 a0 = some (2, 0) ∧ (∀ b16 : Option Nat, b16 = (σ0.2.2.2.1 a0 5) → (∃ r17 : Nat, b16 = some r17 ∧ (σ0.1 r17 = some (0, 0) ∧ (x_C_popInt r17 σ0 (fun r20 σ19 => σ19.1 a0 = some (2, 0) ∧ (∀ b22 : Option Nat, b22 = (σ19.2.2.2.1 a0 5) → (∃ r23 : Nat, b22 = some r23 ∧ (σ19.1 r23 = some (0, 0) ∧ (x_C_popInt r23 σ19 (fun r26 σ25 => ((164 < x1 → ((r26 = r20 → x_K_isTaken_122 a0 P x1 1 σ25) ∧ (¬ r26 = r20 → x_K_isTaken_122 a0 P x1 0 σ25))) ∧ (¬ 164 < x1 → x_K_holds (x1 - 159) r26 r20 σ25 (fun r30 σ29 => (narrow .boolean (.int r30) = .int r30 ∧ P r30 σ29))))))))))))))) ∧ (¬ 158 < x1 → σ0.1 a0 = some (2, 0) ∧ (∀ b32 : Option Nat, b32 = (σ0.2.2.2.1 a0 5) → (∃ r33 : Nat, b32 = some r33 ∧ (σ0.1 r33 = some (0, 0) ∧ (x_C_popInt r33 σ0 (fun r36 σ35 => x_K_holds (x1 - 153) r36 (0 : Int32) σ35 (fun r38 σ37 => (narrow .boolean (.int r38) = .int r38 ∧ P r38 σ37)))))))))))))
set_option maxHeartbeats 4000000 in
set_option maxRecDepth 100000 in
theorem X_K_isTaken (l : Launch) (dC : Nat → ClassId) (dI : Nat → Nat → Nat) (ca : Nat → ClassId) (H0 : Heap) (σ0 : CST) (a0 : Nat) (x1 : Int32) {P : Int32 → CST → Prop} (hw : x_K_isTaken a0 x1 σ0 P) : Met l g_K_isTaken (mW g_K_isTaken prog_6_method_21_code 4 (some .boolean)) ({ frames := 2, cells := σ0.2.2.2.2.1, slots := σ0.2.2.2.2.2.1, locals := 40 } : Room) (va_Pc [.ref a0, .int x1] (CPre (dC, dI) ca σ0 H0)) (va_Qi P (CB (dC, dI) ca σ0 H0) (cA σ0 H0.size)) σ0.2.2.2.2.1 σ0.2.2.2.2.2.1 (cA σ0 H0.size) := by
  refine C_ofz (by decide +kernel) rfl rfl rfl (Nat.le_of_ble_eq_true rfl) ?_
  intro p e s m below meth cx Q A ls C hnm hend hH0 h hl
  subst hH0
  have C0 := C
  obtain ⟨⟨hx, hb, hml, hown, hts⟩, hsub⟩ := C0
  obtain ⟨cells, e_cells⟩ : ∃ z : Nat, z = 0 := ⟨_, rfl⟩
  obtain ⟨slots, e_slots⟩ : ∃ z : Nat, z = 0 := ⟨_, rfl⟩
  have h : CH (dC, dI) A ca ({ frames := 2, cells := σ0.2.2.2.2.1, slots := σ0.2.2.2.2.2.1, locals := 40 } : Room) σ0.2.2.2.2.2.2 σ0 s s.heap [] cells slots := by rw [e_cells, e_slots]; exact h
  show W p l e ({ frames := 2, cells := σ0.2.2.2.2.1, slots := σ0.2.2.2.2.2.1, locals := 40 } : Room) s m ([.ref a0, .int x1] : List Value).toArray below meth cx s.heap [] 0 0 Q (F0 m 0 ls [])
  rw [show W p l e ({ frames := 2, cells := σ0.2.2.2.2.1, slots := σ0.2.2.2.2.2.1, locals := 40 } : Room) s m ([.ref a0, .int x1] : List Value).toArray below meth cx s.heap [] 0 0 Q (F0 m 0 ls []) = W p l e ({ frames := 2, cells := σ0.2.2.2.2.1, slots := σ0.2.2.2.2.2.1, locals := 40 } : Room) s m ([.ref a0, .int x1] : List Value).toArray below meth cx s.heap [] cells slots Q (F0 m 0 ls []) by rw [e_cells, e_slots]]
  have K_43 : ∀ (u9 : Unit), ∀ (s0 : Int32) (s1 : Int32) (σ : CST) (H : Heap) (locs : List Loc) (cells slots : Nat) (ls : Array Slot), x_K_isTaken_43 a0 P s0 s1 σ → CH (dC, dI) A ca ({ frames := 2, cells := σ0.2.2.2.2.1, slots := σ0.2.2.2.2.2.1, locals := 40 } : Room) σ0.2.2.2.2.2.2 σ s H locs cells slots → lv_has ls 4 [] → W p l e ({ frames := 2, cells := σ0.2.2.2.2.1, slots := σ0.2.2.2.2.2.1, locals := 40 } : Room) s m ([.ref a0, .int x1] : List Value).toArray below meth cx H locs cells slots Q (F0 m 43 ls [.int s0, .int s1]) := by
    intro u9 s0 s1 σ H locs cells slots ls hw h hl
    unfold x_K_isTaken_43 at hw
    refine lv_icmp_ne (tgt := 50) hx hb h_K_isTaken_43 (by decide) (fun c1 => ?_) (fun c1 => ?_)
    · skip
      replace hw := hw.2 c1
      refine lv_iconst (v := 0) hx hb h_K_isTaken_50 (by decide) ?_
      exact hend (0 : Int32) σ _ _ _ _ _ _ rfl hw h h_K_isTaken_51
    · skip
      replace hw := hw.1 c1
      refine lv_iconst (v := 1) hx hb h_K_isTaken_46 (by decide) ?_
      refine lv_goto (tgt := 51) hx hb h_K_isTaken_47 (by decide) ?_
      exact hend (1 : Int32) σ _ _ _ _ _ _ rfl hw h h_K_isTaken_51
  have K_31 : ∀ (u9 : Unit), ∀ (z1 : Int32) (s0 : Int32) (σ : CST) (H : Heap) (locs : List Loc) (cells slots : Nat) (ls : Array Slot), x_K_isTaken_31 a0 P z1 s0 σ → CH (dC, dI) A ca ({ frames := 2, cells := σ0.2.2.2.2.1, slots := σ0.2.2.2.2.2.1, locals := 40 } : Room) σ0.2.2.2.2.2.2 σ s H locs cells slots → lv_has ls 4 [(1, .int z1)] → W p l e ({ frames := 2, cells := σ0.2.2.2.2.1, slots := σ0.2.2.2.2.2.1, locals := 40 } : Room) s m ([.ref a0, .int x1] : List Value).toArray below meth cx H locs cells slots Q (F0 m 31 ls [.int s0]) := by
    intro u9 z1 s0 σ H locs cells slots ls hw h hl
    unfold x_K_isTaken_31 at hw
    refine lv_iload_n hx hb h_K_isTaken_31 rfl (lv_at hl 0 rfl) ?_
    refine lv_sipush (v := 198) hx hb h_K_isTaken_32 (by decide) ?_
    refine lv_icmp_ne (tgt := 42) hx hb h_K_isTaken_35 (by decide) (fun c2 => ?_) (fun c2 => ?_)
    · skip
      replace hw := hw.2 c2
      refine lv_iconst (v := 0) hx hb h_K_isTaken_42 (by decide) ?_
      exact K_43 () 0 s0 σ _ _ _ _ _ hw h (lv_sub hl [] rfl)
    · skip
      replace hw := hw.1 c2
      refine lv_iconst (v := 1) hx hb h_K_isTaken_38 (by decide) ?_
      refine lv_goto (tgt := 43) hx hb h_K_isTaken_39 (by decide) ?_
      exact K_43 () 1 s0 σ _ _ _ _ _ hw h (lv_sub hl [] rfl)
  have K_14 : ∀ (u9 : Unit), ∀ (z1 : Int32) (σ : CST) (H : Heap) (locs : List Loc) (cells slots : Nat) (ls : Array Slot), x_K_isTaken_14 a0 P z1 σ → CH (dC, dI) A ca ({ frames := 2, cells := σ0.2.2.2.2.1, slots := σ0.2.2.2.2.2.1, locals := 40 } : Room) σ0.2.2.2.2.2.2 σ s H locs cells slots → lv_has ls 4 [(0, .ref a0), (1, .int z1)] → W p l e ({ frames := 2, cells := σ0.2.2.2.2.1, slots := σ0.2.2.2.2.2.1, locals := 40 } : Room) s m ([.ref a0, .int x1] : List Value).toArray below meth cx H locs cells slots Q (F0 m 14 ls []) := by
    intro u9 z1 σ H locs cells slots ls hw h hl
    unfold x_K_isTaken_14 at hw
    refine lv_aload_n hx hb h_K_isTaken_14 rfl (lv_at hl 0 rfl) ?_
    obtain ⟨g3, hw⟩ := hw
    refine C_get C h 2 5 (v := va_rf (σ.2.2.2.1 a0 5)) g3 rfl (Cn := R_K) (T := T_K) (N := 14) rfl (by decide) rfl uw_K (by decide) u_231 (fun _ q => q) h_K_isTaken_15 ?_
    refine lv_topq (fun b4 e_b4 => ?_)
    replace hw := hw b4 e_b4
    obtain ⟨r5, e_r5, hw⟩ := hw
    subst e_r5
    have hl : lv_has ls 4 [(0, .ref a0), (1, .int z1)] := hl
    refine W.eq (g2 := F0 m 18 ls [.ref r5]) rfl ?_
    obtain ⟨g6, hw⟩ := hw
    refine C_callVl (As := []) (rest := []) C h (ci := 0) (Cn := R_C) (T := T_C) (N := 5) g6 rfl (by decide) (X_C_pop l dC dI ca H σ r5 hw) (cwV 0 hts (gV hsub u_270 u_15 u_16 u_12 u_17) rfl rfl rfl (by decide +kernel) ⟨(Nat.le_of_ble_eq_true rfl), (Nat.le_of_ble_eq_true rfl)⟩) rfl hl.1 (Nat.le_of_ble_eq_true rfl) h_K_isTaken_18 (fun r8 σ7 H locs cells slots hw9 h9 => ?_)
    clear hw h; have hw := hw9; have h := h9; clear hw9 h9
    refine W.eq (g2 := F0 m 21 ls [.long r8]) rfl ?_
    refine lv_lconst (v := 0) hx hb h_K_isTaken_21 (by decide) ?_
    refine W.lcmp hx hb h_K_isTaken_22 ?_
    refine lv_if_ne (tgt := 30) hx hb h_K_isTaken_23 (by decide) (fun c9 => ?_) (fun c9 => ?_)
    · skip
      replace hw := hw.2 c9
      refine lv_iconst (v := 0) hx hb h_K_isTaken_30 (by decide) ?_
      exact K_31 () z1 0 σ7 _ _ _ _ _ hw h (lv_sub hl [1] rfl)
    · skip
      replace hw := hw.1 c9
      refine lv_iconst (v := 1) hx hb h_K_isTaken_26 (by decide) ?_
      refine lv_goto (tgt := 31) hx hb h_K_isTaken_27 (by decide) ?_
      exact K_31 () z1 1 σ7 _ _ _ _ _ hw h (lv_sub hl [1] rfl)
  have K_134 : ∀ (u9 : Unit), ∀ (s0 : Int32) (s1 : Int32) (σ : CST) (H : Heap) (locs : List Loc) (cells slots : Nat) (ls : Array Slot), x_K_isTaken_134 a0 P s0 s1 σ → CH (dC, dI) A ca ({ frames := 2, cells := σ0.2.2.2.2.1, slots := σ0.2.2.2.2.2.1, locals := 40 } : Room) σ0.2.2.2.2.2.2 σ s H locs cells slots → lv_has ls 4 [] → W p l e ({ frames := 2, cells := σ0.2.2.2.2.1, slots := σ0.2.2.2.2.2.1, locals := 40 } : Room) s m ([.ref a0, .int x1] : List Value).toArray below meth cx H locs cells slots Q (F0 m 134 ls [.int s0, .int s1]) := by
    intro u9 s0 s1 σ H locs cells slots ls hw h hl
    unfold x_K_isTaken_134 at hw
    refine lv_icmp_ne (tgt := 141) hx hb h_K_isTaken_134 (by decide) (fun c10 => ?_) (fun c10 => ?_)
    · skip
      replace hw := hw.2 c10
      refine lv_iconst (v := 0) hx hb h_K_isTaken_141 (by decide) ?_
      exact hend (0 : Int32) σ _ _ _ _ _ _ rfl hw h h_K_isTaken_142
    · skip
      replace hw := hw.1 c10
      refine lv_iconst (v := 1) hx hb h_K_isTaken_137 (by decide) ?_
      refine lv_goto (tgt := 142) hx hb h_K_isTaken_138 (by decide) ?_
      exact hend (1 : Int32) σ _ _ _ _ _ _ rfl hw h h_K_isTaken_142
  have K_122 : ∀ (u9 : Unit), ∀ (z1 : Int32) (s0 : Int32) (σ : CST) (H : Heap) (locs : List Loc) (cells slots : Nat) (ls : Array Slot), x_K_isTaken_122 a0 P z1 s0 σ → CH (dC, dI) A ca ({ frames := 2, cells := σ0.2.2.2.2.1, slots := σ0.2.2.2.2.2.1, locals := 40 } : Room) σ0.2.2.2.2.2.2 σ s H locs cells slots → lv_has ls 4 [(1, .int z1)] → W p l e ({ frames := 2, cells := σ0.2.2.2.2.1, slots := σ0.2.2.2.2.2.1, locals := 40 } : Room) s m ([.ref a0, .int x1] : List Value).toArray below meth cx H locs cells slots Q (F0 m 122 ls [.int s0]) := by
    intro u9 z1 s0 σ H locs cells slots ls hw h hl
    unfold x_K_isTaken_122 at hw
    refine lv_iload_n hx hb h_K_isTaken_122 rfl (lv_at hl 0 rfl) ?_
    refine lv_sipush (v := 165) hx hb h_K_isTaken_123 (by decide) ?_
    refine lv_icmp_ne (tgt := 133) hx hb h_K_isTaken_126 (by decide) (fun c11 => ?_) (fun c11 => ?_)
    · skip
      replace hw := hw.2 c11
      refine lv_iconst (v := 0) hx hb h_K_isTaken_133 (by decide) ?_
      exact K_134 () 0 s0 σ _ _ _ _ _ hw h (lv_sub hl [] rfl)
    · skip
      replace hw := hw.1 c11
      refine lv_iconst (v := 1) hx hb h_K_isTaken_129 (by decide) ?_
      refine lv_goto (tgt := 134) hx hb h_K_isTaken_130 (by decide) ?_
      exact K_134 () 1 s0 σ _ _ _ _ _ hw h (lv_sub hl [] rfl)
  have hl : lv_has ls 4 [(0, .ref a0), (1, .int x1)] := hl
  unfold x_K_isTaken at hw
  refine lv_iload_n hx hb h_K_isTaken_0 rfl (lv_at hl 1 rfl) ?_
  refine lv_sipush (v := 198) hx hb h_K_isTaken_1 (by decide) ?_
  refine lv_icmp_eq (tgt := 14) hx hb h_K_isTaken_4 (by decide) (fun c12 => ?_) (fun c12 => ?_)
  · skip
    replace hw := hw.1 c12
    exact K_14 () x1 σ0 _ _ _ _ _ hw h (lv_sub hl [0, 1] rfl)
  · skip
    replace hw := hw.2 c12
    refine lv_iload_n hx hb h_K_isTaken_7 rfl (lv_at hl 1 rfl) ?_
    refine lv_sipush (v := 199) hx hb h_K_isTaken_8 (by decide) ?_
    refine lv_icmp_ne (tgt := 52) hx hb h_K_isTaken_11 (by decide) (fun c13 => ?_) (fun c13 => ?_)
    · skip
      replace hw := hw.2 c13
      refine lv_iload_n hx hb h_K_isTaken_52 rfl (lv_at hl 1 rfl) ?_
      refine lv_sipush (v := 158) hx hb h_K_isTaken_53 (by decide) ?_
      refine lv_icmp_gt (tgt := 76) hx hb h_K_isTaken_56 (by decide) (fun c14 => ?_) (fun c14 => ?_)
      · skip
        replace hw := hw.1 c14
        refine lv_aload_n hx hb h_K_isTaken_76 rfl (lv_at hl 0 rfl) ?_
        obtain ⟨g15, hw⟩ := hw
        refine C_get C h 2 5 (v := va_rf (σ0.2.2.2.1 a0 5)) g15 rfl (Cn := R_K) (T := T_K) (N := 14) rfl (by decide) rfl uw_K (by decide) u_231 (fun _ q => q) h_K_isTaken_77 ?_
        refine lv_topq (fun b16 e_b16 => ?_)
        replace hw := hw b16 e_b16
        obtain ⟨r17, e_r17, hw⟩ := hw
        subst e_r17
        have hl : lv_has ls 4 [(0, .ref a0), (1, .int x1)] := hl
        refine W.eq (g2 := F0 m 80 ls [.ref r17]) rfl ?_
        obtain ⟨g18, hw⟩ := hw
        refine C_callVi (As := []) (rest := []) C h (ci := 0) (Cn := R_C) (T := T_C) (N := 5) g18 rfl (by decide) (X_C_popInt l dC dI ca s.heap σ0 r17 hw) (cwV 0 hts (gV hsub u_246 u_247 u_248 u_12 u_249) rfl rfl rfl (by decide +kernel) ⟨(Nat.le_of_ble_eq_true rfl), (Nat.le_of_ble_eq_true rfl)⟩) rfl hl.1 (Nat.le_of_ble_eq_true rfl) h_K_isTaken_80 (fun r20 σ19 H locs cells slots hw9 h9 => ?_)
        clear hw h; have hw := hw9; have h := h9; clear hw9 h9
        refine W.eq (g2 := F0 m 83 ls [.int r20]) rfl ?_
        refine lv_istore_n (i := 2) (lv' := [(2, .int r20), (0, .ref a0), (1, .int x1)]) hx hb h_K_isTaken_83 rfl hl (by decide) rfl (fun ls hl => ?_)
        refine lv_aload_n hx hb h_K_isTaken_84 rfl (lv_at hl 1 rfl) ?_
        obtain ⟨g21, hw⟩ := hw
        refine C_get C h 2 5 (v := va_rf (σ19.2.2.2.1 a0 5)) g21 rfl (Cn := R_K) (T := T_K) (N := 14) rfl (by decide) rfl uw_K (by decide) u_231 (fun _ q => q) h_K_isTaken_85 ?_
        refine lv_topq (fun b22 e_b22 => ?_)
        replace hw := hw b22 e_b22
        obtain ⟨r23, e_r23, hw⟩ := hw
        subst e_r23
        have hl : lv_has ls 4 [(2, .int r20), (0, .ref a0), (1, .int x1)] := hl
        refine W.eq (g2 := F0 m 88 ls [.ref r23]) rfl ?_
        obtain ⟨g24, hw⟩ := hw
        refine C_callVi (As := []) (rest := []) C h (ci := 0) (Cn := R_C) (T := T_C) (N := 5) g24 rfl (by decide) (X_C_popInt l dC dI ca H σ19 r23 hw) (cwV 0 hts (gV hsub u_246 u_247 u_248 u_12 u_249) rfl rfl rfl (by decide +kernel) ⟨(Nat.le_of_ble_eq_true rfl), (Nat.le_of_ble_eq_true rfl)⟩) rfl hl.1 (Nat.le_of_ble_eq_true rfl) h_K_isTaken_88 (fun r26 σ25 H locs cells slots hw9 h9 => ?_)
        clear hw h; have hw := hw9; have h := h9; clear hw9 h9
        refine W.eq (g2 := F0 m 91 ls [.int r26]) rfl ?_
        refine lv_istore_n (i := 3) (lv' := [(3, .int r26), (2, .int r20), (0, .ref a0), (1, .int x1)]) hx hb h_K_isTaken_91 rfl hl (by decide) rfl (fun ls hl => ?_)
        refine lv_iload_n hx hb h_K_isTaken_92 rfl (lv_at hl 3 rfl) ?_
        refine lv_sipush (v := 164) hx hb h_K_isTaken_93 (by decide) ?_
        refine lv_icmp_gt (tgt := 112) hx hb h_K_isTaken_96 (by decide) (fun c27 => ?_) (fun c27 => ?_)
        · skip
          replace hw := hw.1 c27
          refine lv_iload_n hx hb h_K_isTaken_112 rfl (lv_at hl 0 rfl) ?_
          refine lv_iload_n hx hb h_K_isTaken_113 rfl (lv_at hl 1 rfl) ?_
          refine lv_icmp_ne (tgt := 121) hx hb h_K_isTaken_114 (by decide) (fun c28 => ?_) (fun c28 => ?_)
          · skip
            replace hw := hw.2 c28
            refine lv_iconst (v := 0) hx hb h_K_isTaken_121 (by decide) ?_
            exact K_122 () x1 0 σ25 _ _ _ _ _ hw h (lv_sub hl [3] rfl)
          · skip
            replace hw := hw.1 c28
            refine lv_iconst (v := 1) hx hb h_K_isTaken_117 (by decide) ?_
            refine lv_goto (tgt := 122) hx hb h_K_isTaken_118 (by decide) ?_
            exact K_122 () x1 1 σ25 _ _ _ _ _ hw h (lv_sub hl [3] rfl)
        · skip
          replace hw := hw.2 c27
          refine lv_iload_n hx hb h_K_isTaken_99 rfl (lv_at hl 3 rfl) ?_
          refine lv_sipush (v := 159) hx hb h_K_isTaken_100 (by decide) ?_
          refine lv_isub hx hb h_K_isTaken_103 ?_
          refine lv_iload_n hx hb h_K_isTaken_104 rfl (lv_at hl 0 rfl) ?_
          refine lv_iload_n hx hb h_K_isTaken_105 rfl (lv_at hl 1 rfl) ?_
          refine C_callSi (As := [.int (x1 - 159), .int r26, .int r20]) (rest := []) C h (X_K_holds l dC dI ca H σ25 (x1 - 159) r26 r20 hw) (va_cwS 3 hts (gS hsub u_308 u_309 u_260 u_310) rfl rfl rfl (by decide +kernel) ⟨(Nat.le_of_ble_eq_true rfl), (Nat.le_of_ble_eq_true rfl)⟩) rfl hl.1 (Nat.le_of_ble_eq_true rfl) h_K_isTaken_106 (fun r30 σ29 H locs cells slots hw9 h9 => ?_)
          clear hw h; have hw := hw9; have h := h9; clear hw9 h9
          refine W.eq (g2 := F0 m 109 ls [.int r30]) rfl ?_
          refine lv_goto (tgt := 142) hx hb h_K_isTaken_109 (by decide) ?_
          exact hend r30 σ29 _ _ _ _ _ _ hw.1 hw.2 h h_K_isTaken_142
      · skip
        replace hw := hw.2 c14
        refine lv_iload_n hx hb h_K_isTaken_59 rfl (lv_at hl 1 rfl) ?_
        refine lv_sipush (v := 153) hx hb h_K_isTaken_60 (by decide) ?_
        refine lv_isub hx hb h_K_isTaken_63 ?_
        refine lv_aload_n hx hb h_K_isTaken_64 rfl (lv_at hl 0 rfl) ?_
        obtain ⟨g31, hw⟩ := hw
        refine C_get C h 2 5 (v := va_rf (σ0.2.2.2.1 a0 5)) g31 rfl (Cn := R_K) (T := T_K) (N := 14) rfl (by decide) rfl uw_K (by decide) u_231 (fun _ q => q) h_K_isTaken_65 ?_
        refine lv_topq (fun b32 e_b32 => ?_)
        replace hw := hw b32 e_b32
        obtain ⟨r33, e_r33, hw⟩ := hw
        subst e_r33
        have hl : lv_has ls 4 [(0, .ref a0), (1, .int x1)] := hl
        refine W.eq (g2 := F0 m 68 ls [.ref r33, .int (x1 - 153)]) rfl ?_
        obtain ⟨g34, hw⟩ := hw
        refine C_callVi (As := []) (rest := [.int (x1 - 153)]) C h (ci := 0) (Cn := R_C) (T := T_C) (N := 5) g34 rfl (by decide) (X_C_popInt l dC dI ca s.heap σ0 r33 hw) (cwV 0 hts (gV hsub u_246 u_247 u_248 u_12 u_249) rfl rfl rfl (by decide +kernel) ⟨(Nat.le_of_ble_eq_true rfl), (Nat.le_of_ble_eq_true rfl)⟩) rfl hl.1 (Nat.le_of_ble_eq_true rfl) h_K_isTaken_68 (fun r36 σ35 H locs cells slots hw9 h9 => ?_)
        clear hw h; have hw := hw9; have h := h9; clear hw9 h9
        refine W.eq (g2 := F0 m 71 ls [.int r36, .int (x1 - 153)]) rfl ?_
        refine lv_iconst (v := 0) hx hb h_K_isTaken_71 (by decide) ?_
        refine C_callSi (As := [.int (x1 - 153), .int r36, .int 0]) (rest := []) C h (X_K_holds l dC dI ca H σ35 (x1 - 153) r36 (0 : Int32) hw) (va_cwS 3 hts (gS hsub u_308 u_309 u_260 u_310) rfl rfl rfl (by decide +kernel) ⟨(Nat.le_of_ble_eq_true rfl), (Nat.le_of_ble_eq_true rfl)⟩) rfl hl.1 (Nat.le_of_ble_eq_true rfl) h_K_isTaken_72 (fun r38 σ37 H locs cells slots hw9 h9 => ?_)
        clear hw h; have hw := hw9; have h := h9; clear hw9 h9
        refine W.eq (g2 := F0 m 75 ls [.int r38]) rfl ?_
        exact hend r38 σ37 _ _ _ _ _ _ hw.1 hw.2 h h_K_isTaken_75
    · skip
      replace hw := hw.1 c13
      exact K_14 () x1 σ0 _ _ _ _ _ hw h (lv_sub hl [0, 1] rfl)
abbrev g_E_branchPlace : MethodName := ⟨"MapFramer$Method", "branchPlace", "(I)I"⟩
theorem u_311 : (Cond.methodLink "MapFramer$Method" 61 ⟨"MapFramer$Method", "signedPairAt", "(I)I"⟩ : Cond) ∈ bigW := inB_4 33 (by decide +kernel) rfl
theorem h_E_branchPlace_0 : decode prog_7_method_10_code 0 = .ok (.iload_n 1, 1) := by decide +kernel
theorem h_E_branchPlace_1 : decode prog_7_method_10_code 1 = .ok (.aload_n 0, 1) := by decide +kernel
theorem h_E_branchPlace_2 : decode prog_7_method_10_code 2 = .ok (.iload_n 1, 1) := by decide +kernel
theorem h_E_branchPlace_3 : decode prog_7_method_10_code 3 = .ok (.iconst 1, 1) := by decide +kernel
theorem h_E_branchPlace_4 : decode prog_7_method_10_code 4 = .ok (.iadd, 1) := by decide +kernel
theorem h_E_branchPlace_5 : decode prog_7_method_10_code 5 = .ok (.invokevirtual 61, 3) := by decide +kernel
theorem h_E_branchPlace_8 : decode prog_7_method_10_code 8 = .ok (.iadd, 1) := by decide +kernel
theorem h_E_branchPlace_9 : decode prog_7_method_10_code 9 = .ok (.ireturn, 1) := by decide +kernel
def x_E_branchPlace (a0 : Nat) (x1 : Int32) (σ0 : CST) (P : Int32 → CST → Prop) : Prop := σ0.1 a0 = some (5, 0) ∧ (x_E_signedPairAt a0 (x1 + 1) σ0 (fun r3 σ2 => P (x1 + r3) σ2))
set_option maxHeartbeats 4000000 in
set_option maxRecDepth 100000 in
theorem X_E_branchPlace (l : Launch) (dC : Nat → ClassId) (dI : Nat → Nat → Nat) (ca : Nat → ClassId) (H0 : Heap) (σ0 : CST) (a0 : Nat) (x1 : Int32) {P : Int32 → CST → Prop} (hw : x_E_branchPlace a0 x1 σ0 P) : Met l g_E_branchPlace (mW g_E_branchPlace prog_7_method_10_code 2 (some .int)) ({ frames := 2, cells := σ0.2.2.2.2.1, slots := σ0.2.2.2.2.2.1, locals := 42 } : Room) (va_Pc [.ref a0, .int x1] (CPre (dC, dI) ca σ0 H0)) (va_Qi P (CB (dC, dI) ca σ0 H0) (cA σ0 H0.size)) σ0.2.2.2.2.1 σ0.2.2.2.2.2.1 (cA σ0 H0.size) := by
  refine C_ofi (by decide +kernel) rfl rfl rfl (Nat.le_of_ble_eq_true rfl) ?_
  intro p e s m below meth cx Q A ls C hnm hend hH0 h hl
  subst hH0
  have C0 := C
  obtain ⟨⟨hx, hb, hml, hown, hts⟩, hsub⟩ := C0
  obtain ⟨cells, e_cells⟩ : ∃ z : Nat, z = 0 := ⟨_, rfl⟩
  obtain ⟨slots, e_slots⟩ : ∃ z : Nat, z = 0 := ⟨_, rfl⟩
  have h : CH (dC, dI) A ca ({ frames := 2, cells := σ0.2.2.2.2.1, slots := σ0.2.2.2.2.2.1, locals := 42 } : Room) σ0.2.2.2.2.2.2 σ0 s s.heap [] cells slots := by rw [e_cells, e_slots]; exact h
  show W p l e ({ frames := 2, cells := σ0.2.2.2.2.1, slots := σ0.2.2.2.2.2.1, locals := 42 } : Room) s m ([.ref a0, .int x1] : List Value).toArray below meth cx s.heap [] 0 0 Q (F0 m 0 ls [])
  rw [show W p l e ({ frames := 2, cells := σ0.2.2.2.2.1, slots := σ0.2.2.2.2.2.1, locals := 42 } : Room) s m ([.ref a0, .int x1] : List Value).toArray below meth cx s.heap [] 0 0 Q (F0 m 0 ls []) = W p l e ({ frames := 2, cells := σ0.2.2.2.2.1, slots := σ0.2.2.2.2.2.1, locals := 42 } : Room) s m ([.ref a0, .int x1] : List Value).toArray below meth cx s.heap [] cells slots Q (F0 m 0 ls []) by rw [e_cells, e_slots]]
  have hl : lv_has ls 2 [(0, .ref a0), (1, .int x1)] := hl
  unfold x_E_branchPlace at hw
  refine lv_iload_n hx hb h_E_branchPlace_0 rfl (lv_at hl 1 rfl) ?_
  refine lv_aload_n hx hb h_E_branchPlace_1 rfl (lv_at hl 0 rfl) ?_
  refine lv_iload_n hx hb h_E_branchPlace_2 rfl (lv_at hl 1 rfl) ?_
  refine lv_iconst (v := 1) hx hb h_E_branchPlace_3 (by decide) ?_
  refine lv_iadd hx hb h_E_branchPlace_4 ?_
  obtain ⟨g1, hw⟩ := hw
  refine C_callVi (As := [.int (x1 + 1)]) (rest := [.int x1]) C h (ci := 5) (Cn := R_E) (T := T_E) (N := 13) g1 rfl (by decide) (X_E_signedPairAt l dC dI ca s.heap σ0 a0 (x1 + 1) hw) (cwV 1 hts (gV hsub u_311 u_239 u_240 u_229 u_241) rfl rfl rfl (by decide +kernel) ⟨(Nat.le_of_ble_eq_true rfl), (Nat.le_of_ble_eq_true rfl)⟩) rfl hl.1 (Nat.le_of_ble_eq_true rfl) h_E_branchPlace_5 (fun r3 σ2 H locs cells slots hw9 h9 => ?_)
  clear hw h; have hw := hw9; have h := h9; clear hw9 h9
  refine W.eq (g2 := F0 m 8 ls [.int r3, .int x1]) rfl ?_
  refine lv_iadd hx hb h_E_branchPlace_8 ?_
  exact hend (x1 + r3) σ2 _ _ _ _ _ _ hw h h_E_branchPlace_9
