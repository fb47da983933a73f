abbrev g_Ve_flow : MethodName := ⟨"MapFramer$Verifier", "flow", "()V"⟩
theorem u_797 : (Cond.methodLink "MapFramer$Verifier" 165 ⟨"MapFramer$Verifier", "look", "(I)V"⟩ : Cond) ∈ bigW := inB_4 114 (by decide +kernel) rfl
theorem u_798 : (Cond.instanceMethod ⟨"MapFramer$Verifier", "look", "(I)V"⟩ : Cond) ∈ bigW := inB_4 116 (by decide +kernel) rfl
theorem u_799 : (Cond.selects "MapFramer$Verifier" ⟨"MapFramer$Verifier", "look", "(I)V"⟩ ⟨"MapFramer$Verifier", "look", "(I)V"⟩ : Cond) ∈ bigW := inS (y := ⟨"MapFramer$Verifier", "look", "(I)V"⟩) (n := 10) (List.mem_of_getElem? (i := 9) (by decide +kernel))
theorem u_800 : (Cond.code ⟨"MapFramer$Verifier", "look", "(I)V"⟩ prog_11_method_10_code 6 none : Cond) ∈ bigW := inB_4 117 rfl rfl
theorem u_801 : (Cond.constant "MapFramer$Verifier" 161 1000000 : Cond) ∈ bigW := inB_4 113 (by decide +kernel) rfl
theorem u_802 : (Cond.methodLink "MapFramer$Verifier" 151 ⟨"MapFramer$State", "setLocal", "(II)V"⟩ : Cond) ∈ bigW := inB_4 66 (by decide +kernel) rfl
theorem u_803 : (Cond.methodLink "MapFramer$Verifier" 154 ⟨"MapFramer$World", "width", "(I)I"⟩ : Cond) ∈ bigW := inB_4 71 (by decide +kernel) rfl
theorem u_804 : (Cond.fieldLink "MapFramer$Verifier" 148 "MapFramer$Method" "arguments" "[I" : Cond) ∈ bigW := inB_2 159 (by decide +kernel) rfl
theorem h_Ve_flow_0 : decode prog_11_method_9_code 0 = .ok (.aload_n 0, 1) := by decide +kernel
theorem h_Ve_flow_1 : decode prog_11_method_9_code 1 = .ok (.getfield 15, 3) := by decide +kernel
theorem h_Ve_flow_4 : decode prog_11_method_9_code 4 = .ok (.getfield 67, 3) := by decide +kernel
theorem h_Ve_flow_7 : decode prog_11_method_9_code 7 = .ok (.ifCond .eq 4, 3) := by decide +kernel
theorem h_Ve_flow_10 : decode prog_11_method_9_code 10 = .ok (.return_, 1) := by decide +kernel
theorem h_Ve_flow_11 : decode prog_11_method_9_code 11 = .ok (.iconst 0, 1) := by decide +kernel
theorem h_Ve_flow_12 : decode prog_11_method_9_code 12 = .ok (.istore_n 1, 1) := by decide +kernel
theorem h_Ve_flow_13 : decode prog_11_method_9_code 13 = .ok (.aload_n 0, 1) := by decide +kernel
theorem h_Ve_flow_14 : decode prog_11_method_9_code 14 = .ok (.getfield 15, 3) := by decide +kernel
theorem h_Ve_flow_17 : decode prog_11_method_9_code 17 = .ok (.getfield 148, 3) := by decide +kernel
theorem h_Ve_flow_20 : decode prog_11_method_9_code 20 = .ok (.astore_n 2, 1) := by decide +kernel
theorem h_Ve_flow_21 : decode prog_11_method_9_code 21 = .ok (.aload_n 2, 1) := by decide +kernel
theorem h_Ve_flow_22 : decode prog_11_method_9_code 22 = .ok (.arraylength, 1) := by decide +kernel
theorem h_Ve_flow_23 : decode prog_11_method_9_code 23 = .ok (.istore_n 3, 1) := by decide +kernel
theorem h_Ve_flow_24 : decode prog_11_method_9_code 24 = .ok (.iconst 0, 1) := by decide +kernel
theorem h_Ve_flow_25 : decode prog_11_method_9_code 25 = .ok (.istore 4, 2) := by decide +kernel
theorem h_Ve_flow_27 : decode prog_11_method_9_code 27 = .ok (.iload 4, 2) := by decide +kernel
theorem h_Ve_flow_29 : decode prog_11_method_9_code 29 = .ok (.iload_n 3, 1) := by decide +kernel
theorem h_Ve_flow_30 : decode prog_11_method_9_code 30 = .ok (.if_icmp .ge 33, 3) := by decide +kernel
theorem h_Ve_flow_33 : decode prog_11_method_9_code 33 = .ok (.aload_n 2, 1) := by decide +kernel
theorem h_Ve_flow_34 : decode prog_11_method_9_code 34 = .ok (.iload 4, 2) := by decide +kernel
theorem h_Ve_flow_36 : decode prog_11_method_9_code 36 = .ok (.iaload, 1) := by decide +kernel
theorem h_Ve_flow_37 : decode prog_11_method_9_code 37 = .ok (.istore 5, 2) := by decide +kernel
theorem h_Ve_flow_39 : decode prog_11_method_9_code 39 = .ok (.aload_n 0, 1) := by decide +kernel
theorem h_Ve_flow_40 : decode prog_11_method_9_code 40 = .ok (.getfield 61, 3) := by decide +kernel
theorem h_Ve_flow_43 : decode prog_11_method_9_code 43 = .ok (.iload_n 1, 1) := by decide +kernel
theorem h_Ve_flow_44 : decode prog_11_method_9_code 44 = .ok (.iload 5, 2) := by decide +kernel
theorem h_Ve_flow_46 : decode prog_11_method_9_code 46 = .ok (.invokevirtual 151, 3) := by decide +kernel
theorem h_Ve_flow_49 : decode prog_11_method_9_code 49 = .ok (.iload_n 1, 1) := by decide +kernel
theorem h_Ve_flow_50 : decode prog_11_method_9_code 50 = .ok (.iload 5, 2) := by decide +kernel
theorem h_Ve_flow_52 : decode prog_11_method_9_code 52 = .ok (.invokestatic 154, 3) := by decide +kernel
theorem h_Ve_flow_55 : decode prog_11_method_9_code 55 = .ok (.iadd, 1) := by decide +kernel
theorem h_Ve_flow_56 : decode prog_11_method_9_code 56 = .ok (.istore_n 1, 1) := by decide +kernel
theorem h_Ve_flow_57 : decode prog_11_method_9_code 57 = .ok (.iinc 4 1, 3) := by decide +kernel
theorem h_Ve_flow_60 : decode prog_11_method_9_code 60 = .ok (.goto (-33), 3) := by decide +kernel
theorem h_Ve_flow_63 : decode prog_11_method_9_code 63 = .ok (.aload_n 0, 1) := by decide +kernel
theorem h_Ve_flow_64 : decode prog_11_method_9_code 64 = .ok (.iconst 0, 1) := by decide +kernel
theorem h_Ve_flow_65 : decode prog_11_method_9_code 65 = .ok (.aload_n 0, 1) := by decide +kernel
theorem h_Ve_flow_66 : decode prog_11_method_9_code 66 = .ok (.getfield 61, 3) := by decide +kernel
theorem h_Ve_flow_69 : decode prog_11_method_9_code 69 = .ok (.invokevirtual 157, 3) := by decide +kernel
theorem h_Ve_flow_72 : decode prog_11_method_9_code 72 = .ok (.iconst 0, 1) := by decide +kernel
theorem h_Ve_flow_73 : decode prog_11_method_9_code 73 = .ok (.istore_n 2, 1) := by decide +kernel
theorem h_Ve_flow_74 : decode prog_11_method_9_code 74 = .ok (.iload_n 2, 1) := by decide +kernel
theorem h_Ve_flow_75 : decode prog_11_method_9_code 75 = .ok (.ldc 161, 2) := by decide +kernel
theorem h_Ve_flow_77 : decode prog_11_method_9_code 77 = .ok (.if_icmp .ge 87, 3) := by decide +kernel
theorem h_Ve_flow_80 : decode prog_11_method_9_code 80 = .ok (.aload_n 0, 1) := by decide +kernel
theorem h_Ve_flow_81 : decode prog_11_method_9_code 81 = .ok (.getfield 15, 3) := by decide +kernel
theorem h_Ve_flow_84 : decode prog_11_method_9_code 84 = .ok (.getfield 67, 3) := by decide +kernel
theorem h_Ve_flow_87 : decode prog_11_method_9_code 87 = .ok (.ifCond .ne 77, 3) := by decide +kernel
theorem h_Ve_flow_90 : decode prog_11_method_9_code 90 = .ok (.aload_n 0, 1) := by decide +kernel
theorem h_Ve_flow_91 : decode prog_11_method_9_code 91 = .ok (.getfield 162, 3) := by decide +kernel
theorem h_Ve_flow_94 : decode prog_11_method_9_code 94 = .ok (.aload_n 0, 1) := by decide +kernel
theorem h_Ve_flow_95 : decode prog_11_method_9_code 95 = .ok (.getfield 38, 3) := by decide +kernel
theorem h_Ve_flow_98 : decode prog_11_method_9_code 98 = .ok (.arraylength, 1) := by decide +kernel
theorem h_Ve_flow_99 : decode prog_11_method_9_code 99 = .ok (.if_icmp .ge 28, 3) := by decide +kernel
theorem h_Ve_flow_102 : decode prog_11_method_9_code 102 = .ok (.aload_n 0, 1) := by decide +kernel
theorem h_Ve_flow_103 : decode prog_11_method_9_code 103 = .ok (.getfield 38, 3) := by decide +kernel
theorem h_Ve_flow_106 : decode prog_11_method_9_code 106 = .ok (.aload_n 0, 1) := by decide +kernel
theorem h_Ve_flow_107 : decode prog_11_method_9_code 107 = .ok (.getfield 162, 3) := by decide +kernel
theorem h_Ve_flow_110 : decode prog_11_method_9_code 110 = .ok (.baload, 1) := by decide +kernel
theorem h_Ve_flow_111 : decode prog_11_method_9_code 111 = .ok (.ifCond .ne 16, 3) := by decide +kernel
theorem h_Ve_flow_114 : decode prog_11_method_9_code 114 = .ok (.aload_n 0, 1) := by decide +kernel
theorem h_Ve_flow_115 : decode prog_11_method_9_code 115 = .ok (.dup, 1) := by decide +kernel
theorem h_Ve_flow_116 : decode prog_11_method_9_code 116 = .ok (.getfield 162, 3) := by decide +kernel
theorem h_Ve_flow_119 : decode prog_11_method_9_code 119 = .ok (.iconst 1, 1) := by decide +kernel
theorem h_Ve_flow_120 : decode prog_11_method_9_code 120 = .ok (.iadd, 1) := by decide +kernel
theorem h_Ve_flow_121 : decode prog_11_method_9_code 121 = .ok (.putfield 162, 3) := by decide +kernel
theorem h_Ve_flow_124 : decode prog_11_method_9_code 124 = .ok (.goto (-34), 3) := by decide +kernel
theorem h_Ve_flow_127 : decode prog_11_method_9_code 127 = .ok (.aload_n 0, 1) := by decide +kernel
theorem h_Ve_flow_128 : decode prog_11_method_9_code 128 = .ok (.getfield 162, 3) := by decide +kernel
theorem h_Ve_flow_131 : decode prog_11_method_9_code 131 = .ok (.aload_n 0, 1) := by decide +kernel
theorem h_Ve_flow_132 : decode prog_11_method_9_code 132 = .ok (.getfield 38, 3) := by decide +kernel
theorem h_Ve_flow_135 : decode prog_11_method_9_code 135 = .ok (.arraylength, 1) := by decide +kernel
theorem h_Ve_flow_136 : decode prog_11_method_9_code 136 = .ok (.if_icmp .lt 4, 3) := by decide +kernel
theorem h_Ve_flow_139 : decode prog_11_method_9_code 139 = .ok (.return_, 1) := by decide +kernel
theorem h_Ve_flow_140 : decode prog_11_method_9_code 140 = .ok (.aload_n 0, 1) := by decide +kernel
theorem h_Ve_flow_141 : decode prog_11_method_9_code 141 = .ok (.getfield 38, 3) := by decide +kernel
theorem h_Ve_flow_144 : decode prog_11_method_9_code 144 = .ok (.aload_n 0, 1) := by decide +kernel
theorem h_Ve_flow_145 : decode prog_11_method_9_code 145 = .ok (.getfield 162, 3) := by decide +kernel
theorem h_Ve_flow_148 : decode prog_11_method_9_code 148 = .ok (.iconst 0, 1) := by decide +kernel
theorem h_Ve_flow_149 : decode prog_11_method_9_code 149 = .ok (.bastore, 1) := by decide +kernel
theorem h_Ve_flow_150 : decode prog_11_method_9_code 150 = .ok (.aload_n 0, 1) := by decide +kernel
theorem h_Ve_flow_151 : decode prog_11_method_9_code 151 = .ok (.aload_n 0, 1) := by decide +kernel
theorem h_Ve_flow_152 : decode prog_11_method_9_code 152 = .ok (.getfield 162, 3) := by decide +kernel
theorem h_Ve_flow_155 : decode prog_11_method_9_code 155 = .ok (.invokevirtual 165, 3) := by decide +kernel
theorem h_Ve_flow_158 : decode prog_11_method_9_code 158 = .ok (.iinc 2 1, 3) := by decide +kernel
theorem h_Ve_flow_161 : decode prog_11_method_9_code 161 = .ok (.goto (-87), 3) := by decide +kernel
theorem h_Ve_flow_164 : decode prog_11_method_9_code 164 = .ok (.return_, 1) := by decide +kernel
def x_Ve_flow_127 (a0 : Nat) (K74 : Int32 → CST → Prop) (P : CST → Prop) (z2 : Int32) (σ : CST) : Prop := σ.1 a0 = some (10, 0) ∧ (∀ b2 : Option Nat, b2 = (σ.2.2.2.1 a0 4) → (∃ r3 : Nat, b2 = some r3 ∧ ((∃ n5 : Nat, σ.1 r3 = some (21, n5) ∧ ((((σ.2.1 a0 5) < (Int32.ofNat n5) → ∀ b7 : Option Nat, b7 = (σ.2.2.2.1 a0 4) → (∃ r8 : Nat, b7 = some r8 ∧ ((∃ n10 : Nat, σ.1 r8 = some (21, n10) ∧ (vp_in (σ.2.1 a0 5) n10 ∧ (∀ σ12 : CST, σ12 = sI σ r8 ((σ.2.1 a0 5) : Int32).toNatClampNeg (vp_nar .boolean (0 : Int32)) → σ12.1 a0 = some (10, 0) ∧ (x_Ve_look a0 (σ12.2.1 a0 5) σ12 (fun σ14 => K74 (z2 + 1) σ14)))))))) ∧ (¬ (σ.2.1 a0 5) < (Int32.ofNat n5) → P σ)))))))
def x_Ve_flow_90 (a0 : Nat) (K74 : Int32 → CST → Prop) (P : CST → Prop) : Nat → Int32 → CST → Prop
  | 0, _, _ => False
  | n + 1, z2, σ => σ.1 a0 = some (10, 0) ∧ (∀ b17 : Option Nat, b17 = (σ.2.2.2.1 a0 4) → (∃ r18 : Nat, b17 = some r18 ∧ ((∃ n20 : Nat, σ.1 r18 = some (21, n20) ∧ ((((Int32.ofNat n20) ≤ (σ.2.1 a0 5) → x_Ve_flow_127 a0 K74 P z2 σ) ∧ (¬ (Int32.ofNat n20) ≤ (σ.2.1 a0 5) → ∀ b22 : Option Nat, b22 = (σ.2.2.2.1 a0 4) → (∃ r23 : Nat, b22 = some r23 ∧ ((∃ n25 : Nat, σ.1 r23 = some (21, n25) ∧ (vp_in (σ.2.1 a0 5) n25 ∧ (∀ b27 : Int32, b27 = (σ.2.1 r23 ((σ.2.1 a0 5) : Int32).toNatClampNeg) → ((b27 = 0 → ∀ σ29 : CST, σ29 = sI σ a0 5 ((σ.2.1 a0 5) + 1) → x_Ve_flow_90 a0 K74 P n z2 σ29) ∧ (¬ b27 = 0 → x_Ve_flow_127 a0 K74 P z2 σ))))))))))))))
def x_Ve_flow_74 (a0 : Nat) (P : CST → Prop) : Nat → Int32 → CST → Prop
  | 0, _, _ => False
  | n + 1, z2, σ => ((1000000 ≤ z2 → P σ) ∧ (¬ 1000000 ≤ z2 → σ.1 a0 = some (10, 0) ∧ (∀ b32 : Option Nat, b32 = (σ.2.2.2.1 a0 1) → (∃ r33 : Nat, b32 = some r33 ∧ (σ.1 r33 = some (5, 0) ∧ ((((σ.2.1 r33 7) = 0 → (∃ n9 : Nat, x_Ve_flow_90 a0 (x_Ve_flow_74 a0 P n) P n9 z2 σ)) ∧ (¬ (σ.2.1 r33 7) = 0 → P σ))))))))
def x_Ve_flow_27 (a0 : Nat) (P : CST → Prop) : Nat → Int32 → Option Nat → Int32 → Int32 → CST → Prop
  | 0, _, _, _, _, _ => False
  | n + 1, z1, z2, z3, z4, σ => ((z3 ≤ z4 → σ.1 a0 = some (10, 0) ∧ (∀ b38 : Option Nat, b38 = (σ.2.2.2.1 a0 8) → (∃ r39 : Nat, b38 = some r39 ∧ (x_Ve_give a0 (0 : Int32) r39 σ (fun σ40 => (∃ n9 : Nat, x_Ve_flow_74 a0 P n9 0 σ40)))))) ∧ (¬ z3 ≤ z4 → (∃ r42 : Nat, z2 = some r42 ∧ ((∃ n44 : Nat, σ.1 r42 = some (20, n44) ∧ (vp_in z4 n44 ∧ (∀ b46 : Int32, b46 = (σ.2.1 r42 (z4 : Int32).toNatClampNeg) → σ.1 a0 = some (10, 0) ∧ (∀ b48 : Option Nat, b48 = (σ.2.2.2.1 a0 8) → (∃ r49 : Nat, b48 = some r49 ∧ (σ.1 r49 = some (8, 0) ∧ (x_St_setLocal r49 z1 b46 σ (fun σ51 => x_W_width b46 σ51 (fun r54 σ53 => x_Ve_flow_27 a0 P n (z1 + r54) (some r42) z3 (z4 + 1) σ53)))))))))))))
def x_Ve_flow (a0 : Nat) (σ0 : CST) (P : CST → Prop) : Prop := σ0.1 a0 = some (10, 0) ∧ (∀ b56 : Option Nat, b56 = (σ0.2.2.2.1 a0 1) → (∃ r57 : Nat, b56 = some r57 ∧ (σ0.1 r57 = some (5, 0) ∧ ((((σ0.2.1 r57 7) = 0 → ∀ b60 : Option Nat, b60 = (σ0.2.2.2.1 a0 1) → (∃ r61 : Nat, b60 = some r61 ∧ (σ0.1 r61 = some (5, 0) ∧ (∀ b63 : Option Nat, b63 = (σ0.2.2.2.1 r61 0) → (∃ r64 : Nat, b63 = some r64 ∧ ((∃ n66 : Nat, σ0.1 r64 = some (20, n66) ∧ ((∃ n9 : Nat, x_Ve_flow_27 a0 P n9 0 (some r64) (Int32.ofNat n66) 0 σ0))))))))) ∧ (¬ (σ0.2.1 r57 7) = 0 → P σ0))))))
set_option maxHeartbeats 4000000 in
set_option maxRecDepth 100000 in
theorem X_Ve_flow (l : Launch) (dC : Nat → ClassId) (dI : Nat → Nat → Nat) (ca : Nat → ClassId) (H0 : Heap) (σ0 : CST) (a0 : Nat) {P : CST → Prop} (hw : x_Ve_flow a0 σ0 P) : Met l g_Ve_flow (mW g_Ve_flow prog_11_method_9_code 6 none) ({ frames := 6, cells := σ0.2.2.2.2.1, slots := σ0.2.2.2.2.2.1, locals := 212 } : Room) (va_Pc [.ref a0] (CPre (dC, dI) ca σ0 H0)) (va_Qv P (CB (dC, dI) ca σ0 H0) (cA σ0 H0.size)) σ0.2.2.2.2.1 σ0.2.2.2.2.2.1 (cA σ0 H0.size) := by
  refine C_ofv (by decide +kernel) rfl rfl rfl (Nat.le_of_ble_eq_true rfl) ?_
  intro p e s m below meth cx Q A ls C hnm hend hH0 h hl
  subst hH0
  have C0 := C
  obtain ⟨⟨hx, hb, hml, hown, hts⟩, hsub⟩ := C0
  obtain ⟨cells, e_cells⟩ : ∃ z : Nat, z = 0 := ⟨_, rfl⟩
  obtain ⟨slots, e_slots⟩ : ∃ z : Nat, z = 0 := ⟨_, rfl⟩
  have h : CH (dC, dI) A ca ({ frames := 6, cells := σ0.2.2.2.2.1, slots := σ0.2.2.2.2.2.1, locals := 212 } : Room) σ0.2.2.2.2.2.2 σ0 s s.heap [] cells slots := by rw [e_cells, e_slots]; exact h
  show W p l e ({ frames := 6, cells := σ0.2.2.2.2.1, slots := σ0.2.2.2.2.2.1, locals := 212 } : Room) s m ([.ref a0] : List Value).toArray below meth cx s.heap [] 0 0 Q (F0 m 0 ls [])
  rw [show W p l e ({ frames := 6, cells := σ0.2.2.2.2.1, slots := σ0.2.2.2.2.2.1, locals := 212 } : Room) s m ([.ref a0] : List Value).toArray below meth cx s.heap [] 0 0 Q (F0 m 0 ls []) = W p l e ({ frames := 6, cells := σ0.2.2.2.2.1, slots := σ0.2.2.2.2.2.1, locals := 212 } : Room) s m ([.ref a0] : List Value).toArray below meth cx s.heap [] cells slots Q (F0 m 0 ls []) by rw [e_cells, e_slots]]
  have K_127 : ∀ (K74 : Int32 → CST → Prop) (hK74 : ∀ (z2 : Int32) (σ : CST) (H : Heap) (locs : List Loc) (cells slots : Nat) (ls : Array Slot), K74 z2 σ → CH (dC, dI) A ca ({ frames := 6, cells := σ0.2.2.2.2.1, slots := σ0.2.2.2.2.2.1, locals := 212 } : Room) σ0.2.2.2.2.2.2 σ s H locs cells slots → lv_has ls 6 [(0, .ref a0), (2, .int z2)] → W p l e ({ frames := 6, cells := σ0.2.2.2.2.1, slots := σ0.2.2.2.2.2.1, locals := 212 } : Room) s m ([.ref a0] : List Value).toArray below meth cx H locs cells slots Q (F0 m 74 ls [])), ∀ (z2 : Int32) (σ : CST) (H : Heap) (locs : List Loc) (cells slots : Nat) (ls : Array Slot), x_Ve_flow_127 a0 K74 P z2 σ → CH (dC, dI) A ca ({ frames := 6, cells := σ0.2.2.2.2.1, slots := σ0.2.2.2.2.2.1, locals := 212 } : Room) σ0.2.2.2.2.2.2 σ s H locs cells slots → lv_has ls 6 [(0, .ref a0), (2, .int z2)] → W p l e ({ frames := 6, cells := σ0.2.2.2.2.1, slots := σ0.2.2.2.2.2.1, locals := 212 } : Room) s m ([.ref a0] : List Value).toArray below meth cx H locs cells slots Q (F0 m 127 ls []) := by
    intro K74 hK74 z2 σ H locs cells slots ls hw h hl
    unfold x_Ve_flow_127 at hw
    refine lv_aload_n hx hb h_Ve_flow_127 rfl (lv_at hl 0 rfl) ?_
    obtain ⟨g1, hw⟩ := hw
    refine C_get C h 10 5 (v := .int (σ.2.1 a0 5)) g1 rfl (Cn := R_Ve) (T := T_Ve) (N := 10) rfl (by decide) rfl uw_Ve (by decide) u_755 (fun _ q => q) h_Ve_flow_128 ?_
    refine lv_aload_n hx hb h_Ve_flow_131 rfl (lv_at hl 0 rfl) ?_
    refine C_get C h 10 4 (v := va_rf (σ.2.2.2.1 a0 4)) g1 rfl (Cn := R_Ve) (T := T_Ve) (N := 10) rfl (by decide) rfl uw_Ve (by decide) u_691 (fun _ q => q) h_Ve_flow_132 ?_
    refine lv_topq (fun b2 e_b2 => ?_)
    replace hw := hw b2 e_b2
    obtain ⟨r3, e_r3, hw⟩ := hw
    subst e_r3
    have hl : lv_has ls 6 [(0, .ref a0), (2, .int z2)] := hl
    refine W.eq (g2 := F0 m 135 ls [.ref r3, .int (σ.2.1 a0 5)]) rfl ?_
    obtain ⟨n5, g4, hw⟩ := hw
    refine C_alen C h 21 1 rfl (by decide) g4 h_Ve_flow_135 ?_
    refine lv_icmp_lt (tgt := 140) hx hb h_Ve_flow_136 (by decide) (fun c6 => ?_) (fun c6 => ?_)
    · skip
      replace hw := hw.1 c6
      refine lv_aload_n hx hb h_Ve_flow_140 rfl (lv_at hl 0 rfl) ?_
      refine C_get C h 10 4 (v := va_rf (σ.2.2.2.1 a0 4)) g1 rfl (Cn := R_Ve) (T := T_Ve) (N := 10) rfl (by decide) rfl uw_Ve (by decide) u_691 (fun _ q => q) h_Ve_flow_141 ?_
      refine lv_topq (fun b7 e_b7 => ?_)
      replace hw := hw b7 e_b7
      refine lv_aload_n hx hb h_Ve_flow_144 rfl (lv_at hl 0 rfl) ?_
      refine C_get C h 10 5 (v := .int (σ.2.1 a0 5)) g1 rfl (Cn := R_Ve) (T := T_Ve) (N := 10) rfl (by decide) rfl uw_Ve (by decide) u_755 (fun _ q => q) h_Ve_flow_145 ?_
      refine lv_iconst (v := 0) hx hb h_Ve_flow_148 (by decide) ?_
      obtain ⟨r8, e_r8, hw⟩ := hw
      subst e_r8
      have hl : lv_has ls 6 [(0, .ref a0), (2, .int z2)] := hl
      refine W.eq (g2 := F0 m 149 ls [.int 0, .int (σ.2.1 a0 5), .ref r8]) rfl ?_
      obtain ⟨n10, g9, hw⟩ := hw
      obtain ⟨g11, hw⟩ := hw
      refine C_zast C h g9 g11 h_Ve_flow_149 (fun H locs h => ?_)
      obtain ⟨σ12, e_σ12⟩ : ∃ z : CST, z = sI σ r8 ((σ.2.1 a0 5) : Int32).toNatClampNeg (vp_nar .boolean (0 : Int32)) := ⟨_, rfl⟩
      rw [← e_σ12] at h
      replace hw := hw σ12 e_σ12
      refine lv_aload_n hx hb h_Ve_flow_150 rfl (lv_at hl 0 rfl) ?_
      refine lv_aload_n hx hb h_Ve_flow_151 rfl (lv_at hl 0 rfl) ?_
      obtain ⟨g13, hw⟩ := hw
      refine C_get C h 10 5 (v := .int (σ12.2.1 a0 5)) g13 rfl (Cn := R_Ve) (T := T_Ve) (N := 10) rfl (by decide) rfl uw_Ve (by decide) u_755 (fun _ q => q) h_Ve_flow_152 ?_
      refine C_callVv (As := [.int (σ12.2.1 a0 5)]) (rest := []) C h (ci := 10) (Cn := R_Ve) (T := T_Ve) (N := 10) g13 rfl (by decide) (X_Ve_look l dC dI ca H σ12 a0 (σ12.2.1 a0 5) hw) (cwV 1 hts (gV hsub u_797 u_798 u_799 u_726 u_800) rfl rfl rfl (by decide +kernel) ⟨(Nat.le_of_ble_eq_true rfl), (Nat.le_of_ble_eq_true rfl)⟩) rfl hl.1 (Nat.le_of_ble_eq_true rfl) h_Ve_flow_155 (fun σ14 H locs cells slots hw9 h9 => ?_)
      clear hw h; have hw := hw9; have h := h9; clear hw9 h9
      refine W.eq (g2 := F0 m 158 ls []) rfl ?_
      refine lv_iinc (v := (z2 + 1)) (lv' := [(2, .int (z2 + 1)), (0, .ref a0)]) hx hb h_Ve_flow_158 hl (k := 1) rfl (rfl) (by decide) rfl (fun ls hl => ?_)
      refine lv_goto (tgt := 74) hx hb h_Ve_flow_161 (by decide) ?_
      exact hK74 (z2 + 1) σ14 _ _ _ _ _ hw h (lv_sub hl [1, 0] rfl)
    · skip
      replace hw := hw.2 c6
      exact hend σ _ _ _ _ _ _ hw h h_Ve_flow_139
  have K_90 : ∀ (K74 : Int32 → CST → Prop) (hK74 : ∀ (z2 : Int32) (σ : CST) (H : Heap) (locs : List Loc) (cells slots : Nat) (ls : Array Slot), K74 z2 σ → CH (dC, dI) A ca ({ frames := 6, cells := σ0.2.2.2.2.1, slots := σ0.2.2.2.2.2.1, locals := 212 } : Room) σ0.2.2.2.2.2.2 σ s H locs cells slots → lv_has ls 6 [(0, .ref a0), (2, .int z2)] → W p l e ({ frames := 6, cells := σ0.2.2.2.2.1, slots := σ0.2.2.2.2.2.1, locals := 212 } : Room) s m ([.ref a0] : List Value).toArray below meth cx H locs cells slots Q (F0 m 74 ls [])) (n : Nat), ∀ (z2 : Int32) (σ : CST) (H : Heap) (locs : List Loc) (cells slots : Nat) (ls : Array Slot), x_Ve_flow_90 a0 K74 P n z2 σ → CH (dC, dI) A ca ({ frames := 6, cells := σ0.2.2.2.2.1, slots := σ0.2.2.2.2.2.1, locals := 212 } : Room) σ0.2.2.2.2.2.2 σ s H locs cells slots → lv_has ls 6 [(0, .ref a0), (2, .int z2)] → W p l e ({ frames := 6, cells := σ0.2.2.2.2.1, slots := σ0.2.2.2.2.2.1, locals := 212 } : Room) s m ([.ref a0] : List Value).toArray below meth cx H locs cells slots Q (F0 m 90 ls []) := by
    intro K74 hK74 n
    induction n with
    | zero => intro z2 σ H locs cells slots ls hw h hl; unfold x_Ve_flow_90 at hw; exact hw.elim
    | succ n ih =>
      intro z2 σ H locs cells slots ls hw h hl
      unfold x_Ve_flow_90 at hw
      refine lv_aload_n hx hb h_Ve_flow_90 rfl (lv_at hl 0 rfl) ?_
      obtain ⟨g16, hw⟩ := hw
      refine C_get C h 10 5 (v := .int (σ.2.1 a0 5)) g16 rfl (Cn := R_Ve) (T := T_Ve) (N := 10) rfl (by decide) rfl uw_Ve (by decide) u_755 (fun _ q => q) h_Ve_flow_91 ?_
      refine lv_aload_n hx hb h_Ve_flow_94 rfl (lv_at hl 0 rfl) ?_
      refine C_get C h 10 4 (v := va_rf (σ.2.2.2.1 a0 4)) g16 rfl (Cn := R_Ve) (T := T_Ve) (N := 10) rfl (by decide) rfl uw_Ve (by decide) u_691 (fun _ q => q) h_Ve_flow_95 ?_
      refine lv_topq (fun b17 e_b17 => ?_)
      replace hw := hw b17 e_b17
      obtain ⟨r18, e_r18, hw⟩ := hw
      subst e_r18
      have hl : lv_has ls 6 [(0, .ref a0), (2, .int z2)] := hl
      refine W.eq (g2 := F0 m 98 ls [.ref r18, .int (σ.2.1 a0 5)]) rfl ?_
      obtain ⟨n20, g19, hw⟩ := hw
      refine C_alen C h 21 1 rfl (by decide) g19 h_Ve_flow_98 ?_
      refine lv_icmp_ge (tgt := 127) hx hb h_Ve_flow_99 (by decide) (fun c21 => ?_) (fun c21 => ?_)
      · skip
        replace hw := hw.1 c21
        exact K_127 _ hK74 z2 σ _ _ _ _ _ hw h (lv_sub hl [0, 1] rfl)
      · skip
        replace hw := hw.2 c21
        refine lv_aload_n hx hb h_Ve_flow_102 rfl (lv_at hl 0 rfl) ?_
        refine C_get C h 10 4 (v := va_rf (σ.2.2.2.1 a0 4)) g16 rfl (Cn := R_Ve) (T := T_Ve) (N := 10) rfl (by decide) rfl uw_Ve (by decide) u_691 (fun _ q => q) h_Ve_flow_103 ?_
        refine lv_topq (fun b22 e_b22 => ?_)
        replace hw := hw b22 e_b22
        refine lv_aload_n hx hb h_Ve_flow_106 rfl (lv_at hl 0 rfl) ?_
        refine C_get C h 10 5 (v := .int (σ.2.1 a0 5)) g16 rfl (Cn := R_Ve) (T := T_Ve) (N := 10) rfl (by decide) rfl uw_Ve (by decide) u_755 (fun _ q => q) h_Ve_flow_107 ?_
        obtain ⟨r23, e_r23, hw⟩ := hw
        subst e_r23
        have hl : lv_has ls 6 [(0, .ref a0), (2, .int z2)] := hl
        refine W.eq (g2 := F0 m 110 ls [.int (σ.2.1 a0 5), .ref r23]) rfl ?_
        obtain ⟨n25, g24, hw⟩ := hw
        obtain ⟨g26, hw⟩ := hw
        refine C_zald C h g24 g26 h_Ve_flow_110 ?_
        refine lv_topi (fun b27 e_b27 => ?_)
        replace hw := hw b27 e_b27
        refine lv_if_ne (tgt := 127) hx hb h_Ve_flow_111 (by decide) (fun c28 => ?_) (fun c28 => ?_)
        · skip
          replace hw := hw.2 c28
          exact K_127 _ hK74 z2 σ _ _ _ _ _ hw h (lv_sub hl [0, 1] rfl)
        · skip
          replace hw := hw.1 c28
          refine lv_aload_n hx hb h_Ve_flow_114 rfl (lv_at hl 0 rfl) ?_
          refine lv_dup hx hb h_Ve_flow_115 rfl ?_
          refine C_get C h 10 5 (v := .int (σ.2.1 a0 5)) g16 rfl (Cn := R_Ve) (T := T_Ve) (N := 10) rfl (by decide) rfl uw_Ve (by decide) u_755 (fun _ q => q) h_Ve_flow_116 ?_
          refine lv_iconst (v := 1) hx hb h_Ve_flow_119 (by decide) ?_
          refine lv_iadd hx hb h_Ve_flow_120 ?_
          refine C_puti C h 10 5 g16 (Cn := R_Ve) (T := T_Ve) (N := 10) rfl (by decide) rfl uw_Ve tok_Ve nm_Ve (by decide) rfl u_755 (fun _ q => q) (Or.inl rfl) (by decide +kernel) h_Ve_flow_121 (fun H locs h => ?_)
          obtain ⟨σ29, e_σ29⟩ : ∃ z : CST, z = sI σ a0 5 ((σ.2.1 a0 5) + 1) := ⟨_, rfl⟩
          rw [← e_σ29] at h
          replace hw := hw σ29 e_σ29
          refine lv_goto (tgt := 90) hx hb h_Ve_flow_124 (by decide) ?_
          exact ih z2 σ29 _ _ _ _ _ hw h (lv_sub hl [0, 1] rfl)
  have K_74 : ∀ (n : Nat), ∀ (z2 : Int32) (σ : CST) (H : Heap) (locs : List Loc) (cells slots : Nat) (ls : Array Slot), x_Ve_flow_74 a0 P n z2 σ → CH (dC, dI) A ca ({ frames := 6, cells := σ0.2.2.2.2.1, slots := σ0.2.2.2.2.2.1, locals := 212 } : Room) σ0.2.2.2.2.2.2 σ s H locs cells slots → lv_has ls 6 [(0, .ref a0), (2, .int z2)] → W p l e ({ frames := 6, cells := σ0.2.2.2.2.1, slots := σ0.2.2.2.2.2.1, locals := 212 } : Room) s m ([.ref a0] : List Value).toArray below meth cx H locs cells slots Q (F0 m 74 ls []) := by
    intro  n
    induction n with
    | zero => intro z2 σ H locs cells slots ls hw h hl; unfold x_Ve_flow_74 at hw; exact hw.elim
    | succ n ih =>
      intro z2 σ H locs cells slots ls hw h hl
      unfold x_Ve_flow_74 at hw
      refine lv_iload_n hx hb h_Ve_flow_74 rfl (lv_at hl 1 rfl) ?_
      refine lv_ldc (v := 1000000) hx hb hown (hts _ (hsub _ u_801)) h_Ve_flow_75 ?_
      refine lv_icmp_ge (tgt := 164) hx hb h_Ve_flow_77 (by decide) (fun c30 => ?_) (fun c30 => ?_)
      · skip
        replace hw := hw.1 c30
        exact hend σ _ _ _ _ _ _ hw h h_Ve_flow_164
      · skip
        replace hw := hw.2 c30
        refine lv_aload_n hx hb h_Ve_flow_80 rfl (lv_at hl 0 rfl) ?_
        obtain ⟨g31, hw⟩ := hw
        refine C_get C h 10 1 (v := va_rf (σ.2.2.2.1 a0 1)) g31 rfl (Cn := R_Ve) (T := T_Ve) (N := 10) rfl (by decide) rfl uw_Ve (by decide) u_681 (fun _ q => q) h_Ve_flow_81 ?_
        refine lv_topq (fun b32 e_b32 => ?_)
        replace hw := hw b32 e_b32
        obtain ⟨r33, e_r33, hw⟩ := hw
        subst e_r33
        have hl : lv_has ls 6 [(0, .ref a0), (2, .int z2)] := hl
        refine W.eq (g2 := F0 m 84 ls [.ref r33]) rfl ?_
        obtain ⟨g34, hw⟩ := hw
        refine C_get C h 5 7 (v := .int (σ.2.1 r33 7)) g34 rfl (Cn := R_E) (T := T_E) (N := 13) rfl (by decide) rfl uw_E (by decide) u_735 (fun _ q => q) h_Ve_flow_84 ?_
        refine lv_if_ne (tgt := 164) hx hb h_Ve_flow_87 (by decide) (fun c35 => ?_) (fun c35 => ?_)
        · skip
          replace hw := hw.2 c35
          exact hend σ _ _ _ _ _ _ hw h h_Ve_flow_164
        · skip
          replace hw := hw.1 c35
          obtain ⟨n9, hw⟩ := hw
          exact K_90 _ ih n9 z2 σ _ _ _ _ _ hw h (lv_sub hl [0, 1] rfl)
  have K_27 : ∀ (n : Nat), ∀ (z1 : Int32) (z2 : Option Nat) (z3 : Int32) (z4 : Int32) (σ : CST) (H : Heap) (locs : List Loc) (cells slots : Nat) (ls : Array Slot), x_Ve_flow_27 a0 P n z1 z2 z3 z4 σ → CH (dC, dI) A ca ({ frames := 6, cells := σ0.2.2.2.2.1, slots := σ0.2.2.2.2.2.1, locals := 212 } : Room) σ0.2.2.2.2.2.2 σ s H locs cells slots → lv_has ls 6 [(0, .ref a0), (1, .int z1), (2, va_rf z2), (3, .int z3), (4, .int z4)] → W p l e ({ frames := 6, cells := σ0.2.2.2.2.1, slots := σ0.2.2.2.2.2.1, locals := 212 } : Room) s m ([.ref a0] : List Value).toArray below meth cx H locs cells slots Q (F0 m 27 ls []) := by
    intro  n
    induction n with
    | zero => intro z1 z2 z3 z4 σ H locs cells slots ls hw h hl; unfold x_Ve_flow_27 at hw; exact hw.elim
    | succ n ih =>
      intro z1 z2 z3 z4 σ H locs cells slots ls hw h hl
      unfold x_Ve_flow_27 at hw
      refine lv_iload hx hb h_Ve_flow_27 (lv_at hl 4 rfl) ?_
      refine lv_iload_n hx hb h_Ve_flow_29 rfl (lv_at hl 3 rfl) ?_
      refine lv_icmp_ge (tgt := 63) hx hb h_Ve_flow_30 (by decide) (fun c36 => ?_) (fun c36 => ?_)
      · skip
        replace hw := hw.1 c36
        refine lv_aload_n hx hb h_Ve_flow_63 rfl (lv_at hl 0 rfl) ?_
        refine lv_iconst (v := 0) hx hb h_Ve_flow_64 (by decide) ?_
        refine lv_aload_n hx hb h_Ve_flow_65 rfl (lv_at hl 0 rfl) ?_
        obtain ⟨g37, hw⟩ := hw
        refine C_get C h 10 8 (v := va_rf (σ.2.2.2.1 a0 8)) g37 rfl (Cn := R_Ve) (T := T_Ve) (N := 10) rfl (by decide) rfl uw_Ve (by decide) u_701 (fun _ q => q) h_Ve_flow_66 ?_
        refine lv_topq (fun b38 e_b38 => ?_)
        replace hw := hw b38 e_b38
        obtain ⟨r39, e_r39, hw⟩ := hw
        subst e_r39
        have hl : lv_has ls 6 [(0, .ref a0), (1, .int z1), (2, va_rf z2), (3, .int z3), (4, .int z4)] := hl
        refine W.eq (g2 := F0 m 69 ls [.ref r39, .int 0, .ref a0]) rfl ?_
        refine C_callVv (As := [.int 0, .ref r39]) (rest := []) C h (ci := 10) (Cn := R_Ve) (T := T_Ve) (N := 10) g37 rfl (by decide) (X_Ve_give l dC dI ca H σ a0 (0 : Int32) r39 hw) (cwV 2 hts (gV hsub u_780 u_781 u_782 u_726 u_783) rfl rfl rfl (by decide +kernel) ⟨(Nat.le_of_ble_eq_true rfl), (Nat.le_of_ble_eq_true rfl)⟩) rfl hl.1 (Nat.le_of_ble_eq_true rfl) h_Ve_flow_69 (fun σ40 H locs cells slots hw9 h9 => ?_)
        clear hw h; have hw := hw9; have h := h9; clear hw9 h9
        refine W.eq (g2 := F0 m 72 ls []) rfl ?_
        refine lv_iconst (v := 0) hx hb h_Ve_flow_72 (by decide) ?_
        refine lv_istore_n (i := 2) (lv' := [(2, .int 0), (0, .ref a0), (1, .int z1), (3, .int z3), (4, .int z4)]) hx hb h_Ve_flow_73 rfl hl (by decide) rfl (fun ls hl => ?_)
        obtain ⟨n9, hw⟩ := hw
        exact K_74 n9 0 σ40 _ _ _ _ _ hw h (lv_sub hl [1, 0] rfl)
      · skip
        replace hw := hw.2 c36
        refine cq_aload_n hx hb h_Ve_flow_33 rfl (lv_at hl 2 rfl) ?_
        refine lv_iload hx hb h_Ve_flow_34 (lv_at hl 4 rfl) ?_
        obtain ⟨r42, e_r42, hw⟩ := hw
        subst e_r42
        have hl : lv_has ls 6 [(0, .ref a0), (1, .int z1), (2, .ref r42), (3, .int z3), (4, .int z4)] := hl
        refine W.eq (g2 := F0 m 36 ls [.int z4, .ref r42]) rfl ?_
        obtain ⟨n44, g43, hw⟩ := hw
        obtain ⟨g45, hw⟩ := hw
        refine C_iald C h g43 g45 h_Ve_flow_36 ?_
        refine lv_topi (fun b46 e_b46 => ?_)
        replace hw := hw b46 e_b46
        refine lv_istore (lv' := [(5, .int b46), (0, .ref a0), (1, .int z1), (2, .ref r42), (3, .int z3), (4, .int z4)]) hx hb h_Ve_flow_37 hl (by decide) rfl (fun ls hl => ?_)
        refine lv_aload_n hx hb h_Ve_flow_39 rfl (lv_at hl 1 rfl) ?_
        obtain ⟨g47, hw⟩ := hw
        refine C_get C h 10 8 (v := va_rf (σ.2.2.2.1 a0 8)) g47 rfl (Cn := R_Ve) (T := T_Ve) (N := 10) rfl (by decide) rfl uw_Ve (by decide) u_701 (fun _ q => q) h_Ve_flow_40 ?_
        refine lv_topq (fun b48 e_b48 => ?_)
        replace hw := hw b48 e_b48
        refine lv_iload_n hx hb h_Ve_flow_43 rfl (lv_at hl 2 rfl) ?_
        refine lv_iload hx hb h_Ve_flow_44 (lv_at hl 0 rfl) ?_
        obtain ⟨r49, e_r49, hw⟩ := hw
        subst e_r49
        have hl : lv_has ls 6 [(5, .int b46), (0, .ref a0), (1, .int z1), (2, .ref r42), (3, .int z3), (4, .int z4)] := hl
        refine W.eq (g2 := F0 m 46 ls [.int b46, .int z1, .ref r49]) rfl ?_
        obtain ⟨g50, hw⟩ := hw
        refine C_callVv (As := [.int z1, .int b46]) (rest := []) C h (ci := 8) (Cn := R_St) (T := T_St) (N := 4) g50 rfl (by decide) (X_St_setLocal l dC dI ca H σ r49 z1 b46 hw) (cwV 2 hts (gV hsub u_802 u_565 u_566 u_502 u_567) rfl rfl rfl (by decide +kernel) ⟨(Nat.le_of_ble_eq_true rfl), (Nat.le_of_ble_eq_true rfl)⟩) rfl hl.1 (Nat.le_of_ble_eq_true rfl) h_Ve_flow_46 (fun σ51 H locs cells slots hw9 h9 => ?_)
        clear hw h; have hw := hw9; have h := h9; clear hw9 h9
        refine W.eq (g2 := F0 m 49 ls []) rfl ?_
        refine lv_iload_n hx hb h_Ve_flow_49 rfl (lv_at hl 2 rfl) ?_
        refine lv_iload hx hb h_Ve_flow_50 (lv_at hl 0 rfl) ?_
        refine C_callSi (As := [.int b46]) (rest := [.int z1]) C h (X_W_width l dC dI ca H σ51 b46 hw) (va_cwS 1 hts (gS hsub u_803 u_50 u_51 u_52) rfl rfl rfl (by decide +kernel) ⟨(Nat.le_of_ble_eq_true rfl), (Nat.le_of_ble_eq_true rfl)⟩) rfl hl.1 (Nat.le_of_ble_eq_true rfl) h_Ve_flow_52 (fun r54 σ53 H locs cells slots hw9 h9 => ?_)
        clear hw h; have hw := hw9; have h := h9; clear hw9 h9
        refine W.eq (g2 := F0 m 55 ls [.int r54, .int z1]) rfl ?_
        refine lv_iadd hx hb h_Ve_flow_55 ?_
        refine lv_istore_n (i := 1) (lv' := [(1, .int (z1 + r54)), (5, .int b46), (0, .ref a0), (2, .ref r42), (3, .int z3), (4, .int z4)]) hx hb h_Ve_flow_56 rfl hl (by decide) rfl (fun ls hl => ?_)
        refine lv_iinc (v := (z4 + 1)) (lv' := [(4, .int (z4 + 1)), (1, .int (z1 + r54)), (5, .int b46), (0, .ref a0), (2, .ref r42), (3, .int z3)]) hx hb h_Ve_flow_57 hl (k := 5) rfl (rfl) (by decide) rfl (fun ls hl => ?_)
        refine lv_goto (tgt := 27) hx hb h_Ve_flow_60 (by decide) ?_
        exact ih (z1 + r54) (some r42) z3 (z4 + 1) σ53 _ _ _ _ _ hw h (lv_sub hl [3, 1, 4, 5, 0] rfl)
  have hl : lv_has ls 6 [(0, .ref a0)] := hl
  unfold x_Ve_flow at hw
  refine lv_aload_n hx hb h_Ve_flow_0 rfl (lv_at hl 0 rfl) ?_
  obtain ⟨g55, hw⟩ := hw
  refine C_get C h 10 1 (v := va_rf (σ0.2.2.2.1 a0 1)) g55 rfl (Cn := R_Ve) (T := T_Ve) (N := 10) rfl (by decide) rfl uw_Ve (by decide) u_681 (fun _ q => q) h_Ve_flow_1 ?_
  refine lv_topq (fun b56 e_b56 => ?_)
  replace hw := hw b56 e_b56
  obtain ⟨r57, e_r57, hw⟩ := hw
  subst e_r57
  have hl : lv_has ls 6 [(0, .ref a0)] := hl
  refine W.eq (g2 := F0 m 4 ls [.ref r57]) rfl ?_
  obtain ⟨g58, hw⟩ := hw
  refine C_get C h 5 7 (v := .int (σ0.2.1 r57 7)) g58 rfl (Cn := R_E) (T := T_E) (N := 13) rfl (by decide) rfl uw_E (by decide) u_735 (fun _ q => q) h_Ve_flow_4 ?_
  refine lv_if_eq (tgt := 11) hx hb h_Ve_flow_7 (by decide) (fun c59 => ?_) (fun c59 => ?_)
  · skip
    replace hw := hw.1 c59
    refine lv_iconst (v := 0) hx hb h_Ve_flow_11 (by decide) ?_
    refine lv_istore_n (i := 1) (lv' := [(1, .int 0), (0, .ref a0)]) hx hb h_Ve_flow_12 rfl hl (by decide) rfl (fun ls hl => ?_)
    refine lv_aload_n hx hb h_Ve_flow_13 rfl (lv_at hl 1 rfl) ?_
    refine C_get C h 10 1 (v := va_rf (σ0.2.2.2.1 a0 1)) g55 rfl (Cn := R_Ve) (T := T_Ve) (N := 10) rfl (by decide) rfl uw_Ve (by decide) u_681 (fun _ q => q) h_Ve_flow_14 ?_
    refine lv_topq (fun b60 e_b60 => ?_)
    replace hw := hw b60 e_b60
    obtain ⟨r61, e_r61, hw⟩ := hw
    subst e_r61
    have hl : lv_has ls 6 [(1, .int 0), (0, .ref a0)] := hl
    refine W.eq (g2 := F0 m 17 ls [.ref r61]) rfl ?_
    obtain ⟨g62, hw⟩ := hw
    refine C_get C h 5 0 (v := va_rf (σ0.2.2.2.1 r61 0)) g62 rfl (Cn := R_E) (T := T_E) (N := 13) rfl (by decide) rfl uw_E (by decide) u_804 (fun _ q => q) h_Ve_flow_17 ?_
    refine lv_topq (fun b63 e_b63 => ?_)
    replace hw := hw b63 e_b63
    refine cq_astore_n (i := 2) (lv' := [(2, va_rf b63), (1, .int 0), (0, .ref a0)]) hx hb h_Ve_flow_20 rfl hl (by decide) rfl (fun ls hl => ?_)
    refine cq_aload_n hx hb h_Ve_flow_21 rfl (lv_at hl 0 rfl) ?_
    obtain ⟨r64, e_r64, hw⟩ := hw
    subst e_r64
    have hl : lv_has ls 6 [(2, .ref r64), (1, .int 0), (0, .ref a0)] := hl
    refine W.eq (g2 := F0 m 22 ls [.ref r64]) rfl ?_
    obtain ⟨n66, g65, hw⟩ := hw
    refine C_alen C h 20 0 rfl (by decide) g65 h_Ve_flow_22 ?_
    refine lv_istore_n (i := 3) (lv' := [(3, .int (Int32.ofNat n66)), (2, .ref r64), (1, .int 0), (0, .ref a0)]) hx hb h_Ve_flow_23 rfl hl (by decide) rfl (fun ls hl => ?_)
    refine lv_iconst (v := 0) hx hb h_Ve_flow_24 (by decide) ?_
    refine lv_istore (lv' := [(4, .int 0), (3, .int (Int32.ofNat n66)), (2, .ref r64), (1, .int 0), (0, .ref a0)]) hx hb h_Ve_flow_25 hl (by decide) rfl (fun ls hl => ?_)
    obtain ⟨n9, hw⟩ := hw
    exact K_27 n9 0 (some r64) (Int32.ofNat n66) 0 σ0 _ _ _ _ _ hw h (lv_sub hl [4, 3, 2, 1, 0] rfl)
  · skip
    replace hw := hw.2 c59
    exact hend σ0 _ _ _ _ _ _ hw h h_Ve_flow_10
abbrev g_AL_add2 : MethodName := ⟨"java/util/ArrayList", "add", "(Ljava/lang/Object;[Ljava/lang/Object;I)V"⟩
theorem h_AL_add2_0 : decode prog_36_method_24_code 0 = .ok (.iload_n 3, 1) := by decide +kernel
theorem h_AL_add2_1 : decode prog_36_method_24_code 1 = .ok (.aload_n 2, 1) := by decide +kernel
theorem h_AL_add2_2 : decode prog_36_method_24_code 2 = .ok (.arraylength, 1) := by decide +kernel
theorem h_AL_add2_3 : decode prog_36_method_24_code 3 = .ok (.if_icmp .ne 8, 3) := by decide +kernel
theorem h_AL_add2_6 : decode prog_36_method_24_code 6 = .ok (.aload_n 0, 1) := by decide +kernel
theorem h_AL_add2_7 : decode prog_36_method_24_code 7 = .ok (.invokevirtual 129, 3) := by decide +kernel
theorem h_AL_add2_10 : decode prog_36_method_24_code 10 = .ok (.astore_n 2, 1) := by decide +kernel
theorem h_AL_add2_11 : decode prog_36_method_24_code 11 = .ok (.aload_n 2, 1) := by decide +kernel
theorem h_AL_add2_12 : decode prog_36_method_24_code 12 = .ok (.iload_n 3, 1) := by decide +kernel
theorem h_AL_add2_13 : decode prog_36_method_24_code 13 = .ok (.aload_n 1, 1) := by decide +kernel
theorem h_AL_add2_14 : decode prog_36_method_24_code 14 = .ok (.aastore, 1) := by decide +kernel
theorem h_AL_add2_15 : decode prog_36_method_24_code 15 = .ok (.aload_n 0, 1) := by decide +kernel
theorem h_AL_add2_16 : decode prog_36_method_24_code 16 = .ok (.iload_n 3, 1) := by decide +kernel
theorem h_AL_add2_17 : decode prog_36_method_24_code 17 = .ok (.iconst 1, 1) := by decide +kernel
theorem h_AL_add2_18 : decode prog_36_method_24_code 18 = .ok (.iadd, 1) := by decide +kernel
theorem h_AL_add2_19 : decode prog_36_method_24_code 19 = .ok (.putfield 48, 3) := by decide +kernel
theorem h_AL_add2_22 : decode prog_36_method_24_code 22 = .ok (.return_, 1) := by decide +kernel
def x_AL_add2_11 (a0 : Nat) (a1 : Nat) (a2 : Nat) (P : CST → Prop) (z2 : Option Nat) (z3 : Int32) (σ : CST) : Prop := (∃ r1 : Nat, z2 = some r1 ∧ ((∃ n3 : Nat, σ.1 r1 = some (27, n3) ∧ (σ.1 a1 = some (7, 0) ∧ (vp_in z3 n3 ∧ (∀ σ6 : CST, σ6 = sR σ r1 (z3 : Int32).toNatClampNeg (some a1) → σ6.1 a0 = some (6, 0) ∧ (∀ σ8 : CST, σ8 = sI σ6 a0 2 (z3 + 1) → P σ8)))))))
def x_AL_add2 (a0 : Nat) (a1 : Nat) (a2 : Nat) (x3 : Int32) (σ0 : CST) (P : CST → Prop) : Prop := (∃ n9 : Nat, ((a2 = σ0.2.2.2.2.2.2.1 ∧ n9 = 0) ∨ σ0.1 a2 = some (27, n9)) ∧ (((x3 = (Int32.ofNat n9) → σ0.1 a0 = some (6, 0) ∧ (x_AL_grow2 a0 σ0 (fun r14 σ13 => x_AL_add2_11 a0 a1 a2 P r14 x3 σ13))) ∧ (¬ x3 = (Int32.ofNat n9) → x_AL_add2_11 a0 a1 a2 P (some a2) x3 σ0))))
set_option maxHeartbeats 4000000 in
set_option maxRecDepth 100000 in
theorem X_AL_add2 (l : Launch) (dC : Nat → ClassId) (dI : Nat → Nat → Nat) (ca : Nat → ClassId) (H0 : Heap) (σ0 : CST) (a0 : Nat) (a1 : Nat) (a2 : Nat) (x3 : Int32) {P : CST → Prop} (hw : x_AL_add2 a0 a1 a2 x3 σ0 P) : Met l g_AL_add2 (mW g_AL_add2 prog_36_method_24_code 4 none) ({ frames := 5, cells := σ0.2.2.2.2.1, slots := σ0.2.2.2.2.2.1, locals := 187 } : Room) (va_Pc [.ref a0, .ref a1, .ref a2, .int x3] (CPre (dC, dI) ca σ0 H0)) (va_Qv P (CB (dC, dI) ca σ0 H0) (cA σ0 H0.size)) σ0.2.2.2.2.1 σ0.2.2.2.2.2.1 (cA σ0 H0.size) := by
  refine C_ofv (by decide +kernel) rfl rfl rfl (Nat.le_of_ble_eq_true rfl) ?_
  intro p e s m below meth cx Q A ls C hnm hend hH0 h hl
  subst hH0
  have C0 := C
  obtain ⟨⟨hx, hb, hml, hown, hts⟩, hsub⟩ := C0
  obtain ⟨cells, e_cells⟩ : ∃ z : Nat, z = 0 := ⟨_, rfl⟩
  obtain ⟨slots, e_slots⟩ : ∃ z : Nat, z = 0 := ⟨_, rfl⟩
  have h : CH (dC, dI) A ca ({ frames := 5, cells := σ0.2.2.2.2.1, slots := σ0.2.2.2.2.2.1, locals := 187 } : Room) σ0.2.2.2.2.2.2 σ0 s s.heap [] cells slots := by rw [e_cells, e_slots]; exact h
  show W p l e ({ frames := 5, cells := σ0.2.2.2.2.1, slots := σ0.2.2.2.2.2.1, locals := 187 } : Room) s m ([.ref a0, .ref a1, .ref a2, .int x3] : List Value).toArray below meth cx s.heap [] 0 0 Q (F0 m 0 ls [])
  rw [show W p l e ({ frames := 5, cells := σ0.2.2.2.2.1, slots := σ0.2.2.2.2.2.1, locals := 187 } : Room) s m ([.ref a0, .ref a1, .ref a2, .int x3] : List Value).toArray below meth cx s.heap [] 0 0 Q (F0 m 0 ls []) = W p l e ({ frames := 5, cells := σ0.2.2.2.2.1, slots := σ0.2.2.2.2.2.1, locals := 187 } : Room) s m ([.ref a0, .ref a1, .ref a2, .int x3] : List Value).toArray below meth cx s.heap [] cells slots Q (F0 m 0 ls []) by rw [e_cells, e_slots]]
  have K_11 : ∀ (u9 : Unit), ∀ (z2 : Option Nat) (z3 : Int32) (σ : CST) (H : Heap) (locs : List Loc) (cells slots : Nat) (ls : Array Slot), x_AL_add2_11 a0 a1 a2 P z2 z3 σ → CH (dC, dI) A ca ({ frames := 5, cells := σ0.2.2.2.2.1, slots := σ0.2.2.2.2.2.1, locals := 187 } : Room) σ0.2.2.2.2.2.2 σ s H locs cells slots → lv_has ls 4 [(0, .ref a0), (1, .ref a1), (2, va_rf z2), (3, .int z3)] → W p l e ({ frames := 5, cells := σ0.2.2.2.2.1, slots := σ0.2.2.2.2.2.1, locals := 187 } : Room) s m ([.ref a0, .ref a1, .ref a2, .int x3] : List Value).toArray below meth cx H locs cells slots Q (F0 m 11 ls []) := by
    intro u9 z2 z3 σ H locs cells slots ls hw h hl
    unfold x_AL_add2_11 at hw
    refine cq_aload_n hx hb h_AL_add2_11 rfl (lv_at hl 2 rfl) ?_
    refine lv_iload_n hx hb h_AL_add2_12 rfl (lv_at hl 3 rfl) ?_
    refine lv_aload_n hx hb h_AL_add2_13 rfl (lv_at hl 1 rfl) ?_
    obtain ⟨r1, e_r1, hw⟩ := hw
    subst e_r1
    have hl : lv_has ls 4 [(0, .ref a0), (1, .ref a1), (2, .ref r1), (3, .int z3)] := hl
    refine W.eq (g2 := F0 m 14 ls [.ref a1, .int z3, .ref r1]) rfl ?_
    obtain ⟨n3, g2, hw⟩ := hw
    obtain ⟨g4, hw⟩ := hw
    obtain ⟨g5, hw⟩ := hw
    refine C_aastO C h 27 6 (r := (R_Ha, T_Ha, 4)) rfl h.2.2.2.2.1.2.2.2.2.2.2.2.2.1 g4 rfl (by decide) (by decide) g2 g5 h_AL_add2_14 (fun H locs h => ?_)
    obtain ⟨σ6, e_σ6⟩ : ∃ z : CST, z = sR σ r1 (z3 : Int32).toNatClampNeg (some a1) := ⟨_, rfl⟩
    rw [← e_σ6] at h
    replace hw := hw σ6 e_σ6
    refine lv_aload_n hx hb h_AL_add2_15 rfl (lv_at hl 0 rfl) ?_
    refine lv_iload_n hx hb h_AL_add2_16 rfl (lv_at hl 3 rfl) ?_
    refine lv_iconst (v := 1) hx hb h_AL_add2_17 (by decide) ?_
    refine lv_iadd hx hb h_AL_add2_18 ?_
    obtain ⟨g7, hw⟩ := hw
    refine C_puti C h 6 2 g7 (Cn := R_A) (T := T_A) (N := 3) rfl (by decide) rfl uw_A tok_A nm_A (by decide) rfl u_104 (fun _ q => q) (Or.inl rfl) (by decide +kernel) h_AL_add2_19 (fun H locs h => ?_)
    obtain ⟨σ8, e_σ8⟩ : ∃ z : CST, z = sI σ6 a0 2 (z3 + 1) := ⟨_, rfl⟩
    rw [← e_σ8] at h
    replace hw := hw σ8 e_σ8
    exact hend σ8 _ _ _ _ _ _ hw h h_AL_add2_22
  have hl : lv_has ls 4 [(0, .ref a0), (1, .ref a1), (2, .ref a2), (3, .int x3)] := hl
  unfold x_AL_add2 at hw
  refine lv_iload_n hx hb h_AL_add2_0 rfl (lv_at hl 3 rfl) ?_
  refine lv_aload_n hx hb h_AL_add2_1 rfl (lv_at hl 2 rfl) ?_
  obtain ⟨n9, g10, hw⟩ := hw
  refine C_alenO C h g10 h_AL_add2_2 ?_
  refine lv_icmp_ne (tgt := 11) hx hb h_AL_add2_3 (by decide) (fun c11 => ?_) (fun c11 => ?_)
  · skip
    replace hw := hw.2 c11
    exact K_11 () (some a2) x3 σ0 _ _ _ _ _ hw h (lv_sub hl [0, 1, 2, 3] rfl)
  · skip
    replace hw := hw.1 c11
    refine lv_aload_n hx hb h_AL_add2_6 rfl (lv_at hl 0 rfl) ?_
    obtain ⟨g12, hw⟩ := hw
    refine C_callVq (As := []) (rest := []) C h (ci := 6) (Cn := R_A) (T := T_A) (N := 3) g12 rfl (by decide) (X_AL_grow2 l dC dI ca s.heap σ0 a0 hw) (cwV 0 hts (gV hsub u_157 u_158 u_159 u_117 u_160) rfl rfl rfl (by decide +kernel) ⟨(Nat.le_of_ble_eq_true rfl), (Nat.le_of_ble_eq_true rfl)⟩) rfl hl.1 (Nat.le_of_ble_eq_true rfl) h_AL_add2_7 (fun r14 σ13 H locs cells slots hw9 h9 => ?_)
    clear hw h; have hw := hw9; have h := h9; clear hw9 h9
    refine W.eq (g2 := F0 m 10 ls [va_rf r14]) rfl ?_
    refine cq_astore_n (i := 2) (lv' := [(2, va_rf r14), (0, .ref a0), (1, .ref a1), (3, .int x3)]) hx hb h_AL_add2_10 rfl hl (by decide) rfl (fun ls hl => ?_)
    exact K_11 () r14 x3 σ13 _ _ _ _ _ hw h (lv_sub hl [1, 2, 0, 3] rfl)
abbrev g_AL_add3 : MethodName := ⟨"java/util/ArrayList", "add", "(Ljava/lang/Object;)Z"⟩
theorem u_805 : (Cond.methodLink "java/util/ArrayList" 131 ⟨"java/util/ArrayList", "add", "(Ljava/lang/Object;[Ljava/lang/Object;I)V"⟩ : Cond) ∈ bigW := inB_3 75 (by decide +kernel) rfl
theorem u_806 : (Cond.instanceMethod ⟨"java/util/ArrayList", "add", "(Ljava/lang/Object;[Ljava/lang/Object;I)V"⟩ : Cond) ∈ bigW := inB_3 77 (by decide +kernel) rfl
theorem u_807 : (Cond.selects "java/util/ArrayList" ⟨"java/util/ArrayList", "add", "(Ljava/lang/Object;[Ljava/lang/Object;I)V"⟩ ⟨"java/util/ArrayList", "add", "(Ljava/lang/Object;[Ljava/lang/Object;I)V"⟩ : Cond) ∈ bigW := inS (y := ⟨"java/util/ArrayList", "add", "(Ljava/lang/Object;[Ljava/lang/Object;I)V"⟩) (n := 3) (List.mem_of_getElem? (i := 1) (by decide +kernel))
theorem u_808 : (Cond.code ⟨"java/util/ArrayList", "add", "(Ljava/lang/Object;[Ljava/lang/Object;I)V"⟩ prog_36_method_24_code 4 none : Cond) ∈ bigW := inB_3 78 rfl rfl
theorem h_AL_add3_0 : decode prog_36_method_25_code 0 = .ok (.aload_n 0, 1) := by decide +kernel
theorem h_AL_add3_1 : decode prog_36_method_25_code 1 = .ok (.dup, 1) := by decide +kernel
theorem h_AL_add3_2 : decode prog_36_method_25_code 2 = .ok (.getfield 63, 3) := by decide +kernel
theorem h_AL_add3_5 : decode prog_36_method_25_code 5 = .ok (.iconst 1, 1) := by decide +kernel
theorem h_AL_add3_6 : decode prog_36_method_25_code 6 = .ok (.iadd, 1) := by decide +kernel
theorem h_AL_add3_7 : decode prog_36_method_25_code 7 = .ok (.putfield 63, 3) := by decide +kernel
theorem h_AL_add3_10 : decode prog_36_method_25_code 10 = .ok (.aload_n 0, 1) := by decide +kernel
theorem h_AL_add3_11 : decode prog_36_method_25_code 11 = .ok (.aload_n 1, 1) := by decide +kernel
theorem h_AL_add3_12 : decode prog_36_method_25_code 12 = .ok (.aload_n 0, 1) := by decide +kernel
theorem h_AL_add3_13 : decode prog_36_method_25_code 13 = .ok (.getfield 9, 3) := by decide +kernel
theorem h_AL_add3_16 : decode prog_36_method_25_code 16 = .ok (.aload_n 0, 1) := by decide +kernel
theorem h_AL_add3_17 : decode prog_36_method_25_code 17 = .ok (.getfield 48, 3) := by decide +kernel
theorem h_AL_add3_20 : decode prog_36_method_25_code 20 = .ok (.invokevirtual 131, 3) := by decide +kernel
theorem h_AL_add3_23 : decode prog_36_method_25_code 23 = .ok (.iconst 1, 1) := by decide +kernel
theorem h_AL_add3_24 : decode prog_36_method_25_code 24 = .ok (.ireturn, 1) := by decide +kernel
def x_AL_add3 (a0 : Nat) (a1 : Nat) (σ0 : CST) (P : Int32 → CST → Prop) : Prop := σ0.1 a0 = some (6, 0) ∧ (∀ σ2 : CST, σ2 = sI σ0 a0 0 ((σ0.2.1 a0 0) + 1) → σ2.1 a0 = some (6, 0) ∧ (∀ b4 : Option Nat, b4 = (σ2.2.2.2.1 a0 1) → (∃ r5 : Nat, b4 = some r5 ∧ (x_AL_add2 a0 a1 r5 (σ2.2.1 a0 2) σ2 (fun σ6 => P (1 : Int32) σ6)))))
set_option maxHeartbeats 4000000 in
set_option maxRecDepth 100000 in
theorem X_AL_add3 (l : Launch) (dC : Nat → ClassId) (dI : Nat → Nat → Nat) (ca : Nat → ClassId) (H0 : Heap) (σ0 : CST) (a0 : Nat) (a1 : Nat) {P : Int32 → CST → Prop} (hw : x_AL_add3 a0 a1 σ0 P) : Met l g_AL_add3 (mW g_AL_add3 prog_36_method_25_code 2 (some .boolean)) ({ frames := 6, cells := σ0.2.2.2.2.1, slots := σ0.2.2.2.2.2.1, locals := 210 } : Room) (va_Pc [.ref a0, .ref a1] (CPre (dC, dI) ca σ0 H0)) (va_Qi P (CB (dC, dI) ca σ0 H0) (cA σ0 H0.size)) σ0.2.2.2.2.1 σ0.2.2.2.2.2.1 (cA σ0 H0.size) := by
  refine C_ofz (by decide +kernel) rfl rfl rfl (Nat.le_of_ble_eq_true rfl) ?_
  intro p e s m below meth cx Q A ls C hnm hend hH0 h hl
  subst hH0
  have C0 := C
  obtain ⟨⟨hx, hb, hml, hown, hts⟩, hsub⟩ := C0
  obtain ⟨cells, e_cells⟩ : ∃ z : Nat, z = 0 := ⟨_, rfl⟩
  obtain ⟨slots, e_slots⟩ : ∃ z : Nat, z = 0 := ⟨_, rfl⟩
  have h : CH (dC, dI) A ca ({ frames := 6, cells := σ0.2.2.2.2.1, slots := σ0.2.2.2.2.2.1, locals := 210 } : Room) σ0.2.2.2.2.2.2 σ0 s s.heap [] cells slots := by rw [e_cells, e_slots]; exact h
  show W p l e ({ frames := 6, cells := σ0.2.2.2.2.1, slots := σ0.2.2.2.2.2.1, locals := 210 } : Room) s m ([.ref a0, .ref a1] : List Value).toArray below meth cx s.heap [] 0 0 Q (F0 m 0 ls [])
  rw [show W p l e ({ frames := 6, cells := σ0.2.2.2.2.1, slots := σ0.2.2.2.2.2.1, locals := 210 } : Room) s m ([.ref a0, .ref a1] : List Value).toArray below meth cx s.heap [] 0 0 Q (F0 m 0 ls []) = W p l e ({ frames := 6, cells := σ0.2.2.2.2.1, slots := σ0.2.2.2.2.2.1, locals := 210 } : Room) s m ([.ref a0, .ref a1] : List Value).toArray below meth cx s.heap [] cells slots Q (F0 m 0 ls []) by rw [e_cells, e_slots]]
  have hl : lv_has ls 2 [(0, .ref a0), (1, .ref a1)] := hl
  unfold x_AL_add3 at hw
  refine lv_aload_n hx hb h_AL_add3_0 rfl (lv_at hl 0 rfl) ?_
  refine lv_dup hx hb h_AL_add3_1 rfl ?_
  obtain ⟨g1, hw⟩ := hw
  refine C_get C h 6 0 (v := .int (σ0.2.1 a0 0)) g1 rfl (Cn := R_A) (T := T_A) (N := 3) rfl (by decide) rfl uw_A (by decide) u_119 (u_same (hts _ (hsub _ u_120))) h_AL_add3_2 ?_
  refine lv_iconst (v := 1) hx hb h_AL_add3_5 (by decide) ?_
  refine lv_iadd hx hb h_AL_add3_6 ?_
  refine C_puti C h 6 0 g1 (Cn := R_A) (T := T_A) (N := 3) rfl (by decide) rfl uw_A tok_A nm_A (by decide) rfl u_119 (u_same (hts _ (hsub _ u_120))) (Or.inl rfl) (by decide +kernel) h_AL_add3_7 (fun H locs h => ?_)
  obtain ⟨σ2, e_σ2⟩ : ∃ z : CST, z = sI σ0 a0 0 ((σ0.2.1 a0 0) + 1) := ⟨_, rfl⟩
  rw [← e_σ2] at h
  replace hw := hw σ2 e_σ2
  refine lv_aload_n hx hb h_AL_add3_10 rfl (lv_at hl 0 rfl) ?_
  refine lv_aload_n hx hb h_AL_add3_11 rfl (lv_at hl 1 rfl) ?_
  refine lv_aload_n hx hb h_AL_add3_12 rfl (lv_at hl 0 rfl) ?_
  obtain ⟨g3, hw⟩ := hw
  refine C_get C h 6 1 (v := va_rf (σ2.2.2.2.1 a0 1)) g3 rfl (Cn := R_A) (T := T_A) (N := 3) rfl (by decide) rfl uw_A (by decide) u_109 (fun _ q => q) h_AL_add3_13 ?_
  refine lv_topq (fun b4 e_b4 => ?_)
  replace hw := hw b4 e_b4
  refine lv_aload_n hx hb h_AL_add3_16 rfl (lv_at hl 0 rfl) ?_
  refine C_get C h 6 2 (v := .int (σ2.2.1 a0 2)) g3 rfl (Cn := R_A) (T := T_A) (N := 3) rfl (by decide) rfl uw_A (by decide) u_104 (fun _ q => q) h_AL_add3_17 ?_
  obtain ⟨r5, e_r5, hw⟩ := hw
  subst e_r5
  have hl : lv_has ls 2 [(0, .ref a0), (1, .ref a1)] := hl
  refine W.eq (g2 := F0 m 20 ls [.int (σ2.2.1 a0 2), .ref r5, .ref a1, .ref a0]) rfl ?_
  refine C_callVv (As := [.ref a1, .ref r5, .int (σ2.2.1 a0 2)]) (rest := []) C h (ci := 6) (Cn := R_A) (T := T_A) (N := 3) g3 rfl (by decide) (X_AL_add2 l dC dI ca H σ2 a0 a1 r5 (σ2.2.1 a0 2) hw) (cwV 3 hts (gV hsub u_805 u_806 u_807 u_117 u_808) rfl rfl rfl (by decide +kernel) ⟨(Nat.le_of_ble_eq_true rfl), (Nat.le_of_ble_eq_true rfl)⟩) rfl hl.1 (Nat.le_of_ble_eq_true rfl) h_AL_add3_20 (fun σ6 H locs cells slots hw9 h9 => ?_)
  clear hw h; have hw := hw9; have h := h9; clear hw9 h9
  refine W.eq (g2 := F0 m 23 ls []) rfl ?_
  refine lv_iconst (v := 1) hx hb h_AL_add3_23 (by decide) ?_
  exact hend (1 : Int32) σ6 _ _ _ _ _ _ rfl hw h h_AL_add3_24
abbrev g_Ve_nextRow : MethodName := ⟨"MapFramer$Verifier", "nextRow", "(I)I"⟩
theorem h_Ve_nextRow_0 : decode prog_11_method_16_code 0 = .ok (.iload_n 1, 1) := by decide +kernel
theorem h_Ve_nextRow_1 : decode prog_11_method_16_code 1 = .ok (.istore_n 2, 1) := by decide +kernel
theorem h_Ve_nextRow_2 : decode prog_11_method_16_code 2 = .ok (.iload_n 2, 1) := by decide +kernel
theorem h_Ve_nextRow_3 : decode prog_11_method_16_code 3 = .ok (.aload_n 0, 1) := by decide +kernel
theorem h_Ve_nextRow_4 : decode prog_11_method_16_code 4 = .ok (.getfield 34, 3) := by decide +kernel
theorem h_Ve_nextRow_7 : decode prog_11_method_16_code 7 = .ok (.arraylength, 1) := by decide +kernel
theorem h_Ve_nextRow_8 : decode prog_11_method_16_code 8 = .ok (.if_icmp .ge 27, 3) := by decide +kernel
theorem h_Ve_nextRow_11 : decode prog_11_method_16_code 11 = .ok (.aload_n 0, 1) := by decide +kernel
theorem h_Ve_nextRow_12 : decode prog_11_method_16_code 12 = .ok (.getfield 34, 3) := by decide +kernel
theorem h_Ve_nextRow_15 : decode prog_11_method_16_code 15 = .ok (.iload_n 2, 1) := by decide +kernel
theorem h_Ve_nextRow_16 : decode prog_11_method_16_code 16 = .ok (.baload, 1) := by decide +kernel
theorem h_Ve_nextRow_17 : decode prog_11_method_16_code 17 = .ok (.ifCond .eq 12, 3) := by decide +kernel
theorem h_Ve_nextRow_20 : decode prog_11_method_16_code 20 = .ok (.aload_n 0, 1) := by decide +kernel
theorem h_Ve_nextRow_21 : decode prog_11_method_16_code 21 = .ok (.getfield 43, 3) := by decide +kernel
theorem h_Ve_nextRow_24 : decode prog_11_method_16_code 24 = .ok (.iload_n 2, 1) := by decide +kernel
theorem h_Ve_nextRow_25 : decode prog_11_method_16_code 25 = .ok (.aaload, 1) := by decide +kernel
theorem h_Ve_nextRow_26 : decode prog_11_method_16_code 26 = .ok (.ifnull 9, 3) := by decide +kernel
theorem h_Ve_nextRow_29 : decode prog_11_method_16_code 29 = .ok (.iinc 2 1, 3) := by decide +kernel
theorem h_Ve_nextRow_32 : decode prog_11_method_16_code 32 = .ok (.goto (-30), 3) := by decide +kernel
theorem h_Ve_nextRow_35 : decode prog_11_method_16_code 35 = .ok (.iload_n 2, 1) := by decide +kernel
theorem h_Ve_nextRow_36 : decode prog_11_method_16_code 36 = .ok (.ireturn, 1) := by decide +kernel
def x_Ve_nextRow_29 (a0 : Nat) (K2 : Int32 → CST → Prop) (P : Int32 → CST → Prop) (z2 : Int32) (σ : CST) : Prop := K2 (z2 + 1) σ
def x_Ve_nextRow_2 (a0 : Nat) (P : Int32 → CST → Prop) : Nat → Int32 → CST → Prop
  | 0, _, _ => False
  | n + 1, z2, σ => σ.1 a0 = some (10, 0) ∧ (∀ b2 : Option Nat, b2 = (σ.2.2.2.1 a0 3) → (∃ r3 : Nat, b2 = some r3 ∧ ((∃ n5 : Nat, σ.1 r3 = some (21, n5) ∧ ((((Int32.ofNat n5) ≤ z2 → P z2 σ) ∧ (¬ (Int32.ofNat n5) ≤ z2 → ∀ b7 : Option Nat, b7 = (σ.2.2.2.1 a0 3) → (∃ r8 : Nat, b7 = some r8 ∧ ((∃ n10 : Nat, σ.1 r8 = some (21, n10) ∧ (vp_in z2 n10 ∧ (∀ b12 : Int32, b12 = (σ.2.1 r8 (z2 : Int32).toNatClampNeg) → ((b12 = 0 → x_Ve_nextRow_29 a0 (x_Ve_nextRow_2 a0 P n) P z2 σ) ∧ (¬ b12 = 0 → ∀ b14 : Option Nat, b14 = (σ.2.2.2.1 a0 6) → (∃ r15 : Nat, b14 = some r15 ∧ ((∃ n17 : Nat, σ.1 r15 = some (25, n17) ∧ (vp_in z2 n17 ∧ (∀ b19 : Option Nat, b19 = (σ.2.2.2.1 r15 (z2 : Int32).toNatClampNeg) → ((b19 = none → P z2 σ) ∧ (∀ r21 : Nat, b19 = some r21 → x_Ve_nextRow_29 a0 (x_Ve_nextRow_2 a0 P n) P z2 σ)))))))))))))))))))))
def x_Ve_nextRow (a0 : Nat) (x1 : Int32) (σ0 : CST) (P : Int32 → CST → Prop) : Prop := (∃ n9 : Nat, x_Ve_nextRow_2 a0 P n9 x1 σ0)
set_option maxHeartbeats 4000000 in
set_option maxRecDepth 100000 in
theorem X_Ve_nextRow (l : Launch) (dC : Nat → ClassId) (dI : Nat → Nat → Nat) (ca : Nat → ClassId) (H0 : Heap) (σ0 : CST) (a0 : Nat) (x1 : Int32) {P : Int32 → CST → Prop} (hw : x_Ve_nextRow a0 x1 σ0 P) : Met l g_Ve_nextRow (mW g_Ve_nextRow prog_11_method_16_code 3 (some .int)) ({ frames := 0, cells := σ0.2.2.2.2.1, slots := σ0.2.2.2.2.2.1, locals := 0 } : Room) (va_Pc [.ref a0, .int x1] (CPre (dC, dI) ca σ0 H0)) (va_Qi P (CB (dC, dI) ca σ0 H0) (cA σ0 H0.size)) σ0.2.2.2.2.1 σ0.2.2.2.2.2.1 (cA σ0 H0.size) := by
  refine C_ofi (by decide +kernel) rfl rfl rfl (Nat.le_of_ble_eq_true rfl) ?_
  intro p e s m below meth cx Q A ls C hnm hend hH0 h hl
  subst hH0
  have C0 := C
  obtain ⟨⟨hx, hb, hml, hown, hts⟩, hsub⟩ := C0
  obtain ⟨cells, e_cells⟩ : ∃ z : Nat, z = 0 := ⟨_, rfl⟩
  obtain ⟨slots, e_slots⟩ : ∃ z : Nat, z = 0 := ⟨_, rfl⟩
  have h : CH (dC, dI) A ca ({ frames := 0, cells := σ0.2.2.2.2.1, slots := σ0.2.2.2.2.2.1, locals := 0 } : Room) σ0.2.2.2.2.2.2 σ0 s s.heap [] cells slots := by rw [e_cells, e_slots]; exact h
  show W p l e ({ frames := 0, cells := σ0.2.2.2.2.1, slots := σ0.2.2.2.2.2.1, locals := 0 } : Room) s m ([.ref a0, .int x1] : List Value).toArray below meth cx s.heap [] 0 0 Q (F0 m 0 ls [])
  rw [show W p l e ({ frames := 0, cells := σ0.2.2.2.2.1, slots := σ0.2.2.2.2.2.1, locals := 0 } : Room) s m ([.ref a0, .int x1] : List Value).toArray below meth cx s.heap [] 0 0 Q (F0 m 0 ls []) = W p l e ({ frames := 0, cells := σ0.2.2.2.2.1, slots := σ0.2.2.2.2.2.1, locals := 0 } : Room) s m ([.ref a0, .int x1] : List Value).toArray below meth cx s.heap [] cells slots Q (F0 m 0 ls []) by rw [e_cells, e_slots]]
  have K_29 : ∀ (K2 : Int32 → CST → Prop) (hK2 : ∀ (z2 : Int32) (σ : CST) (H : Heap) (locs : List Loc) (cells slots : Nat) (ls : Array Slot), K2 z2 σ → CH (dC, dI) A ca ({ frames := 0, cells := σ0.2.2.2.2.1, slots := σ0.2.2.2.2.2.1, locals := 0 } : Room) σ0.2.2.2.2.2.2 σ s H locs cells slots → lv_has ls 3 [(0, .ref a0), (2, .int z2)] → W p l e ({ frames := 0, cells := σ0.2.2.2.2.1, slots := σ0.2.2.2.2.2.1, locals := 0 } : Room) s m ([.ref a0, .int x1] : List Value).toArray below meth cx H locs cells slots Q (F0 m 2 ls [])), ∀ (z2 : Int32) (σ : CST) (H : Heap) (locs : List Loc) (cells slots : Nat) (ls : Array Slot), x_Ve_nextRow_29 a0 K2 P z2 σ → CH (dC, dI) A ca ({ frames := 0, cells := σ0.2.2.2.2.1, slots := σ0.2.2.2.2.2.1, locals := 0 } : Room) σ0.2.2.2.2.2.2 σ s H locs cells slots → lv_has ls 3 [(0, .ref a0), (2, .int z2)] → W p l e ({ frames := 0, cells := σ0.2.2.2.2.1, slots := σ0.2.2.2.2.2.1, locals := 0 } : Room) s m ([.ref a0, .int x1] : List Value).toArray below meth cx H locs cells slots Q (F0 m 29 ls []) := by
    intro K2 hK2 z2 σ H locs cells slots ls hw h hl
    unfold x_Ve_nextRow_29 at hw
    refine lv_iinc (v := (z2 + 1)) (lv' := [(2, .int (z2 + 1)), (0, .ref a0)]) hx hb h_Ve_nextRow_29 hl (k := 1) rfl (rfl) (by decide) rfl (fun ls hl => ?_)
    refine lv_goto (tgt := 2) hx hb h_Ve_nextRow_32 (by decide) ?_
    exact hK2 (z2 + 1) σ _ _ _ _ _ hw h (lv_sub hl [1, 0] rfl)
  have K_2 : ∀ (n : Nat), ∀ (z2 : Int32) (σ : CST) (H : Heap) (locs : List Loc) (cells slots : Nat) (ls : Array Slot), x_Ve_nextRow_2 a0 P n z2 σ → CH (dC, dI) A ca ({ frames := 0, cells := σ0.2.2.2.2.1, slots := σ0.2.2.2.2.2.1, locals := 0 } : Room) σ0.2.2.2.2.2.2 σ s H locs cells slots → lv_has ls 3 [(0, .ref a0), (2, .int z2)] → W p l e ({ frames := 0, cells := σ0.2.2.2.2.1, slots := σ0.2.2.2.2.2.1, locals := 0 } : Room) s m ([.ref a0, .int x1] : List Value).toArray below meth cx H locs cells slots Q (F0 m 2 ls []) := by
    intro  n
    induction n with
    | zero => intro z2 σ H locs cells slots ls hw h hl; unfold x_Ve_nextRow_2 at hw; exact hw.elim
    | succ n ih =>
      intro z2 σ H locs cells slots ls hw h hl
      unfold x_Ve_nextRow_2 at hw
      refine lv_iload_n hx hb h_Ve_nextRow_2 rfl (lv_at hl 1 rfl) ?_
      refine lv_aload_n hx hb h_Ve_nextRow_3 rfl (lv_at hl 0 rfl) ?_
      obtain ⟨g1, hw⟩ := hw
      refine C_get C h 10 3 (v := va_rf (σ.2.2.2.1 a0 3)) g1 rfl (Cn := R_Ve) (T := T_Ve) (N := 10) rfl (by decide) rfl uw_Ve (by decide) u_690 (fun _ q => q) h_Ve_nextRow_4 ?_
      refine lv_topq (fun b2 e_b2 => ?_)
      replace hw := hw b2 e_b2
      obtain ⟨r3, e_r3, hw⟩ := hw
      subst e_r3
      have hl : lv_has ls 3 [(0, .ref a0), (2, .int z2)] := hl
      refine W.eq (g2 := F0 m 7 ls [.ref r3, .int z2]) rfl ?_
      obtain ⟨n5, g4, hw⟩ := hw
      refine C_alen C h 21 1 rfl (by decide) g4 h_Ve_nextRow_7 ?_
      refine lv_icmp_ge (tgt := 35) hx hb h_Ve_nextRow_8 (by decide) (fun c6 => ?_) (fun c6 => ?_)
      · skip
        replace hw := hw.1 c6
        refine lv_iload_n hx hb h_Ve_nextRow_35 rfl (lv_at hl 1 rfl) ?_
        exact hend z2 σ _ _ _ _ _ _ hw h h_Ve_nextRow_36
      · skip
        replace hw := hw.2 c6
        refine lv_aload_n hx hb h_Ve_nextRow_11 rfl (lv_at hl 0 rfl) ?_
        refine C_get C h 10 3 (v := va_rf (σ.2.2.2.1 a0 3)) g1 rfl (Cn := R_Ve) (T := T_Ve) (N := 10) rfl (by decide) rfl uw_Ve (by decide) u_690 (fun _ q => q) h_Ve_nextRow_12 ?_
        refine lv_topq (fun b7 e_b7 => ?_)
        replace hw := hw b7 e_b7
        refine lv_iload_n hx hb h_Ve_nextRow_15 rfl (lv_at hl 1 rfl) ?_
        obtain ⟨r8, e_r8, hw⟩ := hw
        subst e_r8
        have hl : lv_has ls 3 [(0, .ref a0), (2, .int z2)] := hl
        refine W.eq (g2 := F0 m 16 ls [.int z2, .ref r8]) rfl ?_
        obtain ⟨n10, g9, hw⟩ := hw
        obtain ⟨g11, hw⟩ := hw
        refine C_zald C h g9 g11 h_Ve_nextRow_16 ?_
        refine lv_topi (fun b12 e_b12 => ?_)
        replace hw := hw b12 e_b12
        refine lv_if_eq (tgt := 29) hx hb h_Ve_nextRow_17 (by decide) (fun c13 => ?_) (fun c13 => ?_)
        · skip
          replace hw := hw.1 c13
          exact K_29 _ ih z2 σ _ _ _ _ _ hw h (lv_sub hl [0, 1] rfl)
        · skip
          replace hw := hw.2 c13
          refine lv_aload_n hx hb h_Ve_nextRow_20 rfl (lv_at hl 0 rfl) ?_
          refine C_get C h 10 6 (v := va_rf (σ.2.2.2.1 a0 6)) g1 rfl (Cn := R_Ve) (T := T_Ve) (N := 10) rfl (by decide) rfl uw_Ve (by decide) u_693 (fun _ q => q) h_Ve_nextRow_21 ?_
          refine lv_topq (fun b14 e_b14 => ?_)
          replace hw := hw b14 e_b14
          refine lv_iload_n hx hb h_Ve_nextRow_24 rfl (lv_at hl 1 rfl) ?_
          obtain ⟨r15, e_r15, hw⟩ := hw
          subst e_r15
          have hl : lv_has ls 3 [(0, .ref a0), (2, .int z2)] := hl
          refine W.eq (g2 := F0 m 25 ls [.int z2, .ref r15]) rfl ?_
          obtain ⟨n17, g16, hw⟩ := hw
          obtain ⟨g18, hw⟩ := hw
          refine C_aald C h 25 4 rfl (by decide) g16 g18 h_Ve_nextRow_25 ?_
          refine lv_topq (fun b19 e_b19 => ?_)
          replace hw := hw b19 e_b19
          rcases cq_or b19 with c20 | ⟨r21, c20⟩
          · subst c20
            replace hw := hw.1 rfl
            have hl : lv_has ls 3 [(0, .ref a0), (2, .int z2)] := hl
            refine W.eq (g2 := F0 m 26 ls [.null]) rfl ?_
            refine lv_ifnullN (tgt := 35) hx hb h_Ve_nextRow_26 (by decide) ?_
            refine lv_iload_n hx hb h_Ve_nextRow_35 rfl (lv_at hl 1 rfl) ?_
            exact hend z2 σ _ _ _ _ _ _ hw h h_Ve_nextRow_36
          · subst c20
            replace hw := hw.2 r21 rfl
            have hl : lv_has ls 3 [(0, .ref a0), (2, .int z2)] := hl
            refine W.eq (g2 := F0 m 26 ls [.ref r21]) rfl ?_
            refine lv_ifnull hx hb h_Ve_nextRow_26 ?_
            exact K_29 _ ih z2 σ _ _ _ _ _ hw h (lv_sub hl [0, 1] rfl)
  have hl : lv_has ls 3 [(0, .ref a0), (1, .int x1)] := hl
  unfold x_Ve_nextRow at hw
  refine lv_iload_n hx hb h_Ve_nextRow_0 rfl (lv_at hl 1 rfl) ?_
  refine lv_istore_n (i := 2) (lv' := [(2, .int x1), (0, .ref a0), (1, .int x1)]) hx hb h_Ve_nextRow_1 rfl hl (by decide) rfl (fun ls hl => ?_)
  obtain ⟨n9, hw⟩ := hw
  exact K_2 n9 x1 σ0 _ _ _ _ _ hw h (lv_sub hl [1, 0] rfl)
abbrev g_Ve_rowEnd : MethodName := ⟨"MapFramer$Verifier", "rowEnd", "(I)I"⟩
theorem h_Ve_rowEnd_0 : decode prog_11_method_17_code 0 = .ok (.iload_n 1, 1) := by decide +kernel
theorem h_Ve_rowEnd_1 : decode prog_11_method_17_code 1 = .ok (.iconst 1, 1) := by decide +kernel
theorem h_Ve_rowEnd_2 : decode prog_11_method_17_code 2 = .ok (.iadd, 1) := by decide +kernel
theorem h_Ve_rowEnd_3 : decode prog_11_method_17_code 3 = .ok (.istore_n 2, 1) := by decide +kernel
theorem h_Ve_rowEnd_4 : decode prog_11_method_17_code 4 = .ok (.iload_n 2, 1) := by decide +kernel
theorem h_Ve_rowEnd_5 : decode prog_11_method_17_code 5 = .ok (.aload_n 0, 1) := by decide +kernel
theorem h_Ve_rowEnd_6 : decode prog_11_method_17_code 6 = .ok (.getfield 34, 3) := by decide +kernel
theorem h_Ve_rowEnd_9 : decode prog_11_method_17_code 9 = .ok (.arraylength, 1) := by decide +kernel
theorem h_Ve_rowEnd_10 : decode prog_11_method_17_code 10 = .ok (.if_icmp .ge 18, 3) := by decide +kernel
theorem h_Ve_rowEnd_13 : decode prog_11_method_17_code 13 = .ok (.aload_n 0, 1) := by decide +kernel
theorem h_Ve_rowEnd_14 : decode prog_11_method_17_code 14 = .ok (.getfield 43, 3) := by decide +kernel
theorem h_Ve_rowEnd_17 : decode prog_11_method_17_code 17 = .ok (.iload_n 2, 1) := by decide +kernel
theorem h_Ve_rowEnd_18 : decode prog_11_method_17_code 18 = .ok (.aaload, 1) := by decide +kernel
theorem h_Ve_rowEnd_19 : decode prog_11_method_17_code 19 = .ok (.ifnonnull 9, 3) := by decide +kernel
theorem h_Ve_rowEnd_22 : decode prog_11_method_17_code 22 = .ok (.iinc 2 1, 3) := by decide +kernel
theorem h_Ve_rowEnd_25 : decode prog_11_method_17_code 25 = .ok (.goto (-21), 3) := by decide +kernel
theorem h_Ve_rowEnd_28 : decode prog_11_method_17_code 28 = .ok (.iload_n 2, 1) := by decide +kernel
theorem h_Ve_rowEnd_29 : decode prog_11_method_17_code 29 = .ok (.ireturn, 1) := by decide +kernel
def x_Ve_rowEnd_4 (a0 : Nat) (P : Int32 → CST → Prop) : Nat → Int32 → CST → Prop
  | 0, _, _ => False
  | n + 1, z2, σ => σ.1 a0 = some (10, 0) ∧ (∀ b2 : Option Nat, b2 = (σ.2.2.2.1 a0 3) → (∃ r3 : Nat, b2 = some r3 ∧ ((∃ n5 : Nat, σ.1 r3 = some (21, n5) ∧ ((((Int32.ofNat n5) ≤ z2 → P z2 σ) ∧ (¬ (Int32.ofNat n5) ≤ z2 → ∀ b7 : Option Nat, b7 = (σ.2.2.2.1 a0 6) → (∃ r8 : Nat, b7 = some r8 ∧ ((∃ n10 : Nat, σ.1 r8 = some (25, n10) ∧ (vp_in z2 n10 ∧ (∀ b12 : Option Nat, b12 = (σ.2.2.2.1 r8 (z2 : Int32).toNatClampNeg) → ((b12 = none → x_Ve_rowEnd_4 a0 P n (z2 + 1) σ) ∧ (∀ r14 : Nat, b12 = some r14 → P z2 σ))))))))))))))
def x_Ve_rowEnd (a0 : Nat) (x1 : Int32) (σ0 : CST) (P : Int32 → CST → Prop) : Prop := (∃ n9 : Nat, x_Ve_rowEnd_4 a0 P n9 (x1 + 1) σ0)
set_option maxHeartbeats 4000000 in
set_option maxRecDepth 100000 in
theorem X_Ve_rowEnd (l : Launch) (dC : Nat → ClassId) (dI : Nat → Nat → Nat) (ca : Nat → ClassId) (H0 : Heap) (σ0 : CST) (a0 : Nat) (x1 : Int32) {P : Int32 → CST → Prop} (hw : x_Ve_rowEnd a0 x1 σ0 P) : Met l g_Ve_rowEnd (mW g_Ve_rowEnd prog_11_method_17_code 3 (some .int)) ({ frames := 0, cells := σ0.2.2.2.2.1, slots := σ0.2.2.2.2.2.1, locals := 0 } : Room) (va_Pc [.ref a0, .int x1] (CPre (dC, dI) ca σ0 H0)) (va_Qi P (CB (dC, dI) ca σ0 H0) (cA σ0 H0.size)) σ0.2.2.2.2.1 σ0.2.2.2.2.2.1 (cA σ0 H0.size) := by
  refine C_ofi (by decide +kernel) rfl rfl rfl (Nat.le_of_ble_eq_true rfl) ?_
  intro p e s m below meth cx Q A ls C hnm hend hH0 h hl
  subst hH0
  have C0 := C
  obtain ⟨⟨hx, hb, hml, hown, hts⟩, hsub⟩ := C0
  obtain ⟨cells, e_cells⟩ : ∃ z : Nat, z = 0 := ⟨_, rfl⟩
  obtain ⟨slots, e_slots⟩ : ∃ z : Nat, z = 0 := ⟨_, rfl⟩
  have h : CH (dC, dI) A ca ({ frames := 0, cells := σ0.2.2.2.2.1, slots := σ0.2.2.2.2.2.1, locals := 0 } : Room) σ0.2.2.2.2.2.2 σ0 s s.heap [] cells slots := by rw [e_cells, e_slots]; exact h
  show W p l e ({ frames := 0, cells := σ0.2.2.2.2.1, slots := σ0.2.2.2.2.2.1, locals := 0 } : Room) s m ([.ref a0, .int x1] : List Value).toArray below meth cx s.heap [] 0 0 Q (F0 m 0 ls [])
  rw [show W p l e ({ frames := 0, cells := σ0.2.2.2.2.1, slots := σ0.2.2.2.2.2.1, locals := 0 } : Room) s m ([.ref a0, .int x1] : List Value).toArray below meth cx s.heap [] 0 0 Q (F0 m 0 ls []) = W p l e ({ frames := 0, cells := σ0.2.2.2.2.1, slots := σ0.2.2.2.2.2.1, locals := 0 } : Room) s m ([.ref a0, .int x1] : List Value).toArray below meth cx s.heap [] cells slots Q (F0 m 0 ls []) by rw [e_cells, e_slots]]
  have K_4 : ∀ (n : Nat), ∀ (z2 : Int32) (σ : CST) (H : Heap) (locs : List Loc) (cells slots : Nat) (ls : Array Slot), x_Ve_rowEnd_4 a0 P n z2 σ → CH (dC, dI) A ca ({ frames := 0, cells := σ0.2.2.2.2.1, slots := σ0.2.2.2.2.2.1, locals := 0 } : Room) σ0.2.2.2.2.2.2 σ s H locs cells slots → lv_has ls 3 [(0, .ref a0), (2, .int z2)] → W p l e ({ frames := 0, cells := σ0.2.2.2.2.1, slots := σ0.2.2.2.2.2.1, locals := 0 } : Room) s m ([.ref a0, .int x1] : List Value).toArray below meth cx H locs cells slots Q (F0 m 4 ls []) := by
    intro  n
    induction n with
    | zero => intro z2 σ H locs cells slots ls hw h hl; unfold x_Ve_rowEnd_4 at hw; exact hw.elim
    | succ n ih =>
      intro z2 σ H locs cells slots ls hw h hl
      unfold x_Ve_rowEnd_4 at hw
      refine lv_iload_n hx hb h_Ve_rowEnd_4 rfl (lv_at hl 1 rfl) ?_
      refine lv_aload_n hx hb h_Ve_rowEnd_5 rfl (lv_at hl 0 rfl) ?_
      obtain ⟨g1, hw⟩ := hw
      refine C_get C h 10 3 (v := va_rf (σ.2.2.2.1 a0 3)) g1 rfl (Cn := R_Ve) (T := T_Ve) (N := 10) rfl (by decide) rfl uw_Ve (by decide) u_690 (fun _ q => q) h_Ve_rowEnd_6 ?_
      refine lv_topq (fun b2 e_b2 => ?_)
      replace hw := hw b2 e_b2
      obtain ⟨r3, e_r3, hw⟩ := hw
      subst e_r3
      have hl : lv_has ls 3 [(0, .ref a0), (2, .int z2)] := hl
      refine W.eq (g2 := F0 m 9 ls [.ref r3, .int z2]) rfl ?_
      obtain ⟨n5, g4, hw⟩ := hw
      refine C_alen C h 21 1 rfl (by decide) g4 h_Ve_rowEnd_9 ?_
      refine lv_icmp_ge (tgt := 28) hx hb h_Ve_rowEnd_10 (by decide) (fun c6 => ?_) (fun c6 => ?_)
      · skip
        replace hw := hw.1 c6
        refine lv_iload_n hx hb h_Ve_rowEnd_28 rfl (lv_at hl 1 rfl) ?_
        exact hend z2 σ _ _ _ _ _ _ hw h h_Ve_rowEnd_29
      · skip
        replace hw := hw.2 c6
        refine lv_aload_n hx hb h_Ve_rowEnd_13 rfl (lv_at hl 0 rfl) ?_
        refine C_get C h 10 6 (v := va_rf (σ.2.2.2.1 a0 6)) g1 rfl (Cn := R_Ve) (T := T_Ve) (N := 10) rfl (by decide) rfl uw_Ve (by decide) u_693 (fun _ q => q) h_Ve_rowEnd_14 ?_
        refine lv_topq (fun b7 e_b7 => ?_)
        replace hw := hw b7 e_b7
        refine lv_iload_n hx hb h_Ve_rowEnd_17 rfl (lv_at hl 1 rfl) ?_
        obtain ⟨r8, e_r8, hw⟩ := hw
        subst e_r8
        have hl : lv_has ls 3 [(0, .ref a0), (2, .int z2)] := hl
        refine W.eq (g2 := F0 m 18 ls [.int z2, .ref r8]) rfl ?_
        obtain ⟨n10, g9, hw⟩ := hw
        obtain ⟨g11, hw⟩ := hw
        refine C_aald C h 25 4 rfl (by decide) g9 g11 h_Ve_rowEnd_18 ?_
        refine lv_topq (fun b12 e_b12 => ?_)
        replace hw := hw b12 e_b12
        rcases cq_or b12 with c13 | ⟨r14, c13⟩
        · subst c13
          replace hw := hw.1 rfl
          have hl : lv_has ls 3 [(0, .ref a0), (2, .int z2)] := hl
          refine W.eq (g2 := F0 m 19 ls [.null]) rfl ?_
          refine lv_ifnonnullN hx hb h_Ve_rowEnd_19 ?_
          refine lv_iinc (v := (z2 + 1)) (lv' := [(2, .int (z2 + 1)), (0, .ref a0)]) hx hb h_Ve_rowEnd_22 hl (k := 1) rfl (rfl) (by decide) rfl (fun ls hl => ?_)
          refine lv_goto (tgt := 4) hx hb h_Ve_rowEnd_25 (by decide) ?_
          exact ih (z2 + 1) σ _ _ _ _ _ hw h (lv_sub hl [1, 0] rfl)
        · subst c13
          replace hw := hw.2 r14 rfl
          have hl : lv_has ls 3 [(0, .ref a0), (2, .int z2)] := hl
          refine W.eq (g2 := F0 m 19 ls [.ref r14]) rfl ?_
          refine lv_ifnonnull (tgt := 28) hx hb h_Ve_rowEnd_19 (by decide) ?_
          refine lv_iload_n hx hb h_Ve_rowEnd_28 rfl (lv_at hl 1 rfl) ?_
          exact hend z2 σ _ _ _ _ _ _ hw h h_Ve_rowEnd_29
  have hl : lv_has ls 3 [(0, .ref a0), (1, .int x1)] := hl
  unfold x_Ve_rowEnd at hw
  refine lv_iload_n hx hb h_Ve_rowEnd_0 rfl (lv_at hl 1 rfl) ?_
  refine lv_iconst (v := 1) hx hb h_Ve_rowEnd_1 (by decide) ?_
  refine lv_iadd hx hb h_Ve_rowEnd_2 ?_
  refine lv_istore_n (i := 2) (lv' := [(2, .int (x1 + 1)), (0, .ref a0), (1, .int x1)]) hx hb h_Ve_rowEnd_3 rfl hl (by decide) rfl (fun ls hl => ?_)
  obtain ⟨n9, hw⟩ := hw
  exact K_4 n9 (x1 + 1) σ0 _ _ _ _ _ hw h (lv_sub hl [1, 0] rfl)
abbrev g_Ve_handlersLeft : MethodName := ⟨"MapFramer$Verifier", "handlersLeft", "()Ljava/util/ArrayList;"⟩
theorem u_809 : (Cond.methodLink "MapFramer$Verifier" 224 ⟨"MapFramer$Verifier", "rowEnd", "(I)I"⟩ : Cond) ∈ bigW := inB_5 78 (by decide +kernel) rfl
theorem u_810 : (Cond.instanceMethod ⟨"MapFramer$Verifier", "rowEnd", "(I)I"⟩ : Cond) ∈ bigW := inB_5 80 (by decide +kernel) rfl
theorem u_811 : (Cond.selects "MapFramer$Verifier" ⟨"MapFramer$Verifier", "rowEnd", "(I)I"⟩ ⟨"MapFramer$Verifier", "rowEnd", "(I)I"⟩ : Cond) ∈ bigW := inS (y := ⟨"MapFramer$Verifier", "rowEnd", "(I)I"⟩) (n := 10) (List.mem_of_getElem? (i := 40) (by decide +kernel))
theorem u_812 : (Cond.code ⟨"MapFramer$Verifier", "rowEnd", "(I)I"⟩ prog_11_method_17_code 3 (some .int) : Cond) ∈ bigW := inB_5 81 rfl rfl
theorem u_813 : (Cond.methodLink "MapFramer$Verifier" 242 ⟨"MapFramer$Handler", "cut", "(Ljava/util/ArrayList;II)V"⟩ : Cond) ∈ bigW := inB_5 82 (by decide +kernel) rfl
theorem u_814 : (Cond.static ⟨"MapFramer$Handler", "cut", "(Ljava/util/ArrayList;II)V"⟩ : Cond) ∈ bigW := inB_5 83 (by decide +kernel) rfl
theorem u_815 : (Cond.code ⟨"MapFramer$Handler", "cut", "(Ljava/util/ArrayList;II)V"⟩ prog_4_method_3_code 5 none : Cond) ∈ bigW := inB_5 84 rfl rfl
theorem u_816 : (Cond.methodLink "MapFramer$Verifier" 221 ⟨"MapFramer$Verifier", "nextRow", "(I)I"⟩ : Cond) ∈ bigW := inB_5 74 (by decide +kernel) rfl
theorem u_817 : (Cond.instanceMethod ⟨"MapFramer$Verifier", "nextRow", "(I)I"⟩ : Cond) ∈ bigW := inB_5 76 (by decide +kernel) rfl
theorem u_818 : (Cond.selects "MapFramer$Verifier" ⟨"MapFramer$Verifier", "nextRow", "(I)I"⟩ ⟨"MapFramer$Verifier", "nextRow", "(I)I"⟩ : Cond) ∈ bigW := inS (y := ⟨"MapFramer$Verifier", "nextRow", "(I)I"⟩) (n := 10) (List.mem_of_getElem? (i := 39) (by decide +kernel))
theorem u_819 : (Cond.code ⟨"MapFramer$Verifier", "nextRow", "(I)I"⟩ prog_11_method_16_code 3 (some .int) : Cond) ∈ bigW := inB_5 77 rfl rfl
theorem u_820 : (Cond.methodLink "MapFramer$Verifier" 238 ⟨"java/util/ArrayList", "add", "(Ljava/lang/Object;)Z"⟩ : Cond) ∈ bigW := inB_5 73 (by decide +kernel) rfl
theorem u_821 : (Cond.instanceMethod ⟨"java/util/ArrayList", "add", "(Ljava/lang/Object;)Z"⟩ : Cond) ∈ bigW := inB_3 72 (by decide +kernel) rfl
theorem u_822 : (Cond.selects "java/util/ArrayList" ⟨"java/util/ArrayList", "add", "(Ljava/lang/Object;)Z"⟩ ⟨"java/util/ArrayList", "add", "(Ljava/lang/Object;)Z"⟩ : Cond) ∈ bigW := inB_3 73 (by decide +kernel) rfl
theorem u_823 : (Cond.code ⟨"java/util/ArrayList", "add", "(Ljava/lang/Object;)Z"⟩ prog_36_method_25_code 2 (some .boolean) : Cond) ∈ bigW := inB_3 74 rfl rfl
theorem u_824 : (Cond.classLink "MapFramer$Verifier" 128 "java/util/ArrayList" : Cond) ∈ bigW := inB_5 71 (by decide +kernel) rfl
theorem u_825 : (Cond.methodLink "MapFramer$Verifier" 237 ⟨"java/util/ArrayList", "<init>", "()V"⟩ : Cond) ∈ bigW := inB_5 72 (by decide +kernel) rfl
theorem h_Ve_handlersLeft_0 : decode prog_11_method_15_code 0 = .ok (.new 128, 3) := by decide +kernel
theorem h_Ve_handlersLeft_3 : decode prog_11_method_15_code 3 = .ok (.dup, 1) := by decide +kernel
theorem h_Ve_handlersLeft_4 : decode prog_11_method_15_code 4 = .ok (.invokespecial 237, 3) := by decide +kernel
theorem h_Ve_handlersLeft_7 : decode prog_11_method_15_code 7 = .ok (.astore_n 1, 1) := by decide +kernel
theorem h_Ve_handlersLeft_8 : decode prog_11_method_15_code 8 = .ok (.iconst 0, 1) := by decide +kernel
theorem h_Ve_handlersLeft_9 : decode prog_11_method_15_code 9 = .ok (.istore_n 2, 1) := by decide +kernel
theorem h_Ve_handlersLeft_10 : decode prog_11_method_15_code 10 = .ok (.iload_n 2, 1) := by decide +kernel
theorem h_Ve_handlersLeft_11 : decode prog_11_method_15_code 11 = .ok (.aload_n 0, 1) := by decide +kernel
theorem h_Ve_handlersLeft_12 : decode prog_11_method_15_code 12 = .ok (.getfield 15, 3) := by decide +kernel
theorem h_Ve_handlersLeft_15 : decode prog_11_method_15_code 15 = .ok (.getfield 123, 3) := by decide +kernel
theorem h_Ve_handlersLeft_18 : decode prog_11_method_15_code 18 = .ok (.invokevirtual 127, 3) := by decide +kernel
theorem h_Ve_handlersLeft_21 : decode prog_11_method_15_code 21 = .ok (.if_icmp .ge 28, 3) := by decide +kernel
theorem h_Ve_handlersLeft_24 : decode prog_11_method_15_code 24 = .ok (.aload_n 1, 1) := by decide +kernel
theorem h_Ve_handlersLeft_25 : decode prog_11_method_15_code 25 = .ok (.aload_n 0, 1) := by decide +kernel
theorem h_Ve_handlersLeft_26 : decode prog_11_method_15_code 26 = .ok (.getfield 15, 3) := by decide +kernel
theorem h_Ve_handlersLeft_29 : decode prog_11_method_15_code 29 = .ok (.getfield 123, 3) := by decide +kernel
theorem h_Ve_handlersLeft_32 : decode prog_11_method_15_code 32 = .ok (.iload_n 2, 1) := by decide +kernel
theorem h_Ve_handlersLeft_33 : decode prog_11_method_15_code 33 = .ok (.invokevirtual 133, 3) := by decide +kernel
theorem h_Ve_handlersLeft_36 : decode prog_11_method_15_code 36 = .ok (.checkcast 137, 3) := by decide +kernel
theorem h_Ve_handlersLeft_39 : decode prog_11_method_15_code 39 = .ok (.invokevirtual 238, 3) := by decide +kernel
theorem h_Ve_handlersLeft_42 : decode prog_11_method_15_code 42 = .ok (.pop, 1) := by decide +kernel
theorem h_Ve_handlersLeft_43 : decode prog_11_method_15_code 43 = .ok (.iinc 2 1, 3) := by decide +kernel
theorem h_Ve_handlersLeft_46 : decode prog_11_method_15_code 46 = .ok (.goto (-36), 3) := by decide +kernel
theorem h_Ve_handlersLeft_49 : decode prog_11_method_15_code 49 = .ok (.aload_n 0, 1) := by decide +kernel
theorem h_Ve_handlersLeft_50 : decode prog_11_method_15_code 50 = .ok (.iconst 0, 1) := by decide +kernel
theorem h_Ve_handlersLeft_51 : decode prog_11_method_15_code 51 = .ok (.invokevirtual 221, 3) := by decide +kernel
theorem h_Ve_handlersLeft_54 : decode prog_11_method_15_code 54 = .ok (.istore_n 2, 1) := by decide +kernel
theorem h_Ve_handlersLeft_55 : decode prog_11_method_15_code 55 = .ok (.iconst 0, 1) := by decide +kernel
theorem h_Ve_handlersLeft_56 : decode prog_11_method_15_code 56 = .ok (.istore_n 3, 1) := by decide +kernel
theorem h_Ve_handlersLeft_57 : decode prog_11_method_15_code 57 = .ok (.iload_n 3, 1) := by decide +kernel
theorem h_Ve_handlersLeft_58 : decode prog_11_method_15_code 58 = .ok (.aload_n 0, 1) := by decide +kernel
theorem h_Ve_handlersLeft_59 : decode prog_11_method_15_code 59 = .ok (.getfield 34, 3) := by decide +kernel
theorem h_Ve_handlersLeft_62 : decode prog_11_method_15_code 62 = .ok (.arraylength, 1) := by decide +kernel
theorem h_Ve_handlersLeft_63 : decode prog_11_method_15_code 63 = .ok (.if_icmp .ge 60, 3) := by decide +kernel
theorem h_Ve_handlersLeft_66 : decode prog_11_method_15_code 66 = .ok (.iload_n 2, 1) := by decide +kernel
theorem h_Ve_handlersLeft_67 : decode prog_11_method_15_code 67 = .ok (.aload_n 0, 1) := by decide +kernel
theorem h_Ve_handlersLeft_68 : decode prog_11_method_15_code 68 = .ok (.getfield 34, 3) := by decide +kernel
theorem h_Ve_handlersLeft_71 : decode prog_11_method_15_code 71 = .ok (.arraylength, 1) := by decide +kernel
theorem h_Ve_handlersLeft_72 : decode prog_11_method_15_code 72 = .ok (.if_icmp .ge 51, 3) := by decide +kernel
theorem h_Ve_handlersLeft_75 : decode prog_11_method_15_code 75 = .ok (.aload_n 0, 1) := by decide +kernel
theorem h_Ve_handlersLeft_76 : decode prog_11_method_15_code 76 = .ok (.iload_n 2, 1) := by decide +kernel
theorem h_Ve_handlersLeft_77 : decode prog_11_method_15_code 77 = .ok (.invokevirtual 224, 3) := by decide +kernel
theorem h_Ve_handlersLeft_80 : decode prog_11_method_15_code 80 = .ok (.istore 4, 2) := by decide +kernel
theorem h_Ve_handlersLeft_82 : decode prog_11_method_15_code 82 = .ok (.aload_n 1, 1) := by decide +kernel
theorem h_Ve_handlersLeft_83 : decode prog_11_method_15_code 83 = .ok (.iload_n 2, 1) := by decide +kernel
theorem h_Ve_handlersLeft_84 : decode prog_11_method_15_code 84 = .ok (.iload 4, 2) := by decide +kernel
theorem h_Ve_handlersLeft_86 : decode prog_11_method_15_code 86 = .ok (.invokestatic 242, 3) := by decide +kernel
theorem h_Ve_handlersLeft_89 : decode prog_11_method_15_code 89 = .ok (.aload_n 1, 1) := by decide +kernel
theorem h_Ve_handlersLeft_90 : decode prog_11_method_15_code 90 = .ok (.invokevirtual 127, 3) := by decide +kernel
theorem h_Ve_handlersLeft_93 : decode prog_11_method_15_code 93 = .ok (.bipush 12, 2) := by decide +kernel
theorem h_Ve_handlersLeft_95 : decode prog_11_method_15_code 95 = .ok (.if_icmp .le 15, 3) := by decide +kernel
theorem h_Ve_handlersLeft_98 : decode prog_11_method_15_code 98 = .ok (.aload_n 0, 1) := by decide +kernel
theorem h_Ve_handlersLeft_99 : decode prog_11_method_15_code 99 = .ok (.getfield 15, 3) := by decide +kernel
theorem h_Ve_handlersLeft_102 : decode prog_11_method_15_code 102 = .ok (.bipush 10, 2) := by decide +kernel
theorem h_Ve_handlersLeft_104 : decode prog_11_method_15_code 104 = .ok (.iload_n 2, 1) := by decide +kernel
theorem h_Ve_handlersLeft_105 : decode prog_11_method_15_code 105 = .ok (.invokevirtual 76, 3) := by decide +kernel
theorem h_Ve_handlersLeft_108 : decode prog_11_method_15_code 108 = .ok (.aload_n 1, 1) := by decide +kernel
theorem h_Ve_handlersLeft_109 : decode prog_11_method_15_code 109 = .ok (.areturn, 1) := by decide +kernel
theorem h_Ve_handlersLeft_110 : decode prog_11_method_15_code 110 = .ok (.aload_n 0, 1) := by decide +kernel
theorem h_Ve_handlersLeft_111 : decode prog_11_method_15_code 111 = .ok (.iload 4, 2) := by decide +kernel
theorem h_Ve_handlersLeft_113 : decode prog_11_method_15_code 113 = .ok (.invokevirtual 221, 3) := by decide +kernel
theorem h_Ve_handlersLeft_116 : decode prog_11_method_15_code 116 = .ok (.istore_n 2, 1) := by decide +kernel
theorem h_Ve_handlersLeft_117 : decode prog_11_method_15_code 117 = .ok (.iinc 3 1, 3) := by decide +kernel
theorem h_Ve_handlersLeft_120 : decode prog_11_method_15_code 120 = .ok (.goto (-63), 3) := by decide +kernel
theorem h_Ve_handlersLeft_123 : decode prog_11_method_15_code 123 = .ok (.aload_n 1, 1) := by decide +kernel
theorem h_Ve_handlersLeft_124 : decode prog_11_method_15_code 124 = .ok (.areturn, 1) := by decide +kernel
def x_Ve_handlersLeft_123 (a0 : Nat) (P : Option Nat → CST → Prop) (z1 : Option Nat) (σ : CST) : Prop := P z1 σ
def x_Ve_handlersLeft_57 (a0 : Nat) (P : Option Nat → CST → Prop) : Nat → Option Nat → Int32 → Int32 → CST → Prop
  | 0, _, _, _, _ => False
  | n + 1, z1, z2, z3, σ => σ.1 a0 = some (10, 0) ∧ (∀ b2 : Option Nat, b2 = (σ.2.2.2.1 a0 3) → (∃ r3 : Nat, b2 = some r3 ∧ ((∃ n5 : Nat, σ.1 r3 = some (21, n5) ∧ ((((Int32.ofNat n5) ≤ z3 → x_Ve_handlersLeft_123 a0 P z1 σ) ∧ (¬ (Int32.ofNat n5) ≤ z3 → ∀ b7 : Option Nat, b7 = (σ.2.2.2.1 a0 3) → (∃ r8 : Nat, b7 = some r8 ∧ ((∃ n10 : Nat, σ.1 r8 = some (21, n10) ∧ ((((Int32.ofNat n10) ≤ z2 → x_Ve_handlersLeft_123 a0 P z1 σ) ∧ (¬ (Int32.ofNat n10) ≤ z2 → x_Ve_rowEnd a0 z2 σ (fun r13 σ12 => (∃ r14 : Nat, z1 = some r14 ∧ (x_Ha_cut r14 z2 r13 σ12 (fun σ15 => σ15.1 r14 = some (6, 0) ∧ (x_AL_size r14 σ15 (fun r19 σ18 => ((r19 ≤ 12 → σ18.1 a0 = some (10, 0) ∧ (x_Ve_nextRow a0 r13 σ18 (fun r23 σ22 => x_Ve_handlersLeft_57 a0 P n (some r14) r23 (z3 + 1) σ22))) ∧ (¬ r19 ≤ 12 → σ18.1 a0 = some (10, 0) ∧ (∀ b25 : Option Nat, b25 = (σ18.2.2.2.1 a0 1) → (∃ r26 : Nat, b25 = some r26 ∧ (σ18.1 r26 = some (5, 0) ∧ (x_E_fail r26 (10 : Int32) z2 σ18 (fun σ28 => P (some r14) σ28))))))))))))))))))))))))))
def x_Ve_handlersLeft_10 (a0 : Nat) (P : Option Nat → CST → Prop) : Nat → Option Nat → Int32 → CST → Prop
  | 0, _, _, _ => False
  | n + 1, z1, z2, σ => σ.1 a0 = some (10, 0) ∧ (∀ b31 : Option Nat, b31 = (σ.2.2.2.1 a0 1) → (∃ r32 : Nat, b31 = some r32 ∧ (σ.1 r32 = some (5, 0) ∧ (∀ b34 : Option Nat, b34 = (σ.2.2.2.1 r32 5) → (∃ r35 : Nat, b34 = some r35 ∧ (σ.1 r35 = some (6, 0) ∧ (x_AL_size r35 σ (fun r38 σ37 => ((r38 ≤ z2 → σ37.1 a0 = some (10, 0) ∧ (x_Ve_nextRow a0 (0 : Int32) σ37 (fun r42 σ41 => (∃ n9 : Nat, x_Ve_handlersLeft_57 a0 P n9 z1 r42 0 σ41)))) ∧ (¬ r38 ≤ z2 → σ37.1 a0 = some (10, 0) ∧ (∀ b44 : Option Nat, b44 = (σ37.2.2.2.1 a0 1) → (∃ r45 : Nat, b44 = some r45 ∧ (σ37.1 r45 = some (5, 0) ∧ (∀ b47 : Option Nat, b47 = (σ37.2.2.2.1 r45 5) → (∃ r48 : Nat, b47 = some r48 ∧ (σ37.1 r48 = some (6, 0) ∧ (x_AL_get r48 z2 σ37 (fun r51 σ50 => ((r51 = none → (∃ r54 : Nat, z1 = some r54 ∧ (False))) ∧ (∀ r53 : Nat, r51 = some r53 → σ50.1 r53 = some (7, 0) ∧ ((∃ r56 : Nat, z1 = some r56 ∧ (σ50.1 r56 = some (6, 0) ∧ (x_AL_add3 r56 r53 σ50 (fun r59 σ58 => x_Ve_handlersLeft_10 a0 P n (some r56) (z2 + 1) σ58)))))))))))))))))))))))))
def x_Ve_handlersLeft (a0 : Nat) (σ0 : CST) (P : Option Nat → CST → Prop) : Prop := (1 ≤ σ0.2.2.2.2.1 ∧ 3 ≤ σ0.2.2.2.2.2.1 ∧ ∀ q60 : Nat, σ0.1 q60 = none → q60 ≠ σ0.2.2.2.2.2.2.1 → ∀ σ64 : CST, σ64 = nw σ0 q60 6 0 3 → x_AL_init q60 σ64 (fun σ65 => (∃ n9 : Nat, x_Ve_handlersLeft_10 a0 P n9 (some q60) 0 σ65)))
set_option maxHeartbeats 4000000 in
set_option maxRecDepth 100000 in
theorem X_Ve_handlersLeft (l : Launch) (dC : Nat → ClassId) (dI : Nat → Nat → Nat) (ca : Nat → ClassId) (H0 : Heap) (σ0 : CST) (a0 : Nat) {P : Option Nat → CST → Prop} (hw : x_Ve_handlersLeft a0 σ0 P) : Met l g_Ve_handlersLeft (mW g_Ve_handlersLeft prog_11_method_15_code 5 (some (.object "java/util/ArrayList"))) ({ frames := 7, cells := σ0.2.2.2.2.1, slots := σ0.2.2.2.2.2.1, locals := 235 } : Room) (va_Pc [.ref a0] (CPre (dC, dI) ca σ0 H0)) (va_Qq P (CB (dC, dI) ca σ0 H0) (cA σ0 H0.size)) σ0.2.2.2.2.1 σ0.2.2.2.2.2.1 (cA σ0 H0.size) := by
  refine C_ofq (Or.inl ⟨_, rfl⟩) (by decide +kernel) rfl rfl rfl (Nat.le_of_ble_eq_true rfl) ?_
  intro p e s m below meth cx Q A ls C hnm hend hH0 h hl
  subst hH0
  have C0 := C
  obtain ⟨⟨hx, hb, hml, hown, hts⟩, hsub⟩ := C0
  obtain ⟨cells, e_cells⟩ : ∃ z : Nat, z = 0 := ⟨_, rfl⟩
  obtain ⟨slots, e_slots⟩ : ∃ z : Nat, z = 0 := ⟨_, rfl⟩
  have h : CH (dC, dI) A ca ({ frames := 7, cells := σ0.2.2.2.2.1, slots := σ0.2.2.2.2.2.1, locals := 235 } : Room) σ0.2.2.2.2.2.2 σ0 s s.heap [] cells slots := by rw [e_cells, e_slots]; exact h
  show W p l e ({ frames := 7, cells := σ0.2.2.2.2.1, slots := σ0.2.2.2.2.2.1, locals := 235 } : Room) s m ([.ref a0] : List Value).toArray below meth cx s.heap [] 0 0 Q (F0 m 0 ls [])
  rw [show W p l e ({ frames := 7, cells := σ0.2.2.2.2.1, slots := σ0.2.2.2.2.2.1, locals := 235 } : Room) s m ([.ref a0] : List Value).toArray below meth cx s.heap [] 0 0 Q (F0 m 0 ls []) = W p l e ({ frames := 7, cells := σ0.2.2.2.2.1, slots := σ0.2.2.2.2.2.1, locals := 235 } : Room) s m ([.ref a0] : List Value).toArray below meth cx s.heap [] cells slots Q (F0 m 0 ls []) by rw [e_cells, e_slots]]
  have K_123 : ∀ (u9 : Unit), ∀ (z1 : Option Nat) (σ : CST) (H : Heap) (locs : List Loc) (cells slots : Nat) (ls : Array Slot), x_Ve_handlersLeft_123 a0 P z1 σ → CH (dC, dI) A ca ({ frames := 7, cells := σ0.2.2.2.2.1, slots := σ0.2.2.2.2.2.1, locals := 235 } : Room) σ0.2.2.2.2.2.2 σ s H locs cells slots → lv_has ls 5 [(1, va_rf z1)] → W p l e ({ frames := 7, cells := σ0.2.2.2.2.1, slots := σ0.2.2.2.2.2.1, locals := 235 } : Room) s m ([.ref a0] : List Value).toArray below meth cx H locs cells slots Q (F0 m 123 ls []) := by
    intro u9 z1 σ H locs cells slots ls hw h hl
    unfold x_Ve_handlersLeft_123 at hw
    refine cq_aload_n hx hb h_Ve_handlersLeft_123 rfl (lv_at hl 0 rfl) ?_
    exact hend z1 σ _ _ _ _ _ _ hw h h_Ve_handlersLeft_124
  have K_57 : ∀ (n : Nat), ∀ (z1 : Option Nat) (z2 : Int32) (z3 : Int32) (σ : CST) (H : Heap) (locs : List Loc) (cells slots : Nat) (ls : Array Slot), x_Ve_handlersLeft_57 a0 P n z1 z2 z3 σ → CH (dC, dI) A ca ({ frames := 7, cells := σ0.2.2.2.2.1, slots := σ0.2.2.2.2.2.1, locals := 235 } : Room) σ0.2.2.2.2.2.2 σ s H locs cells slots → lv_has ls 5 [(0, .ref a0), (1, va_rf z1), (2, .int z2), (3, .int z3)] → W p l e ({ frames := 7, cells := σ0.2.2.2.2.1, slots := σ0.2.2.2.2.2.1, locals := 235 } : Room) s m ([.ref a0] : List Value).toArray below meth cx H locs cells slots Q (F0 m 57 ls []) := by
    intro  n
    induction n with
    | zero => intro z1 z2 z3 σ H locs cells slots ls hw h hl; unfold x_Ve_handlersLeft_57 at hw; exact hw.elim
    | succ n ih =>
      intro z1 z2 z3 σ H locs cells slots ls hw h hl
      unfold x_Ve_handlersLeft_57 at hw
      refine lv_iload_n hx hb h_Ve_handlersLeft_57 rfl (lv_at hl 3 rfl) ?_
      refine lv_aload_n hx hb h_Ve_handlersLeft_58 rfl (lv_at hl 0 rfl) ?_
      obtain ⟨g1, hw⟩ := hw
      refine C_get C h 10 3 (v := va_rf (σ.2.2.2.1 a0 3)) g1 rfl (Cn := R_Ve) (T := T_Ve) (N := 10) rfl (by decide) rfl uw_Ve (by decide) u_690 (fun _ q => q) h_Ve_handlersLeft_59 ?_
      refine lv_topq (fun b2 e_b2 => ?_)
      replace hw := hw b2 e_b2
      obtain ⟨r3, e_r3, hw⟩ := hw
      subst e_r3
      have hl : lv_has ls 5 [(0, .ref a0), (1, va_rf z1), (2, .int z2), (3, .int z3)] := hl
      refine W.eq (g2 := F0 m 62 ls [.ref r3, .int z3]) rfl ?_
      obtain ⟨n5, g4, hw⟩ := hw
      refine C_alen C h 21 1 rfl (by decide) g4 h_Ve_handlersLeft_62 ?_
      refine lv_icmp_ge (tgt := 123) hx hb h_Ve_handlersLeft_63 (by decide) (fun c6 => ?_) (fun c6 => ?_)
      · skip
        replace hw := hw.1 c6
        exact K_123 () z1 σ _ _ _ _ _ hw h (lv_sub hl [1] rfl)
      · skip
        replace hw := hw.2 c6
        refine lv_iload_n hx hb h_Ve_handlersLeft_66 rfl (lv_at hl 2 rfl) ?_
        refine lv_aload_n hx hb h_Ve_handlersLeft_67 rfl (lv_at hl 0 rfl) ?_
        refine C_get C h 10 3 (v := va_rf (σ.2.2.2.1 a0 3)) g1 rfl (Cn := R_Ve) (T := T_Ve) (N := 10) rfl (by decide) rfl uw_Ve (by decide) u_690 (fun _ q => q) h_Ve_handlersLeft_68 ?_
        refine lv_topq (fun b7 e_b7 => ?_)
        replace hw := hw b7 e_b7
        obtain ⟨r8, e_r8, hw⟩ := hw
        subst e_r8
        have hl : lv_has ls 5 [(0, .ref a0), (1, va_rf z1), (2, .int z2), (3, .int z3)] := hl
        refine W.eq (g2 := F0 m 71 ls [.ref r8, .int z2]) rfl ?_
        obtain ⟨n10, g9, hw⟩ := hw
        refine C_alen C h 21 1 rfl (by decide) g9 h_Ve_handlersLeft_71 ?_
        refine lv_icmp_ge (tgt := 123) hx hb h_Ve_handlersLeft_72 (by decide) (fun c11 => ?_) (fun c11 => ?_)
        · skip
          replace hw := hw.1 c11
          exact K_123 () z1 σ _ _ _ _ _ hw h (lv_sub hl [1] rfl)
        · skip
          replace hw := hw.2 c11
          refine lv_aload_n hx hb h_Ve_handlersLeft_75 rfl (lv_at hl 0 rfl) ?_
          refine lv_iload_n hx hb h_Ve_handlersLeft_76 rfl (lv_at hl 2 rfl) ?_
          refine C_callVi (As := [.int z2]) (rest := []) C h (ci := 10) (Cn := R_Ve) (T := T_Ve) (N := 10) g1 rfl (by decide) (X_Ve_rowEnd l dC dI ca H σ a0 z2 hw) (cwV 1 hts (gV hsub u_809 u_810 u_811 u_726 u_812) rfl rfl rfl (by decide +kernel) ⟨(Nat.le_of_ble_eq_true rfl), (Nat.le_of_ble_eq_true rfl)⟩) rfl hl.1 (Nat.le_of_ble_eq_true rfl) h_Ve_handlersLeft_77 (fun r13 σ12 H locs cells slots hw9 h9 => ?_)
          clear hw h; have hw := hw9; have h := h9; clear hw9 h9
          refine W.eq (g2 := F0 m 80 ls [.int r13]) rfl ?_
          refine lv_istore (lv' := [(4, .int r13), (0, .ref a0), (1, va_rf z1), (2, .int z2), (3, .int z3)]) hx hb h_Ve_handlersLeft_80 hl (by decide) rfl (fun ls hl => ?_)
          refine cq_aload_n hx hb h_Ve_handlersLeft_82 rfl (lv_at hl 2 rfl) ?_
          refine lv_iload_n hx hb h_Ve_handlersLeft_83 rfl (lv_at hl 3 rfl) ?_
          refine lv_iload hx hb h_Ve_handlersLeft_84 (lv_at hl 0 rfl) ?_
          obtain ⟨r14, e_r14, hw⟩ := hw
          subst e_r14
          have hl : lv_has ls 5 [(4, .int r13), (0, .ref a0), (1, .ref r14), (2, .int z2), (3, .int z3)] := hl
          refine W.eq (g2 := F0 m 86 ls [.int r13, .int z2, .ref r14]) rfl ?_
          refine C_callSv (As := [.ref r14, .int z2, .int r13]) (rest := []) C h (X_Ha_cut l dC dI ca H σ12 r14 z2 r13 hw) (va_cwS 3 hts (gS hsub u_813 u_814 u_163 u_815) rfl rfl rfl (by decide +kernel) ⟨(Nat.le_of_ble_eq_true rfl), (Nat.le_of_ble_eq_true rfl)⟩) rfl hl.1 (Nat.le_of_ble_eq_true rfl) h_Ve_handlersLeft_86 (fun σ15 H locs cells slots hw9 h9 => ?_)
          clear hw h; have hw := hw9; have h := h9; clear hw9 h9
          refine W.eq (g2 := F0 m 89 ls []) rfl ?_
          refine lv_aload_n hx hb h_Ve_handlersLeft_89 rfl (lv_at hl 2 rfl) ?_
          obtain ⟨g17, hw⟩ := hw
          refine C_callVi (As := []) (rest := []) C h (ci := 6) (Cn := R_A) (T := T_A) (N := 3) g17 rfl (by decide) (X_AL_size l dC dI ca H σ15 r14 hw) (cwV 0 hts (gV hsub u_752 u_180 u_181 u_117 u_182) rfl rfl rfl (by decide +kernel) ⟨(Nat.le_of_ble_eq_true rfl), (Nat.le_of_ble_eq_true rfl)⟩) rfl hl.1 (Nat.le_of_ble_eq_true rfl) h_Ve_handlersLeft_90 (fun r19 σ18 H locs cells slots hw9 h9 => ?_)
          clear hw h; have hw := hw9; have h := h9; clear hw9 h9
          refine W.eq (g2 := F0 m 93 ls [.int r19]) rfl ?_
          refine lv_bipush (v := 12) hx hb h_Ve_handlersLeft_93 (by decide) ?_
          refine lv_icmp_le (tgt := 110) hx hb h_Ve_handlersLeft_95 (by decide) (fun c20 => ?_) (fun c20 => ?_)
          · skip
            replace hw := hw.1 c20
            refine lv_aload_n hx hb h_Ve_handlersLeft_110 rfl (lv_at hl 1 rfl) ?_
            refine lv_iload hx hb h_Ve_handlersLeft_111 (lv_at hl 0 rfl) ?_
            obtain ⟨g21, hw⟩ := hw
            refine C_callVi (As := [.int r13]) (rest := []) C h (ci := 10) (Cn := R_Ve) (T := T_Ve) (N := 10) g21 rfl (by decide) (X_Ve_nextRow l dC dI ca H σ18 a0 r13 hw) (cwV 1 hts (gV hsub u_816 u_817 u_818 u_726 u_819) rfl rfl rfl (by decide +kernel) ⟨(Nat.le_of_ble_eq_true rfl), (Nat.le_of_ble_eq_true rfl)⟩) rfl hl.1 (Nat.le_of_ble_eq_true rfl) h_Ve_handlersLeft_113 (fun r23 σ22 H locs cells slots hw9 h9 => ?_)
            clear hw h; have hw := hw9; have h := h9; clear hw9 h9
            refine W.eq (g2 := F0 m 116 ls [.int r23]) rfl ?_
            refine lv_istore_n (i := 2) (lv' := [(2, .int r23), (4, .int r13), (0, .ref a0), (1, .ref r14), (3, .int z3)]) hx hb h_Ve_handlersLeft_116 rfl hl (by decide) rfl (fun ls hl => ?_)
            refine lv_iinc (v := (z3 + 1)) (lv' := [(3, .int (z3 + 1)), (2, .int r23), (4, .int r13), (0, .ref a0), (1, .ref r14)]) hx hb h_Ve_handlersLeft_117 hl (k := 4) rfl (rfl) (by decide) rfl (fun ls hl => ?_)
            refine lv_goto (tgt := 57) hx hb h_Ve_handlersLeft_120 (by decide) ?_
            exact ih (some r14) r23 (z3 + 1) σ22 _ _ _ _ _ hw h (lv_sub hl [3, 4, 1, 0] rfl)
          · skip
            replace hw := hw.2 c20
            refine lv_aload_n hx hb h_Ve_handlersLeft_98 rfl (lv_at hl 1 rfl) ?_
            obtain ⟨g24, hw⟩ := hw
            refine C_get C h 10 1 (v := va_rf (σ18.2.2.2.1 a0 1)) g24 rfl (Cn := R_Ve) (T := T_Ve) (N := 10) rfl (by decide) rfl uw_Ve (by decide) u_681 (fun _ q => q) h_Ve_handlersLeft_99 ?_
            refine lv_topq (fun b25 e_b25 => ?_)
            replace hw := hw b25 e_b25
            refine lv_bipush (v := 10) hx hb h_Ve_handlersLeft_102 (by decide) ?_
            refine lv_iload_n hx hb h_Ve_handlersLeft_104 rfl (lv_at hl 3 rfl) ?_
            obtain ⟨r26, e_r26, hw⟩ := hw
            subst e_r26
            have hl : lv_has ls 5 [(4, .int r13), (0, .ref a0), (1, .ref r14), (2, .int z2), (3, .int z3)] := hl
            refine W.eq (g2 := F0 m 105 ls [.int z2, .int 10, .ref r26]) rfl ?_
            obtain ⟨g27, hw⟩ := hw
            refine C_callVv (As := [.int 10, .int z2]) (rest := []) C h (ci := 5) (Cn := R_E) (T := T_E) (N := 13) g27 rfl (by decide) (X_E_fail l dC dI ca H σ18 r26 (10 : Int32) z2 hw) (cwV 2 hts (gV hsub u_728 u_729 u_730 u_229 u_731) rfl rfl rfl (by decide +kernel) ⟨(Nat.le_of_ble_eq_true rfl), (Nat.le_of_ble_eq_true rfl)⟩) rfl hl.1 (Nat.le_of_ble_eq_true rfl) h_Ve_handlersLeft_105 (fun σ28 H locs cells slots hw9 h9 => ?_)
            clear hw h; have hw := hw9; have h := h9; clear hw9 h9
            refine W.eq (g2 := F0 m 108 ls []) rfl ?_
            refine lv_aload_n hx hb h_Ve_handlersLeft_108 rfl (lv_at hl 2 rfl) ?_
            exact hend (some r14) σ28 _ _ _ _ _ _ hw h h_Ve_handlersLeft_109
  have K_10 : ∀ (n : Nat), ∀ (z1 : Option Nat) (z2 : Int32) (σ : CST) (H : Heap) (locs : List Loc) (cells slots : Nat) (ls : Array Slot), x_Ve_handlersLeft_10 a0 P n z1 z2 σ → CH (dC, dI) A ca ({ frames := 7, cells := σ0.2.2.2.2.1, slots := σ0.2.2.2.2.2.1, locals := 235 } : Room) σ0.2.2.2.2.2.2 σ s H locs cells slots → lv_has ls 5 [(0, .ref a0), (1, va_rf z1), (2, .int z2)] → W p l e ({ frames := 7, cells := σ0.2.2.2.2.1, slots := σ0.2.2.2.2.2.1, locals := 235 } : Room) s m ([.ref a0] : List Value).toArray below meth cx H locs cells slots Q (F0 m 10 ls []) := by
    intro  n
    induction n with
    | zero => intro z1 z2 σ H locs cells slots ls hw h hl; unfold x_Ve_handlersLeft_10 at hw; exact hw.elim
    | succ n ih =>
      intro z1 z2 σ H locs cells slots ls hw h hl
      unfold x_Ve_handlersLeft_10 at hw
      refine lv_iload_n hx hb h_Ve_handlersLeft_10 rfl (lv_at hl 2 rfl) ?_
      refine lv_aload_n hx hb h_Ve_handlersLeft_11 rfl (lv_at hl 0 rfl) ?_
      obtain ⟨g30, hw⟩ := hw
      refine C_get C h 10 1 (v := va_rf (σ.2.2.2.1 a0 1)) g30 rfl (Cn := R_Ve) (T := T_Ve) (N := 10) rfl (by decide) rfl uw_Ve (by decide) u_681 (fun _ q => q) h_Ve_handlersLeft_12 ?_
      refine lv_topq (fun b31 e_b31 => ?_)
      replace hw := hw b31 e_b31
      obtain ⟨r32, e_r32, hw⟩ := hw
      subst e_r32
      have hl : lv_has ls 5 [(0, .ref a0), (1, va_rf z1), (2, .int z2)] := hl
      refine W.eq (g2 := F0 m 15 ls [.ref r32, .int z2]) rfl ?_
      obtain ⟨g33, hw⟩ := hw
      refine C_get C h 5 5 (v := va_rf (σ.2.2.2.1 r32 5)) g33 rfl (Cn := R_E) (T := T_E) (N := 13) rfl (by decide) rfl uw_E (by decide) u_751 (fun _ q => q) h_Ve_handlersLeft_15 ?_
      refine lv_topq (fun b34 e_b34 => ?_)
      replace hw := hw b34 e_b34
      obtain ⟨r35, e_r35, hw⟩ := hw
      subst e_r35
      have hl : lv_has ls 5 [(0, .ref a0), (1, va_rf z1), (2, .int z2)] := hl
      refine W.eq (g2 := F0 m 18 ls [.ref r35, .int z2]) rfl ?_
      obtain ⟨g36, hw⟩ := hw
      refine C_callVi (As := []) (rest := [.int z2]) C h (ci := 6) (Cn := R_A) (T := T_A) (N := 3) g36 rfl (by decide) (X_AL_size l dC dI ca H σ r35 hw) (cwV 0 hts (gV hsub u_752 u_180 u_181 u_117 u_182) rfl rfl rfl (by decide +kernel) ⟨(Nat.le_of_ble_eq_true rfl), (Nat.le_of_ble_eq_true rfl)⟩) rfl hl.1 (Nat.le_of_ble_eq_true rfl) h_Ve_handlersLeft_18 (fun r38 σ37 H locs cells slots hw9 h9 => ?_)
      clear hw h; have hw := hw9; have h := h9; clear hw9 h9
      refine W.eq (g2 := F0 m 21 ls [.int r38, .int z2]) rfl ?_
      refine lv_icmp_ge (tgt := 49) hx hb h_Ve_handlersLeft_21 (by decide) (fun c39 => ?_) (fun c39 => ?_)
      · skip
        replace hw := hw.1 c39
        refine lv_aload_n hx hb h_Ve_handlersLeft_49 rfl (lv_at hl 0 rfl) ?_
        refine lv_iconst (v := 0) hx hb h_Ve_handlersLeft_50 (by decide) ?_
        obtain ⟨g40, hw⟩ := hw
        refine C_callVi (As := [.int 0]) (rest := []) C h (ci := 10) (Cn := R_Ve) (T := T_Ve) (N := 10) g40 rfl (by decide) (X_Ve_nextRow l dC dI ca H σ37 a0 (0 : Int32) hw) (cwV 1 hts (gV hsub u_816 u_817 u_818 u_726 u_819) rfl rfl rfl (by decide +kernel) ⟨(Nat.le_of_ble_eq_true rfl), (Nat.le_of_ble_eq_true rfl)⟩) rfl hl.1 (Nat.le_of_ble_eq_true rfl) h_Ve_handlersLeft_51 (fun r42 σ41 H locs cells slots hw9 h9 => ?_)
        clear hw h; have hw := hw9; have h := h9; clear hw9 h9
        refine W.eq (g2 := F0 m 54 ls [.int r42]) rfl ?_
        refine lv_istore_n (i := 2) (lv' := [(2, .int r42), (0, .ref a0), (1, va_rf z1)]) hx hb h_Ve_handlersLeft_54 rfl hl (by decide) (by simp [cq_cat]) (fun ls hl => ?_)
        refine lv_iconst (v := 0) hx hb h_Ve_handlersLeft_55 (by decide) ?_
        refine lv_istore_n (i := 3) (lv' := [(3, .int 0), (2, .int r42), (0, .ref a0), (1, va_rf z1)]) hx hb h_Ve_handlersLeft_56 rfl hl (by decide) rfl (fun ls hl => ?_)
        obtain ⟨n9, hw⟩ := hw
        exact K_57 n9 z1 r42 0 σ41 _ _ _ _ _ hw h (lv_sub hl [2, 3, 1, 0] rfl)
      · skip
        replace hw := hw.2 c39
        refine cq_aload_n hx hb h_Ve_handlersLeft_24 rfl (lv_at hl 1 rfl) ?_
        refine lv_aload_n hx hb h_Ve_handlersLeft_25 rfl (lv_at hl 0 rfl) ?_
        obtain ⟨g43, hw⟩ := hw
        refine C_get C h 10 1 (v := va_rf (σ37.2.2.2.1 a0 1)) g43 rfl (Cn := R_Ve) (T := T_Ve) (N := 10) rfl (by decide) rfl uw_Ve (by decide) u_681 (fun _ q => q) h_Ve_handlersLeft_26 ?_
        refine lv_topq (fun b44 e_b44 => ?_)
        replace hw := hw b44 e_b44
        obtain ⟨r45, e_r45, hw⟩ := hw
        subst e_r45
        have hl : lv_has ls 5 [(0, .ref a0), (1, va_rf z1), (2, .int z2)] := hl
        refine W.eq (g2 := F0 m 29 ls [.ref r45, va_rf z1]) rfl ?_
        obtain ⟨g46, hw⟩ := hw
        refine C_get C h 5 5 (v := va_rf (σ37.2.2.2.1 r45 5)) g46 rfl (Cn := R_E) (T := T_E) (N := 13) rfl (by decide) rfl uw_E (by decide) u_751 (fun _ q => q) h_Ve_handlersLeft_29 ?_
        refine lv_topq (fun b47 e_b47 => ?_)
        replace hw := hw b47 e_b47
        refine lv_iload_n hx hb h_Ve_handlersLeft_32 rfl (lv_at hl 2 rfl) ?_
        obtain ⟨r48, e_r48, hw⟩ := hw
        subst e_r48
        have hl : lv_has ls 5 [(0, .ref a0), (1, va_rf z1), (2, .int z2)] := hl
        refine W.eq (g2 := F0 m 33 ls [.int z2, .ref r48, va_rf z1]) rfl ?_
        obtain ⟨g49, hw⟩ := hw
        refine C_callVq (As := [.int z2]) (rest := [va_rf z1]) C h (ci := 6) (Cn := R_A) (T := T_A) (N := 3) g49 rfl (by decide) (X_AL_get l dC dI ca H σ37 r48 z2 hw) (cwV 1 hts (gV hsub u_753 u_172 u_173 u_117 u_174) rfl rfl rfl (by decide +kernel) ⟨(Nat.le_of_ble_eq_true rfl), (Nat.le_of_ble_eq_true rfl)⟩) rfl hl.1 (by simp only [List.map_cons, List.map_nil, List.sum_cons, List.sum_nil, cq_cat]; exact Nat.le_of_ble_eq_true rfl) h_Ve_handlersLeft_33 (fun r51 σ50 H locs cells slots hw9 h9 => ?_)
        clear hw h; have hw := hw9; have h := h9; clear hw9 h9
        refine W.eq (g2 := F0 m 36 ls [va_rf r51, va_rf z1]) rfl ?_
        rcases cq_or r51 with c52 | ⟨r53, c52⟩
        · subst c52
          replace hw := hw.1 rfl
          have hl : lv_has ls 5 [(0, .ref a0), (1, va_rf z1), (2, .int z2)] := hl
          refine W.eq (g2 := F0 m 36 ls [.null, va_rf z1]) rfl ?_
          refine lv_castN hx hb h_Ve_handlersLeft_36 ?_
          obtain ⟨r54, e_r54, hw⟩ := hw
          subst e_r54
          have hl : lv_has ls 5 [(0, .ref a0), (1, .ref r54), (2, .int z2)] := hl
          refine W.eq (g2 := F0 m 39 ls [.null, .ref r54]) rfl ?_
          exact hw.elim
        · subst c52
          replace hw := hw.2 r53 rfl
          have hl : lv_has ls 5 [(0, .ref a0), (1, va_rf z1), (2, .int z2)] := hl
          refine W.eq (g2 := F0 m 36 ls [.ref r53, va_rf z1]) rfl ?_
          obtain ⟨g55, hw⟩ := hw
          refine C_cast C h 7 (Cn := R_Ha) (T := T_Ha) (N := 4) rfl (by decide) u_754 g55 h_Ve_handlersLeft_36 ?_
          obtain ⟨r56, e_r56, hw⟩ := hw
          subst e_r56
          have hl : lv_has ls 5 [(0, .ref a0), (1, .ref r56), (2, .int z2)] := hl
          refine W.eq (g2 := F0 m 39 ls [.ref r53, .ref r56]) rfl ?_
          obtain ⟨g57, hw⟩ := hw
          refine C_callVi (As := [.ref r53]) (rest := []) C h (ci := 6) (Cn := R_A) (T := T_A) (N := 3) g57 rfl (by decide) (X_AL_add3 l dC dI ca H σ50 r56 r53 hw) (cwV 1 hts (gV hsub u_820 u_821 u_822 u_117 u_823) rfl rfl rfl (by decide +kernel) ⟨(Nat.le_of_ble_eq_true rfl), (Nat.le_of_ble_eq_true rfl)⟩) rfl hl.1 (Nat.le_of_ble_eq_true rfl) h_Ve_handlersLeft_39 (fun r59 σ58 H locs cells slots hw9 h9 => ?_)
          clear hw h; have hw := hw9; have h := h9; clear hw9 h9
          refine W.eq (g2 := F0 m 42 ls [.int r59]) rfl ?_
          refine lv_pop hx hb h_Ve_handlersLeft_42 rfl ?_
          refine lv_iinc (v := (z2 + 1)) (lv' := [(2, .int (z2 + 1)), (0, .ref a0), (1, .ref r56)]) hx hb h_Ve_handlersLeft_43 hl (k := 2) rfl (rfl) (by decide) rfl (fun ls hl => ?_)
          refine lv_goto (tgt := 10) hx hb h_Ve_handlersLeft_46 (by decide) ?_
          exact ih (some r56) (z2 + 1) σ58 _ _ _ _ _ hw h (lv_sub hl [1, 2, 0] rfl)
  have hl : lv_has ls 5 [(0, .ref a0)] := hl
  unfold x_Ve_handlersLeft at hw
  obtain ⟨g61, g62, hw⟩ := hw
  refine C_new C h 6 (Cn := R_A) (T := T_A) (N := 3) rfl (by decide) uw_A tok_A (cdf_A rfl rfl rfl) u_824 u_481 u_117 g61 g62 h_Ve_handlersLeft_0 (fun q60 H g63 hz9 h => ?_)
  replace hw := hw q60 g63 hz9
  obtain ⟨σ64, e_σ64⟩ : ∃ z : CST, z = nw σ0 q60 6 0 3 := ⟨_, rfl⟩
  rw [← e_σ64] at h
  replace hw := hw σ64 e_σ64
  generalize cells + 1 = cells at h ⊢
  generalize slots + 3 = slots at h ⊢
  refine lv_dup hx hb h_Ve_handlersLeft_3 rfl ?_
  refine C_callIv (As := []) (rest := [.ref q60]) C h (X_AL_init l dC dI ca H σ64 q60 hw) (cwI 0 hts (gC hsub u_482) rfl rfl rfl (hts _ (hsub _ u_117)) (hts _ (hsub _ u_825)) (hts _ (hsub _ u_484)) rfl (by decide +kernel) ⟨(Nat.le_of_ble_eq_true rfl), (Nat.le_of_ble_eq_true rfl)⟩) rfl hl.1 (Nat.le_of_ble_eq_true rfl) h_Ve_handlersLeft_4 (fun σ65 H locs cells slots hw9 h9 => ?_)
  clear hw h; have hw := hw9; have h := h9; clear hw9 h9
  refine W.eq (g2 := F0 m 7 ls [.ref q60]) rfl ?_
  refine lv_astore_n (i := 1) (lv' := [(1, .ref q60), (0, .ref a0)]) hx hb h_Ve_handlersLeft_7 rfl hl (by decide) rfl (fun ls hl => ?_)
  refine lv_iconst (v := 0) hx hb h_Ve_handlersLeft_8 (by decide) ?_
  refine lv_istore_n (i := 2) (lv' := [(2, .int 0), (1, .ref q60), (0, .ref a0)]) hx hb h_Ve_handlersLeft_9 rfl hl (by decide) rfl (fun ls hl => ?_)
  obtain ⟨n9, hw⟩ := hw
  exact K_10 n9 (some q60) 0 σ65 _ _ _ _ _ hw h (lv_sub hl [2, 1, 0] rfl)
abbrev g_Ar_fill3 : MethodName := ⟨"java/util/Arrays", "fill", "([IIII)V"⟩
theorem h_Ar_fill3_0 : decode prog_37_method_104_code 0 = .ok (.aload_n 0, 1) := by decide +kernel
theorem h_Ar_fill3_1 : decode prog_37_method_104_code 1 = .ok (.arraylength, 1) := by decide +kernel
theorem h_Ar_fill3_2 : decode prog_37_method_104_code 2 = .ok (.iload_n 1, 1) := by decide +kernel
theorem h_Ar_fill3_3 : decode prog_37_method_104_code 3 = .ok (.iload_n 2, 1) := by decide +kernel
theorem h_Ar_fill3_4 : decode prog_37_method_104_code 4 = .ok (.invokestatic 13, 3) := by decide +kernel
theorem h_Ar_fill3_7 : decode prog_37_method_104_code 7 = .ok (.iload_n 1, 1) := by decide +kernel
theorem h_Ar_fill3_8 : decode prog_37_method_104_code 8 = .ok (.istore 4, 2) := by decide +kernel
theorem h_Ar_fill3_10 : decode prog_37_method_104_code 10 = .ok (.iload 4, 2) := by decide +kernel
theorem h_Ar_fill3_12 : decode prog_37_method_104_code 12 = .ok (.iload_n 2, 1) := by decide +kernel
theorem h_Ar_fill3_13 : decode prog_37_method_104_code 13 = .ok (.if_icmp .ge 14, 3) := by decide +kernel
theorem h_Ar_fill3_16 : decode prog_37_method_104_code 16 = .ok (.aload_n 0, 1) := by decide +kernel
theorem h_Ar_fill3_17 : decode prog_37_method_104_code 17 = .ok (.iload 4, 2) := by decide +kernel
theorem h_Ar_fill3_19 : decode prog_37_method_104_code 19 = .ok (.iload_n 3, 1) := by decide +kernel
theorem h_Ar_fill3_20 : decode prog_37_method_104_code 20 = .ok (.iastore, 1) := by decide +kernel
theorem h_Ar_fill3_21 : decode prog_37_method_104_code 21 = .ok (.iinc 4 1, 3) := by decide +kernel
theorem h_Ar_fill3_24 : decode prog_37_method_104_code 24 = .ok (.goto (-14), 3) := by decide +kernel
theorem h_Ar_fill3_27 : decode prog_37_method_104_code 27 = .ok (.return_, 1) := by decide +kernel
def x_Ar_fill3_10 (a0 : Nat) (P : CST → Prop) : Nat → Int32 → Int32 → Int32 → CST → Prop
  | 0, _, _, _, _ => False
  | n + 1, z2, z3, z4, σ => ((z2 ≤ z4 → P σ) ∧ (¬ z2 ≤ z4 → (∃ n3 : Nat, σ.1 a0 = some (20, n3) ∧ (vp_in z4 n3 ∧ (∀ σ5 : CST, σ5 = sI σ a0 (z4 : Int32).toNatClampNeg z3 → x_Ar_fill3_10 a0 P n z2 z3 (z4 + 1) σ5)))))
def x_Ar_fill3 (a0 : Nat) (x1 : Int32) (x2 : Int32) (x3 : Int32) (σ0 : CST) (P : CST → Prop) : Prop := (∃ n7 : Nat, σ0.1 a0 = some (20, n7) ∧ (x_Ar_rangeCheck (Int32.ofNat n7) x1 x2 σ0 (fun σ8 => (∃ n9 : Nat, x_Ar_fill3_10 a0 P n9 x2 x3 x1 σ8))))
set_option maxHeartbeats 4000000 in
set_option maxRecDepth 100000 in
theorem X_Ar_fill3 (l : Launch) (dC : Nat → ClassId) (dI : Nat → Nat → Nat) (ca : Nat → ClassId) (H0 : Heap) (σ0 : CST) (a0 : Nat) (x1 : Int32) (x2 : Int32) (x3 : Int32) {P : CST → Prop} (hw : x_Ar_fill3 a0 x1 x2 x3 σ0 P) : Met l g_Ar_fill3 (mW g_Ar_fill3 prog_37_method_104_code 5 none) ({ frames := 1, cells := σ0.2.2.2.2.1, slots := σ0.2.2.2.2.2.1, locals := 22 } : Room) (va_Pc [.ref a0, .int x1, .int x2, .int x3] (CPre (dC, dI) ca σ0 H0)) (va_Qv P (CB (dC, dI) ca σ0 H0) (cA σ0 H0.size)) σ0.2.2.2.2.1 σ0.2.2.2.2.2.1 (cA σ0 H0.size) := by
  refine C_ofv (by decide +kernel) rfl rfl rfl (Nat.le_of_ble_eq_true rfl) ?_
  intro p e s m below meth cx Q A ls C hnm hend hH0 h hl
  subst hH0
  have C0 := C
  obtain ⟨⟨hx, hb, hml, hown, hts⟩, hsub⟩ := C0
  obtain ⟨cells, e_cells⟩ : ∃ z : Nat, z = 0 := ⟨_, rfl⟩
  obtain ⟨slots, e_slots⟩ : ∃ z : Nat, z = 0 := ⟨_, rfl⟩
  have h : CH (dC, dI) A ca ({ frames := 1, cells := σ0.2.2.2.2.1, slots := σ0.2.2.2.2.2.1, locals := 22 } : Room) σ0.2.2.2.2.2.2 σ0 s s.heap [] cells slots := by rw [e_cells, e_slots]; exact h
  show W p l e ({ frames := 1, cells := σ0.2.2.2.2.1, slots := σ0.2.2.2.2.2.1, locals := 22 } : Room) s m ([.ref a0, .int x1, .int x2, .int x3] : List Value).toArray below meth cx s.heap [] 0 0 Q (F0 m 0 ls [])
  rw [show W p l e ({ frames := 1, cells := σ0.2.2.2.2.1, slots := σ0.2.2.2.2.2.1, locals := 22 } : Room) s m ([.ref a0, .int x1, .int x2, .int x3] : List Value).toArray below meth cx s.heap [] 0 0 Q (F0 m 0 ls []) = W p l e ({ frames := 1, cells := σ0.2.2.2.2.1, slots := σ0.2.2.2.2.2.1, locals := 22 } : Room) s m ([.ref a0, .int x1, .int x2, .int x3] : List Value).toArray below meth cx s.heap [] cells slots Q (F0 m 0 ls []) by rw [e_cells, e_slots]]
  have K_10 : ∀ (n : Nat), ∀ (z2 : Int32) (z3 : Int32) (z4 : Int32) (σ : CST) (H : Heap) (locs : List Loc) (cells slots : Nat) (ls : Array Slot), x_Ar_fill3_10 a0 P n z2 z3 z4 σ → CH (dC, dI) A ca ({ frames := 1, cells := σ0.2.2.2.2.1, slots := σ0.2.2.2.2.2.1, locals := 22 } : Room) σ0.2.2.2.2.2.2 σ s H locs cells slots → lv_has ls 5 [(0, .ref a0), (2, .int z2), (3, .int z3), (4, .int z4)] → W p l e ({ frames := 1, cells := σ0.2.2.2.2.1, slots := σ0.2.2.2.2.2.1, locals := 22 } : Room) s m ([.ref a0, .int x1, .int x2, .int x3] : List Value).toArray below meth cx H locs cells slots Q (F0 m 10 ls []) := by
    intro  n
    induction n with
    | zero => intro z2 z3 z4 σ H locs cells slots ls hw h hl; unfold x_Ar_fill3_10 at hw; exact hw.elim
    | succ n ih =>
      intro z2 z3 z4 σ H locs cells slots ls hw h hl
      unfold x_Ar_fill3_10 at hw
      refine lv_iload hx hb h_Ar_fill3_10 (lv_at hl 3 rfl) ?_
      refine lv_iload_n hx hb h_Ar_fill3_12 rfl (lv_at hl 1 rfl) ?_
      refine lv_icmp_ge (tgt := 27) hx hb h_Ar_fill3_13 (by decide) (fun c1 => ?_) (fun c1 => ?_)
      · skip
        replace hw := hw.1 c1
        exact hend σ _ _ _ _ _ _ hw h h_Ar_fill3_27
      · skip
        replace hw := hw.2 c1
        refine lv_aload_n hx hb h_Ar_fill3_16 rfl (lv_at hl 0 rfl) ?_
        refine lv_iload hx hb h_Ar_fill3_17 (lv_at hl 3 rfl) ?_
        refine lv_iload_n hx hb h_Ar_fill3_19 rfl (lv_at hl 2 rfl) ?_
        obtain ⟨n3, g2, hw⟩ := hw
        obtain ⟨g4, hw⟩ := hw
        refine C_iast C h g2 g4 h_Ar_fill3_20 (fun H locs h => ?_)
        obtain ⟨σ5, e_σ5⟩ : ∃ z : CST, z = sI σ a0 (z4 : Int32).toNatClampNeg z3 := ⟨_, rfl⟩
        rw [← e_σ5] at h
        replace hw := hw σ5 e_σ5
        refine lv_iinc (v := (z4 + 1)) (lv' := [(4, .int (z4 + 1)), (0, .ref a0), (2, .int z2), (3, .int z3)]) hx hb h_Ar_fill3_21 hl (k := 3) rfl (rfl) (by decide) rfl (fun ls hl => ?_)
        refine lv_goto (tgt := 10) hx hb h_Ar_fill3_24 (by decide) ?_
        exact ih z2 z3 (z4 + 1) σ5 _ _ _ _ _ hw h (lv_sub hl [1, 2, 3, 0] rfl)
  have hl : lv_has ls 5 [(0, .ref a0), (1, .int x1), (2, .int x2), (3, .int x3)] := hl
  unfold x_Ar_fill3 at hw
  refine lv_aload_n hx hb h_Ar_fill3_0 rfl (lv_at hl 0 rfl) ?_
  obtain ⟨n7, g6, hw⟩ := hw
  refine C_alen C h 20 0 rfl (by decide) g6 h_Ar_fill3_1 ?_
  refine lv_iload_n hx hb h_Ar_fill3_2 rfl (lv_at hl 1 rfl) ?_
  refine lv_iload_n hx hb h_Ar_fill3_3 rfl (lv_at hl 2 rfl) ?_
  refine C_callSv (As := [.int (Int32.ofNat n7), .int x1, .int x2]) (rest := []) C h (X_Ar_rangeCheck l dC dI ca s.heap σ0 (Int32.ofNat n7) x1 x2 hw) (va_cwS 3 hts (gS hsub u_187 u_188 u_46 u_189) rfl rfl rfl (by decide +kernel) ⟨(Nat.le_of_ble_eq_true rfl), (Nat.le_of_ble_eq_true rfl)⟩) rfl hl.1 (Nat.le_of_ble_eq_true rfl) h_Ar_fill3_4 (fun σ8 H locs cells slots hw9 h9 => ?_)
  clear hw h; have hw := hw9; have h := h9; clear hw9 h9
  refine W.eq (g2 := F0 m 7 ls []) rfl ?_
  refine lv_iload_n hx hb h_Ar_fill3_7 rfl (lv_at hl 1 rfl) ?_
  refine lv_istore (lv' := [(4, .int x1), (0, .ref a0), (1, .int x1), (2, .int x2), (3, .int x3)]) hx hb h_Ar_fill3_8 hl (by decide) rfl (fun ls hl => ?_)
  obtain ⟨n9, hw⟩ := hw
  exact K_10 n9 x2 x3 x1 σ8 _ _ _ _ _ hw h (lv_sub hl [1, 3, 4, 0] rfl)
abbrev g_Ve_putOutDeadCode : MethodName := ⟨"MapFramer$Verifier", "putOutDeadCode", "()V"⟩
theorem u_826 : (Cond.fieldLink "MapFramer$Verifier" 236 "MapFramer$Method" "states" "[LMapFramer$State;" : Cond) ∈ bigW := inB_2 184 (by decide +kernel) rfl
theorem u_827 : (Cond.methodLink "MapFramer$Verifier" 227 ⟨"java/util/Arrays", "fill", "([IIII)V"⟩ : Cond) ∈ bigW := inB_6 114 (by decide +kernel) rfl
theorem u_828 : (Cond.static ⟨"java/util/Arrays", "fill", "([IIII)V"⟩ : Cond) ∈ bigW := inB_6 115 (by decide +kernel) rfl
theorem u_829 : (Cond.code ⟨"java/util/Arrays", "fill", "([IIII)V"⟩ prog_37_method_104_code 5 none : Cond) ∈ bigW := inB_6 116 rfl rfl
theorem u_830 : (Cond.methodLink "MapFramer$Verifier" 233 ⟨"java/lang/Math", "max", "(II)I"⟩ : Cond) ∈ bigW := inB_6 142 (by decide +kernel) rfl
theorem u_831 : (Cond.methodLink "MapFramer$Verifier" 217 ⟨"MapFramer$Verifier", "handlersLeft", "()Ljava/util/ArrayList;"⟩ : Cond) ∈ bigW := inB_5 67 (by decide +kernel) rfl
theorem u_832 : (Cond.instanceMethod ⟨"MapFramer$Verifier", "handlersLeft", "()Ljava/util/ArrayList;"⟩ : Cond) ∈ bigW := inB_5 69 (by decide +kernel) rfl
theorem u_833 : (Cond.selects "MapFramer$Verifier" ⟨"MapFramer$Verifier", "handlersLeft", "()Ljava/util/ArrayList;"⟩ ⟨"MapFramer$Verifier", "handlersLeft", "()Ljava/util/ArrayList;"⟩ : Cond) ∈ bigW := inS (y := ⟨"MapFramer$Verifier", "handlersLeft", "()Ljava/util/ArrayList;"⟩) (n := 10) (List.mem_of_getElem? (i := 38) (by decide +kernel))
theorem u_834 : (Cond.code ⟨"MapFramer$Verifier", "handlersLeft", "()Ljava/util/ArrayList;"⟩ prog_11_method_15_code 5 (some (.object "java/util/ArrayList")) : Cond) ∈ bigW := inB_5 70 rfl rfl
theorem h_Ve_putOutDeadCode_0 : decode prog_11_method_14_code 0 = .ok (.aload_n 0, 1) := by decide +kernel
theorem h_Ve_putOutDeadCode_1 : decode prog_11_method_14_code 1 = .ok (.getfield 15, 3) := by decide +kernel
theorem h_Ve_putOutDeadCode_4 : decode prog_11_method_14_code 4 = .ok (.getfield 67, 3) := by decide +kernel
theorem h_Ve_putOutDeadCode_7 : decode prog_11_method_14_code 7 = .ok (.ifCond .eq 4, 3) := by decide +kernel
theorem h_Ve_putOutDeadCode_10 : decode prog_11_method_14_code 10 = .ok (.return_, 1) := by decide +kernel
theorem h_Ve_putOutDeadCode_11 : decode prog_11_method_14_code 11 = .ok (.aload_n 0, 1) := by decide +kernel
theorem h_Ve_putOutDeadCode_12 : decode prog_11_method_14_code 12 = .ok (.invokevirtual 217, 3) := by decide +kernel
theorem h_Ve_putOutDeadCode_15 : decode prog_11_method_14_code 15 = .ok (.astore_n 1, 1) := by decide +kernel
theorem h_Ve_putOutDeadCode_16 : decode prog_11_method_14_code 16 = .ok (.aload_n 0, 1) := by decide +kernel
theorem h_Ve_putOutDeadCode_17 : decode prog_11_method_14_code 17 = .ok (.getfield 15, 3) := by decide +kernel
theorem h_Ve_putOutDeadCode_20 : decode prog_11_method_14_code 20 = .ok (.getfield 67, 3) := by decide +kernel
theorem h_Ve_putOutDeadCode_23 : decode prog_11_method_14_code 23 = .ok (.ifCond .eq 4, 3) := by decide +kernel
theorem h_Ve_putOutDeadCode_26 : decode prog_11_method_14_code 26 = .ok (.return_, 1) := by decide +kernel
theorem h_Ve_putOutDeadCode_27 : decode prog_11_method_14_code 27 = .ok (.aload_n 0, 1) := by decide +kernel
theorem h_Ve_putOutDeadCode_28 : decode prog_11_method_14_code 28 = .ok (.getfield 15, 3) := by decide +kernel
theorem h_Ve_putOutDeadCode_31 : decode prog_11_method_14_code 31 = .ok (.aload_n 1, 1) := by decide +kernel
theorem h_Ve_putOutDeadCode_32 : decode prog_11_method_14_code 32 = .ok (.putfield 123, 3) := by decide +kernel
theorem h_Ve_putOutDeadCode_35 : decode prog_11_method_14_code 35 = .ok (.aload_n 0, 1) := by decide +kernel
theorem h_Ve_putOutDeadCode_36 : decode prog_11_method_14_code 36 = .ok (.iconst 0, 1) := by decide +kernel
theorem h_Ve_putOutDeadCode_37 : decode prog_11_method_14_code 37 = .ok (.invokevirtual 221, 3) := by decide +kernel
theorem h_Ve_putOutDeadCode_40 : decode prog_11_method_14_code 40 = .ok (.istore_n 2, 1) := by decide +kernel
theorem h_Ve_putOutDeadCode_41 : decode prog_11_method_14_code 41 = .ok (.iconst 0, 1) := by decide +kernel
theorem h_Ve_putOutDeadCode_42 : decode prog_11_method_14_code 42 = .ok (.istore_n 3, 1) := by decide +kernel
theorem h_Ve_putOutDeadCode_43 : decode prog_11_method_14_code 43 = .ok (.iload_n 3, 1) := by decide +kernel
theorem h_Ve_putOutDeadCode_44 : decode prog_11_method_14_code 44 = .ok (.aload_n 0, 1) := by decide +kernel
theorem h_Ve_putOutDeadCode_45 : decode prog_11_method_14_code 45 = .ok (.getfield 34, 3) := by decide +kernel
theorem h_Ve_putOutDeadCode_48 : decode prog_11_method_14_code 48 = .ok (.arraylength, 1) := by decide +kernel
theorem h_Ve_putOutDeadCode_49 : decode prog_11_method_14_code 49 = .ok (.if_icmp .ge 81, 3) := by decide +kernel
theorem h_Ve_putOutDeadCode_52 : decode prog_11_method_14_code 52 = .ok (.iload_n 2, 1) := by decide +kernel
theorem h_Ve_putOutDeadCode_53 : decode prog_11_method_14_code 53 = .ok (.aload_n 0, 1) := by decide +kernel
theorem h_Ve_putOutDeadCode_54 : decode prog_11_method_14_code 54 = .ok (.getfield 34, 3) := by decide +kernel
theorem h_Ve_putOutDeadCode_57 : decode prog_11_method_14_code 57 = .ok (.arraylength, 1) := by decide +kernel
theorem h_Ve_putOutDeadCode_58 : decode prog_11_method_14_code 58 = .ok (.if_icmp .ge 72, 3) := by decide +kernel
theorem h_Ve_putOutDeadCode_61 : decode prog_11_method_14_code 61 = .ok (.aload_n 0, 1) := by decide +kernel
theorem h_Ve_putOutDeadCode_62 : decode prog_11_method_14_code 62 = .ok (.iload_n 2, 1) := by decide +kernel
theorem h_Ve_putOutDeadCode_63 : decode prog_11_method_14_code 63 = .ok (.invokevirtual 224, 3) := by decide +kernel
theorem h_Ve_putOutDeadCode_66 : decode prog_11_method_14_code 66 = .ok (.istore 4, 2) := by decide +kernel
theorem h_Ve_putOutDeadCode_68 : decode prog_11_method_14_code 68 = .ok (.aload_n 0, 1) := by decide +kernel
theorem h_Ve_putOutDeadCode_69 : decode prog_11_method_14_code 69 = .ok (.getfield 15, 3) := by decide +kernel
theorem h_Ve_putOutDeadCode_72 : decode prog_11_method_14_code 72 = .ok (.getfield 28, 3) := by decide +kernel
theorem h_Ve_putOutDeadCode_75 : decode prog_11_method_14_code 75 = .ok (.iload_n 2, 1) := by decide +kernel
theorem h_Ve_putOutDeadCode_76 : decode prog_11_method_14_code 76 = .ok (.iload 4, 2) := by decide +kernel
theorem h_Ve_putOutDeadCode_78 : decode prog_11_method_14_code 78 = .ok (.iconst 1, 1) := by decide +kernel
theorem h_Ve_putOutDeadCode_79 : decode prog_11_method_14_code 79 = .ok (.isub, 1) := by decide +kernel
theorem h_Ve_putOutDeadCode_80 : decode prog_11_method_14_code 80 = .ok (.iconst 0, 1) := by decide +kernel
theorem h_Ve_putOutDeadCode_81 : decode prog_11_method_14_code 81 = .ok (.invokestatic 227, 3) := by decide +kernel
theorem h_Ve_putOutDeadCode_84 : decode prog_11_method_14_code 84 = .ok (.aload_n 0, 1) := by decide +kernel
theorem h_Ve_putOutDeadCode_85 : decode prog_11_method_14_code 85 = .ok (.getfield 15, 3) := by decide +kernel
theorem h_Ve_putOutDeadCode_88 : decode prog_11_method_14_code 88 = .ok (.getfield 28, 3) := by decide +kernel
theorem h_Ve_putOutDeadCode_91 : decode prog_11_method_14_code 91 = .ok (.iload 4, 2) := by decide +kernel
theorem h_Ve_putOutDeadCode_93 : decode prog_11_method_14_code 93 = .ok (.iconst 1, 1) := by decide +kernel
theorem h_Ve_putOutDeadCode_94 : decode prog_11_method_14_code 94 = .ok (.isub, 1) := by decide +kernel
theorem h_Ve_putOutDeadCode_95 : decode prog_11_method_14_code 95 = .ok (.sipush 191, 3) := by decide +kernel
theorem h_Ve_putOutDeadCode_98 : decode prog_11_method_14_code 98 = .ok (.iastore, 1) := by decide +kernel
theorem h_Ve_putOutDeadCode_99 : decode prog_11_method_14_code 99 = .ok (.aload_n 0, 1) := by decide +kernel
theorem h_Ve_putOutDeadCode_100 : decode prog_11_method_14_code 100 = .ok (.getfield 15, 3) := by decide +kernel
theorem h_Ve_putOutDeadCode_103 : decode prog_11_method_14_code 103 = .ok (.aload_n 0, 1) := by decide +kernel
theorem h_Ve_putOutDeadCode_104 : decode prog_11_method_14_code 104 = .ok (.getfield 15, 3) := by decide +kernel
theorem h_Ve_putOutDeadCode_107 : decode prog_11_method_14_code 107 = .ok (.getfield 51, 3) := by decide +kernel
theorem h_Ve_putOutDeadCode_110 : decode prog_11_method_14_code 110 = .ok (.iconst 1, 1) := by decide +kernel
theorem h_Ve_putOutDeadCode_111 : decode prog_11_method_14_code 111 = .ok (.invokestatic 233, 3) := by decide +kernel
theorem h_Ve_putOutDeadCode_114 : decode prog_11_method_14_code 114 = .ok (.putfield 51, 3) := by decide +kernel
theorem h_Ve_putOutDeadCode_117 : decode prog_11_method_14_code 117 = .ok (.aload_n 0, 1) := by decide +kernel
theorem h_Ve_putOutDeadCode_118 : decode prog_11_method_14_code 118 = .ok (.iload 4, 2) := by decide +kernel
theorem h_Ve_putOutDeadCode_120 : decode prog_11_method_14_code 120 = .ok (.invokevirtual 221, 3) := by decide +kernel
theorem h_Ve_putOutDeadCode_123 : decode prog_11_method_14_code 123 = .ok (.istore_n 2, 1) := by decide +kernel
theorem h_Ve_putOutDeadCode_124 : decode prog_11_method_14_code 124 = .ok (.iinc 3 1, 3) := by decide +kernel
theorem h_Ve_putOutDeadCode_127 : decode prog_11_method_14_code 127 = .ok (.goto (-84), 3) := by decide +kernel
theorem h_Ve_putOutDeadCode_130 : decode prog_11_method_14_code 130 = .ok (.aload_n 0, 1) := by decide +kernel
theorem h_Ve_putOutDeadCode_131 : decode prog_11_method_14_code 131 = .ok (.getfield 15, 3) := by decide +kernel
theorem h_Ve_putOutDeadCode_134 : decode prog_11_method_14_code 134 = .ok (.aload_n 0, 1) := by decide +kernel
theorem h_Ve_putOutDeadCode_135 : decode prog_11_method_14_code 135 = .ok (.getfield 43, 3) := by decide +kernel
theorem h_Ve_putOutDeadCode_138 : decode prog_11_method_14_code 138 = .ok (.putfield 236, 3) := by decide +kernel
theorem h_Ve_putOutDeadCode_141 : decode prog_11_method_14_code 141 = .ok (.return_, 1) := by decide +kernel
def x_Ve_putOutDeadCode_130 (a0 : Nat) (P : CST → Prop) (σ : CST) : Prop := σ.1 a0 = some (10, 0) ∧ (∀ b2 : Option Nat, b2 = (σ.2.2.2.1 a0 1) → ∀ b3 : Option Nat, b3 = (σ.2.2.2.1 a0 6) → (∃ r4 : Nat, b2 = some r4 ∧ (σ.1 r4 = some (5, 0) ∧ (∀ σ6 : CST, σ6 = sR σ r4 9 b3 → P σ6))))
def x_Ve_putOutDeadCode_43 (a0 : Nat) (P : CST → Prop) : Nat → Int32 → Int32 → CST → Prop
  | 0, _, _, _ => False
  | n + 1, z2, z3, σ => σ.1 a0 = some (10, 0) ∧ (∀ b8 : Option Nat, b8 = (σ.2.2.2.1 a0 3) → (∃ r9 : Nat, b8 = some r9 ∧ ((∃ n11 : Nat, σ.1 r9 = some (21, n11) ∧ ((((Int32.ofNat n11) ≤ z3 → x_Ve_putOutDeadCode_130 a0 P σ) ∧ (¬ (Int32.ofNat n11) ≤ z3 → ∀ b13 : Option Nat, b13 = (σ.2.2.2.1 a0 3) → (∃ r14 : Nat, b13 = some r14 ∧ ((∃ n16 : Nat, σ.1 r14 = some (21, n16) ∧ ((((Int32.ofNat n16) ≤ z2 → x_Ve_putOutDeadCode_130 a0 P σ) ∧ (¬ (Int32.ofNat n16) ≤ z2 → x_Ve_rowEnd a0 z2 σ (fun r19 σ18 => σ18.1 a0 = some (10, 0) ∧ (∀ b21 : Option Nat, b21 = (σ18.2.2.2.1 a0 1) → (∃ r22 : Nat, b21 = some r22 ∧ (σ18.1 r22 = some (5, 0) ∧ (∀ b24 : Option Nat, b24 = (σ18.2.2.2.1 r22 2) → (∃ r25 : Nat, b24 = some r25 ∧ (x_Ar_fill3 r25 z2 (r19 - 1) (0 : Int32) σ18 (fun σ26 => σ26.1 a0 = some (10, 0) ∧ (∀ b29 : Option Nat, b29 = (σ26.2.2.2.1 a0 1) → (∃ r30 : Nat, b29 = some r30 ∧ (σ26.1 r30 = some (5, 0) ∧ (∀ b32 : Option Nat, b32 = (σ26.2.2.2.1 r30 2) → (∃ r33 : Nat, b32 = some r33 ∧ ((∃ n35 : Nat, σ26.1 r33 = some (20, n35) ∧ (vp_in (r19 - 1) n35 ∧ (∀ σ37 : CST, σ37 = sI σ26 r33 ((r19 - 1) : Int32).toNatClampNeg (191 : Int32) → σ37.1 a0 = some (10, 0) ∧ (∀ b39 : Option Nat, b39 = (σ37.2.2.2.1 a0 1) → ∀ b40 : Option Nat, b40 = (σ37.2.2.2.1 a0 1) → (∃ r41 : Nat, b40 = some r41 ∧ (σ37.1 r41 = some (5, 0) ∧ (x_BMath_max (σ37.2.1 r41 3) (1 : Int32) σ37 (fun r44 σ43 => (∃ r45 : Nat, b39 = some r45 ∧ (σ43.1 r45 = some (5, 0) ∧ (∀ σ47 : CST, σ47 = sI σ43 r45 3 r44 → σ47.1 a0 = some (10, 0) ∧ (x_Ve_nextRow a0 r19 σ47 (fun r50 σ49 => x_Ve_putOutDeadCode_43 a0 P n r50 (z3 + 1) σ49))))))))))))))))))))))))))))))))))))))))
def x_Ve_putOutDeadCode (a0 : Nat) (σ0 : CST) (P : CST → Prop) : Prop := σ0.1 a0 = some (10, 0) ∧ (∀ b52 : Option Nat, b52 = (σ0.2.2.2.1 a0 1) → (∃ r53 : Nat, b52 = some r53 ∧ (σ0.1 r53 = some (5, 0) ∧ ((((σ0.2.1 r53 7) = 0 → x_Ve_handlersLeft a0 σ0 (fun r57 σ56 => σ56.1 a0 = some (10, 0) ∧ (∀ b59 : Option Nat, b59 = (σ56.2.2.2.1 a0 1) → (∃ r60 : Nat, b59 = some r60 ∧ (σ56.1 r60 = some (5, 0) ∧ ((((σ56.2.1 r60 7) = 0 → ∀ b63 : Option Nat, b63 = (σ56.2.2.2.1 a0 1) → (∃ r64 : Nat, b63 = some r64 ∧ (σ56.1 r64 = some (5, 0) ∧ (∀ σ66 : CST, σ66 = sR σ56 r64 5 r57 → σ66.1 a0 = some (10, 0) ∧ (x_Ve_nextRow a0 (0 : Int32) σ66 (fun r69 σ68 => (∃ n9 : Nat, x_Ve_putOutDeadCode_43 a0 P n9 r69 0 σ68))))))) ∧ (¬ (σ56.2.1 r60 7) = 0 → P σ56)))))))) ∧ (¬ (σ0.2.1 r53 7) = 0 → P σ0))))))
set_option maxHeartbeats 4000000 in
set_option maxRecDepth 100000 in
theorem X_Ve_putOutDeadCode (l : Launch) (dC : Nat → ClassId) (dI : Nat → Nat → Nat) (ca : Nat → ClassId) (H0 : Heap) (σ0 : CST) (a0 : Nat) {P : CST → Prop} (hw : x_Ve_putOutDeadCode a0 σ0 P) : Met l g_Ve_putOutDeadCode (mW g_Ve_putOutDeadCode prog_11_method_14_code 5 none) ({ frames := 8, cells := σ0.2.2.2.2.1, slots := σ0.2.2.2.2.2.1, locals := 259 } : Room) (va_Pc [.ref a0] (CPre (dC, dI) ca σ0 H0)) (va_Qv P (CB (dC, dI) ca σ0 H0) (cA σ0 H0.size)) σ0.2.2.2.2.1 σ0.2.2.2.2.2.1 (cA σ0 H0.size) := by
  refine C_ofv (by decide +kernel) rfl rfl rfl (Nat.le_of_ble_eq_true rfl) ?_
  intro p e s m below meth cx Q A ls C hnm hend hH0 h hl
  subst hH0
  have C0 := C
  obtain ⟨⟨hx, hb, hml, hown, hts⟩, hsub⟩ := C0
  obtain ⟨cells, e_cells⟩ : ∃ z : Nat, z = 0 := ⟨_, rfl⟩
  obtain ⟨slots, e_slots⟩ : ∃ z : Nat, z = 0 := ⟨_, rfl⟩
  have h : CH (dC, dI) A ca ({ frames := 8, cells := σ0.2.2.2.2.1, slots := σ0.2.2.2.2.2.1, locals := 259 } : Room) σ0.2.2.2.2.2.2 σ0 s s.heap [] cells slots := by rw [e_cells, e_slots]; exact h
  show W p l e ({ frames := 8, cells := σ0.2.2.2.2.1, slots := σ0.2.2.2.2.2.1, locals := 259 } : Room) s m ([.ref a0] : List Value).toArray below meth cx s.heap [] 0 0 Q (F0 m 0 ls [])
  rw [show W p l e ({ frames := 8, cells := σ0.2.2.2.2.1, slots := σ0.2.2.2.2.2.1, locals := 259 } : Room) s m ([.ref a0] : List Value).toArray below meth cx s.heap [] 0 0 Q (F0 m 0 ls []) = W p l e ({ frames := 8, cells := σ0.2.2.2.2.1, slots := σ0.2.2.2.2.2.1, locals := 259 } : Room) s m ([.ref a0] : List Value).toArray below meth cx s.heap [] cells slots Q (F0 m 0 ls []) by rw [e_cells, e_slots]]
  have K_130 : ∀ (u9 : Unit), ∀ (σ : CST) (H : Heap) (locs : List Loc) (cells slots : Nat) (ls : Array Slot), x_Ve_putOutDeadCode_130 a0 P σ → CH (dC, dI) A ca ({ frames := 8, cells := σ0.2.2.2.2.1, slots := σ0.2.2.2.2.2.1, locals := 259 } : Room) σ0.2.2.2.2.2.2 σ s H locs cells slots → lv_has ls 5 [(0, .ref a0)] → W p l e ({ frames := 8, cells := σ0.2.2.2.2.1, slots := σ0.2.2.2.2.2.1, locals := 259 } : Room) s m ([.ref a0] : List Value).toArray below meth cx H locs cells slots Q (F0 m 130 ls []) := by
    intro u9  σ H locs cells slots ls hw h hl
    unfold x_Ve_putOutDeadCode_130 at hw
    refine lv_aload_n hx hb h_Ve_putOutDeadCode_130 rfl (lv_at hl 0 rfl) ?_
    obtain ⟨g1, hw⟩ := hw
    refine C_get C h 10 1 (v := va_rf (σ.2.2.2.1 a0 1)) g1 rfl (Cn := R_Ve) (T := T_Ve) (N := 10) rfl (by decide) rfl uw_Ve (by decide) u_681 (fun _ q => q) h_Ve_putOutDeadCode_131 ?_
    refine lv_topq (fun b2 e_b2 => ?_)
    replace hw := hw b2 e_b2
    refine lv_aload_n hx hb h_Ve_putOutDeadCode_134 rfl (lv_at hl 0 rfl) ?_
    refine C_get C h 10 6 (v := va_rf (σ.2.2.2.1 a0 6)) g1 rfl (Cn := R_Ve) (T := T_Ve) (N := 10) rfl (by decide) rfl uw_Ve (by decide) u_693 (fun _ q => q) h_Ve_putOutDeadCode_135 ?_
    refine lv_topq (fun b3 e_b3 => ?_)
    replace hw := hw b3 e_b3
    obtain ⟨r4, e_r4, hw⟩ := hw
    subst e_r4
    have hl : lv_has ls 5 [(0, .ref a0)] := hl
    refine W.eq (g2 := F0 m 138 ls [va_rf b3, .ref r4]) rfl ?_
    obtain ⟨g5, hw⟩ := hw
    refine C_putr C h 5 9 (v := b3) (ty := (.array (.object "MapFramer$State"))) g5 (Cn := R_E) (T := T_E) (N := 13) rfl (by decide) rfl uw_E tok_E nm_E (by decide) rfl u_826 (fun _ q => q) (Or.inl rfl) (by decide +kernel) ck_a h_Ve_putOutDeadCode_138 (fun H locs h => ?_)
    obtain ⟨σ6, e_σ6⟩ : ∃ z : CST, z = sR σ r4 9 b3 := ⟨_, rfl⟩
    rw [← e_σ6] at h
    replace hw := hw σ6 e_σ6
    exact hend σ6 _ _ _ _ _ _ hw h h_Ve_putOutDeadCode_141
  have K_43 : ∀ (n : Nat), ∀ (z2 : Int32) (z3 : Int32) (σ : CST) (H : Heap) (locs : List Loc) (cells slots : Nat) (ls : Array Slot), x_Ve_putOutDeadCode_43 a0 P n z2 z3 σ → CH (dC, dI) A ca ({ frames := 8, cells := σ0.2.2.2.2.1, slots := σ0.2.2.2.2.2.1, locals := 259 } : Room) σ0.2.2.2.2.2.2 σ s H locs cells slots → lv_has ls 5 [(0, .ref a0), (2, .int z2), (3, .int z3)] → W p l e ({ frames := 8, cells := σ0.2.2.2.2.1, slots := σ0.2.2.2.2.2.1, locals := 259 } : Room) s m ([.ref a0] : List Value).toArray below meth cx H locs cells slots Q (F0 m 43 ls []) := by
    intro  n
    induction n with
    | zero => intro z2 z3 σ H locs cells slots ls hw h hl; unfold x_Ve_putOutDeadCode_43 at hw; exact hw.elim
    | succ n ih =>
      intro z2 z3 σ H locs cells slots ls hw h hl
      unfold x_Ve_putOutDeadCode_43 at hw
      refine lv_iload_n hx hb h_Ve_putOutDeadCode_43 rfl (lv_at hl 2 rfl) ?_
      refine lv_aload_n hx hb h_Ve_putOutDeadCode_44 rfl (lv_at hl 0 rfl) ?_
      obtain ⟨g7, hw⟩ := hw
      refine C_get C h 10 3 (v := va_rf (σ.2.2.2.1 a0 3)) g7 rfl (Cn := R_Ve) (T := T_Ve) (N := 10) rfl (by decide) rfl uw_Ve (by decide) u_690 (fun _ q => q) h_Ve_putOutDeadCode_45 ?_
      refine lv_topq (fun b8 e_b8 => ?_)
      replace hw := hw b8 e_b8
      obtain ⟨r9, e_r9, hw⟩ := hw
      subst e_r9
      have hl : lv_has ls 5 [(0, .ref a0), (2, .int z2), (3, .int z3)] := hl
      refine W.eq (g2 := F0 m 48 ls [.ref r9, .int z3]) rfl ?_
      obtain ⟨n11, g10, hw⟩ := hw
      refine C_alen C h 21 1 rfl (by decide) g10 h_Ve_putOutDeadCode_48 ?_
      refine lv_icmp_ge (tgt := 130) hx hb h_Ve_putOutDeadCode_49 (by decide) (fun c12 => ?_) (fun c12 => ?_)
      · skip
        replace hw := hw.1 c12
        exact K_130 () σ _ _ _ _ _ hw h (lv_sub hl [0] rfl)
      · skip
        replace hw := hw.2 c12
        refine lv_iload_n hx hb h_Ve_putOutDeadCode_52 rfl (lv_at hl 1 rfl) ?_
        refine lv_aload_n hx hb h_Ve_putOutDeadCode_53 rfl (lv_at hl 0 rfl) ?_
        refine C_get C h 10 3 (v := va_rf (σ.2.2.2.1 a0 3)) g7 rfl (Cn := R_Ve) (T := T_Ve) (N := 10) rfl (by decide) rfl uw_Ve (by decide) u_690 (fun _ q => q) h_Ve_putOutDeadCode_54 ?_
        refine lv_topq (fun b13 e_b13 => ?_)
        replace hw := hw b13 e_b13
        obtain ⟨r14, e_r14, hw⟩ := hw
        subst e_r14
        have hl : lv_has ls 5 [(0, .ref a0), (2, .int z2), (3, .int z3)] := hl
        refine W.eq (g2 := F0 m 57 ls [.ref r14, .int z2]) rfl ?_
        obtain ⟨n16, g15, hw⟩ := hw
        refine C_alen C h 21 1 rfl (by decide) g15 h_Ve_putOutDeadCode_57 ?_
        refine lv_icmp_ge (tgt := 130) hx hb h_Ve_putOutDeadCode_58 (by decide) (fun c17 => ?_) (fun c17 => ?_)
        · skip
          replace hw := hw.1 c17
          exact K_130 () σ _ _ _ _ _ hw h (lv_sub hl [0] rfl)
        · skip
          replace hw := hw.2 c17
          refine lv_aload_n hx hb h_Ve_putOutDeadCode_61 rfl (lv_at hl 0 rfl) ?_
          refine lv_iload_n hx hb h_Ve_putOutDeadCode_62 rfl (lv_at hl 1 rfl) ?_
          refine C_callVi (As := [.int z2]) (rest := []) C h (ci := 10) (Cn := R_Ve) (T := T_Ve) (N := 10) g7 rfl (by decide) (X_Ve_rowEnd l dC dI ca H σ a0 z2 hw) (cwV 1 hts (gV hsub u_809 u_810 u_811 u_726 u_812) rfl rfl rfl (by decide +kernel) ⟨(Nat.le_of_ble_eq_true rfl), (Nat.le_of_ble_eq_true rfl)⟩) rfl hl.1 (Nat.le_of_ble_eq_true rfl) h_Ve_putOutDeadCode_63 (fun r19 σ18 H locs cells slots hw9 h9 => ?_)
          clear hw h; have hw := hw9; have h := h9; clear hw9 h9
          refine W.eq (g2 := F0 m 66 ls [.int r19]) rfl ?_
          refine lv_istore (lv' := [(4, .int r19), (0, .ref a0), (2, .int z2), (3, .int z3)]) hx hb h_Ve_putOutDeadCode_66 hl (by decide) rfl (fun ls hl => ?_)
          refine lv_aload_n hx hb h_Ve_putOutDeadCode_68 rfl (lv_at hl 1 rfl) ?_
          obtain ⟨g20, hw⟩ := hw
          refine C_get C h 10 1 (v := va_rf (σ18.2.2.2.1 a0 1)) g20 rfl (Cn := R_Ve) (T := T_Ve) (N := 10) rfl (by decide) rfl uw_Ve (by decide) u_681 (fun _ q => q) h_Ve_putOutDeadCode_69 ?_
          refine lv_topq (fun b21 e_b21 => ?_)
          replace hw := hw b21 e_b21
          obtain ⟨r22, e_r22, hw⟩ := hw
          subst e_r22
          have hl : lv_has ls 5 [(4, .int r19), (0, .ref a0), (2, .int z2), (3, .int z3)] := hl
          refine W.eq (g2 := F0 m 72 ls [.ref r22]) rfl ?_
          obtain ⟨g23, hw⟩ := hw
          refine C_get C h 5 2 (v := va_rf (σ18.2.2.2.1 r22 2)) g23 rfl (Cn := R_E) (T := T_E) (N := 13) rfl (by decide) rfl uw_E (by decide) u_688 (fun _ q => q) h_Ve_putOutDeadCode_72 ?_
          refine lv_topq (fun b24 e_b24 => ?_)
          replace hw := hw b24 e_b24
          refine lv_iload_n hx hb h_Ve_putOutDeadCode_75 rfl (lv_at hl 2 rfl) ?_
          refine lv_iload hx hb h_Ve_putOutDeadCode_76 (lv_at hl 0 rfl) ?_
          refine lv_iconst (v := 1) hx hb h_Ve_putOutDeadCode_78 (by decide) ?_
          refine lv_isub hx hb h_Ve_putOutDeadCode_79 ?_
          refine lv_iconst (v := 0) hx hb h_Ve_putOutDeadCode_80 (by decide) ?_
          obtain ⟨r25, e_r25, hw⟩ := hw
          subst e_r25
          have hl : lv_has ls 5 [(4, .int r19), (0, .ref a0), (2, .int z2), (3, .int z3)] := hl
          refine W.eq (g2 := F0 m 81 ls [.int 0, .int (r19 - 1), .int z2, .ref r25]) rfl ?_
          refine C_callSv (As := [.ref r25, .int z2, .int (r19 - 1), .int 0]) (rest := []) C h (X_Ar_fill3 l dC dI ca H σ18 r25 z2 (r19 - 1) (0 : Int32) hw) (va_cwS 4 hts (gS hsub u_827 u_828 u_46 u_829) rfl rfl rfl (by decide +kernel) ⟨(Nat.le_of_ble_eq_true rfl), (Nat.le_of_ble_eq_true rfl)⟩) rfl hl.1 (Nat.le_of_ble_eq_true rfl) h_Ve_putOutDeadCode_81 (fun σ26 H locs cells slots hw9 h9 => ?_)
          clear hw h; have hw := hw9; have h := h9; clear hw9 h9
          refine W.eq (g2 := F0 m 84 ls []) rfl ?_
          refine lv_aload_n hx hb h_Ve_putOutDeadCode_84 rfl (lv_at hl 1 rfl) ?_
          obtain ⟨g28, hw⟩ := hw
          refine C_get C h 10 1 (v := va_rf (σ26.2.2.2.1 a0 1)) g28 rfl (Cn := R_Ve) (T := T_Ve) (N := 10) rfl (by decide) rfl uw_Ve (by decide) u_681 (fun _ q => q) h_Ve_putOutDeadCode_85 ?_
          refine lv_topq (fun b29 e_b29 => ?_)
          replace hw := hw b29 e_b29
          obtain ⟨r30, e_r30, hw⟩ := hw
          subst e_r30
          have hl : lv_has ls 5 [(4, .int r19), (0, .ref a0), (2, .int z2), (3, .int z3)] := hl
          refine W.eq (g2 := F0 m 88 ls [.ref r30]) rfl ?_
          obtain ⟨g31, hw⟩ := hw
          refine C_get C h 5 2 (v := va_rf (σ26.2.2.2.1 r30 2)) g31 rfl (Cn := R_E) (T := T_E) (N := 13) rfl (by decide) rfl uw_E (by decide) u_688 (fun _ q => q) h_Ve_putOutDeadCode_88 ?_
          refine lv_topq (fun b32 e_b32 => ?_)
          replace hw := hw b32 e_b32
          refine lv_iload hx hb h_Ve_putOutDeadCode_91 (lv_at hl 0 rfl) ?_
          refine lv_iconst (v := 1) hx hb h_Ve_putOutDeadCode_93 (by decide) ?_
          refine lv_isub hx hb h_Ve_putOutDeadCode_94 ?_
          refine lv_sipush (v := 191) hx hb h_Ve_putOutDeadCode_95 (by decide) ?_
          obtain ⟨r33, e_r33, hw⟩ := hw
          subst e_r33
          have hl : lv_has ls 5 [(4, .int r19), (0, .ref a0), (2, .int z2), (3, .int z3)] := hl
          refine W.eq (g2 := F0 m 98 ls [.int 191, .int (r19 - 1), .ref r33]) rfl ?_
          obtain ⟨n35, g34, hw⟩ := hw
          obtain ⟨g36, hw⟩ := hw
          refine C_iast C h g34 g36 h_Ve_putOutDeadCode_98 (fun H locs h => ?_)
          obtain ⟨σ37, e_σ37⟩ : ∃ z : CST, z = sI σ26 r33 ((r19 - 1) : Int32).toNatClampNeg (191 : Int32) := ⟨_, rfl⟩
          rw [← e_σ37] at h
          replace hw := hw σ37 e_σ37
          refine lv_aload_n hx hb h_Ve_putOutDeadCode_99 rfl (lv_at hl 1 rfl) ?_
          obtain ⟨g38, hw⟩ := hw
          refine C_get C h 10 1 (v := va_rf (σ37.2.2.2.1 a0 1)) g38 rfl (Cn := R_Ve) (T := T_Ve) (N := 10) rfl (by decide) rfl uw_Ve (by decide) u_681 (fun _ q => q) h_Ve_putOutDeadCode_100 ?_
          refine lv_topq (fun b39 e_b39 => ?_)
          replace hw := hw b39 e_b39
          refine lv_aload_n hx hb h_Ve_putOutDeadCode_103 rfl (lv_at hl 1 rfl) ?_
          refine C_get C h 10 1 (v := va_rf (σ37.2.2.2.1 a0 1)) g38 rfl (Cn := R_Ve) (T := T_Ve) (N := 10) rfl (by decide) rfl uw_Ve (by decide) u_681 (fun _ q => q) h_Ve_putOutDeadCode_104 ?_
          refine lv_topq (fun b40 e_b40 => ?_)
          replace hw := hw b40 e_b40
          obtain ⟨r41, e_r41, hw⟩ := hw
          subst e_r41
          have hl : lv_has ls 5 [(4, .int r19), (0, .ref a0), (2, .int z2), (3, .int z3)] := hl
          refine W.eq (g2 := F0 m 107 ls [.ref r41, va_rf b39]) rfl ?_
          obtain ⟨g42, hw⟩ := hw
          refine C_get C h 5 3 (v := .int (σ37.2.1 r41 3)) g42 rfl (Cn := R_E) (T := T_E) (N := 13) rfl (by decide) rfl uw_E (by decide) u_696 (fun _ q => q) h_Ve_putOutDeadCode_107 ?_
          refine lv_iconst (v := 1) hx hb h_Ve_putOutDeadCode_110 (by decide) ?_
          refine C_callSi (As := [.int (σ37.2.1 r41 3), .int 1]) (rest := [va_rf b39]) C h (X_BMath_max l dC dI ca H σ37 (σ37.2.1 r41 3) (1 : Int32) hw) (va_cwS 2 hts (gS hsub u_830 u_127 u_28 u_128) rfl rfl rfl (by decide +kernel) ⟨(Nat.le_of_ble_eq_true rfl), (Nat.le_of_ble_eq_true rfl)⟩) rfl hl.1 (by simp only [List.map_cons, List.map_nil, List.sum_cons, List.sum_nil, cq_cat]; exact Nat.le_of_ble_eq_true rfl) h_Ve_putOutDeadCode_111 (fun r44 σ43 H locs cells slots hw9 h9 => ?_)
          clear hw h; have hw := hw9; have h := h9; clear hw9 h9
          refine W.eq (g2 := F0 m 114 ls [.int r44, va_rf b39]) rfl ?_
          obtain ⟨r45, e_r45, hw⟩ := hw
          subst e_r45
          have hl : lv_has ls 5 [(4, .int r19), (0, .ref a0), (2, .int z2), (3, .int z3)] := hl
          refine W.eq (g2 := F0 m 114 ls [.int r44, .ref r45]) rfl ?_
          obtain ⟨g46, hw⟩ := hw
          refine C_puti C h 5 3 g46 (Cn := R_E) (T := T_E) (N := 13) rfl (by decide) rfl uw_E tok_E nm_E (by decide) rfl u_696 (fun _ q => q) (Or.inl rfl) (by decide +kernel) h_Ve_putOutDeadCode_114 (fun H locs h => ?_)
          obtain ⟨σ47, e_σ47⟩ : ∃ z : CST, z = sI σ43 r45 3 r44 := ⟨_, rfl⟩
          rw [← e_σ47] at h
          replace hw := hw σ47 e_σ47
          refine lv_aload_n hx hb h_Ve_putOutDeadCode_117 rfl (lv_at hl 1 rfl) ?_
          refine lv_iload hx hb h_Ve_putOutDeadCode_118 (lv_at hl 0 rfl) ?_
          obtain ⟨g48, hw⟩ := hw
          refine C_callVi (As := [.int r19]) (rest := []) C h (ci := 10) (Cn := R_Ve) (T := T_Ve) (N := 10) g48 rfl (by decide) (X_Ve_nextRow l dC dI ca H σ47 a0 r19 hw) (cwV 1 hts (gV hsub u_816 u_817 u_818 u_726 u_819) rfl rfl rfl (by decide +kernel) ⟨(Nat.le_of_ble_eq_true rfl), (Nat.le_of_ble_eq_true rfl)⟩) rfl hl.1 (Nat.le_of_ble_eq_true rfl) h_Ve_putOutDeadCode_120 (fun r50 σ49 H locs cells slots hw9 h9 => ?_)
          clear hw h; have hw := hw9; have h := h9; clear hw9 h9
          refine W.eq (g2 := F0 m 123 ls [.int r50]) rfl ?_
          refine lv_istore_n (i := 2) (lv' := [(2, .int r50), (4, .int r19), (0, .ref a0), (3, .int z3)]) hx hb h_Ve_putOutDeadCode_123 rfl hl (by decide) rfl (fun ls hl => ?_)
          refine lv_iinc (v := (z3 + 1)) (lv' := [(3, .int (z3 + 1)), (2, .int r50), (4, .int r19), (0, .ref a0)]) hx hb h_Ve_putOutDeadCode_124 hl (k := 3) rfl (rfl) (by decide) rfl (fun ls hl => ?_)
          refine lv_goto (tgt := 43) hx hb h_Ve_putOutDeadCode_127 (by decide) ?_
          exact ih r50 (z3 + 1) σ49 _ _ _ _ _ hw h (lv_sub hl [3, 1, 0] rfl)
  have hl : lv_has ls 5 [(0, .ref a0)] := hl
  unfold x_Ve_putOutDeadCode at hw
  refine lv_aload_n hx hb h_Ve_putOutDeadCode_0 rfl (lv_at hl 0 rfl) ?_
  obtain ⟨g51, hw⟩ := hw
  refine C_get C h 10 1 (v := va_rf (σ0.2.2.2.1 a0 1)) g51 rfl (Cn := R_Ve) (T := T_Ve) (N := 10) rfl (by decide) rfl uw_Ve (by decide) u_681 (fun _ q => q) h_Ve_putOutDeadCode_1 ?_
  refine lv_topq (fun b52 e_b52 => ?_)
  replace hw := hw b52 e_b52
  obtain ⟨r53, e_r53, hw⟩ := hw
  subst e_r53
  have hl : lv_has ls 5 [(0, .ref a0)] := hl
  refine W.eq (g2 := F0 m 4 ls [.ref r53]) rfl ?_
  obtain ⟨g54, hw⟩ := hw
  refine C_get C h 5 7 (v := .int (σ0.2.1 r53 7)) g54 rfl (Cn := R_E) (T := T_E) (N := 13) rfl (by decide) rfl uw_E (by decide) u_735 (fun _ q => q) h_Ve_putOutDeadCode_4 ?_
  refine lv_if_eq (tgt := 11) hx hb h_Ve_putOutDeadCode_7 (by decide) (fun c55 => ?_) (fun c55 => ?_)
  · skip
    replace hw := hw.1 c55
    refine lv_aload_n hx hb h_Ve_putOutDeadCode_11 rfl (lv_at hl 0 rfl) ?_
    refine C_callVq (As := []) (rest := []) C h (ci := 10) (Cn := R_Ve) (T := T_Ve) (N := 10) g51 rfl (by decide) (X_Ve_handlersLeft l dC dI ca s.heap σ0 a0 hw) (cwV 0 hts (gV hsub u_831 u_832 u_833 u_726 u_834) rfl rfl rfl (by decide +kernel) ⟨(Nat.le_of_ble_eq_true rfl), (Nat.le_of_ble_eq_true rfl)⟩) rfl hl.1 (Nat.le_of_ble_eq_true rfl) h_Ve_putOutDeadCode_12 (fun r57 σ56 H locs cells slots hw9 h9 => ?_)
    clear hw h; have hw := hw9; have h := h9; clear hw9 h9
    refine W.eq (g2 := F0 m 15 ls [va_rf r57]) rfl ?_
    refine cq_astore_n (i := 1) (lv' := [(1, va_rf r57), (0, .ref a0)]) hx hb h_Ve_putOutDeadCode_15 rfl hl (by decide) rfl (fun ls hl => ?_)
    refine lv_aload_n hx hb h_Ve_putOutDeadCode_16 rfl (lv_at hl 1 rfl) ?_
    obtain ⟨g58, hw⟩ := hw
    refine C_get C h 10 1 (v := va_rf (σ56.2.2.2.1 a0 1)) g58 rfl (Cn := R_Ve) (T := T_Ve) (N := 10) rfl (by decide) rfl uw_Ve (by decide) u_681 (fun _ q => q) h_Ve_putOutDeadCode_17 ?_
    refine lv_topq (fun b59 e_b59 => ?_)
    replace hw := hw b59 e_b59
    obtain ⟨r60, e_r60, hw⟩ := hw
    subst e_r60
    have hl : lv_has ls 5 [(1, va_rf r57), (0, .ref a0)] := hl
    refine W.eq (g2 := F0 m 20 ls [.ref r60]) rfl ?_
    obtain ⟨g61, hw⟩ := hw
    refine C_get C h 5 7 (v := .int (σ56.2.1 r60 7)) g61 rfl (Cn := R_E) (T := T_E) (N := 13) rfl (by decide) rfl uw_E (by decide) u_735 (fun _ q => q) h_Ve_putOutDeadCode_20 ?_
    refine lv_if_eq (tgt := 27) hx hb h_Ve_putOutDeadCode_23 (by decide) (fun c62 => ?_) (fun c62 => ?_)
    · skip
      replace hw := hw.1 c62
      refine lv_aload_n hx hb h_Ve_putOutDeadCode_27 rfl (lv_at hl 1 rfl) ?_
      refine C_get C h 10 1 (v := va_rf (σ56.2.2.2.1 a0 1)) g58 rfl (Cn := R_Ve) (T := T_Ve) (N := 10) rfl (by decide) rfl uw_Ve (by decide) u_681 (fun _ q => q) h_Ve_putOutDeadCode_28 ?_
      refine lv_topq (fun b63 e_b63 => ?_)
      replace hw := hw b63 e_b63
      refine cq_aload_n hx hb h_Ve_putOutDeadCode_31 rfl (lv_at hl 0 rfl) ?_
      obtain ⟨r64, e_r64, hw⟩ := hw
      subst e_r64
      have hl : lv_has ls 5 [(1, va_rf r57), (0, .ref a0)] := hl
      refine W.eq (g2 := F0 m 32 ls [va_rf r57, .ref r64]) rfl ?_
      obtain ⟨g65, hw⟩ := hw
      refine C_putr C h 5 5 (v := r57) (ty := (.object "java/util/ArrayList")) g65 (Cn := R_E) (T := T_E) (N := 13) rfl (by decide) rfl uw_E tok_E nm_E (by decide) rfl u_751 (fun _ q => q) (Or.inl rfl) (by decide +kernel) ck_o h_Ve_putOutDeadCode_32 (fun H locs h => ?_)
      obtain ⟨σ66, e_σ66⟩ : ∃ z : CST, z = sR σ56 r64 5 r57 := ⟨_, rfl⟩
      rw [← e_σ66] at h
      replace hw := hw σ66 e_σ66
      refine lv_aload_n hx hb h_Ve_putOutDeadCode_35 rfl (lv_at hl 1 rfl) ?_
      refine lv_iconst (v := 0) hx hb h_Ve_putOutDeadCode_36 (by decide) ?_
      obtain ⟨g67, hw⟩ := hw
      refine C_callVi (As := [.int 0]) (rest := []) C h (ci := 10) (Cn := R_Ve) (T := T_Ve) (N := 10) g67 rfl (by decide) (X_Ve_nextRow l dC dI ca H σ66 a0 (0 : Int32) hw) (cwV 1 hts (gV hsub u_816 u_817 u_818 u_726 u_819) rfl rfl rfl (by decide +kernel) ⟨(Nat.le_of_ble_eq_true rfl), (Nat.le_of_ble_eq_true rfl)⟩) rfl hl.1 (Nat.le_of_ble_eq_true rfl) h_Ve_putOutDeadCode_37 (fun r69 σ68 H locs cells slots hw9 h9 => ?_)
      clear hw h; have hw := hw9; have h := h9; clear hw9 h9
      refine W.eq (g2 := F0 m 40 ls [.int r69]) rfl ?_
      refine lv_istore_n (i := 2) (lv' := [(2, .int r69), (1, va_rf r57), (0, .ref a0)]) hx hb h_Ve_putOutDeadCode_40 rfl hl (by decide) (by simp [cq_cat]) (fun ls hl => ?_)
      refine lv_iconst (v := 0) hx hb h_Ve_putOutDeadCode_41 (by decide) ?_
      refine lv_istore_n (i := 3) (lv' := [(3, .int 0), (2, .int r69), (1, va_rf r57), (0, .ref a0)]) hx hb h_Ve_putOutDeadCode_42 rfl hl (by decide) rfl (fun ls hl => ?_)
      obtain ⟨n9, hw⟩ := hw
      exact K_43 n9 r69 0 σ68 _ _ _ _ _ hw h (lv_sub hl [3, 1, 0] rfl)
    · skip
      replace hw := hw.2 c62
      exact hend σ56 _ _ _ _ _ _ hw h h_Ve_putOutDeadCode_26
  · skip
    replace hw := hw.2 c55
    exact hend σ0 _ _ _ _ _ _ hw h h_Ve_putOutDeadCode_10
abbrev g_Ve_findCalled : MethodName := ⟨"MapFramer$Verifier", "findCalled", "()V"⟩
theorem u_835 : (Cond.fieldLink "MapFramer$Verifier" 246 "MapFramer$Method" "called" "I" : Cond) ∈ bigW := inB_2 191 (by decide +kernel) rfl
theorem h_Ve_findCalled_0 : decode prog_11_method_18_code 0 = .ok (.iconst 0, 1) := by decide +kernel
theorem h_Ve_findCalled_1 : decode prog_11_method_18_code 1 = .ok (.istore_n 1, 1) := by decide +kernel
theorem h_Ve_findCalled_2 : decode prog_11_method_18_code 2 = .ok (.iload_n 1, 1) := by decide +kernel
theorem h_Ve_findCalled_3 : decode prog_11_method_18_code 3 = .ok (.aload_n 0, 1) := by decide +kernel
theorem h_Ve_findCalled_4 : decode prog_11_method_18_code 4 = .ok (.getfield 34, 3) := by decide +kernel
theorem h_Ve_findCalled_7 : decode prog_11_method_18_code 7 = .ok (.arraylength, 1) := by decide +kernel
theorem h_Ve_findCalled_8 : decode prog_11_method_18_code 8 = .ok (.if_icmp .ge 57, 3) := by decide +kernel
theorem h_Ve_findCalled_11 : decode prog_11_method_18_code 11 = .ok (.aload_n 0, 1) := by decide +kernel
theorem h_Ve_findCalled_12 : decode prog_11_method_18_code 12 = .ok (.getfield 43, 3) := by decide +kernel
theorem h_Ve_findCalled_15 : decode prog_11_method_18_code 15 = .ok (.iload_n 1, 1) := by decide +kernel
theorem h_Ve_findCalled_16 : decode prog_11_method_18_code 16 = .ok (.aaload, 1) := by decide +kernel
theorem h_Ve_findCalled_17 : decode prog_11_method_18_code 17 = .ok (.ifnull 42, 3) := by decide +kernel
theorem h_Ve_findCalled_20 : decode prog_11_method_18_code 20 = .ok (.aload_n 0, 1) := by decide +kernel
theorem h_Ve_findCalled_21 : decode prog_11_method_18_code 21 = .ok (.getfield 15, 3) := by decide +kernel
theorem h_Ve_findCalled_24 : decode prog_11_method_18_code 24 = .ok (.getfield 28, 3) := by decide +kernel
theorem h_Ve_findCalled_27 : decode prog_11_method_18_code 27 = .ok (.iload_n 1, 1) := by decide +kernel
theorem h_Ve_findCalled_28 : decode prog_11_method_18_code 28 = .ok (.iaload, 1) := by decide +kernel
theorem h_Ve_findCalled_29 : decode prog_11_method_18_code 29 = .ok (.sipush 184, 3) := by decide +kernel
theorem h_Ve_findCalled_32 : decode prog_11_method_18_code 32 = .ok (.if_icmp .ne 27, 3) := by decide +kernel
theorem h_Ve_findCalled_35 : decode prog_11_method_18_code 35 = .ok (.aload_n 0, 1) := by decide +kernel
theorem h_Ve_findCalled_36 : decode prog_11_method_18_code 36 = .ok (.getfield 15, 3) := by decide +kernel
theorem h_Ve_findCalled_39 : decode prog_11_method_18_code 39 = .ok (.dup, 1) := by decide +kernel
theorem h_Ve_findCalled_40 : decode prog_11_method_18_code 40 = .ok (.getfield 246, 3) := by decide +kernel
theorem h_Ve_findCalled_43 : decode prog_11_method_18_code 43 = .ok (.iconst 1, 1) := by decide +kernel
theorem h_Ve_findCalled_44 : decode prog_11_method_18_code 44 = .ok (.aload_n 0, 1) := by decide +kernel
theorem h_Ve_findCalled_45 : decode prog_11_method_18_code 45 = .ok (.getfield 15, 3) := by decide +kernel
theorem h_Ve_findCalled_48 : decode prog_11_method_18_code 48 = .ok (.iload_n 1, 1) := by decide +kernel
theorem h_Ve_findCalled_49 : decode prog_11_method_18_code 49 = .ok (.iconst 1, 1) := by decide +kernel
theorem h_Ve_findCalled_50 : decode prog_11_method_18_code 50 = .ok (.iadd, 1) := by decide +kernel
theorem h_Ve_findCalled_51 : decode prog_11_method_18_code 51 = .ok (.invokevirtual 79, 3) := by decide +kernel
theorem h_Ve_findCalled_54 : decode prog_11_method_18_code 54 = .ok (.ishl, 1) := by decide +kernel
theorem h_Ve_findCalled_55 : decode prog_11_method_18_code 55 = .ok (.ior, 1) := by decide +kernel
theorem h_Ve_findCalled_56 : decode prog_11_method_18_code 56 = .ok (.putfield 246, 3) := by decide +kernel
theorem h_Ve_findCalled_59 : decode prog_11_method_18_code 59 = .ok (.iinc 1 1, 3) := by decide +kernel
theorem h_Ve_findCalled_62 : decode prog_11_method_18_code 62 = .ok (.goto (-60), 3) := by decide +kernel
theorem h_Ve_findCalled_65 : decode prog_11_method_18_code 65 = .ok (.return_, 1) := by decide +kernel
def x_Ve_findCalled_59 (a0 : Nat) (K2 : Int32 → CST → Prop) (P : CST → Prop) (z1 : Int32) (σ : CST) : Prop := K2 (z1 + 1) σ
def x_Ve_findCalled_2 (a0 : Nat) (P : CST → Prop) : Nat → Int32 → CST → Prop
  | 0, _, _ => False
  | n + 1, z1, σ => σ.1 a0 = some (10, 0) ∧ (∀ b2 : Option Nat, b2 = (σ.2.2.2.1 a0 3) → (∃ r3 : Nat, b2 = some r3 ∧ ((∃ n5 : Nat, σ.1 r3 = some (21, n5) ∧ ((((Int32.ofNat n5) ≤ z1 → P σ) ∧ (¬ (Int32.ofNat n5) ≤ z1 → ∀ b7 : Option Nat, b7 = (σ.2.2.2.1 a0 6) → (∃ r8 : Nat, b7 = some r8 ∧ ((∃ n10 : Nat, σ.1 r8 = some (25, n10) ∧ (vp_in z1 n10 ∧ (∀ b12 : Option Nat, b12 = (σ.2.2.2.1 r8 (z1 : Int32).toNatClampNeg) → ((b12 = none → x_Ve_findCalled_59 a0 (x_Ve_findCalled_2 a0 P n) P z1 σ) ∧ (∀ r14 : Nat, b12 = some r14 → ∀ b15 : Option Nat, b15 = (σ.2.2.2.1 a0 1) → (∃ r16 : Nat, b15 = some r16 ∧ (σ.1 r16 = some (5, 0) ∧ (∀ b18 : Option Nat, b18 = (σ.2.2.2.1 r16 2) → (∃ r19 : Nat, b18 = some r19 ∧ ((∃ n21 : Nat, σ.1 r19 = some (20, n21) ∧ (vp_in z1 n21 ∧ (∀ b23 : Int32, b23 = (σ.2.1 r19 (z1 : Int32).toNatClampNeg) → ((b23 = 184 → ∀ b25 : Option Nat, b25 = (σ.2.2.2.1 a0 1) → (∃ r26 : Nat, b25 = some r26 ∧ (σ.1 r26 = some (5, 0) ∧ (∀ b28 : Option Nat, b28 = (σ.2.2.2.1 a0 1) → (∃ r29 : Nat, b28 = some r29 ∧ (σ.1 r29 = some (5, 0) ∧ (x_E_byteAt r29 (z1 + 1) σ (fun r32 σ31 => ∀ b33 : Int32, b33 = ((1 : Int32) <<< ((r32 : Int32) &&& 31)) → ∀ b34 : Int32, b34 = ((σ.2.1 r26 12) ||| b33) → σ31.1 r26 = some (5, 0) ∧ (∀ σ36 : CST, σ36 = sI σ31 r26 12 b34 → x_Ve_findCalled_59 a0 (x_Ve_findCalled_2 a0 P n) P z1 σ36))))))))) ∧ (¬ b23 = 184 → x_Ve_findCalled_59 a0 (x_Ve_findCalled_2 a0 P n) P z1 σ))))))))))))))))))))))))
def x_Ve_findCalled (a0 : Nat) (σ0 : CST) (P : CST → Prop) : Prop := (∃ n9 : Nat, x_Ve_findCalled_2 a0 P n9 0 σ0)
set_option maxHeartbeats 4000000 in
set_option maxRecDepth 100000 in
theorem X_Ve_findCalled (l : Launch) (dC : Nat → ClassId) (dI : Nat → Nat → Nat) (ca : Nat → ClassId) (H0 : Heap) (σ0 : CST) (a0 : Nat) {P : CST → Prop} (hw : x_Ve_findCalled a0 σ0 P) : Met l g_Ve_findCalled (mW g_Ve_findCalled prog_11_method_18_code 2 none) ({ frames := 1, cells := σ0.2.2.2.2.1, slots := σ0.2.2.2.2.2.1, locals := 21 } : Room) (va_Pc [.ref a0] (CPre (dC, dI) ca σ0 H0)) (va_Qv P (CB (dC, dI) ca σ0 H0) (cA σ0 H0.size)) σ0.2.2.2.2.1 σ0.2.2.2.2.2.1 (cA σ0 H0.size) := by
  refine C_ofv (by decide +kernel) rfl rfl rfl (Nat.le_of_ble_eq_true rfl) ?_
  intro p e s m below meth cx Q A ls C hnm hend hH0 h hl
  subst hH0
  have C0 := C
  obtain ⟨⟨hx, hb, hml, hown, hts⟩, hsub⟩ := C0
  obtain ⟨cells, e_cells⟩ : ∃ z : Nat, z = 0 := ⟨_, rfl⟩
  obtain ⟨slots, e_slots⟩ : ∃ z : Nat, z = 0 := ⟨_, rfl⟩
  have h : CH (dC, dI) A ca ({ frames := 1, cells := σ0.2.2.2.2.1, slots := σ0.2.2.2.2.2.1, locals := 21 } : Room) σ0.2.2.2.2.2.2 σ0 s s.heap [] cells slots := by rw [e_cells, e_slots]; exact h
  show W p l e ({ frames := 1, cells := σ0.2.2.2.2.1, slots := σ0.2.2.2.2.2.1, locals := 21 } : Room) s m ([.ref a0] : List Value).toArray below meth cx s.heap [] 0 0 Q (F0 m 0 ls [])
  rw [show W p l e ({ frames := 1, cells := σ0.2.2.2.2.1, slots := σ0.2.2.2.2.2.1, locals := 21 } : Room) s m ([.ref a0] : List Value).toArray below meth cx s.heap [] 0 0 Q (F0 m 0 ls []) = W p l e ({ frames := 1, cells := σ0.2.2.2.2.1, slots := σ0.2.2.2.2.2.1, locals := 21 } : Room) s m ([.ref a0] : List Value).toArray below meth cx s.heap [] cells slots Q (F0 m 0 ls []) by rw [e_cells, e_slots]]
  have K_59 : ∀ (K2 : Int32 → CST → Prop) (hK2 : ∀ (z1 : Int32) (σ : CST) (H : Heap) (locs : List Loc) (cells slots : Nat) (ls : Array Slot), K2 z1 σ → CH (dC, dI) A ca ({ frames := 1, cells := σ0.2.2.2.2.1, slots := σ0.2.2.2.2.2.1, locals := 21 } : Room) σ0.2.2.2.2.2.2 σ s H locs cells slots → lv_has ls 2 [(0, .ref a0), (1, .int z1)] → W p l e ({ frames := 1, cells := σ0.2.2.2.2.1, slots := σ0.2.2.2.2.2.1, locals := 21 } : Room) s m ([.ref a0] : List Value).toArray below meth cx H locs cells slots Q (F0 m 2 ls [])), ∀ (z1 : Int32) (σ : CST) (H : Heap) (locs : List Loc) (cells slots : Nat) (ls : Array Slot), x_Ve_findCalled_59 a0 K2 P z1 σ → CH (dC, dI) A ca ({ frames := 1, cells := σ0.2.2.2.2.1, slots := σ0.2.2.2.2.2.1, locals := 21 } : Room) σ0.2.2.2.2.2.2 σ s H locs cells slots → lv_has ls 2 [(0, .ref a0), (1, .int z1)] → W p l e ({ frames := 1, cells := σ0.2.2.2.2.1, slots := σ0.2.2.2.2.2.1, locals := 21 } : Room) s m ([.ref a0] : List Value).toArray below meth cx H locs cells slots Q (F0 m 59 ls []) := by
    intro K2 hK2 z1 σ H locs cells slots ls hw h hl
    unfold x_Ve_findCalled_59 at hw
    refine lv_iinc (v := (z1 + 1)) (lv' := [(1, .int (z1 + 1)), (0, .ref a0)]) hx hb h_Ve_findCalled_59 hl (k := 1) rfl (rfl) (by decide) rfl (fun ls hl => ?_)
    refine lv_goto (tgt := 2) hx hb h_Ve_findCalled_62 (by decide) ?_
    exact hK2 (z1 + 1) σ _ _ _ _ _ hw h (lv_sub hl [1, 0] rfl)
  have K_2 : ∀ (n : Nat), ∀ (z1 : Int32) (σ : CST) (H : Heap) (locs : List Loc) (cells slots : Nat) (ls : Array Slot), x_Ve_findCalled_2 a0 P n z1 σ → CH (dC, dI) A ca ({ frames := 1, cells := σ0.2.2.2.2.1, slots := σ0.2.2.2.2.2.1, locals := 21 } : Room) σ0.2.2.2.2.2.2 σ s H locs cells slots → lv_has ls 2 [(0, .ref a0), (1, .int z1)] → W p l e ({ frames := 1, cells := σ0.2.2.2.2.1, slots := σ0.2.2.2.2.2.1, locals := 21 } : Room) s m ([.ref a0] : List Value).toArray below meth cx H locs cells slots Q (F0 m 2 ls []) := by
    intro  n
    induction n with
    | zero => intro z1 σ H locs cells slots ls hw h hl; unfold x_Ve_findCalled_2 at hw; exact hw.elim
    | succ n ih =>
      intro z1 σ H locs cells slots ls hw h hl
      unfold x_Ve_findCalled_2 at hw
      refine lv_iload_n hx hb h_Ve_findCalled_2 rfl (lv_at hl 1 rfl) ?_
      refine lv_aload_n hx hb h_Ve_findCalled_3 rfl (lv_at hl 0 rfl) ?_
      obtain ⟨g1, hw⟩ := hw
      refine C_get C h 10 3 (v := va_rf (σ.2.2.2.1 a0 3)) g1 rfl (Cn := R_Ve) (T := T_Ve) (N := 10) rfl (by decide) rfl uw_Ve (by decide) u_690 (fun _ q => q) h_Ve_findCalled_4 ?_
      refine lv_topq (fun b2 e_b2 => ?_)
      replace hw := hw b2 e_b2
      obtain ⟨r3, e_r3, hw⟩ := hw
      subst e_r3
      have hl : lv_has ls 2 [(0, .ref a0), (1, .int z1)] := hl
      refine W.eq (g2 := F0 m 7 ls [.ref r3, .int z1]) rfl ?_
      obtain ⟨n5, g4, hw⟩ := hw
      refine C_alen C h 21 1 rfl (by decide) g4 h_Ve_findCalled_7 ?_
      refine lv_icmp_ge (tgt := 65) hx hb h_Ve_findCalled_8 (by decide) (fun c6 => ?_) (fun c6 => ?_)
      · skip
        replace hw := hw.1 c6
        exact hend σ _ _ _ _ _ _ hw h h_Ve_findCalled_65
      · skip
        replace hw := hw.2 c6
        refine lv_aload_n hx hb h_Ve_findCalled_11 rfl (lv_at hl 0 rfl) ?_
        refine C_get C h 10 6 (v := va_rf (σ.2.2.2.1 a0 6)) g1 rfl (Cn := R_Ve) (T := T_Ve) (N := 10) rfl (by decide) rfl uw_Ve (by decide) u_693 (fun _ q => q) h_Ve_findCalled_12 ?_
        refine lv_topq (fun b7 e_b7 => ?_)
        replace hw := hw b7 e_b7
        refine lv_iload_n hx hb h_Ve_findCalled_15 rfl (lv_at hl 1 rfl) ?_
        obtain ⟨r8, e_r8, hw⟩ := hw
        subst e_r8
        have hl : lv_has ls 2 [(0, .ref a0), (1, .int z1)] := hl
        refine W.eq (g2 := F0 m 16 ls [.int z1, .ref r8]) rfl ?_
        obtain ⟨n10, g9, hw⟩ := hw
        obtain ⟨g11, hw⟩ := hw
        refine C_aald C h 25 4 rfl (by decide) g9 g11 h_Ve_findCalled_16 ?_
        refine lv_topq (fun b12 e_b12 => ?_)
        replace hw := hw b12 e_b12
        rcases cq_or b12 with c13 | ⟨r14, c13⟩
        · subst c13
          replace hw := hw.1 rfl
          have hl : lv_has ls 2 [(0, .ref a0), (1, .int z1)] := hl
          refine W.eq (g2 := F0 m 17 ls [.null]) rfl ?_
          refine lv_ifnullN (tgt := 59) hx hb h_Ve_findCalled_17 (by decide) ?_
          exact K_59 _ ih z1 σ _ _ _ _ _ hw h (lv_sub hl [0, 1] rfl)
        · subst c13
          replace hw := hw.2 r14 rfl
          have hl : lv_has ls 2 [(0, .ref a0), (1, .int z1)] := hl
          refine W.eq (g2 := F0 m 17 ls [.ref r14]) rfl ?_
          refine lv_ifnull hx hb h_Ve_findCalled_17 ?_
          refine lv_aload_n hx hb h_Ve_findCalled_20 rfl (lv_at hl 0 rfl) ?_
          refine C_get C h 10 1 (v := va_rf (σ.2.2.2.1 a0 1)) g1 rfl (Cn := R_Ve) (T := T_Ve) (N := 10) rfl (by decide) rfl uw_Ve (by decide) u_681 (fun _ q => q) h_Ve_findCalled_21 ?_
          refine lv_topq (fun b15 e_b15 => ?_)
          replace hw := hw b15 e_b15
          obtain ⟨r16, e_r16, hw⟩ := hw
          subst e_r16
          have hl : lv_has ls 2 [(0, .ref a0), (1, .int z1)] := hl
          refine W.eq (g2 := F0 m 24 ls [.ref r16]) rfl ?_
          obtain ⟨g17, hw⟩ := hw
          refine C_get C h 5 2 (v := va_rf (σ.2.2.2.1 r16 2)) g17 rfl (Cn := R_E) (T := T_E) (N := 13) rfl (by decide) rfl uw_E (by decide) u_688 (fun _ q => q) h_Ve_findCalled_24 ?_
          refine lv_topq (fun b18 e_b18 => ?_)
          replace hw := hw b18 e_b18
          refine lv_iload_n hx hb h_Ve_findCalled_27 rfl (lv_at hl 1 rfl) ?_
          obtain ⟨r19, e_r19, hw⟩ := hw
          subst e_r19
          have hl : lv_has ls 2 [(0, .ref a0), (1, .int z1)] := hl
          refine W.eq (g2 := F0 m 28 ls [.int z1, .ref r19]) rfl ?_
          obtain ⟨n21, g20, hw⟩ := hw
          obtain ⟨g22, hw⟩ := hw
          refine C_iald C h g20 g22 h_Ve_findCalled_28 ?_
          refine lv_topi (fun b23 e_b23 => ?_)
          replace hw := hw b23 e_b23
          refine lv_sipush (v := 184) hx hb h_Ve_findCalled_29 (by decide) ?_
          refine lv_icmp_ne (tgt := 59) hx hb h_Ve_findCalled_32 (by decide) (fun c24 => ?_) (fun c24 => ?_)
          · skip
            replace hw := hw.2 c24
            exact K_59 _ ih z1 σ _ _ _ _ _ hw h (lv_sub hl [0, 1] rfl)
          · skip
            replace hw := hw.1 c24
            refine lv_aload_n hx hb h_Ve_findCalled_35 rfl (lv_at hl 0 rfl) ?_
            refine C_get C h 10 1 (v := va_rf (σ.2.2.2.1 a0 1)) g1 rfl (Cn := R_Ve) (T := T_Ve) (N := 10) rfl (by decide) rfl uw_Ve (by decide) u_681 (fun _ q => q) h_Ve_findCalled_36 ?_
            refine lv_topq (fun b25 e_b25 => ?_)
            replace hw := hw b25 e_b25
            refine lv_dup hx hb h_Ve_findCalled_39 (cq_cat _) ?_
            obtain ⟨r26, e_r26, hw⟩ := hw
            subst e_r26
            have hl : lv_has ls 2 [(0, .ref a0), (1, .int z1)] := hl
            refine W.eq (g2 := F0 m 40 ls [.ref r26, .ref r26]) rfl ?_
            obtain ⟨g27, hw⟩ := hw
            refine C_get C h 5 12 (v := .int (σ.2.1 r26 12)) g27 rfl (Cn := R_E) (T := T_E) (N := 13) rfl (by decide) rfl uw_E (by decide) u_835 (fun _ q => q) h_Ve_findCalled_40 ?_
            refine lv_iconst (v := 1) hx hb h_Ve_findCalled_43 (by decide) ?_
            refine lv_aload_n hx hb h_Ve_findCalled_44 rfl (lv_at hl 0 rfl) ?_
            refine C_get C h 10 1 (v := va_rf (σ.2.2.2.1 a0 1)) g1 rfl (Cn := R_Ve) (T := T_Ve) (N := 10) rfl (by decide) rfl uw_Ve (by decide) u_681 (fun _ q => q) h_Ve_findCalled_45 ?_
            refine lv_topq (fun b28 e_b28 => ?_)
            replace hw := hw b28 e_b28
            refine lv_iload_n hx hb h_Ve_findCalled_48 rfl (lv_at hl 1 rfl) ?_
            refine lv_iconst (v := 1) hx hb h_Ve_findCalled_49 (by decide) ?_
            refine lv_iadd hx hb h_Ve_findCalled_50 ?_
            obtain ⟨r29, e_r29, hw⟩ := hw
            subst e_r29
            have hl : lv_has ls 2 [(0, .ref a0), (1, .int z1)] := hl
            refine W.eq (g2 := F0 m 51 ls [.int (z1 + 1), .ref r29, .int 1, .int (σ.2.1 r26 12), .ref r26]) rfl ?_
            obtain ⟨g30, hw⟩ := hw
            refine C_callVi (As := [.int (z1 + 1)]) (rest := [.int 1, .int (σ.2.1 r26 12), .ref r26]) C h (ci := 5) (Cn := R_E) (T := T_E) (N := 13) g30 rfl (by decide) (X_E_byteAt l dC dI ca H σ r29 (z1 + 1) hw) (cwV 1 hts (gV hsub u_737 u_227 u_228 u_229 u_230) rfl rfl rfl (by decide +kernel) ⟨(Nat.le_of_ble_eq_true rfl), (Nat.le_of_ble_eq_true rfl)⟩) rfl hl.1 (Nat.le_of_ble_eq_true rfl) h_Ve_findCalled_51 (fun r32 σ31 H locs cells slots hw9 h9 => ?_)
            clear hw h; have hw := hw9; have h := h9; clear hw9 h9
            refine W.eq (g2 := F0 m 54 ls [.int r32, .int 1, .int (σ.2.1 r26 12), .ref r26]) rfl ?_
            refine lv_ishl hx hb h_Ve_findCalled_54 ?_
            refine lv_topi (fun b33 e_b33 => ?_)
            replace hw := hw b33 e_b33
            refine lv_ior hx hb h_Ve_findCalled_55 ?_
            refine lv_topi (fun b34 e_b34 => ?_)
            replace hw := hw b34 e_b34
            obtain ⟨g35, hw⟩ := hw
            refine C_puti C h 5 12 g35 (Cn := R_E) (T := T_E) (N := 13) rfl (by decide) rfl uw_E tok_E nm_E (by decide) rfl u_835 (fun _ q => q) (Or.inl rfl) (by decide +kernel) h_Ve_findCalled_56 (fun H locs h => ?_)
            obtain ⟨σ36, e_σ36⟩ : ∃ z : CST, z = sI σ31 r26 12 b34 := ⟨_, rfl⟩
            rw [← e_σ36] at h
            replace hw := hw σ36 e_σ36
            exact K_59 _ ih z1 σ36 _ _ _ _ _ hw h (lv_sub hl [0, 1] rfl)
  have hl : lv_has ls 2 [(0, .ref a0)] := hl
  unfold x_Ve_findCalled at hw
  refine lv_iconst (v := 0) hx hb h_Ve_findCalled_0 (by decide) ?_
  refine lv_istore_n (i := 1) (lv' := [(1, .int 0), (0, .ref a0)]) hx hb h_Ve_findCalled_1 rfl hl (by decide) rfl (fun ls hl => ?_)
  obtain ⟨n9, hw⟩ := hw
  exact K_2 n9 0 σ0 _ _ _ _ _ hw h (lv_sub hl [1, 0] rfl)
abbrev g_Ve_mark : MethodName := ⟨"MapFramer$Verifier", "mark", "([ZI)V"⟩
theorem h_Ve_mark_0 : decode prog_11_method_21_code 0 = .ok (.iload_n 1, 1) := by decide +kernel
theorem h_Ve_mark_1 : decode prog_11_method_21_code 1 = .ok (.ifCond .lt 13, 3) := by decide +kernel
theorem h_Ve_mark_4 : decode prog_11_method_21_code 4 = .ok (.iload_n 1, 1) := by decide +kernel
theorem h_Ve_mark_5 : decode prog_11_method_21_code 5 = .ok (.aload_n 0, 1) := by decide +kernel
theorem h_Ve_mark_6 : decode prog_11_method_21_code 6 = .ok (.arraylength, 1) := by decide +kernel
theorem h_Ve_mark_7 : decode prog_11_method_21_code 7 = .ok (.if_icmp .ge 7, 3) := by decide +kernel
theorem h_Ve_mark_10 : decode prog_11_method_21_code 10 = .ok (.aload_n 0, 1) := by decide +kernel
theorem h_Ve_mark_11 : decode prog_11_method_21_code 11 = .ok (.iload_n 1, 1) := by decide +kernel
theorem h_Ve_mark_12 : decode prog_11_method_21_code 12 = .ok (.iconst 1, 1) := by decide +kernel
theorem h_Ve_mark_13 : decode prog_11_method_21_code 13 = .ok (.bastore, 1) := by decide +kernel
theorem h_Ve_mark_14 : decode prog_11_method_21_code 14 = .ok (.return_, 1) := by decide +kernel
def x_Ve_mark (a0 : Nat) (x1 : Int32) (σ0 : CST) (P : CST → Prop) : Prop := ((x1 < 0 → P σ0) ∧ (¬ x1 < 0 → (∃ n3 : Nat, σ0.1 a0 = some (21, n3) ∧ ((((Int32.ofNat n3) ≤ x1 → P σ0) ∧ (¬ (Int32.ofNat n3) ≤ x1 → vp_in x1 n3 ∧ (∀ σ6 : CST, σ6 = sI σ0 a0 (x1 : Int32).toNatClampNeg (vp_nar .boolean (1 : Int32)) → P σ6)))))))
set_option maxHeartbeats 4000000 in
set_option maxRecDepth 100000 in
theorem X_Ve_mark (l : Launch) (dC : Nat → ClassId) (dI : Nat → Nat → Nat) (ca : Nat → ClassId) (H0 : Heap) (σ0 : CST) (a0 : Nat) (x1 : Int32) {P : CST → Prop} (hw : x_Ve_mark a0 x1 σ0 P) : Met l g_Ve_mark (mW g_Ve_mark prog_11_method_21_code 2 none) ({ frames := 0, cells := σ0.2.2.2.2.1, slots := σ0.2.2.2.2.2.1, locals := 0 } : Room) (va_Pc [.ref a0, .int x1] (CPre (dC, dI) ca σ0 H0)) (va_Qv P (CB (dC, dI) ca σ0 H0) (cA σ0 H0.size)) σ0.2.2.2.2.1 σ0.2.2.2.2.2.1 (cA σ0 H0.size) := by
  refine C_ofv (by decide +kernel) rfl rfl rfl (Nat.le_of_ble_eq_true rfl) ?_
  intro p e s m below meth cx Q A ls C hnm hend hH0 h hl
  subst hH0
  have C0 := C
  obtain ⟨⟨hx, hb, hml, hown, hts⟩, hsub⟩ := C0
  obtain ⟨cells, e_cells⟩ : ∃ z : Nat, z = 0 := ⟨_, rfl⟩
  obtain ⟨slots, e_slots⟩ : ∃ z : Nat, z = 0 := ⟨_, rfl⟩
  have h : CH (dC, dI) A ca ({ frames := 0, cells := σ0.2.2.2.2.1, slots := σ0.2.2.2.2.2.1, locals := 0 } : Room) σ0.2.2.2.2.2.2 σ0 s s.heap [] cells slots := by rw [e_cells, e_slots]; exact h
  show W p l e ({ frames := 0, cells := σ0.2.2.2.2.1, slots := σ0.2.2.2.2.2.1, locals := 0 } : Room) s m ([.ref a0, .int x1] : List Value).toArray below meth cx s.heap [] 0 0 Q (F0 m 0 ls [])
  rw [show W p l e ({ frames := 0, cells := σ0.2.2.2.2.1, slots := σ0.2.2.2.2.2.1, locals := 0 } : Room) s m ([.ref a0, .int x1] : List Value).toArray below meth cx s.heap [] 0 0 Q (F0 m 0 ls []) = W p l e ({ frames := 0, cells := σ0.2.2.2.2.1, slots := σ0.2.2.2.2.2.1, locals := 0 } : Room) s m ([.ref a0, .int x1] : List Value).toArray below meth cx s.heap [] cells slots Q (F0 m 0 ls []) by rw [e_cells, e_slots]]
  have hl : lv_has ls 2 [(0, .ref a0), (1, .int x1)] := hl
  unfold x_Ve_mark at hw
  refine lv_iload_n hx hb h_Ve_mark_0 rfl (lv_at hl 1 rfl) ?_
  refine lv_if_lt (tgt := 14) hx hb h_Ve_mark_1 (by decide) (fun c1 => ?_) (fun c1 => ?_)
  · skip
    replace hw := hw.1 c1
    exact hend σ0 _ _ _ _ _ _ hw h h_Ve_mark_14
  · skip
    replace hw := hw.2 c1
    refine lv_iload_n hx hb h_Ve_mark_4 rfl (lv_at hl 1 rfl) ?_
    refine lv_aload_n hx hb h_Ve_mark_5 rfl (lv_at hl 0 rfl) ?_
    obtain ⟨n3, g2, hw⟩ := hw
    refine C_alen C h 21 1 rfl (by decide) g2 h_Ve_mark_6 ?_
    refine lv_icmp_ge (tgt := 14) hx hb h_Ve_mark_7 (by decide) (fun c4 => ?_) (fun c4 => ?_)
    · skip
      replace hw := hw.1 c4
      exact hend σ0 _ _ _ _ _ _ hw h h_Ve_mark_14
    · skip
      replace hw := hw.2 c4
      refine lv_aload_n hx hb h_Ve_mark_10 rfl (lv_at hl 0 rfl) ?_
      refine lv_iload_n hx hb h_Ve_mark_11 rfl (lv_at hl 1 rfl) ?_
      refine lv_iconst (v := 1) hx hb h_Ve_mark_12 (by decide) ?_
      obtain ⟨g5, hw⟩ := hw
      refine C_zast C h g2 g5 h_Ve_mark_13 (fun H locs h => ?_)
      obtain ⟨σ6, e_σ6⟩ : ∃ z : CST, z = sI σ0 a0 (x1 : Int32).toNatClampNeg (vp_nar .boolean (1 : Int32)) := ⟨_, rfl⟩
      rw [← e_σ6] at h
      replace hw := hw σ6 e_σ6
      exact hend σ6 _ _ _ _ _ _ hw h h_Ve_mark_14
